theorem dX12_is_0 : decode cX12_is 0 = .ok (.aload_n 0, 1) := by decide +kernel
theorem dX12_is_1 : decode cX12_is 1 = .ok (.getfield 212, 3) := by decide +kernel
theorem dX12_is_4 : decode cX12_is 4 = .ok (.ifCond .ne 20, 3) := by decide +kernel
theorem dX12_is_7 : decode cX12_is 7 = .ok (.aload_n 0, 1) := by decide +kernel
theorem dX12_is_8 : decode cX12_is 8 = .ok (.getfield 20, 3) := by decide +kernel
theorem dX12_is_11 : decode cX12_is 11 = .ok (.aload_n 0, 1) := by decide +kernel
theorem dX12_is_12 : decode cX12_is 12 = .ok (.getfield 215, 3) := by decide +kernel
theorem dX12_is_15 : decode cX12_is 15 = .ok (.iaload, 1) := by decide +kernel
theorem dX12_is_16 : decode cX12_is 16 = .ok (.iload_n 1, 1) := by decide +kernel
theorem dX12_is_17 : decode cX12_is 17 = .ok (.if_icmp .ne 7, 3) := by decide +kernel
theorem dX12_is_20 : decode cX12_is 20 = .ok (.iconst 1, 1) := by decide +kernel
theorem dX12_is_21 : decode cX12_is 21 = .ok (.goto 4, 3) := by decide +kernel
theorem dX12_is_24 : decode cX12_is 24 = .ok (.iconst 0, 1) := by decide +kernel
theorem dX12_is_25 : decode cX12_is 25 = .ok (.ireturn, 1) := by decide +kernel
set_option maxRecDepth 100000 in
theorem c_X12_is (l : Launch) (D : q_D) (al : q_Al) (dt : q_Dt) (x0 : Nat) (x1 : Int32) (kx0 : al.1 x0 = 13) (r0 : Int32) (hm : X12_is al dt x0 x1 = some r0) : q_Mt l yX12_is cX12_is 2 (some FieldType.boolean) 0 0 D al [.ref x0, .int x1] dt 0 (some (.int r0)) dt := by
  refine q_Mt.of (by decide) (Nat.le_of_ble_eq_true rfl) ?_
  intro p e s m args below meth c ls C hargs hW hl
  have hx := C.1
  have hb := C.2.1
  have hown := C.2.2.2.2.2.1
  have hts := C.2.2.2.2.2.2.1
  have hS : va_S (q_A al) s.heap s.heap [] := va_S.rf
  have hl : lv_has ls 2 [(0, .ref x0), (1, .int x1)] := hl
  unfold X12_is at hm
  refine lv_aload_n hx hb dX12_is_0 rfl (lv_at hl 0 rfl) ?_
  refine r_getI C hW (ci := 12) kx0 ff_12_13 cl_12 fl_RX12_212 dX12_is_1 ?_
  refine q_ifc hm (fun c1000001 hm => ?_) (fun c1000001 hm => ?_)
  · refine lv_if_ne (tgt := 24) hx hb dX12_is_4 (by decide) (fun h => absurd c1000001 h) (fun _ => ?_)
    refine lv_aload_n hx hb dX12_is_7 rfl (lv_at hl 0 rfl) ?_
    refine r_getF C hW (ci := 12) kx0 ff_12_5 cl_12 fl_RX12_20 dX12_is_8 (fun k1000002 => ?_)
    refine lv_aload_n hx hb dX12_is_11 rfl (lv_at hl 0 rfl) ?_
    refine r_getI C hW (ci := 12) kx0 ff_12_11 cl_12 fl_RX12_215 dX12_is_12 ?_
    refine r_iald C hW hm k1000002 dX12_is_15 (fun hm => ?_)
    refine lv_iload_n hx hb dX12_is_16 rfl (lv_at hl 1 rfl) ?_
    refine q_ifc hm (fun c1000003 hm => ?_) (fun c1000003 hm => ?_)
    · refine lv_icmp_ne (tgt := 24) hx hb dX12_is_17 (by decide) (fun h => absurd c1000003 h) (fun _ => ?_)
      refine lv_iconst (v := 1) hx hb dX12_is_20 (by decide) ?_
      refine lv_goto (tgt := 25) hx hb dX12_is_21 (by decide) ?_
      exact e_zl C hW hS (Or.inr rfl) hm dX12_is_25
    refine lv_icmp_ne (tgt := 24) hx hb dX12_is_17 (by decide) (fun _ => ?_) (fun h => absurd h c1000003)
    refine lv_iconst (v := 0) hx hb dX12_is_24 (by decide) ?_
    exact e_zl C hW hS (Or.inl rfl) hm dX12_is_25
  refine lv_if_ne (tgt := 24) hx hb dX12_is_4 (by decide) (fun _ => ?_) (fun h => absurd h c1000001)
  refine lv_iconst (v := 0) hx hb dX12_is_24 (by decide) ?_
  exact e_zl C hW hS (Or.inl rfl) hm dX12_is_25
theorem dX12_fail_0 : decode cX12_fail 0 = .ok (.aload_n 0, 1) := by decide +kernel
theorem dX12_fail_1 : decode cX12_fail 1 = .ok (.getfield 212, 3) := by decide +kernel
theorem dX12_fail_4 : decode cX12_fail 4 = .ok (.ifCond .le 4, 3) := by decide +kernel
theorem dX12_fail_7 : decode cX12_fail 7 = .ok (.return_, 1) := by decide +kernel
theorem dX12_fail_8 : decode cX12_fail 8 = .ok (.aload_n 0, 1) := by decide +kernel
theorem dX12_fail_9 : decode cX12_fail 9 = .ok (.iload_n 1, 1) := by decide +kernel
theorem dX12_fail_10 : decode cX12_fail 10 = .ok (.putfield 212, 3) := by decide +kernel
theorem dX12_fail_13 : decode cX12_fail 13 = .ok (.aload_n 0, 1) := by decide +kernel
theorem dX12_fail_14 : decode cX12_fail 14 = .ok (.aload_n 0, 1) := by decide +kernel
theorem dX12_fail_15 : decode cX12_fail 15 = .ok (.getfield 24, 3) := by decide +kernel
theorem dX12_fail_18 : decode cX12_fail 18 = .ok (.aload_n 0, 1) := by decide +kernel
theorem dX12_fail_19 : decode cX12_fail 19 = .ok (.getfield 215, 3) := by decide +kernel
theorem dX12_fail_22 : decode cX12_fail 22 = .ok (.iaload, 1) := by decide +kernel
theorem dX12_fail_23 : decode cX12_fail 23 = .ok (.putfield 218, 3) := by decide +kernel
theorem dX12_fail_26 : decode cX12_fail 26 = .ok (.return_, 1) := by decide +kernel
set_option maxRecDepth 100000 in
theorem c_X12_fail (l : Launch) (D : q_D) (al : q_Al) (dt : q_Dt) (x0 : Nat) (x1 : Int32) (kx0 : al.1 x0 = 13) (dt0 : q_Dt) (hm : X12_fail al dt x0 x1 = some dt0) : q_Mt l yX12_fail cX12_fail 2 (none) 0 0 D al [.ref x0, .int x1] dt 0 none dt0 := by
  refine q_Mt.of (by decide) (Nat.le_of_ble_eq_true rfl) ?_
  intro p e s m args below meth c ls C hargs hW hl
  have hx := C.1
  have hb := C.2.1
  have hown := C.2.2.2.2.2.1
  have hts := C.2.2.2.2.2.2.1
  have hS : va_S (q_A al) s.heap s.heap [] := va_S.rf
  have hl : lv_has ls 2 [(0, .ref x0), (1, .int x1)] := hl
  unfold X12_fail at hm
  refine lv_aload_n hx hb dX12_fail_0 rfl (lv_at hl 0 rfl) ?_
  refine r_getI C hW (ci := 12) kx0 ff_12_13 cl_12 fl_RX12_212 dX12_fail_1 ?_
  refine q_ifc hm (fun c1000001 hm => ?_) (fun c1000001 hm => ?_)
  · refine lv_if_le (tgt := 8) hx hb dX12_fail_4 (by decide) (fun _ => ?_) (fun h => absurd c1000001 h)
    refine lv_aload_n hx hb dX12_fail_8 rfl (lv_at hl 0 rfl) ?_
    refine lv_iload_n hx hb dX12_fail_9 rfl (lv_at hl 1 rfl) ?_
    refine r_putI C hW hS hm (ci := 12) kx0 ff_12_13 cl_12 fl_RX12_212 (nf_12_13) rfl dX12_fail_10 (fun dt1000002 H locs hm hW hS => ?_)
    refine lv_aload_n hx hb dX12_fail_13 rfl (lv_at hl 0 rfl) ?_
    refine lv_aload_n hx hb dX12_fail_14 rfl (lv_at hl 0 rfl) ?_
    refine r_getF C hW (ci := 12) kx0 ff_12_6 cl_12 fl_RX12_24 dX12_fail_15 (fun k1000003 => ?_)
    refine lv_aload_n hx hb dX12_fail_18 rfl (lv_at hl 0 rfl) ?_
    refine r_getI C hW (ci := 12) kx0 ff_12_11 cl_12 fl_RX12_215 dX12_fail_19 ?_
    refine r_iald C hW hm k1000003 dX12_fail_22 (fun hm => ?_)
    refine r_putI C hW hS hm (ci := 12) kx0 ff_12_14 cl_12 fl_RX12_218 (nf_12_14) rfl dX12_fail_23 (fun dt1000004 H locs hm hW hS => ?_)
    exact e_vD C hW hS hm dX12_fail_26
  refine lv_if_le (tgt := 8) hx hb dX12_fail_4 (by decide) (fun h => absurd h c1000001) (fun _ => ?_)
  exact e_vD C hW hS hm dX12_fail_7
theorem dX12_amiss_0 : decode cX12_amiss 0 = .ok (.aload_n 0, 1) := by decide +kernel
theorem dX12_amiss_1 : decode cX12_amiss 1 = .ok (.getfield 24, 3) := by decide +kernel
theorem dX12_amiss_4 : decode cX12_amiss 4 = .ok (.iload_n 2, 1) := by decide +kernel
theorem dX12_amiss_5 : decode cX12_amiss 5 = .ok (.iaload, 1) := by decide +kernel
theorem dX12_amiss_6 : decode cX12_amiss 6 = .ok (.istore_n 3, 1) := by decide +kernel
theorem dX12_amiss_7 : decode cX12_amiss 7 = .ok (.aload_n 0, 1) := by decide +kernel
theorem dX12_amiss_8 : decode cX12_amiss 8 = .ok (.getfield 212, 3) := by decide +kernel
theorem dX12_amiss_11 : decode cX12_amiss 11 = .ok (.ifCond .gt 34, 3) := by decide +kernel
theorem dX12_amiss_14 : decode cX12_amiss 14 = .ok (.aload_n 0, 1) := by decide +kernel
theorem dX12_amiss_15 : decode cX12_amiss 15 = .ok (.getfield 221, 3) := by decide +kernel
theorem dX12_amiss_18 : decode cX12_amiss 18 = .ok (.ifCond .eq 28, 3) := by decide +kernel
theorem dX12_amiss_21 : decode cX12_amiss 21 = .ok (.iload_n 3, 1) := by decide +kernel
theorem dX12_amiss_22 : decode cX12_amiss 22 = .ok (.aload_n 0, 1) := by decide +kernel
theorem dX12_amiss_23 : decode cX12_amiss 23 = .ok (.getfield 224, 3) := by decide +kernel
theorem dX12_amiss_26 : decode cX12_amiss 26 = .ok (.if_icmp .gt 19, 3) := by decide +kernel
theorem dX12_amiss_29 : decode cX12_amiss 29 = .ok (.iload_n 3, 1) := by decide +kernel
theorem dX12_amiss_30 : decode cX12_amiss 30 = .ok (.aload_n 0, 1) := by decide +kernel
theorem dX12_amiss_31 : decode cX12_amiss 31 = .ok (.getfield 224, 3) := by decide +kernel
theorem dX12_amiss_34 : decode cX12_amiss 34 = .ok (.if_icmp .ne 12, 3) := by decide +kernel
theorem dX12_amiss_37 : decode cX12_amiss 37 = .ok (.iload_n 1, 1) := by decide +kernel
theorem dX12_amiss_38 : decode cX12_amiss 38 = .ok (.aload_n 0, 1) := by decide +kernel
theorem dX12_amiss_39 : decode cX12_amiss 39 = .ok (.getfield 221, 3) := by decide +kernel
theorem dX12_amiss_42 : decode cX12_amiss 42 = .ok (.if_icmp .lt 4, 3) := by decide +kernel
theorem dX12_amiss_45 : decode cX12_amiss 45 = .ok (.return_, 1) := by decide +kernel
theorem dX12_amiss_46 : decode cX12_amiss 46 = .ok (.aload_n 0, 1) := by decide +kernel
theorem dX12_amiss_47 : decode cX12_amiss 47 = .ok (.iload_n 1, 1) := by decide +kernel
theorem dX12_amiss_48 : decode cX12_amiss 48 = .ok (.putfield 221, 3) := by decide +kernel
theorem dX12_amiss_51 : decode cX12_amiss 51 = .ok (.aload_n 0, 1) := by decide +kernel
theorem dX12_amiss_52 : decode cX12_amiss 52 = .ok (.iload_n 3, 1) := by decide +kernel
theorem dX12_amiss_53 : decode cX12_amiss 53 = .ok (.putfield 224, 3) := by decide +kernel
theorem dX12_amiss_56 : decode cX12_amiss 56 = .ok (.return_, 1) := by decide +kernel
set_option maxRecDepth 100000 in
theorem c_X12_amiss (l : Launch) (D : q_D) (al : q_Al) (dt : q_Dt) (x0 : Nat) (x1 : Int32) (x2 : Int32) (kx0 : al.1 x0 = 13) (dt0 : q_Dt) (hm : X12_amiss al dt x0 x1 x2 = some dt0) : q_Mt l yX12_amiss cX12_amiss 4 (none) 0 0 D al [.ref x0, .int x1, .int x2] dt 0 none dt0 := by
  refine q_Mt.of (by decide) (Nat.le_of_ble_eq_true rfl) ?_
  intro p e s m args below meth c ls C hargs hW hl
  have hx := C.1
  have hb := C.2.1
  have hown := C.2.2.2.2.2.1
  have hts := C.2.2.2.2.2.2.1
  have hS : va_S (q_A al) s.heap s.heap [] := va_S.rf
  have hl : lv_has ls 4 [(0, .ref x0), (1, .int x1), (2, .int x2)] := hl
  unfold X12_amiss at hm
  have hB46 : ∀ (x0_46 : Nat) (x1_46 : Int32) (x3_46 : Int32) (kx0_46 : al.1 x0_46 = 13) (dt : q_Dt) (H : Heap) (locs : List Loc) (ls : Array Slot) (hm : X12_amiss_b46 al x0_46 x1_46 x3_46 dt = some dt0) (hW : q_W D al dt H) (hS : va_S (q_A al) s.heap H locs) (hl : lv_has ls 4 [(0, .ref x0_46), (1, .int x1_46), (3, .int x3_46)]), W p l e { frames := 0, cells := 0, slots := 0, locals := 0 } s m args below meth c H locs 0 0 (MQ below (q_Q none (fun H => q_W D al dt0 H ∧ q_Rk al 0 none) (q_A al)) args s 0 0 (q_A al)) (F0 m 46 ls []) := by
    intro x0_46 x1_46 x3_46 kx0_46 dt H locs ls hm hW hS hl
    unfold X12_amiss_b46 at hm
    refine lv_aload_n hx hb dX12_amiss_46 rfl (lv_at hl 0 rfl) ?_
    refine lv_iload_n hx hb dX12_amiss_47 rfl (lv_at hl 1 rfl) ?_
    refine r_putI C hW hS hm (ci := 12) kx0_46 ff_12_15 cl_12 fl_RX12_221 (nf_12_15) rfl dX12_amiss_48 (fun dt46001 H locs hm hW hS => ?_)
    refine lv_aload_n hx hb dX12_amiss_51 rfl (lv_at hl 0 rfl) ?_
    refine lv_iload_n hx hb dX12_amiss_52 rfl (lv_at hl 2 rfl) ?_
    refine r_putI C hW hS hm (ci := 12) kx0_46 ff_12_16 cl_12 fl_RX12_224 (nf_12_16) rfl dX12_amiss_53 (fun dt46002 H locs hm hW hS => ?_)
    exact e_vD C hW hS hm dX12_amiss_56
  refine lv_aload_n hx hb dX12_amiss_0 rfl (lv_at hl 0 rfl) ?_
  refine r_getF C hW (ci := 12) kx0 ff_12_6 cl_12 fl_RX12_24 dX12_amiss_1 (fun k1000001 => ?_)
  refine lv_iload_n hx hb dX12_amiss_4 rfl (lv_at hl 2 rfl) ?_
  refine r_iald C hW hm k1000001 dX12_amiss_5 (fun hm => ?_)
  refine q_nmI hm (fun v1000002 ev1000002 hm => ?_)
  refine lv_istore_n (i := 3) (lv' := [(3, .int v1000002), (0, .ref x0), (1, .int x1), (2, .int x2)]) hx hb dX12_amiss_6 rfl hl (by decide) rfl (fun ls hl => ?_)
  refine lv_aload_n hx hb dX12_amiss_7 rfl (lv_at hl 1 rfl) ?_
  refine r_getI C hW (ci := 12) kx0 ff_12_13 cl_12 fl_RX12_212 dX12_amiss_8 ?_
  refine q_ifc hm (fun c1000003 hm => ?_) (fun c1000003 hm => ?_)
  · refine lv_if_gt (tgt := 45) hx hb dX12_amiss_11 (by decide) (fun _ => ?_) (fun h => absurd c1000003 h)
    exact e_vD C hW hS hm dX12_amiss_45
  refine lv_if_gt (tgt := 45) hx hb dX12_amiss_11 (by decide) (fun h => absurd h c1000003) (fun _ => ?_)
  refine lv_aload_n hx hb dX12_amiss_14 rfl (lv_at hl 1 rfl) ?_
  refine r_getI C hW (ci := 12) kx0 ff_12_15 cl_12 fl_RX12_221 dX12_amiss_15 ?_
  refine q_ifc hm (fun c1000004 hm => ?_) (fun c1000004 hm => ?_)
  · refine lv_if_eq (tgt := 46) hx hb dX12_amiss_18 (by decide) (fun _ => ?_) (fun h => absurd c1000004 h)
    exact hB46 x0 x1 v1000002 kx0 dt _ _ _ hm hW hS (lv_sub hl [1, 2, 0] rfl)
  refine lv_if_eq (tgt := 46) hx hb dX12_amiss_18 (by decide) (fun h => absurd h c1000004) (fun _ => ?_)
  refine lv_iload_n hx hb dX12_amiss_21 rfl (lv_at hl 0 rfl) ?_
  refine lv_aload_n hx hb dX12_amiss_22 rfl (lv_at hl 1 rfl) ?_
  refine r_getI C hW (ci := 12) kx0 ff_12_16 cl_12 fl_RX12_224 dX12_amiss_23 ?_
  refine q_ifc hm (fun c1000005 hm => ?_) (fun c1000005 hm => ?_)
  · refine lv_icmp_gt (tgt := 45) hx hb dX12_amiss_26 (by decide) (fun _ => ?_) (fun h => absurd c1000005 h)
    exact e_vD C hW hS hm dX12_amiss_45
  refine lv_icmp_gt (tgt := 45) hx hb dX12_amiss_26 (by decide) (fun h => absurd h c1000005) (fun _ => ?_)
  refine lv_iload_n hx hb dX12_amiss_29 rfl (lv_at hl 0 rfl) ?_
  refine lv_aload_n hx hb dX12_amiss_30 rfl (lv_at hl 1 rfl) ?_
  refine r_getI C hW (ci := 12) kx0 ff_12_16 cl_12 fl_RX12_224 dX12_amiss_31 ?_
  refine q_ifc hm (fun c1000006 hm => ?_) (fun c1000006 hm => ?_)
  · refine lv_icmp_ne (tgt := 46) hx hb dX12_amiss_34 (by decide) (fun h => absurd c1000006 h) (fun _ => ?_)
    refine lv_iload_n hx hb dX12_amiss_37 rfl (lv_at hl 2 rfl) ?_
    refine lv_aload_n hx hb dX12_amiss_38 rfl (lv_at hl 1 rfl) ?_
    refine r_getI C hW (ci := 12) kx0 ff_12_15 cl_12 fl_RX12_221 dX12_amiss_39 ?_
    refine q_ifc hm (fun c1000007 hm => ?_) (fun c1000007 hm => ?_)
    · refine lv_icmp_lt (tgt := 46) hx hb dX12_amiss_42 (by decide) (fun _ => ?_) (fun h => absurd c1000007 h)
      exact hB46 x0 x1 v1000002 kx0 dt _ _ _ hm hW hS (lv_sub hl [1, 2, 0] rfl)
    refine lv_icmp_lt (tgt := 46) hx hb dX12_amiss_42 (by decide) (fun h => absurd h c1000007) (fun _ => ?_)
    exact e_vD C hW hS hm dX12_amiss_45
  refine lv_icmp_ne (tgt := 46) hx hb dX12_amiss_34 (by decide) (fun _ => ?_) (fun h => absurd h c1000006)
  exact hB46 x0 x1 v1000002 kx0 dt _ _ _ hm hW hS (lv_sub hl [1, 2, 0] rfl)
theorem dX12_goesOn_0 : decode cX12_goesOn 0 = .ok (.aload_n 0, 1) := by decide +kernel
theorem dX12_goesOn_1 : decode cX12_goesOn 1 = .ok (.getfield 215, 3) := by decide +kernel
theorem dX12_goesOn_4 : decode cX12_goesOn 4 = .ok (.sipush 400, 3) := by decide +kernel
theorem dX12_goesOn_7 : decode cX12_goesOn 7 = .ok (.if_icmp .ne 11, 3) := by decide +kernel
theorem dX12_goesOn_10 : decode cX12_goesOn 10 = .ok (.aload_n 0, 1) := by decide +kernel
theorem dX12_goesOn_11 : decode cX12_goesOn 11 = .ok (.iconst 2, 1) := by decide +kernel
theorem dX12_goesOn_12 : decode cX12_goesOn 12 = .ok (.invokevirtual 227, 3) := by decide +kernel
theorem dX12_goesOn_15 : decode cX12_goesOn 15 = .ok (.goto 13, 3) := by decide +kernel
theorem dX12_goesOn_18 : decode cX12_goesOn 18 = .ok (.aload_n 0, 1) := by decide +kernel
theorem dX12_goesOn_19 : decode cX12_goesOn 19 = .ok (.dup, 1) := by decide +kernel
theorem dX12_goesOn_20 : decode cX12_goesOn 20 = .ok (.getfield 215, 3) := by decide +kernel
theorem dX12_goesOn_23 : decode cX12_goesOn 23 = .ok (.iconst 1, 1) := by decide +kernel
theorem dX12_goesOn_24 : decode cX12_goesOn 24 = .ok (.iadd, 1) := by decide +kernel
theorem dX12_goesOn_25 : decode cX12_goesOn 25 = .ok (.putfield 215, 3) := by decide +kernel
theorem dX12_goesOn_28 : decode cX12_goesOn 28 = .ok (.return_, 1) := by decide +kernel
set_option maxRecDepth 100000 in
theorem c_X12_goesOn (l : Launch) (D : q_D) (al : q_Al) (dt : q_Dt) (x0 : Nat) (kx0 : al.1 x0 = 13) (dt0 : q_Dt) (hm : X12_goesOn al dt x0 = some dt0) : q_Mt l yX12_goesOn cX12_goesOn 1 (none) 1 21 D al [.ref x0] dt 0 none dt0 := by
  refine q_Mt.of (by decide) (Nat.le_of_ble_eq_true rfl) ?_
  intro p e s m args below meth c ls C hargs hW hl
  have hx := C.1
  have hb := C.2.1
  have hown := C.2.2.2.2.2.1
  have hts := C.2.2.2.2.2.2.1
  have hS : va_S (q_A al) s.heap s.heap [] := va_S.rf
  have hl : lv_has ls 1 [(0, .ref x0)] := hl
  unfold X12_goesOn at hm
  refine lv_aload_n hx hb dX12_goesOn_0 rfl (lv_at hl 0 rfl) ?_
  refine r_getI C hW (ci := 12) kx0 ff_12_11 cl_12 fl_RX12_215 dX12_goesOn_1 ?_
  refine lv_sipush (v := 400) hx hb dX12_goesOn_4 (by decide) ?_
  refine q_ifc hm (fun c1000001 hm => ?_) (fun c1000001 hm => ?_)
  · refine lv_icmp_ne (tgt := 18) hx hb dX12_goesOn_7 (by decide) (fun h => absurd c1000001 h) (fun _ => ?_)
    refine lv_aload_n hx hb dX12_goesOn_10 rfl (lv_at hl 0 rfl) ?_
    refine lv_iconst (v := 2) hx hb dX12_goesOn_11 (by decide) ?_
    obtain ⟨dt1000003, hc1000002, hm⟩ := q_b1i hm
    refine q_callV C hW hS (As := [.int 2]) (rest := []) (st1 := []) (c_X12_fail l D al dt x0 2 kx0 dt1000003 hc1000002) yl_X12_fail vl_X12_fail ml_RX12_227 (ci := 12) rfl kx0 (by decide) rfl ⟨Nat.le_of_ble_eq_true rfl, Nat.le_of_ble_eq_true rfl⟩ hl rfl (Nat.le_of_ble_eq_true rfl) dX12_goesOn_12 ⟨Nat.le_refl _, Nat.le_refl _⟩ rfl (fun H locs k1000004 hW hS => ?_)
    refine lv_goto (tgt := 28) hx hb dX12_goesOn_15 (by decide) ?_
    exact e_vD C hW hS hm dX12_goesOn_28
  refine lv_icmp_ne (tgt := 18) hx hb dX12_goesOn_7 (by decide) (fun _ => ?_) (fun h => absurd h c1000001)
  refine lv_aload_n hx hb dX12_goesOn_18 rfl (lv_at hl 0 rfl) ?_
  refine lv_dup hx hb dX12_goesOn_19 rfl ?_
  refine r_getI C hW (ci := 12) kx0 ff_12_11 cl_12 fl_RX12_215 dX12_goesOn_20 ?_
  refine lv_iconst (v := 1) hx hb dX12_goesOn_23 (by decide) ?_
  refine lv_iadd hx hb dX12_goesOn_24 ?_
  refine r_putI C hW hS hm (ci := 12) kx0 ff_12_11 cl_12 fl_RX12_215 (nf_12_11) rfl dX12_goesOn_25 (fun dt1000005 H locs hm hW hS => ?_)
  exact e_vD C hW hS hm dX12_goesOn_28
theorem dX12_must_0 : decode cX12_must 0 = .ok (.aload_n 0, 1) := by decide +kernel
theorem dX12_must_1 : decode cX12_must 1 = .ok (.iload_n 1, 1) := by decide +kernel
theorem dX12_must_2 : decode cX12_must 2 = .ok (.invokevirtual 230, 3) := by decide +kernel
theorem dX12_must_5 : decode cX12_must 5 = .ok (.ifCond .eq 10, 3) := by decide +kernel
theorem dX12_must_8 : decode cX12_must 8 = .ok (.aload_n 0, 1) := by decide +kernel
theorem dX12_must_9 : decode cX12_must 9 = .ok (.invokevirtual 233, 3) := by decide +kernel
theorem dX12_must_12 : decode cX12_must 12 = .ok (.goto 8, 3) := by decide +kernel
theorem dX12_must_15 : decode cX12_must 15 = .ok (.aload_n 0, 1) := by decide +kernel
theorem dX12_must_16 : decode cX12_must 16 = .ok (.iconst 1, 1) := by decide +kernel
theorem dX12_must_17 : decode cX12_must 17 = .ok (.invokevirtual 227, 3) := by decide +kernel
theorem dX12_must_20 : decode cX12_must 20 = .ok (.return_, 1) := by decide +kernel
set_option maxRecDepth 100000 in
theorem c_X12_must (l : Launch) (D : q_D) (al : q_Al) (dt : q_Dt) (x0 : Nat) (x1 : Int32) (kx0 : al.1 x0 = 13) (dt0 : q_Dt) (hm : X12_must al dt x0 x1 = some dt0) : q_Mt l yX12_must cX12_must 2 (none) 2 41 D al [.ref x0, .int x1] dt 0 none dt0 := by
  refine q_Mt.of (by decide) (Nat.le_of_ble_eq_true rfl) ?_
  intro p e s m args below meth c ls C hargs hW hl
  have hx := C.1
  have hb := C.2.1
  have hown := C.2.2.2.2.2.1
  have hts := C.2.2.2.2.2.2.1
  have hS : va_S (q_A al) s.heap s.heap [] := va_S.rf
  have hl : lv_has ls 2 [(0, .ref x0), (1, .int x1)] := hl
  unfold X12_must at hm
  refine lv_aload_n hx hb dX12_must_0 rfl (lv_at hl 0 rfl) ?_
  refine lv_iload_n hx hb dX12_must_1 rfl (lv_at hl 1 rfl) ?_
  obtain ⟨v1000002, hc1000001, hm⟩ := q_b1i hm
  refine q_callV C hW hS (As := [.int x1]) (rest := []) (st1 := [.int v1000002]) (c_X12_is l D al dt x0 x1 kx0 v1000002 hc1000001) yl_X12_is vl_X12_is ml_RX12_230 (ci := 12) rfl kx0 (by decide) rfl ⟨Nat.le_of_ble_eq_true rfl, Nat.le_of_ble_eq_true rfl⟩ hl rfl (Nat.le_of_ble_eq_true rfl) dX12_must_2 ⟨Nat.le_refl _, Nat.le_refl _⟩ rfl (fun H locs k1000003 hW hS => ?_)
  refine q_ifc hm (fun c1000004 hm => ?_) (fun c1000004 hm => ?_)
  · refine lv_if_eq (tgt := 15) hx hb dX12_must_5 (by decide) (fun _ => ?_) (fun h => absurd c1000004 h)
    refine lv_aload_n hx hb dX12_must_15 rfl (lv_at hl 0 rfl) ?_
    refine lv_iconst (v := 1) hx hb dX12_must_16 (by decide) ?_
    obtain ⟨dt1000006, hc1000005, hm⟩ := q_b1i hm
    refine q_callV C hW hS (As := [.int 1]) (rest := []) (st1 := []) (c_X12_fail l D al dt x0 1 kx0 dt1000006 hc1000005) yl_X12_fail vl_X12_fail ml_RX12_227 (ci := 12) rfl kx0 (by decide) rfl ⟨Nat.le_of_ble_eq_true rfl, Nat.le_of_ble_eq_true rfl⟩ hl rfl (Nat.le_of_ble_eq_true rfl) dX12_must_17 ⟨Nat.le_refl _, Nat.le_refl _⟩ rfl (fun H locs k1000007 hW hS => ?_)
    exact e_vD C hW hS hm dX12_must_20
  refine lv_if_eq (tgt := 15) hx hb dX12_must_5 (by decide) (fun h => absurd h c1000004) (fun _ => ?_)
  refine lv_aload_n hx hb dX12_must_8 rfl (lv_at hl 0 rfl) ?_
  obtain ⟨dt1000009, hc1000008, hm⟩ := q_b1i hm
  refine q_callV C hW hS (As := []) (rest := []) (st1 := []) (c_X12_goesOn l D al dt x0 kx0 dt1000009 hc1000008) yl_X12_goesOn vl_X12_goesOn ml_RX12_233 (ci := 12) rfl kx0 (by decide) rfl ⟨Nat.le_of_ble_eq_true rfl, Nat.le_of_ble_eq_true rfl⟩ hl rfl (Nat.le_of_ble_eq_true rfl) dX12_must_9 ⟨Nat.le_refl _, Nat.le_refl _⟩ rfl (fun H locs k1000010 hW hS => ?_)
  refine lv_goto (tgt := 20) hx hb dX12_must_12 (by decide) ?_
  exact e_vD C hW hS hm dX12_must_20
theorem dX12_room_0 : decode cX12_room 0 = .ok (.iload_n 1, 1) := by decide +kernel
theorem dX12_room_1 : decode cX12_room 1 = .ok (.iload_n 2, 1) := by decide +kernel
theorem dX12_room_2 : decode cX12_room 2 = .ok (.if_icmp .ne 8, 3) := by decide +kernel
theorem dX12_room_5 : decode cX12_room 5 = .ok (.aload_n 0, 1) := by decide +kernel
theorem dX12_room_6 : decode cX12_room 6 = .ok (.iconst 2, 1) := by decide +kernel
theorem dX12_room_7 : decode cX12_room 7 = .ok (.invokevirtual 227, 3) := by decide +kernel
theorem dX12_room_10 : decode cX12_room 10 = .ok (.aload_n 0, 1) := by decide +kernel
theorem dX12_room_11 : decode cX12_room 11 = .ok (.getfield 212, 3) := by decide +kernel
theorem dX12_room_14 : decode cX12_room 14 = .ok (.ifCond .ne 7, 3) := by decide +kernel
theorem dX12_room_17 : decode cX12_room 17 = .ok (.aload_n 0, 1) := by decide +kernel
theorem dX12_room_18 : decode cX12_room 18 = .ok (.invokevirtual 233, 3) := by decide +kernel
theorem dX12_room_21 : decode cX12_room 21 = .ok (.return_, 1) := by decide +kernel
set_option maxRecDepth 100000 in
theorem c_X12_room (l : Launch) (D : q_D) (al : q_Al) (dt : q_Dt) (x0 : Nat) (x1 : Int32) (x2 : Int32) (kx0 : al.1 x0 = 13) (dt0 : q_Dt) (hm : X12_room al dt x0 x1 x2 = some dt0) : q_Mt l yX12_room cX12_room 3 (none) 2 41 D al [.ref x0, .int x1, .int x2] dt 0 none dt0 := by
  refine q_Mt.of (by decide) (Nat.le_of_ble_eq_true rfl) ?_
  intro p e s m args below meth c ls C hargs hW hl
  have hx := C.1
  have hb := C.2.1
  have hown := C.2.2.2.2.2.1
  have hts := C.2.2.2.2.2.2.1
  have hS : va_S (q_A al) s.heap s.heap [] := va_S.rf
  have hl : lv_has ls 3 [(0, .ref x0), (1, .int x1), (2, .int x2)] := hl
  unfold X12_room at hm
  have hB10 : ∀ (x0_10 : Nat) (kx0_10 : al.1 x0_10 = 13) (dt : q_Dt) (H : Heap) (locs : List Loc) (ls : Array Slot) (hm : X12_room_b10 al x0_10 dt = some dt0) (hW : q_W D al dt H) (hS : va_S (q_A al) s.heap H locs) (hl : lv_has ls 3 [(0, .ref x0_10)]), W p l e { frames := 2, cells := 0, slots := 0, locals := 41 } s m args below meth c H locs 0 0 (MQ below (q_Q none (fun H => q_W D al dt0 H ∧ q_Rk al 0 none) (q_A al)) args s 0 0 (q_A al)) (F0 m 10 ls []) := by
    intro x0_10 kx0_10 dt H locs ls hm hW hS hl
    unfold X12_room_b10 at hm
    refine lv_aload_n hx hb dX12_room_10 rfl (lv_at hl 0 rfl) ?_
    refine r_getI C hW (ci := 12) kx0_10 ff_12_13 cl_12 fl_RX12_212 dX12_room_11 ?_
    refine q_ifc hm (fun c10001 hm => ?_) (fun c10001 hm => ?_)
    · refine lv_if_ne (tgt := 21) hx hb dX12_room_14 (by decide) (fun h => absurd c10001 h) (fun _ => ?_)
      refine lv_aload_n hx hb dX12_room_17 rfl (lv_at hl 0 rfl) ?_
      obtain ⟨dt10003, hc10002, hm⟩ := q_b1i hm
      refine q_callV C hW hS (As := []) (rest := []) (st1 := []) (c_X12_goesOn l D al dt x0_10 kx0_10 dt10003 hc10002) yl_X12_goesOn vl_X12_goesOn ml_RX12_233 (ci := 12) rfl kx0_10 (by decide) rfl ⟨Nat.le_of_ble_eq_true rfl, Nat.le_of_ble_eq_true rfl⟩ hl rfl (Nat.le_of_ble_eq_true rfl) dX12_room_18 ⟨Nat.le_refl _, Nat.le_refl _⟩ rfl (fun H locs k10004 hW hS => ?_)
      exact e_vD C hW hS hm dX12_room_21
    refine lv_if_ne (tgt := 21) hx hb dX12_room_14 (by decide) (fun _ => ?_) (fun h => absurd h c10001)
    exact e_vD C hW hS hm dX12_room_21
  refine lv_iload_n hx hb dX12_room_0 rfl (lv_at hl 1 rfl) ?_
  refine lv_iload_n hx hb dX12_room_1 rfl (lv_at hl 2 rfl) ?_
  refine q_ifc hm (fun c1000001 hm => ?_) (fun c1000001 hm => ?_)
  · refine lv_icmp_ne (tgt := 10) hx hb dX12_room_2 (by decide) (fun h => absurd c1000001 h) (fun _ => ?_)
    refine lv_aload_n hx hb dX12_room_5 rfl (lv_at hl 0 rfl) ?_
    refine lv_iconst (v := 2) hx hb dX12_room_6 (by decide) ?_
    obtain ⟨dt1000003, hc1000002, hm⟩ := q_b1i hm
    refine q_callV C hW hS (As := [.int 2]) (rest := []) (st1 := []) (c_X12_fail l D al dt x0 2 kx0 dt1000003 hc1000002) yl_X12_fail vl_X12_fail ml_RX12_227 (ci := 12) rfl kx0 (by decide) rfl ⟨Nat.le_of_ble_eq_true rfl, Nat.le_of_ble_eq_true rfl⟩ hl rfl (Nat.le_of_ble_eq_true rfl) dX12_room_7 ⟨Nat.le_refl _, Nat.le_refl _⟩ rfl (fun H locs k1000004 hW hS => ?_)
    exact hB10 x0 kx0 dt1000003 _ _ _ hm hW hS (lv_sub hl [0] rfl)
  refine lv_icmp_ne (tgt := 10) hx hb dX12_room_2 (by decide) (fun _ => ?_) (fun h => absurd h c1000001)
  exact hB10 x0 kx0 dt _ _ _ hm hW hS (lv_sub hl [0] rfl)
theorem dX12_named_0 : decode cX12_named 0 = .ok (.aload_n 0, 1) := by decide +kernel
theorem dX12_named_1 : decode cX12_named 1 = .ok (.getfield 215, 3) := by decide +kernel
theorem dX12_named_4 : decode cX12_named 4 = .ok (.istore_n 1, 1) := by decide +kernel
theorem dX12_named_5 : decode cX12_named 5 = .ok (.aload_n 0, 1) := by decide +kernel
theorem dX12_named_6 : decode cX12_named 6 = .ok (.iconst 1, 1) := by decide +kernel
theorem dX12_named_7 : decode cX12_named 7 = .ok (.invokevirtual 280, 3) := by decide +kernel
theorem dX12_named_10 : decode cX12_named 10 = .ok (.iconst 0, 1) := by decide +kernel
theorem dX12_named_11 : decode cX12_named 11 = .ok (.istore_n 2, 1) := by decide +kernel
theorem dX12_named_12 : decode cX12_named 12 = .ok (.iload_n 2, 1) := by decide +kernel
theorem dX12_named_13 : decode cX12_named 13 = .ok (.aload_n 0, 1) := by decide +kernel
theorem dX12_named_14 : decode cX12_named 14 = .ok (.getfield 248, 3) := by decide +kernel
theorem dX12_named_17 : decode cX12_named 17 = .ok (.if_icmp .ge 38, 3) := by decide +kernel
theorem dX12_named_20 : decode cX12_named 20 = .ok (.aload_n 0, 1) := by decide +kernel
theorem dX12_named_21 : decode cX12_named 21 = .ok (.getfield 212, 3) := by decide +kernel
theorem dX12_named_24 : decode cX12_named 24 = .ok (.ifCond .ne 31, 3) := by decide +kernel
theorem dX12_named_27 : decode cX12_named 27 = .ok (.aload_n 0, 1) := by decide +kernel
theorem dX12_named_28 : decode cX12_named 28 = .ok (.getfield 40, 3) := by decide +kernel
theorem dX12_named_31 : decode cX12_named 31 = .ok (.iload_n 2, 1) := by decide +kernel
theorem dX12_named_32 : decode cX12_named 32 = .ok (.laload, 1) := by decide +kernel
theorem dX12_named_33 : decode cX12_named 33 = .ok (.aload_n 0, 1) := by decide +kernel
theorem dX12_named_34 : decode cX12_named 34 = .ok (.getfield 30, 3) := by decide +kernel
theorem dX12_named_37 : decode cX12_named 37 = .ok (.iload_n 1, 1) := by decide +kernel
theorem dX12_named_38 : decode cX12_named 38 = .ok (.laload, 1) := by decide +kernel
theorem dX12_named_39 : decode cX12_named 39 = .ok (.lcmp, 1) := by decide +kernel
theorem dX12_named_40 : decode cX12_named 40 = .ok (.ifCond .ne 9, 3) := by decide +kernel
theorem dX12_named_43 : decode cX12_named 43 = .ok (.aload_n 0, 1) := by decide +kernel
theorem dX12_named_44 : decode cX12_named 44 = .ok (.iconst 3, 1) := by decide +kernel
theorem dX12_named_45 : decode cX12_named 45 = .ok (.iload_n 1, 1) := by decide +kernel
theorem dX12_named_46 : decode cX12_named 46 = .ok (.invokevirtual 283, 3) := by decide +kernel
theorem dX12_named_49 : decode cX12_named 49 = .ok (.iinc 2 1, 3) := by decide +kernel
theorem dX12_named_52 : decode cX12_named 52 = .ok (.goto (-40), 3) := by decide +kernel
theorem dX12_named_55 : decode cX12_named 55 = .ok (.iload_n 1, 1) := by decide +kernel
theorem dX12_named_56 : decode cX12_named 56 = .ok (.ireturn, 1) := by decide +kernel
set_option maxRecDepth 100000 in
theorem c_X12_named (l : Launch) (D : q_D) (al : q_Al) (dt : q_Dt) (x0 : Nat) (kx0 : al.1 x0 = 13) (r0 : Int32) (dt0 : q_Dt) (hm : X12_named al dt x0 = some (r0, dt0)) : q_Mt l yX12_named cX12_named 3 (some FieldType.int) 3 62 D al [.ref x0] dt 0 (some (.int r0)) dt0 := by
  refine q_Mt.of (by decide) (Nat.le_of_ble_eq_true rfl) ?_
  intro p e s m args below meth c ls C hargs hW hl
  have hx := C.1
  have hb := C.2.1
  have hown := C.2.2.2.2.2.1
  have hts := C.2.2.2.2.2.2.1
  have hS : va_S (q_A al) s.heap s.heap [] := va_S.rf
  have hl : lv_has ls 3 [(0, .ref x0)] := hl
  unfold X12_named at hm
  have hB55 : ∀ (x1_55 : Int32) (dt : q_Dt) (H : Heap) (locs : List Loc) (ls : Array Slot) (hm : X12_named_b55 al x1_55 dt = some (r0, dt0)) (hW : q_W D al dt H) (hS : va_S (q_A al) s.heap H locs) (hl : lv_has ls 3 [(1, .int x1_55)]), W p l e { frames := 3, cells := 0, slots := 0, locals := 62 } s m args below meth c H locs 0 0 (MQ below (q_Q (some (.int r0)) (fun H => q_W D al dt0 H ∧ q_Rk al 0 (some (.int r0))) (q_A al)) args s 0 0 (q_A al)) (F0 m 55 ls []) := by
    intro x1_55 dt H locs ls hm hW hS hl
    unfold X12_named_b55 at hm
    refine lv_iload_n hx hb dX12_named_55 rfl (lv_at hl 0 rfl) ?_
    exact e_iD C hW hS hm dX12_named_56
  have hB12 : ∀ (x0_12 : Nat) (x1_12 : Int32) (kx0_12 : al.1 x0_12 = 13) (n_12 : Nat) (x2_12 : Int32) (dt : q_Dt) (H : Heap) (locs : List Loc) (ls : Array Slot) (hm : X12_named_b12 al x0_12 x1_12 n_12 x2_12 dt = some (r0, dt0)) (hW : q_W D al dt H) (hS : va_S (q_A al) s.heap H locs) (hl : lv_has ls 3 [(0, .ref x0_12), (1, .int x1_12), (2, .int x2_12)]), W p l e { frames := 3, cells := 0, slots := 0, locals := 62 } s m args below meth c H locs 0 0 (MQ below (q_Q (some (.int r0)) (fun H => q_W D al dt0 H ∧ q_Rk al 0 (some (.int r0))) (q_A al)) args s 0 0 (q_A al)) (F0 m 12 ls []) := by
    intro x0_12 x1_12 kx0_12
    intro n_12
    induction n_12 with
    | zero => intro x2_12 dt H locs ls hm hW hS hl; cases hm
    | succ n_12 ih12 =>
      have hB49 : ∀ (x2_49 : Int32) (dt : q_Dt) (H : Heap) (locs : List Loc) (ls : Array Slot) (hm : X12_named_b49 al (X12_named_b12 al x0_12 x1_12 n_12) x0_12 x1_12 x2_49 dt = some (r0, dt0)) (hW : q_W D al dt H) (hS : va_S (q_A al) s.heap H locs) (hl : lv_has ls 3 [(0, .ref x0_12), (1, .int x1_12), (2, .int x2_49)]), W p l e { frames := 3, cells := 0, slots := 0, locals := 62 } s m args below meth c H locs 0 0 (MQ below (q_Q (some (.int r0)) (fun H => q_W D al dt0 H ∧ q_Rk al 0 (some (.int r0))) (q_A al)) args s 0 0 (q_A al)) (F0 m 49 ls []) := by
        intro x2_49 dt H locs ls hm hW hS hl
        unfold X12_named_b49 at hm
        refine lv_iinc (v := (x2_49 + 1)) (lv' := [(2, .int (x2_49 + 1)), (0, .ref x0_12), (1, .int x1_12)]) hx hb dX12_named_49 hl (k := 2) rfl rfl (by decide) rfl (fun ls hl => ?_)
        refine lv_goto (tgt := 12) hx hb dX12_named_52 (by decide) ?_
        exact ih12 (x2_49 + 1) dt _ _ _ hm hW hS (lv_sub hl [1, 2, 0] rfl)
      intro x2_12 dt H locs ls hm hW hS hl
      rw [X12_named_b12] at hm
      refine lv_iload_n hx hb dX12_named_12 rfl (lv_at hl 2 rfl) ?_
      refine lv_aload_n hx hb dX12_named_13 rfl (lv_at hl 0 rfl) ?_
      refine r_getI C hW (ci := 12) kx0_12 ff_12_20 cl_12 fl_RX12_248 dX12_named_14 ?_
      refine q_ifc hm (fun c12001 hm => ?_) (fun c12001 hm => ?_)
      · refine lv_icmp_ge (tgt := 55) hx hb dX12_named_17 (by decide) (fun _ => ?_) (fun h => absurd c12001 h)
        exact hB55 x1_12 dt _ _ _ hm hW hS (lv_sub hl [1] rfl)
      refine lv_icmp_ge (tgt := 55) hx hb dX12_named_17 (by decide) (fun h => absurd h c12001) (fun _ => ?_)
      refine lv_aload_n hx hb dX12_named_20 rfl (lv_at hl 0 rfl) ?_
      refine r_getI C hW (ci := 12) kx0_12 ff_12_13 cl_12 fl_RX12_212 dX12_named_21 ?_
      refine q_ifc hm (fun c12002 hm => ?_) (fun c12002 hm => ?_)
      · refine lv_if_ne (tgt := 55) hx hb dX12_named_24 (by decide) (fun h => absurd c12002 h) (fun _ => ?_)
        refine lv_aload_n hx hb dX12_named_27 rfl (lv_at hl 0 rfl) ?_
        refine r_getF C hW (ci := 12) kx0_12 ff_12_21 cl_12 fl_RX12_40 dX12_named_28 (fun k12003 => ?_)
        refine lv_iload_n hx hb dX12_named_31 rfl (lv_at hl 2 rfl) ?_
        refine r_lald C hW hm k12003 dX12_named_32 (fun hm => ?_)
        refine lv_aload_n hx hb dX12_named_33 rfl (lv_at hl 0 rfl) ?_
        refine r_getF C hW (ci := 12) kx0_12 ff_12_8 cl_12 fl_RX12_30 dX12_named_34 (fun k12004 => ?_)
        refine lv_iload_n hx hb dX12_named_37 rfl (lv_at hl 1 rfl) ?_
        refine r_lald C hW hm k12004 dX12_named_38 (fun hm => ?_)
        refine W.lcmp hx hb dX12_named_39 ?_
        refine q_ifc hm (fun c12005 hm => ?_) (fun c12005 hm => ?_)
        · refine lv_if_ne (tgt := 49) hx hb dX12_named_40 (by decide) (fun h => absurd (q_cmp_eq.mpr c12005) h) (fun _ => ?_)
          refine lv_aload_n hx hb dX12_named_43 rfl (lv_at hl 0 rfl) ?_
          refine lv_iconst (v := 3) hx hb dX12_named_44 (by decide) ?_
          refine lv_iload_n hx hb dX12_named_45 rfl (lv_at hl 1 rfl) ?_
          obtain ⟨dt12007, hc12006, hm⟩ := q_b1i hm
          refine q_callV C hW hS (As := [.int 3, .int x1_12]) (rest := []) (st1 := []) (c_X12_amiss l D al dt x0_12 3 x1_12 kx0_12 dt12007 hc12006) yl_X12_amiss vl_X12_amiss ml_RX12_283 (ci := 12) rfl kx0_12 (by decide) rfl ⟨Nat.le_of_ble_eq_true rfl, Nat.le_of_ble_eq_true rfl⟩ hl rfl (Nat.le_of_ble_eq_true rfl) dX12_named_46 ⟨Nat.le_refl _, Nat.le_refl _⟩ rfl (fun H locs k12008 hW hS => ?_)
          exact hB49 x2_12 dt12007 _ _ _ hm hW hS (lv_sub hl [0, 1, 2] rfl)
        refine lv_if_ne (tgt := 49) hx hb dX12_named_40 (by decide) (fun _ => ?_) (fun h => absurd (q_cmp_eq.mp h) c12005)
        exact hB49 x2_12 dt _ _ _ hm hW hS (lv_sub hl [0, 1, 2] rfl)
      refine lv_if_ne (tgt := 55) hx hb dX12_named_24 (by decide) (fun _ => ?_) (fun h => absurd h c12002)
      exact hB55 x1_12 dt _ _ _ hm hW hS (lv_sub hl [1] rfl)
  refine lv_aload_n hx hb dX12_named_0 rfl (lv_at hl 0 rfl) ?_
  refine r_getI C hW (ci := 12) kx0 ff_12_11 cl_12 fl_RX12_215 dX12_named_1 ?_
  refine lv_istore_n (i := 1) (lv' := [(1, .int (dt.1 x0 11)), (0, .ref x0)]) hx hb dX12_named_4 rfl hl (by decide) rfl (fun ls hl => ?_)
  refine lv_aload_n hx hb dX12_named_5 rfl (lv_at hl 1 rfl) ?_
  refine lv_iconst (v := 1) hx hb dX12_named_6 (by decide) ?_
  obtain ⟨dt1000002, hc1000001, hm⟩ := q_b1i hm
  refine q_callV C hW hS (As := [.int 1]) (rest := []) (st1 := []) (c_X12_must l D al dt x0 1 kx0 dt1000002 hc1000001) yl_X12_must vl_X12_must ml_RX12_280 (ci := 12) rfl kx0 (by decide) rfl ⟨Nat.le_of_ble_eq_true rfl, Nat.le_of_ble_eq_true rfl⟩ hl rfl (Nat.le_of_ble_eq_true rfl) dX12_named_7 ⟨Nat.le_refl _, Nat.le_refl _⟩ rfl (fun H locs k1000003 hW hS => ?_)
  refine lv_iconst (v := 0) hx hb dX12_named_10 (by decide) ?_
  refine lv_istore_n (i := 2) (lv' := [(2, .int 0), (1, .int (dt.1 x0 11)), (0, .ref x0)]) hx hb dX12_named_11 rfl hl (by decide) rfl (fun ls hl => ?_)
  exact hB12 x0 (dt.1 x0 11) kx0 q_FU 0 dt1000002 _ _ _ hm hW hS (lv_sub hl [2, 1, 0] rfl)
theorem dX12_bounded_0 : decode cX12_bounded 0 = .ok (.aload_n 0, 1) := by decide +kernel
theorem dX12_bounded_1 : decode cX12_bounded 1 = .ok (.getfield 212, 3) := by decide +kernel
theorem dX12_bounded_4 : decode cX12_bounded 4 = .ok (.ifCond .gt 11, 3) := by decide +kernel
theorem dX12_bounded_7 : decode cX12_bounded 7 = .ok (.aload_n 0, 1) := by decide +kernel
theorem dX12_bounded_8 : decode cX12_bounded 8 = .ok (.iconst 2, 1) := by decide +kernel
theorem dX12_bounded_9 : decode cX12_bounded 9 = .ok (.invokevirtual 230, 3) := by decide +kernel
theorem dX12_bounded_12 : decode cX12_bounded 12 = .ok (.ifCond .ne 15, 3) := by decide +kernel
theorem dX12_bounded_15 : decode cX12_bounded 15 = .ok (.aload_n 0, 1) := by decide +kernel
theorem dX12_bounded_16 : decode cX12_bounded 16 = .ok (.iconst 1, 1) := by decide +kernel
theorem dX12_bounded_17 : decode cX12_bounded 17 = .ok (.invokevirtual 227, 3) := by decide +kernel
theorem dX12_bounded_20 : decode cX12_bounded 20 = .ok (.aload_n 0, 1) := by decide +kernel
theorem dX12_bounded_21 : decode cX12_bounded 21 = .ok (.iconst 0, 1) := by decide +kernel
theorem dX12_bounded_22 : decode cX12_bounded 22 = .ok (.putfield 286, 3) := by decide +kernel
theorem dX12_bounded_25 : decode cX12_bounded 25 = .ok (.iload_n 1, 1) := by decide +kernel
theorem dX12_bounded_26 : decode cX12_bounded 26 = .ok (.ireturn, 1) := by decide +kernel
theorem dX12_bounded_27 : decode cX12_bounded 27 = .ok (.aload_n 0, 1) := by decide +kernel
theorem dX12_bounded_28 : decode cX12_bounded 28 = .ok (.getfield 27, 3) := by decide +kernel
theorem dX12_bounded_31 : decode cX12_bounded 31 = .ok (.aload_n 0, 1) := by decide +kernel
theorem dX12_bounded_32 : decode cX12_bounded 32 = .ok (.getfield 215, 3) := by decide +kernel
theorem dX12_bounded_35 : decode cX12_bounded 35 = .ok (.iaload, 1) := by decide +kernel
theorem dX12_bounded_36 : decode cX12_bounded 36 = .ok (.istore_n 3, 1) := by decide +kernel
theorem dX12_bounded_37 : decode cX12_bounded 37 = .ok (.aload_n 0, 1) := by decide +kernel
theorem dX12_bounded_38 : decode cX12_bounded 38 = .ok (.iload_n 3, 1) := by decide +kernel
theorem dX12_bounded_39 : decode cX12_bounded 39 = .ok (.iload_n 1, 1) := by decide +kernel
theorem dX12_bounded_40 : decode cX12_bounded 40 = .ok (.if_icmp .lt 12, 3) := by decide +kernel
theorem dX12_bounded_43 : decode cX12_bounded 43 = .ok (.iload_n 3, 1) := by decide +kernel
theorem dX12_bounded_44 : decode cX12_bounded 44 = .ok (.iload_n 2, 1) := by decide +kernel
theorem dX12_bounded_45 : decode cX12_bounded 45 = .ok (.if_icmp .gt 7, 3) := by decide +kernel
theorem dX12_bounded_48 : decode cX12_bounded 48 = .ok (.iconst 1, 1) := by decide +kernel
theorem dX12_bounded_49 : decode cX12_bounded 49 = .ok (.goto 4, 3) := by decide +kernel
theorem dX12_bounded_52 : decode cX12_bounded 52 = .ok (.iconst 0, 1) := by decide +kernel
theorem dX12_bounded_53 : decode cX12_bounded 53 = .ok (.putfield 286, 3) := by decide +kernel
theorem dX12_bounded_56 : decode cX12_bounded 56 = .ok (.aload_n 0, 1) := by decide +kernel
theorem dX12_bounded_57 : decode cX12_bounded 57 = .ok (.getfield 286, 3) := by decide +kernel
theorem dX12_bounded_60 : decode cX12_bounded 60 = .ok (.ifCond .ne 12, 3) := by decide +kernel
theorem dX12_bounded_63 : decode cX12_bounded 63 = .ok (.aload_n 0, 1) := by decide +kernel
theorem dX12_bounded_64 : decode cX12_bounded 64 = .ok (.iconst 5, 1) := by decide +kernel
theorem dX12_bounded_65 : decode cX12_bounded 65 = .ok (.aload_n 0, 1) := by decide +kernel
theorem dX12_bounded_66 : decode cX12_bounded 66 = .ok (.getfield 215, 3) := by decide +kernel
theorem dX12_bounded_69 : decode cX12_bounded 69 = .ok (.invokevirtual 283, 3) := by decide +kernel
theorem dX12_bounded_72 : decode cX12_bounded 72 = .ok (.aload_n 0, 1) := by decide +kernel
theorem dX12_bounded_73 : decode cX12_bounded 73 = .ok (.invokevirtual 233, 3) := by decide +kernel
theorem dX12_bounded_76 : decode cX12_bounded 76 = .ok (.iload_n 3, 1) := by decide +kernel
theorem dX12_bounded_77 : decode cX12_bounded 77 = .ok (.ireturn, 1) := by decide +kernel
set_option maxRecDepth 100000 in
theorem c_X12_bounded (l : Launch) (D : q_D) (al : q_Al) (dt : q_Dt) (x0 : Nat) (x1 : Int32) (x2 : Int32) (kx0 : al.1 x0 = 13) (r0 : Int32) (dt0 : q_Dt) (hm : X12_bounded al dt x0 x1 x2 = some (r0, dt0)) : q_Mt l yX12_bounded cX12_bounded 4 (some FieldType.int) 2 41 D al [.ref x0, .int x1, .int x2] dt 0 (some (.int r0)) dt0 := by
  refine q_Mt.of (by decide) (Nat.le_of_ble_eq_true rfl) ?_
  intro p e s m args below meth c ls C hargs hW hl
  have hx := C.1
  have hb := C.2.1
  have hown := C.2.2.2.2.2.1
  have hts := C.2.2.2.2.2.2.1
  have hS : va_S (q_A al) s.heap s.heap [] := va_S.rf
  have hl : lv_has ls 4 [(0, .ref x0), (1, .int x1), (2, .int x2)] := hl
  unfold X12_bounded at hm
  have hB15 : ∀ (x0_15 : Nat) (x1_15 : Int32) (kx0_15 : al.1 x0_15 = 13) (dt : q_Dt) (H : Heap) (locs : List Loc) (ls : Array Slot) (hm : X12_bounded_b15 al x0_15 x1_15 dt = some (r0, dt0)) (hW : q_W D al dt H) (hS : va_S (q_A al) s.heap H locs) (hl : lv_has ls 4 [(0, .ref x0_15), (1, .int x1_15)]), W p l e { frames := 2, cells := 0, slots := 0, locals := 41 } s m args below meth c H locs 0 0 (MQ below (q_Q (some (.int r0)) (fun H => q_W D al dt0 H ∧ q_Rk al 0 (some (.int r0))) (q_A al)) args s 0 0 (q_A al)) (F0 m 15 ls []) := by
    intro x0_15 x1_15 kx0_15 dt H locs ls hm hW hS hl
    unfold X12_bounded_b15 at hm
    refine lv_aload_n hx hb dX12_bounded_15 rfl (lv_at hl 0 rfl) ?_
    refine lv_iconst (v := 1) hx hb dX12_bounded_16 (by decide) ?_
    obtain ⟨dt15002, hc15001, hm⟩ := q_b1i hm
    refine q_callV C hW hS (As := [.int 1]) (rest := []) (st1 := []) (c_X12_fail l D al dt x0_15 1 kx0_15 dt15002 hc15001) yl_X12_fail vl_X12_fail ml_RX12_227 (ci := 12) rfl kx0_15 (by decide) rfl ⟨Nat.le_of_ble_eq_true rfl, Nat.le_of_ble_eq_true rfl⟩ hl rfl (Nat.le_of_ble_eq_true rfl) dX12_bounded_17 ⟨Nat.le_refl _, Nat.le_refl _⟩ rfl (fun H locs k15003 hW hS => ?_)
    refine lv_aload_n hx hb dX12_bounded_20 rfl (lv_at hl 0 rfl) ?_
    refine lv_iconst (v := 0) hx hb dX12_bounded_21 (by decide) ?_
    refine r_putZ C hW hS hm (ci := 12) kx0_15 ff_12_50 cl_12 fl_RX12_286 (nf_12_50) rfl dX12_bounded_22 (fun dt15004 H locs hm hW hS => ?_)
    refine lv_iload_n hx hb dX12_bounded_25 rfl (lv_at hl 1 rfl) ?_
    exact e_iD C hW hS hm dX12_bounded_26
  have hB72 : ∀ (x0_72 : Nat) (x3_72 : Int32) (kx0_72 : al.1 x0_72 = 13) (dt : q_Dt) (H : Heap) (locs : List Loc) (ls : Array Slot) (hm : X12_bounded_b72 al x0_72 x3_72 dt = some (r0, dt0)) (hW : q_W D al dt H) (hS : va_S (q_A al) s.heap H locs) (hl : lv_has ls 4 [(0, .ref x0_72), (3, .int x3_72)]), W p l e { frames := 2, cells := 0, slots := 0, locals := 41 } s m args below meth c H locs 0 0 (MQ below (q_Q (some (.int r0)) (fun H => q_W D al dt0 H ∧ q_Rk al 0 (some (.int r0))) (q_A al)) args s 0 0 (q_A al)) (F0 m 72 ls []) := by
    intro x0_72 x3_72 kx0_72 dt H locs ls hm hW hS hl
    unfold X12_bounded_b72 at hm
    refine lv_aload_n hx hb dX12_bounded_72 rfl (lv_at hl 0 rfl) ?_
    obtain ⟨dt72002, hc72001, hm⟩ := q_b1i hm
    refine q_callV C hW hS (As := []) (rest := []) (st1 := []) (c_X12_goesOn l D al dt x0_72 kx0_72 dt72002 hc72001) yl_X12_goesOn vl_X12_goesOn ml_RX12_233 (ci := 12) rfl kx0_72 (by decide) rfl ⟨Nat.le_of_ble_eq_true rfl, Nat.le_of_ble_eq_true rfl⟩ hl rfl (Nat.le_of_ble_eq_true rfl) dX12_bounded_73 ⟨Nat.le_refl _, Nat.le_refl _⟩ rfl (fun H locs k72003 hW hS => ?_)
    refine lv_iload_n hx hb dX12_bounded_76 rfl (lv_at hl 1 rfl) ?_
    exact e_iD C hW hS hm dX12_bounded_77
  have hB53 : ∀ (x0_53 : Nat) (x3_53 : Int32) (t0_53 : Nat) (t1_53 : Int32) (kx0_53 : al.1 x0_53 = 13) (kt0_53 : al.1 t0_53 = 13) (dt : q_Dt) (H : Heap) (locs : List Loc) (ls : Array Slot) (hm : X12_bounded_b53 al x0_53 x3_53 t0_53 t1_53 dt = some (r0, dt0)) (hW : q_W D al dt H) (hS : va_S (q_A al) s.heap H locs) (hl : lv_has ls 4 [(0, .ref x0_53), (3, .int x3_53)]), W p l e { frames := 2, cells := 0, slots := 0, locals := 41 } s m args below meth c H locs 0 0 (MQ below (q_Q (some (.int r0)) (fun H => q_W D al dt0 H ∧ q_Rk al 0 (some (.int r0))) (q_A al)) args s 0 0 (q_A al)) (F0 m 53 ls [.int t1_53, .ref t0_53]) := by
    intro x0_53 x3_53 t0_53 t1_53 kx0_53 kt0_53 dt H locs ls hm hW hS hl
    unfold X12_bounded_b53 at hm
    refine r_putZ C hW hS hm (ci := 12) kt0_53 ff_12_50 cl_12 fl_RX12_286 (nf_12_50) rfl dX12_bounded_53 (fun dt53001 H locs hm hW hS => ?_)
    refine lv_aload_n hx hb dX12_bounded_56 rfl (lv_at hl 0 rfl) ?_
    refine r_getI C hW (ci := 12) kx0_53 ff_12_50 cl_12 fl_RX12_286 dX12_bounded_57 ?_
    refine q_ifc hm (fun c53002 hm => ?_) (fun c53002 hm => ?_)
    · refine lv_if_ne (tgt := 72) hx hb dX12_bounded_60 (by decide) (fun h => absurd c53002 h) (fun _ => ?_)
      refine lv_aload_n hx hb dX12_bounded_63 rfl (lv_at hl 0 rfl) ?_
      refine lv_iconst (v := 5) hx hb dX12_bounded_64 (by decide) ?_
      refine lv_aload_n hx hb dX12_bounded_65 rfl (lv_at hl 0 rfl) ?_
      refine r_getI C hW (ci := 12) kx0_53 ff_12_11 cl_12 fl_RX12_215 dX12_bounded_66 ?_
      obtain ⟨dt53004, hc53003, hm⟩ := q_b1i hm
      refine q_callV C hW hS (As := [.int 5, .int (dt53001.1 x0_53 11)]) (rest := []) (st1 := []) (c_X12_amiss l D al dt53001 x0_53 5 (dt53001.1 x0_53 11) kx0_53 dt53004 hc53003) yl_X12_amiss vl_X12_amiss ml_RX12_283 (ci := 12) rfl kx0_53 (by decide) rfl ⟨Nat.le_of_ble_eq_true rfl, Nat.le_of_ble_eq_true rfl⟩ hl rfl (Nat.le_of_ble_eq_true rfl) dX12_bounded_69 ⟨Nat.le_refl _, Nat.le_refl _⟩ rfl (fun H locs k53005 hW hS => ?_)
      exact hB72 x0_53 x3_53 kx0_53 dt53004 _ _ _ hm hW hS (lv_sub hl [0, 1] rfl)
    refine lv_if_ne (tgt := 72) hx hb dX12_bounded_60 (by decide) (fun _ => ?_) (fun h => absurd h c53002)
    exact hB72 x0_53 x3_53 kx0_53 dt53001 _ _ _ hm hW hS (lv_sub hl [0, 1] rfl)
  have hB52 : ∀ (x0_52 : Nat) (x3_52 : Int32) (t0_52 : Nat) (kx0_52 : al.1 x0_52 = 13) (kt0_52 : al.1 t0_52 = 13) (dt : q_Dt) (H : Heap) (locs : List Loc) (ls : Array Slot) (hm : X12_bounded_b52 al x0_52 x3_52 t0_52 dt = some (r0, dt0)) (hW : q_W D al dt H) (hS : va_S (q_A al) s.heap H locs) (hl : lv_has ls 4 [(0, .ref x0_52), (3, .int x3_52)]), W p l e { frames := 2, cells := 0, slots := 0, locals := 41 } s m args below meth c H locs 0 0 (MQ below (q_Q (some (.int r0)) (fun H => q_W D al dt0 H ∧ q_Rk al 0 (some (.int r0))) (q_A al)) args s 0 0 (q_A al)) (F0 m 52 ls [.ref t0_52]) := by
    intro x0_52 x3_52 t0_52 kx0_52 kt0_52 dt H locs ls hm hW hS hl
    unfold X12_bounded_b52 at hm
    refine lv_iconst (v := 0) hx hb dX12_bounded_52 (by decide) ?_
    exact hB53 x0_52 x3_52 t0_52 0 kx0_52 kt0_52 dt _ _ _ hm hW hS (lv_sub hl [0, 1] rfl)
  refine lv_aload_n hx hb dX12_bounded_0 rfl (lv_at hl 0 rfl) ?_
  refine r_getI C hW (ci := 12) kx0 ff_12_13 cl_12 fl_RX12_212 dX12_bounded_1 ?_
  refine q_ifc hm (fun c1000001 hm => ?_) (fun c1000001 hm => ?_)
  · refine lv_if_gt (tgt := 15) hx hb dX12_bounded_4 (by decide) (fun _ => ?_) (fun h => absurd c1000001 h)
    exact hB15 x0 x1 kx0 dt _ _ _ hm hW hS (lv_sub hl [0, 1] rfl)
  refine lv_if_gt (tgt := 15) hx hb dX12_bounded_4 (by decide) (fun h => absurd h c1000001) (fun _ => ?_)
  refine lv_aload_n hx hb dX12_bounded_7 rfl (lv_at hl 0 rfl) ?_
  refine lv_iconst (v := 2) hx hb dX12_bounded_8 (by decide) ?_
  obtain ⟨v1000003, hc1000002, hm⟩ := q_b1i hm
  refine q_callV C hW hS (As := [.int 2]) (rest := []) (st1 := [.int v1000003]) (c_X12_is l D al dt x0 2 kx0 v1000003 hc1000002) yl_X12_is vl_X12_is ml_RX12_230 (ci := 12) rfl kx0 (by decide) rfl ⟨Nat.le_of_ble_eq_true rfl, Nat.le_of_ble_eq_true rfl⟩ hl rfl (Nat.le_of_ble_eq_true rfl) dX12_bounded_9 ⟨Nat.le_refl _, Nat.le_refl _⟩ rfl (fun H locs k1000004 hW hS => ?_)
  refine q_ifc hm (fun c1000005 hm => ?_) (fun c1000005 hm => ?_)
  · refine lv_if_ne (tgt := 27) hx hb dX12_bounded_12 (by decide) (fun h => absurd c1000005 h) (fun _ => ?_)
    exact hB15 x0 x1 kx0 dt _ _ _ hm hW hS (lv_sub hl [0, 1] rfl)
  refine lv_if_ne (tgt := 27) hx hb dX12_bounded_12 (by decide) (fun _ => ?_) (fun h => absurd h c1000005)
  refine lv_aload_n hx hb dX12_bounded_27 rfl (lv_at hl 0 rfl) ?_
  refine r_getF C hW (ci := 12) kx0 ff_12_7 cl_12 fl_RX12_27 dX12_bounded_28 (fun k1000006 => ?_)
  refine lv_aload_n hx hb dX12_bounded_31 rfl (lv_at hl 0 rfl) ?_
  refine r_getI C hW (ci := 12) kx0 ff_12_11 cl_12 fl_RX12_215 dX12_bounded_32 ?_
  refine r_iald C hW hm k1000006 dX12_bounded_35 (fun hm => ?_)
  refine q_nmI hm (fun v1000007 ev1000007 hm => ?_)
  refine lv_istore_n (i := 3) (lv' := [(3, .int v1000007), (0, .ref x0), (1, .int x1), (2, .int x2)]) hx hb dX12_bounded_36 rfl hl (by decide) rfl (fun ls hl => ?_)
  refine lv_aload_n hx hb dX12_bounded_37 rfl (lv_at hl 1 rfl) ?_
  refine lv_iload_n hx hb dX12_bounded_38 rfl (lv_at hl 0 rfl) ?_
  refine lv_iload_n hx hb dX12_bounded_39 rfl (lv_at hl 2 rfl) ?_
  refine q_ifc hm (fun c1000008 hm => ?_) (fun c1000008 hm => ?_)
  · refine lv_icmp_lt (tgt := 52) hx hb dX12_bounded_40 (by decide) (fun _ => ?_) (fun h => absurd c1000008 h)
    exact hB52 x0 v1000007 x0 kx0 kx0 dt _ _ _ hm hW hS (lv_sub hl [1, 0] rfl)
  refine lv_icmp_lt (tgt := 52) hx hb dX12_bounded_40 (by decide) (fun h => absurd h c1000008) (fun _ => ?_)
  refine lv_iload_n hx hb dX12_bounded_43 rfl (lv_at hl 0 rfl) ?_
  refine lv_iload_n hx hb dX12_bounded_44 rfl (lv_at hl 3 rfl) ?_
  refine q_ifc hm (fun c1000009 hm => ?_) (fun c1000009 hm => ?_)
  · refine lv_icmp_gt (tgt := 52) hx hb dX12_bounded_45 (by decide) (fun _ => ?_) (fun h => absurd c1000009 h)
    exact hB52 x0 v1000007 x0 kx0 kx0 dt _ _ _ hm hW hS (lv_sub hl [1, 0] rfl)
  refine lv_icmp_gt (tgt := 52) hx hb dX12_bounded_45 (by decide) (fun h => absurd h c1000009) (fun _ => ?_)
  refine lv_iconst (v := 1) hx hb dX12_bounded_48 (by decide) ?_
  refine lv_goto (tgt := 53) hx hb dX12_bounded_49 (by decide) ?_
  exact hB53 x0 v1000007 x0 1 kx0 kx0 dt _ _ _ hm hW hS (lv_sub hl [1, 0] rfl)
theorem dX12_hangs_0 : decode cX12_hangs 0 = .ok (.iload_n 1, 1) := by decide +kernel
theorem dX12_hangs_1 : decode cX12_hangs 1 = .ok (.ifCond .eq 10, 3) := by decide +kernel
theorem dX12_hangs_4 : decode cX12_hangs 4 = .ok (.aload_n 0, 1) := by decide +kernel
theorem dX12_hangs_5 : decode cX12_hangs 5 = .ok (.iload_n 2, 1) := by decide +kernel
theorem dX12_hangs_6 : decode cX12_hangs 6 = .ok (.iload_n 3, 1) := by decide +kernel
theorem dX12_hangs_7 : decode cX12_hangs 7 = .ok (.invokevirtual 276, 3) := by decide +kernel
theorem dX12_hangs_10 : decode cX12_hangs 10 = .ok (.ireturn, 1) := by decide +kernel
theorem dX12_hangs_11 : decode cX12_hangs 11 = .ok (.aload_n 0, 1) := by decide +kernel
theorem dX12_hangs_12 : decode cX12_hangs 12 = .ok (.iconst 0, 1) := by decide +kernel
theorem dX12_hangs_13 : decode cX12_hangs 13 = .ok (.sipush 9999, 3) := by decide +kernel
theorem dX12_hangs_16 : decode cX12_hangs 16 = .ok (.invokevirtual 276, 3) := by decide +kernel
theorem dX12_hangs_19 : decode cX12_hangs 19 = .ok (.ireturn, 1) := by decide +kernel
set_option maxRecDepth 100000 in
theorem c_X12_hangs (l : Launch) (D : q_D) (al : q_Al) (dt : q_Dt) (x0 : Nat) (x1 : Int32) (x2 : Int32) (x3 : Int32) (kx0 : al.1 x0 = 13) (r0 : Int32) (dt0 : q_Dt) (hm : X12_hangs al dt x0 x1 x2 x3 = some (r0, dt0)) : q_Mt l yX12_hangs cX12_hangs 4 (some FieldType.int) 3 64 D al [.ref x0, .int x1, .int x2, .int x3] dt 0 (some (.int r0)) dt0 := by
  refine q_Mt.of (by decide) (Nat.le_of_ble_eq_true rfl) ?_
  intro p e s m args below meth c ls C hargs hW hl
  have hx := C.1
  have hb := C.2.1
  have hown := C.2.2.2.2.2.1
  have hts := C.2.2.2.2.2.2.1
  have hS : va_S (q_A al) s.heap s.heap [] := va_S.rf
  have hl : lv_has ls 4 [(0, .ref x0), (1, .int x1), (2, .int x2), (3, .int x3)] := hl
  unfold X12_hangs at hm
  refine lv_iload_n hx hb dX12_hangs_0 rfl (lv_at hl 1 rfl) ?_
  refine q_ifc hm (fun c1000001 hm => ?_) (fun c1000001 hm => ?_)
  · refine lv_if_eq (tgt := 11) hx hb dX12_hangs_1 (by decide) (fun _ => ?_) (fun h => absurd c1000001 h)
    refine lv_aload_n hx hb dX12_hangs_11 rfl (lv_at hl 0 rfl) ?_
    refine lv_iconst (v := 0) hx hb dX12_hangs_12 (by decide) ?_
    refine lv_sipush (v := 9999) hx hb dX12_hangs_13 (by decide) ?_
    obtain ⟨v1000003, dt1000004, hc1000002, hm⟩ := q_b2i hm
    refine q_callV C hW hS (As := [.int 0, .int 9999]) (rest := []) (st1 := [.int v1000003]) (c_X12_bounded l D al dt x0 0 9999 kx0 v1000003 dt1000004 hc1000002) yl_X12_bounded vl_X12_bounded ml_RX12_276 (ci := 12) rfl kx0 (by decide) rfl ⟨Nat.le_of_ble_eq_true rfl, Nat.le_of_ble_eq_true rfl⟩ hl rfl (Nat.le_of_ble_eq_true rfl) dX12_hangs_16 ⟨Nat.le_refl _, Nat.le_refl _⟩ rfl (fun H locs k1000005 hW hS => ?_)
    exact e_iD C hW hS hm dX12_hangs_19
  refine lv_if_eq (tgt := 11) hx hb dX12_hangs_1 (by decide) (fun h => absurd h c1000001) (fun _ => ?_)
  refine lv_aload_n hx hb dX12_hangs_4 rfl (lv_at hl 0 rfl) ?_
  refine lv_iload_n hx hb dX12_hangs_5 rfl (lv_at hl 2 rfl) ?_
  refine lv_iload_n hx hb dX12_hangs_6 rfl (lv_at hl 3 rfl) ?_
  obtain ⟨v1000007, dt1000008, hc1000006, hm⟩ := q_b2i hm
  refine q_callV C hW hS (As := [.int x2, .int x3]) (rest := []) (st1 := [.int v1000007]) (c_X12_bounded l D al dt x0 x2 x3 kx0 v1000007 dt1000008 hc1000006) yl_X12_bounded vl_X12_bounded ml_RX12_276 (ci := 12) rfl kx0 (by decide) rfl ⟨Nat.le_of_ble_eq_true rfl, Nat.le_of_ble_eq_true rfl⟩ hl rfl (Nat.le_of_ble_eq_true rfl) dX12_hangs_7 ⟨Nat.le_refl _, Nat.le_refl _⟩ rfl (fun H locs k1000009 hW hS => ?_)
  exact e_iD C hW hS hm dX12_hangs_10
theorem dX12_odd_0 : decode cX12_odd 0 = .ok (.iconst 0, 1) := by decide +kernel
theorem dX12_odd_1 : decode cX12_odd 1 = .ok (.istore_n 1, 1) := by decide +kernel
theorem dX12_odd_2 : decode cX12_odd 2 = .ok (.iconst 0, 1) := by decide +kernel
theorem dX12_odd_3 : decode cX12_odd 3 = .ok (.istore_n 2, 1) := by decide +kernel
theorem dX12_odd_4 : decode cX12_odd 4 = .ok (.iload_n 2, 1) := by decide +kernel
theorem dX12_odd_5 : decode cX12_odd 5 = .ok (.bipush 14, 2) := by decide +kernel
theorem dX12_odd_7 : decode cX12_odd 7 = .ok (.if_icmp .ge 17, 3) := by decide +kernel
theorem dX12_odd_10 : decode cX12_odd 10 = .ok (.iload_n 1, 1) := by decide +kernel
theorem dX12_odd_11 : decode cX12_odd 11 = .ok (.iload_n 0, 1) := by decide +kernel
theorem dX12_odd_12 : decode cX12_odd 12 = .ok (.iload_n 2, 1) := by decide +kernel
theorem dX12_odd_13 : decode cX12_odd 13 = .ok (.ishr, 1) := by decide +kernel
theorem dX12_odd_14 : decode cX12_odd 14 = .ok (.iconst 1, 1) := by decide +kernel
theorem dX12_odd_15 : decode cX12_odd 15 = .ok (.iand, 1) := by decide +kernel
theorem dX12_odd_16 : decode cX12_odd 16 = .ok (.iadd, 1) := by decide +kernel
theorem dX12_odd_17 : decode cX12_odd 17 = .ok (.istore_n 1, 1) := by decide +kernel
theorem dX12_odd_18 : decode cX12_odd 18 = .ok (.iinc 2 1, 3) := by decide +kernel
theorem dX12_odd_21 : decode cX12_odd 21 = .ok (.goto (-17), 3) := by decide +kernel
theorem dX12_odd_24 : decode cX12_odd 24 = .ok (.iload_n 1, 1) := by decide +kernel
theorem dX12_odd_25 : decode cX12_odd 25 = .ok (.iconst 2, 1) := by decide +kernel
theorem dX12_odd_26 : decode cX12_odd 26 = .ok (.irem, 1) := by decide +kernel
theorem dX12_odd_27 : decode cX12_odd 27 = .ok (.ireturn, 1) := by decide +kernel
set_option maxRecDepth 100000 in
theorem c_X12_odd (l : Launch) (D : q_D) (al : q_Al) (dt : q_Dt) (x0 : Int32) (r0 : Int32) (hm : X12_odd x0 = some r0) : q_Mt l yX12_odd cX12_odd 3 (some FieldType.int) 0 0 D al [.int x0] dt 0 (some (.int r0)) dt := by
  refine q_Mt.of (by decide) (Nat.le_of_ble_eq_true rfl) ?_
  intro p e s m args below meth c ls C hargs hW hl
  have hx := C.1
  have hb := C.2.1
  have hown := C.2.2.2.2.2.1
  have hts := C.2.2.2.2.2.2.1
  have hS : va_S (q_A al) s.heap s.heap [] := va_S.rf
  have hl : lv_has ls 3 [(0, .int x0)] := hl
  unfold X12_odd at hm
  have hB4 : ∀ (x0_4 : Int32) (n_4 : Nat) (x1_4 : Int32) (x2_4 : Int32) (H : Heap) (locs : List Loc) (ls : Array Slot) (hm : X12_odd_b4 x0_4 n_4 x1_4 x2_4 = some r0) (hW : q_W D al dt H) (hS : va_S (q_A al) s.heap H locs) (hl : lv_has ls 3 [(0, .int x0_4), (1, .int x1_4), (2, .int x2_4)]), W p l e { frames := 0, cells := 0, slots := 0, locals := 0 } s m args below meth c H locs 0 0 (MQ below (q_Q (some (.int r0)) (fun H => q_W D al dt H ∧ q_Rk al 0 (some (.int r0))) (q_A al)) args s 0 0 (q_A al)) (F0 m 4 ls []) := by
    intro x0_4
    intro n_4
    induction n_4 with
    | zero => intro x1_4 x2_4 H locs ls hm hW hS hl; cases hm
    | succ n_4 ih4 =>
      intro x1_4 x2_4 H locs ls hm hW hS hl
      rw [X12_odd_b4] at hm
      refine lv_iload_n hx hb dX12_odd_4 rfl (lv_at hl 2 rfl) ?_
      refine lv_bipush (v := 14) hx hb dX12_odd_5 (by decide) ?_
      refine q_ifc hm (fun c4001 hm => ?_) (fun c4001 hm => ?_)
      · refine lv_icmp_ge (tgt := 24) hx hb dX12_odd_7 (by decide) (fun _ => ?_) (fun h => absurd c4001 h)
        refine lv_iload_n hx hb dX12_odd_24 rfl (lv_at hl 1 rfl) ?_
        refine lv_iconst (v := 2) hx hb dX12_odd_25 (by decide) ?_
        refine lv_irem hx hb dX12_odd_26 (by decide) ?_
        exact e_i C hW hS hm dX12_odd_27
      refine lv_icmp_ge (tgt := 24) hx hb dX12_odd_7 (by decide) (fun h => absurd h c4001) (fun _ => ?_)
      refine lv_iload_n hx hb dX12_odd_10 rfl (lv_at hl 1 rfl) ?_
      refine lv_iload_n hx hb dX12_odd_11 rfl (lv_at hl 0 rfl) ?_
      refine lv_iload_n hx hb dX12_odd_12 rfl (lv_at hl 2 rfl) ?_
      refine lv_ishr hx hb dX12_odd_13 ?_
      refine lv_iconst (v := 1) hx hb dX12_odd_14 (by decide) ?_
      refine lv_iand hx hb dX12_odd_15 ?_
      refine lv_iadd hx hb dX12_odd_16 ?_
      refine q_nmI hm (fun v4003 ev4003 hm => ?_)
      refine lv_istore_n (i := 1) (lv' := [(1, .int v4003), (0, .int x0_4), (2, .int x2_4)]) hx hb dX12_odd_17 rfl hl (by decide) rfl (fun ls hl => ?_)
      refine lv_iinc (v := (x2_4 + 1)) (lv' := [(2, .int (x2_4 + 1)), (1, .int v4003), (0, .int x0_4)]) hx hb dX12_odd_18 hl (k := 2) rfl rfl (by decide) rfl (fun ls hl => ?_)
      refine lv_goto (tgt := 4) hx hb dX12_odd_21 (by decide) ?_
      exact ih4 v4003 (x2_4 + 1) _ _ _ hm hW hS (lv_sub hl [2, 1, 0] rfl)
  refine lv_iconst (v := 0) hx hb dX12_odd_0 (by decide) ?_
  refine lv_istore_n (i := 1) (lv' := [(1, .int 0), (0, .int x0)]) hx hb dX12_odd_1 rfl hl (by decide) rfl (fun ls hl => ?_)
  refine lv_iconst (v := 0) hx hb dX12_odd_2 (by decide) ?_
  refine lv_istore_n (i := 2) (lv' := [(2, .int 0), (1, .int 0), (0, .int x0)]) hx hb dX12_odd_3 rfl hl (by decide) rfl (fun ls hl => ?_)
  exact hB4 x0 q_FU 0 0 _ _ _ hm hW hS (lv_sub hl [2, 1, 0] rfl)
theorem dX12_makesRegister_0 : decode cX12_makesRegister 0 = .ok (.iload 4, 2) := by decide +kernel
theorem dX12_makesRegister_2 : decode cX12_makesRegister 2 = .ok (.istore 5, 2) := by decide +kernel
theorem dX12_makesRegister_4 : decode cX12_makesRegister 4 = .ok (.aload_n 0, 1) := by decide +kernel
theorem dX12_makesRegister_5 : decode cX12_makesRegister 5 = .ok (.getfield 52, 3) := by decide +kernel
theorem dX12_makesRegister_8 : decode cX12_makesRegister 8 = .ok (.iload_n 1, 1) := by decide +kernel
theorem dX12_makesRegister_9 : decode cX12_makesRegister 9 = .ok (.iconst 1, 1) := by decide +kernel
theorem dX12_makesRegister_10 : decode cX12_makesRegister 10 = .ok (.iload_n 2, 1) := by decide +kernel
theorem dX12_makesRegister_11 : decode cX12_makesRegister 11 = .ok (.ishl, 1) := by decide +kernel
theorem dX12_makesRegister_12 : decode cX12_makesRegister 12 = .ok (.iconst 1, 1) := by decide +kernel
theorem dX12_makesRegister_13 : decode cX12_makesRegister 13 = .ok (.isub, 1) := by decide +kernel
theorem dX12_makesRegister_14 : decode cX12_makesRegister 14 = .ok (.iastore, 1) := by decide +kernel
theorem dX12_makesRegister_15 : decode cX12_makesRegister 15 = .ok (.iconst 0, 1) := by decide +kernel
theorem dX12_makesRegister_16 : decode cX12_makesRegister 16 = .ok (.istore 6, 2) := by decide +kernel
theorem dX12_makesRegister_18 : decode cX12_makesRegister 18 = .ok (.iload 6, 2) := by decide +kernel
theorem dX12_makesRegister_20 : decode cX12_makesRegister 20 = .ok (.aload_n 0, 1) := by decide +kernel
theorem dX12_makesRegister_21 : decode cX12_makesRegister 21 = .ok (.getfield 52, 3) := by decide +kernel
theorem dX12_makesRegister_24 : decode cX12_makesRegister 24 = .ok (.iload_n 1, 1) := by decide +kernel
theorem dX12_makesRegister_25 : decode cX12_makesRegister 25 = .ok (.iaload, 1) := by decide +kernel
theorem dX12_makesRegister_26 : decode cX12_makesRegister 26 = .ok (.if_icmp .ge 53, 3) := by decide +kernel
theorem dX12_makesRegister_29 : decode cX12_makesRegister 29 = .ok (.aload_n 0, 1) := by decide +kernel
theorem dX12_makesRegister_30 : decode cX12_makesRegister 30 = .ok (.getfield 55, 3) := by decide +kernel
theorem dX12_makesRegister_33 : decode cX12_makesRegister 33 = .ok (.sipush 128, 3) := by decide +kernel
theorem dX12_makesRegister_36 : decode cX12_makesRegister 36 = .ok (.iload_n 1, 1) := by decide +kernel
theorem dX12_makesRegister_37 : decode cX12_makesRegister 37 = .ok (.imul, 1) := by decide +kernel
theorem dX12_makesRegister_38 : decode cX12_makesRegister 38 = .ok (.iload 6, 2) := by decide +kernel
theorem dX12_makesRegister_40 : decode cX12_makesRegister 40 = .ok (.iadd, 1) := by decide +kernel
theorem dX12_makesRegister_41 : decode cX12_makesRegister 41 = .ok (.iload 5, 2) := by decide +kernel
theorem dX12_makesRegister_43 : decode cX12_makesRegister 43 = .ok (.iconst 1, 1) := by decide +kernel
theorem dX12_makesRegister_44 : decode cX12_makesRegister 44 = .ok (.iand, 1) := by decide +kernel
theorem dX12_makesRegister_45 : decode cX12_makesRegister 45 = .ok (.iconst 1, 1) := by decide +kernel
theorem dX12_makesRegister_46 : decode cX12_makesRegister 46 = .ok (.if_icmp .ne 7, 3) := by decide +kernel
theorem dX12_makesRegister_49 : decode cX12_makesRegister 49 = .ok (.iconst (-1), 1) := by decide +kernel
theorem dX12_makesRegister_50 : decode cX12_makesRegister 50 = .ok (.goto 4, 3) := by decide +kernel
theorem dX12_makesRegister_53 : decode cX12_makesRegister 53 = .ok (.iconst 1, 1) := by decide +kernel
theorem dX12_makesRegister_54 : decode cX12_makesRegister 54 = .ok (.iastore, 1) := by decide +kernel
theorem dX12_makesRegister_55 : decode cX12_makesRegister 55 = .ok (.iload 5, 2) := by decide +kernel
theorem dX12_makesRegister_57 : decode cX12_makesRegister 57 = .ok (.iconst 1, 1) := by decide +kernel
theorem dX12_makesRegister_58 : decode cX12_makesRegister 58 = .ok (.ishr, 1) := by decide +kernel
theorem dX12_makesRegister_59 : decode cX12_makesRegister 59 = .ok (.iload 5, 2) := by decide +kernel
theorem dX12_makesRegister_61 : decode cX12_makesRegister 61 = .ok (.iload_n 3, 1) := by decide +kernel
theorem dX12_makesRegister_62 : decode cX12_makesRegister 62 = .ok (.iand, 1) := by decide +kernel
theorem dX12_makesRegister_63 : decode cX12_makesRegister 63 = .ok (.invokestatic 318, 3) := by decide +kernel
theorem dX12_makesRegister_66 : decode cX12_makesRegister 66 = .ok (.iload_n 2, 1) := by decide +kernel
theorem dX12_makesRegister_67 : decode cX12_makesRegister 67 = .ok (.iconst 1, 1) := by decide +kernel
theorem dX12_makesRegister_68 : decode cX12_makesRegister 68 = .ok (.isub, 1) := by decide +kernel
theorem dX12_makesRegister_69 : decode cX12_makesRegister 69 = .ok (.ishl, 1) := by decide +kernel
theorem dX12_makesRegister_70 : decode cX12_makesRegister 70 = .ok (.ior, 1) := by decide +kernel
theorem dX12_makesRegister_71 : decode cX12_makesRegister 71 = .ok (.istore 5, 2) := by decide +kernel
theorem dX12_makesRegister_73 : decode cX12_makesRegister 73 = .ok (.iinc 6 1, 3) := by decide +kernel
theorem dX12_makesRegister_76 : decode cX12_makesRegister 76 = .ok (.goto (-58), 3) := by decide +kernel
theorem dX12_makesRegister_79 : decode cX12_makesRegister 79 = .ok (.return_, 1) := by decide +kernel
set_option maxRecDepth 100000 in
theorem c_X12_makesRegister (l : Launch) (D : q_D) (al : q_Al) (dt : q_Dt) (x0 : Nat) (x1 : Int32) (x2 : Int32) (x3 : Int32) (x4 : Int32) (kx0 : al.1 x0 = 13) (dt0 : q_Dt) (hm : X12_makesRegister al dt x0 x1 x2 x3 x4 = some dt0) : q_Mt l yX12_makesRegister cX12_makesRegister 7 (none) 1 22 D al [.ref x0, .int x1, .int x2, .int x3, .int x4] dt 0 none dt0 := by
  refine q_Mt.of (by decide) (Nat.le_of_ble_eq_true rfl) ?_
  intro p e s m args below meth c ls C hargs hW hl
  have hx := C.1
  have hb := C.2.1
  have hown := C.2.2.2.2.2.1
  have hts := C.2.2.2.2.2.2.1
  have hS : va_S (q_A al) s.heap s.heap [] := va_S.rf
  have hl : lv_has ls 7 [(0, .ref x0), (1, .int x1), (2, .int x2), (3, .int x3), (4, .int x4)] := hl
  unfold X12_makesRegister at hm
  have hB18 : ∀ (x0_18 : Nat) (x1_18 : Int32) (x2_18 : Int32) (x3_18 : Int32) (kx0_18 : al.1 x0_18 = 13) (n_18 : Nat) (x5_18 : Int32) (x6_18 : Int32) (dt : q_Dt) (H : Heap) (locs : List Loc) (ls : Array Slot) (hm : X12_makesRegister_b18 al x0_18 x1_18 x2_18 x3_18 n_18 x5_18 x6_18 dt = some dt0) (hW : q_W D al dt H) (hS : va_S (q_A al) s.heap H locs) (hl : lv_has ls 7 [(0, .ref x0_18), (1, .int x1_18), (2, .int x2_18), (3, .int x3_18), (5, .int x5_18), (6, .int x6_18)]), W p l e { frames := 1, cells := 0, slots := 0, locals := 22 } s m args below meth c H locs 0 0 (MQ below (q_Q none (fun H => q_W D al dt0 H ∧ q_Rk al 0 none) (q_A al)) args s 0 0 (q_A al)) (F0 m 18 ls []) := by
    intro x0_18 x1_18 x2_18 x3_18 kx0_18
    intro n_18
    induction n_18 with
    | zero => intro x5_18 x6_18 dt H locs ls hm hW hS hl; cases hm
    | succ n_18 ih18 =>
      have hB54 : ∀ (x5_54 : Int32) (x6_54 : Int32) (t0_54 : Nat) (t1_54 : Int32) (t2_54 : Int32) (kt0_54 : al.1 t0_54 = 21) (dt : q_Dt) (H : Heap) (locs : List Loc) (ls : Array Slot) (hm : X12_makesRegister_b54 al (X12_makesRegister_b18 al x0_18 x1_18 x2_18 x3_18 n_18) x0_18 x1_18 x2_18 x3_18 x5_54 x6_54 t0_54 t1_54 t2_54 dt = some dt0) (hW : q_W D al dt H) (hS : va_S (q_A al) s.heap H locs) (hl : lv_has ls 7 [(0, .ref x0_18), (1, .int x1_18), (2, .int x2_18), (3, .int x3_18), (5, .int x5_54), (6, .int x6_54)]), W p l e { frames := 1, cells := 0, slots := 0, locals := 22 } s m args below meth c H locs 0 0 (MQ below (q_Q none (fun H => q_W D al dt0 H ∧ q_Rk al 0 none) (q_A al)) args s 0 0 (q_A al)) (F0 m 54 ls [.int t2_54, .int t1_54, .ref t0_54]) := by
        intro x5_54 x6_54 t0_54 t1_54 t2_54 kt0_54 dt H locs ls hm hW hS hl
        unfold X12_makesRegister_b54 at hm
        refine r_iast C hW hS hm kt0_54 dX12_makesRegister_54 (fun dt54001 H locs hm hW hS => ?_)
        refine lv_iload hx hb dX12_makesRegister_55 (lv_at hl 4 rfl) ?_
        refine lv_iconst (v := 1) hx hb dX12_makesRegister_57 (by decide) ?_
        refine lv_ishr hx hb dX12_makesRegister_58 ?_
        refine lv_iload hx hb dX12_makesRegister_59 (lv_at hl 4 rfl) ?_
        refine lv_iload_n hx hb dX12_makesRegister_61 rfl (lv_at hl 3 rfl) ?_
        refine lv_iand hx hb dX12_makesRegister_62 ?_
        obtain ⟨v54003, hc54002, hm⟩ := q_b1i hm
        refine q_callS C hW hS (As := [.int (x5_54 &&& x3_18)]) (rest := [.int (x5_54 >>> (1 &&& 31))]) (st1 := [.int v54003, .int (x5_54 >>> (1 &&& 31))]) (c_X12_odd l D al dt54001 (x5_54 &&& x3_18) v54003 hc54002) yl_X12_odd sl_X12_odd ml_RX12_318 rfl ⟨Nat.le_of_ble_eq_true rfl, Nat.le_of_ble_eq_true rfl⟩ hl rfl (Nat.le_of_ble_eq_true rfl) dX12_makesRegister_63 ⟨Nat.le_refl _, Nat.le_refl _⟩ rfl (fun H locs k54004 hW hS => ?_)
        refine lv_iload_n hx hb dX12_makesRegister_66 rfl (lv_at hl 2 rfl) ?_
        refine lv_iconst (v := 1) hx hb dX12_makesRegister_67 (by decide) ?_
        refine lv_isub hx hb dX12_makesRegister_68 ?_
        refine lv_ishl hx hb dX12_makesRegister_69 ?_
        refine lv_ior hx hb dX12_makesRegister_70 ?_
        refine q_nmI hm (fun v54005 ev54005 hm => ?_)
        refine lv_istore (i := 5) (lv' := [(5, .int v54005), (0, .ref x0_18), (1, .int x1_18), (2, .int x2_18), (3, .int x3_18), (6, .int x6_54)]) hx hb dX12_makesRegister_71 hl (by decide) rfl (fun ls hl => ?_)
        refine lv_iinc (v := (x6_54 + 1)) (lv' := [(6, .int (x6_54 + 1)), (5, .int v54005), (0, .ref x0_18), (1, .int x1_18), (2, .int x2_18), (3, .int x3_18)]) hx hb dX12_makesRegister_73 hl (k := 5) rfl rfl (by decide) rfl (fun ls hl => ?_)
        refine lv_goto (tgt := 18) hx hb dX12_makesRegister_76 (by decide) ?_
        exact ih18 v54005 (x6_54 + 1) dt54001 _ _ _ hm hW hS (lv_sub hl [2, 3, 4, 5, 1, 0] rfl)
      intro x5_18 x6_18 dt H locs ls hm hW hS hl
      rw [X12_makesRegister_b18] at hm
      refine lv_iload hx hb dX12_makesRegister_18 (lv_at hl 5 rfl) ?_
      refine lv_aload_n hx hb dX12_makesRegister_20 rfl (lv_at hl 0 rfl) ?_
      refine r_getF C hW (ci := 12) kx0_18 ff_12_25 cl_12 fl_RX12_52 dX12_makesRegister_21 (fun k18001 => ?_)
      refine lv_iload_n hx hb dX12_makesRegister_24 rfl (lv_at hl 1 rfl) ?_
      refine r_iald C hW hm k18001 dX12_makesRegister_25 (fun hm => ?_)
      refine q_ifc hm (fun c18002 hm => ?_) (fun c18002 hm => ?_)
      · refine lv_icmp_ge (tgt := 79) hx hb dX12_makesRegister_26 (by decide) (fun _ => ?_) (fun h => absurd c18002 h)
        exact e_vD C hW hS hm dX12_makesRegister_79
      refine lv_icmp_ge (tgt := 79) hx hb dX12_makesRegister_26 (by decide) (fun h => absurd h c18002) (fun _ => ?_)
      refine lv_aload_n hx hb dX12_makesRegister_29 rfl (lv_at hl 0 rfl) ?_
      refine r_getF C hW (ci := 12) kx0_18 ff_12_26 cl_12 fl_RX12_55 dX12_makesRegister_30 (fun k18003 => ?_)
      refine lv_sipush (v := 128) hx hb dX12_makesRegister_33 (by decide) ?_
      refine lv_iload_n hx hb dX12_makesRegister_36 rfl (lv_at hl 1 rfl) ?_
      refine lv_imul hx hb dX12_makesRegister_37 ?_
      refine lv_iload hx hb dX12_makesRegister_38 (lv_at hl 5 rfl) ?_
      refine lv_iadd hx hb dX12_makesRegister_40 ?_
      refine lv_iload hx hb dX12_makesRegister_41 (lv_at hl 4 rfl) ?_
      refine lv_iconst (v := 1) hx hb dX12_makesRegister_43 (by decide) ?_
      refine lv_iand hx hb dX12_makesRegister_44 ?_
      refine lv_iconst (v := 1) hx hb dX12_makesRegister_45 (by decide) ?_
      refine q_ifc hm (fun c18004 hm => ?_) (fun c18004 hm => ?_)
      · refine lv_icmp_ne (tgt := 53) hx hb dX12_makesRegister_46 (by decide) (fun h => absurd c18004 h) (fun _ => ?_)
        refine lv_iconst (v := (-1)) hx hb dX12_makesRegister_49 (by decide) ?_
        refine lv_goto (tgt := 54) hx hb dX12_makesRegister_50 (by decide) ?_
        exact hB54 x5_18 x6_18 (al.2.2 x0_18 26) ((128 * x1_18) + x6_18) (-1) k18003 dt _ _ _ hm hW hS (lv_sub hl [0, 1, 2, 3, 4, 5] rfl)
      refine lv_icmp_ne (tgt := 53) hx hb dX12_makesRegister_46 (by decide) (fun _ => ?_) (fun h => absurd h c18004)
      refine lv_iconst (v := 1) hx hb dX12_makesRegister_53 (by decide) ?_
      exact hB54 x5_18 x6_18 (al.2.2 x0_18 26) ((128 * x1_18) + x6_18) 1 k18003 dt _ _ _ hm hW hS (lv_sub hl [0, 1, 2, 3, 4, 5] rfl)
  refine lv_iload hx hb dX12_makesRegister_0 (lv_at hl 4 rfl) ?_
  refine lv_istore (i := 5) (lv' := [(5, .int x4), (0, .ref x0), (1, .int x1), (2, .int x2), (3, .int x3), (4, .int x4)]) hx hb dX12_makesRegister_2 hl (by decide) rfl (fun ls hl => ?_)
  refine lv_aload_n hx hb dX12_makesRegister_4 rfl (lv_at hl 1 rfl) ?_
  refine r_getF C hW (ci := 12) kx0 ff_12_25 cl_12 fl_RX12_52 dX12_makesRegister_5 (fun k1000001 => ?_)
  refine lv_iload_n hx hb dX12_makesRegister_8 rfl (lv_at hl 2 rfl) ?_
  refine lv_iconst (v := 1) hx hb dX12_makesRegister_9 (by decide) ?_
  refine lv_iload_n hx hb dX12_makesRegister_10 rfl (lv_at hl 3 rfl) ?_
  refine lv_ishl hx hb dX12_makesRegister_11 ?_
  refine lv_iconst (v := 1) hx hb dX12_makesRegister_12 (by decide) ?_
  refine lv_isub hx hb dX12_makesRegister_13 ?_
  refine r_iast C hW hS hm k1000001 dX12_makesRegister_14 (fun dt1000002 H locs hm hW hS => ?_)
  refine lv_iconst (v := 0) hx hb dX12_makesRegister_15 (by decide) ?_
  refine lv_istore (i := 6) (lv' := [(6, .int 0), (5, .int x4), (0, .ref x0), (1, .int x1), (2, .int x2), (3, .int x3), (4, .int x4)]) hx hb dX12_makesRegister_16 hl (by decide) rfl (fun ls hl => ?_)
  exact hB18 x0 x1 x2 x3 kx0 q_FU x4 0 dt1000002 _ _ _ hm hW hS (lv_sub hl [2, 3, 4, 5, 1, 0] rfl)
theorem dX12_makesHalves_0 : decode cX12_makesHalves 0 = .ok (.aload_n 0, 1) := by decide +kernel
theorem dX12_makesHalves_1 : decode cX12_makesHalves 1 = .ok (.getfield 52, 3) := by decide +kernel
theorem dX12_makesHalves_4 : decode cX12_makesHalves 4 = .ok (.iload_n 1, 1) := by decide +kernel
theorem dX12_makesHalves_5 : decode cX12_makesHalves 5 = .ok (.iconst 1, 1) := by decide +kernel
theorem dX12_makesHalves_6 : decode cX12_makesHalves 6 = .ok (.iload_n 2, 1) := by decide +kernel
theorem dX12_makesHalves_7 : decode cX12_makesHalves 7 = .ok (.ishl, 1) := by decide +kernel
theorem dX12_makesHalves_8 : decode cX12_makesHalves 8 = .ok (.iastore, 1) := by decide +kernel
theorem dX12_makesHalves_9 : decode cX12_makesHalves 9 = .ok (.iconst 0, 1) := by decide +kernel
theorem dX12_makesHalves_10 : decode cX12_makesHalves 10 = .ok (.istore 4, 2) := by decide +kernel
theorem dX12_makesHalves_12 : decode cX12_makesHalves 12 = .ok (.iload 4, 2) := by decide +kernel
theorem dX12_makesHalves_14 : decode cX12_makesHalves 14 = .ok (.aload_n 0, 1) := by decide +kernel
theorem dX12_makesHalves_15 : decode cX12_makesHalves 15 = .ok (.getfield 52, 3) := by decide +kernel
theorem dX12_makesHalves_18 : decode cX12_makesHalves 18 = .ok (.iload_n 1, 1) := by decide +kernel
theorem dX12_makesHalves_19 : decode cX12_makesHalves 19 = .ok (.iaload, 1) := by decide +kernel
theorem dX12_makesHalves_20 : decode cX12_makesHalves 20 = .ok (.if_icmp .ge 38, 3) := by decide +kernel
theorem dX12_makesHalves_23 : decode cX12_makesHalves 23 = .ok (.aload_n 0, 1) := by decide +kernel
theorem dX12_makesHalves_24 : decode cX12_makesHalves 24 = .ok (.getfield 55, 3) := by decide +kernel
theorem dX12_makesHalves_27 : decode cX12_makesHalves 27 = .ok (.sipush 128, 3) := by decide +kernel
theorem dX12_makesHalves_30 : decode cX12_makesHalves 30 = .ok (.iload_n 1, 1) := by decide +kernel
theorem dX12_makesHalves_31 : decode cX12_makesHalves 31 = .ok (.imul, 1) := by decide +kernel
theorem dX12_makesHalves_32 : decode cX12_makesHalves 32 = .ok (.iload 4, 2) := by decide +kernel
theorem dX12_makesHalves_34 : decode cX12_makesHalves 34 = .ok (.iadd, 1) := by decide +kernel
theorem dX12_makesHalves_35 : decode cX12_makesHalves 35 = .ok (.iload 4, 2) := by decide +kernel
theorem dX12_makesHalves_37 : decode cX12_makesHalves 37 = .ok (.iload_n 3, 1) := by decide +kernel
theorem dX12_makesHalves_38 : decode cX12_makesHalves 38 = .ok (.iand, 1) := by decide +kernel
theorem dX12_makesHalves_39 : decode cX12_makesHalves 39 = .ok (.invokestatic 318, 3) := by decide +kernel
theorem dX12_makesHalves_42 : decode cX12_makesHalves 42 = .ok (.iconst 1, 1) := by decide +kernel
theorem dX12_makesHalves_43 : decode cX12_makesHalves 43 = .ok (.if_icmp .ne 7, 3) := by decide +kernel
theorem dX12_makesHalves_46 : decode cX12_makesHalves 46 = .ok (.iconst (-1), 1) := by decide +kernel
theorem dX12_makesHalves_47 : decode cX12_makesHalves 47 = .ok (.goto 4, 3) := by decide +kernel
theorem dX12_makesHalves_50 : decode cX12_makesHalves 50 = .ok (.iconst 1, 1) := by decide +kernel
theorem dX12_makesHalves_51 : decode cX12_makesHalves 51 = .ok (.iastore, 1) := by decide +kernel
theorem dX12_makesHalves_52 : decode cX12_makesHalves 52 = .ok (.iinc 4 1, 3) := by decide +kernel
theorem dX12_makesHalves_55 : decode cX12_makesHalves 55 = .ok (.goto (-43), 3) := by decide +kernel
theorem dX12_makesHalves_58 : decode cX12_makesHalves 58 = .ok (.return_, 1) := by decide +kernel
set_option maxRecDepth 100000 in
theorem c_X12_makesHalves (l : Launch) (D : q_D) (al : q_Al) (dt : q_Dt) (x0 : Nat) (x1 : Int32) (x2 : Int32) (x3 : Int32) (kx0 : al.1 x0 = 13) (dt0 : q_Dt) (hm : X12_makesHalves al dt x0 x1 x2 x3 = some dt0) : q_Mt l yX12_makesHalves cX12_makesHalves 5 (none) 1 22 D al [.ref x0, .int x1, .int x2, .int x3] dt 0 none dt0 := by
  refine q_Mt.of (by decide) (Nat.le_of_ble_eq_true rfl) ?_
  intro p e s m args below meth c ls C hargs hW hl
  have hx := C.1
  have hb := C.2.1
  have hown := C.2.2.2.2.2.1
  have hts := C.2.2.2.2.2.2.1
  have hS : va_S (q_A al) s.heap s.heap [] := va_S.rf
  have hl : lv_has ls 5 [(0, .ref x0), (1, .int x1), (2, .int x2), (3, .int x3)] := hl
  unfold X12_makesHalves at hm
  have hB12 : ∀ (x0_12 : Nat) (x1_12 : Int32) (x3_12 : Int32) (kx0_12 : al.1 x0_12 = 13) (n_12 : Nat) (x4_12 : Int32) (dt : q_Dt) (H : Heap) (locs : List Loc) (ls : Array Slot) (hm : X12_makesHalves_b12 al x0_12 x1_12 x3_12 n_12 x4_12 dt = some dt0) (hW : q_W D al dt H) (hS : va_S (q_A al) s.heap H locs) (hl : lv_has ls 5 [(0, .ref x0_12), (1, .int x1_12), (3, .int x3_12), (4, .int x4_12)]), W p l e { frames := 1, cells := 0, slots := 0, locals := 22 } s m args below meth c H locs 0 0 (MQ below (q_Q none (fun H => q_W D al dt0 H ∧ q_Rk al 0 none) (q_A al)) args s 0 0 (q_A al)) (F0 m 12 ls []) := by
    intro x0_12 x1_12 x3_12 kx0_12
    intro n_12
    induction n_12 with
    | zero => intro x4_12 dt H locs ls hm hW hS hl; cases hm
    | succ n_12 ih12 =>
      have hB51 : ∀ (x4_51 : Int32) (t0_51 : Nat) (t1_51 : Int32) (t2_51 : Int32) (kt0_51 : al.1 t0_51 = 21) (dt : q_Dt) (H : Heap) (locs : List Loc) (ls : Array Slot) (hm : X12_makesHalves_b51 al (X12_makesHalves_b12 al x0_12 x1_12 x3_12 n_12) x0_12 x1_12 x3_12 x4_51 t0_51 t1_51 t2_51 dt = some dt0) (hW : q_W D al dt H) (hS : va_S (q_A al) s.heap H locs) (hl : lv_has ls 5 [(0, .ref x0_12), (1, .int x1_12), (3, .int x3_12), (4, .int x4_51)]), W p l e { frames := 1, cells := 0, slots := 0, locals := 22 } s m args below meth c H locs 0 0 (MQ below (q_Q none (fun H => q_W D al dt0 H ∧ q_Rk al 0 none) (q_A al)) args s 0 0 (q_A al)) (F0 m 51 ls [.int t2_51, .int t1_51, .ref t0_51]) := by
        intro x4_51 t0_51 t1_51 t2_51 kt0_51 dt H locs ls hm hW hS hl
        unfold X12_makesHalves_b51 at hm
        refine r_iast C hW hS hm kt0_51 dX12_makesHalves_51 (fun dt51001 H locs hm hW hS => ?_)
        refine lv_iinc (v := (x4_51 + 1)) (lv' := [(4, .int (x4_51 + 1)), (0, .ref x0_12), (1, .int x1_12), (3, .int x3_12)]) hx hb dX12_makesHalves_52 hl (k := 3) rfl rfl (by decide) rfl (fun ls hl => ?_)
        refine lv_goto (tgt := 12) hx hb dX12_makesHalves_55 (by decide) ?_
        exact ih12 (x4_51 + 1) dt51001 _ _ _ hm hW hS (lv_sub hl [1, 2, 3, 0] rfl)
      intro x4_12 dt H locs ls hm hW hS hl
      rw [X12_makesHalves_b12] at hm
      refine lv_iload hx hb dX12_makesHalves_12 (lv_at hl 3 rfl) ?_
      refine lv_aload_n hx hb dX12_makesHalves_14 rfl (lv_at hl 0 rfl) ?_
      refine r_getF C hW (ci := 12) kx0_12 ff_12_25 cl_12 fl_RX12_52 dX12_makesHalves_15 (fun k12001 => ?_)
      refine lv_iload_n hx hb dX12_makesHalves_18 rfl (lv_at hl 1 rfl) ?_
      refine r_iald C hW hm k12001 dX12_makesHalves_19 (fun hm => ?_)
      refine q_ifc hm (fun c12002 hm => ?_) (fun c12002 hm => ?_)
      · refine lv_icmp_ge (tgt := 58) hx hb dX12_makesHalves_20 (by decide) (fun _ => ?_) (fun h => absurd c12002 h)
        exact e_vD C hW hS hm dX12_makesHalves_58
      refine lv_icmp_ge (tgt := 58) hx hb dX12_makesHalves_20 (by decide) (fun h => absurd h c12002) (fun _ => ?_)
      refine lv_aload_n hx hb dX12_makesHalves_23 rfl (lv_at hl 0 rfl) ?_
      refine r_getF C hW (ci := 12) kx0_12 ff_12_26 cl_12 fl_RX12_55 dX12_makesHalves_24 (fun k12003 => ?_)
      refine lv_sipush (v := 128) hx hb dX12_makesHalves_27 (by decide) ?_
      refine lv_iload_n hx hb dX12_makesHalves_30 rfl (lv_at hl 1 rfl) ?_
      refine lv_imul hx hb dX12_makesHalves_31 ?_
      refine lv_iload hx hb dX12_makesHalves_32 (lv_at hl 3 rfl) ?_
      refine lv_iadd hx hb dX12_makesHalves_34 ?_
      refine lv_iload hx hb dX12_makesHalves_35 (lv_at hl 3 rfl) ?_
      refine lv_iload_n hx hb dX12_makesHalves_37 rfl (lv_at hl 2 rfl) ?_
      refine lv_iand hx hb dX12_makesHalves_38 ?_
      obtain ⟨v12005, hc12004, hm⟩ := q_b1i hm
      refine q_callS C hW hS (As := [.int (x4_12 &&& x3_12)]) (rest := [.int ((128 * x1_12) + x4_12), .ref (al.2.2 x0_12 26)]) (st1 := [.int v12005, .int ((128 * x1_12) + x4_12), .ref (al.2.2 x0_12 26)]) (c_X12_odd l D al dt (x4_12 &&& x3_12) v12005 hc12004) yl_X12_odd sl_X12_odd ml_RX12_318 rfl ⟨Nat.le_of_ble_eq_true rfl, Nat.le_of_ble_eq_true rfl⟩ hl rfl (Nat.le_of_ble_eq_true rfl) dX12_makesHalves_39 ⟨Nat.le_refl _, Nat.le_refl _⟩ rfl (fun H locs k12006 hW hS => ?_)
      refine lv_iconst (v := 1) hx hb dX12_makesHalves_42 (by decide) ?_
      refine q_ifc hm (fun c12007 hm => ?_) (fun c12007 hm => ?_)
      · refine lv_icmp_ne (tgt := 50) hx hb dX12_makesHalves_43 (by decide) (fun h => absurd c12007 h) (fun _ => ?_)
        refine lv_iconst (v := (-1)) hx hb dX12_makesHalves_46 (by decide) ?_
        refine lv_goto (tgt := 51) hx hb dX12_makesHalves_47 (by decide) ?_
        exact hB51 x4_12 (al.2.2 x0_12 26) ((128 * x1_12) + x4_12) (-1) k12003 dt _ _ _ hm hW hS (lv_sub hl [0, 1, 2, 3] rfl)
      refine lv_icmp_ne (tgt := 50) hx hb dX12_makesHalves_43 (by decide) (fun _ => ?_) (fun h => absurd h c12007)
      refine lv_iconst (v := 1) hx hb dX12_makesHalves_50 (by decide) ?_
      exact hB51 x4_12 (al.2.2 x0_12 26) ((128 * x1_12) + x4_12) 1 k12003 dt _ _ _ hm hW hS (lv_sub hl [0, 1, 2, 3] rfl)
  refine lv_aload_n hx hb dX12_makesHalves_0 rfl (lv_at hl 0 rfl) ?_
  refine r_getF C hW (ci := 12) kx0 ff_12_25 cl_12 fl_RX12_52 dX12_makesHalves_1 (fun k1000001 => ?_)
  refine lv_iload_n hx hb dX12_makesHalves_4 rfl (lv_at hl 1 rfl) ?_
  refine lv_iconst (v := 1) hx hb dX12_makesHalves_5 (by decide) ?_
  refine lv_iload_n hx hb dX12_makesHalves_6 rfl (lv_at hl 2 rfl) ?_
  refine lv_ishl hx hb dX12_makesHalves_7 ?_
  refine r_iast C hW hS hm k1000001 dX12_makesHalves_8 (fun dt1000002 H locs hm hW hS => ?_)
  refine lv_iconst (v := 0) hx hb dX12_makesHalves_9 (by decide) ?_
  refine lv_istore (i := 4) (lv' := [(4, .int 0), (0, .ref x0), (1, .int x1), (2, .int x2), (3, .int x3)]) hx hb dX12_makesHalves_10 hl (by decide) rfl (fun ls hl => ?_)
  exact hB12 x0 x1 x3 kx0 q_FU 0 dt1000002 _ _ _ hm hW hS (lv_sub hl [1, 2, 4, 0] rfl)
theorem dX12_makesBits_0 : decode cX12_makesBits 0 = .ok (.aload_n 0, 1) := by decide +kernel
theorem dX12_makesBits_1 : decode cX12_makesBits 1 = .ok (.getfield 52, 3) := by decide +kernel
theorem dX12_makesBits_4 : decode cX12_makesBits 4 = .ok (.iload_n 1, 1) := by decide +kernel
theorem dX12_makesBits_5 : decode cX12_makesBits 5 = .ok (.iload_n 2, 1) := by decide +kernel
theorem dX12_makesBits_6 : decode cX12_makesBits 6 = .ok (.iastore, 1) := by decide +kernel
theorem dX12_makesBits_7 : decode cX12_makesBits 7 = .ok (.iconst 0, 1) := by decide +kernel
theorem dX12_makesBits_8 : decode cX12_makesBits 8 = .ok (.istore 4, 2) := by decide +kernel
theorem dX12_makesBits_10 : decode cX12_makesBits 10 = .ok (.iload 4, 2) := by decide +kernel
theorem dX12_makesBits_12 : decode cX12_makesBits 12 = .ok (.iload_n 2, 1) := by decide +kernel
theorem dX12_makesBits_13 : decode cX12_makesBits 13 = .ok (.if_icmp .ge 37, 3) := by decide +kernel
theorem dX12_makesBits_16 : decode cX12_makesBits 16 = .ok (.aload_n 0, 1) := by decide +kernel
theorem dX12_makesBits_17 : decode cX12_makesBits 17 = .ok (.getfield 55, 3) := by decide +kernel
theorem dX12_makesBits_20 : decode cX12_makesBits 20 = .ok (.sipush 128, 3) := by decide +kernel
theorem dX12_makesBits_23 : decode cX12_makesBits 23 = .ok (.iload_n 1, 1) := by decide +kernel
theorem dX12_makesBits_24 : decode cX12_makesBits 24 = .ok (.imul, 1) := by decide +kernel
theorem dX12_makesBits_25 : decode cX12_makesBits 25 = .ok (.iload 4, 2) := by decide +kernel
theorem dX12_makesBits_27 : decode cX12_makesBits 27 = .ok (.iadd, 1) := by decide +kernel
theorem dX12_makesBits_28 : decode cX12_makesBits 28 = .ok (.iload_n 3, 1) := by decide +kernel
theorem dX12_makesBits_29 : decode cX12_makesBits 29 = .ok (.iload 4, 2) := by decide +kernel
theorem dX12_makesBits_31 : decode cX12_makesBits 31 = .ok (.ishr, 1) := by decide +kernel
theorem dX12_makesBits_32 : decode cX12_makesBits 32 = .ok (.iconst 1, 1) := by decide +kernel
theorem dX12_makesBits_33 : decode cX12_makesBits 33 = .ok (.iand, 1) := by decide +kernel
theorem dX12_makesBits_34 : decode cX12_makesBits 34 = .ok (.iconst 1, 1) := by decide +kernel
theorem dX12_makesBits_35 : decode cX12_makesBits 35 = .ok (.if_icmp .ne 7, 3) := by decide +kernel
theorem dX12_makesBits_38 : decode cX12_makesBits 38 = .ok (.iconst (-1), 1) := by decide +kernel
theorem dX12_makesBits_39 : decode cX12_makesBits 39 = .ok (.goto 4, 3) := by decide +kernel
theorem dX12_makesBits_42 : decode cX12_makesBits 42 = .ok (.iconst 1, 1) := by decide +kernel
theorem dX12_makesBits_43 : decode cX12_makesBits 43 = .ok (.iastore, 1) := by decide +kernel
theorem dX12_makesBits_44 : decode cX12_makesBits 44 = .ok (.iinc 4 1, 3) := by decide +kernel
theorem dX12_makesBits_47 : decode cX12_makesBits 47 = .ok (.goto (-37), 3) := by decide +kernel
theorem dX12_makesBits_50 : decode cX12_makesBits 50 = .ok (.return_, 1) := by decide +kernel
set_option maxRecDepth 100000 in
theorem c_X12_makesBits (l : Launch) (D : q_D) (al : q_Al) (dt : q_Dt) (x0 : Nat) (x1 : Int32) (x2 : Int32) (x3 : Int32) (kx0 : al.1 x0 = 13) (dt0 : q_Dt) (hm : X12_makesBits al dt x0 x1 x2 x3 = some dt0) : q_Mt l yX12_makesBits cX12_makesBits 5 (none) 0 0 D al [.ref x0, .int x1, .int x2, .int x3] dt 0 none dt0 := by
  refine q_Mt.of (by decide) (Nat.le_of_ble_eq_true rfl) ?_
  intro p e s m args below meth c ls C hargs hW hl
  have hx := C.1
  have hb := C.2.1
  have hown := C.2.2.2.2.2.1
  have hts := C.2.2.2.2.2.2.1
  have hS : va_S (q_A al) s.heap s.heap [] := va_S.rf
  have hl : lv_has ls 5 [(0, .ref x0), (1, .int x1), (2, .int x2), (3, .int x3)] := hl
  unfold X12_makesBits at hm
  have hB10 : ∀ (x0_10 : Nat) (x1_10 : Int32) (x2_10 : Int32) (x3_10 : Int32) (kx0_10 : al.1 x0_10 = 13) (n_10 : Nat) (x4_10 : Int32) (dt : q_Dt) (H : Heap) (locs : List Loc) (ls : Array Slot) (hm : X12_makesBits_b10 al x0_10 x1_10 x2_10 x3_10 n_10 x4_10 dt = some dt0) (hW : q_W D al dt H) (hS : va_S (q_A al) s.heap H locs) (hl : lv_has ls 5 [(0, .ref x0_10), (1, .int x1_10), (2, .int x2_10), (3, .int x3_10), (4, .int x4_10)]), W p l e { frames := 0, cells := 0, slots := 0, locals := 0 } s m args below meth c H locs 0 0 (MQ below (q_Q none (fun H => q_W D al dt0 H ∧ q_Rk al 0 none) (q_A al)) args s 0 0 (q_A al)) (F0 m 10 ls []) := by
    intro x0_10 x1_10 x2_10 x3_10 kx0_10
    intro n_10
    induction n_10 with
    | zero => intro x4_10 dt H locs ls hm hW hS hl; cases hm
    | succ n_10 ih10 =>
      have hB43 : ∀ (x4_43 : Int32) (t0_43 : Nat) (t1_43 : Int32) (t2_43 : Int32) (kt0_43 : al.1 t0_43 = 21) (dt : q_Dt) (H : Heap) (locs : List Loc) (ls : Array Slot) (hm : X12_makesBits_b43 al (X12_makesBits_b10 al x0_10 x1_10 x2_10 x3_10 n_10) x0_10 x1_10 x2_10 x3_10 x4_43 t0_43 t1_43 t2_43 dt = some dt0) (hW : q_W D al dt H) (hS : va_S (q_A al) s.heap H locs) (hl : lv_has ls 5 [(0, .ref x0_10), (1, .int x1_10), (2, .int x2_10), (3, .int x3_10), (4, .int x4_43)]), W p l e { frames := 0, cells := 0, slots := 0, locals := 0 } s m args below meth c H locs 0 0 (MQ below (q_Q none (fun H => q_W D al dt0 H ∧ q_Rk al 0 none) (q_A al)) args s 0 0 (q_A al)) (F0 m 43 ls [.int t2_43, .int t1_43, .ref t0_43]) := by
        intro x4_43 t0_43 t1_43 t2_43 kt0_43 dt H locs ls hm hW hS hl
        unfold X12_makesBits_b43 at hm
        refine r_iast C hW hS hm kt0_43 dX12_makesBits_43 (fun dt43001 H locs hm hW hS => ?_)
        refine lv_iinc (v := (x4_43 + 1)) (lv' := [(4, .int (x4_43 + 1)), (0, .ref x0_10), (1, .int x1_10), (2, .int x2_10), (3, .int x3_10)]) hx hb dX12_makesBits_44 hl (k := 4) rfl rfl (by decide) rfl (fun ls hl => ?_)
        refine lv_goto (tgt := 10) hx hb dX12_makesBits_47 (by decide) ?_
        exact ih10 (x4_43 + 1) dt43001 _ _ _ hm hW hS (lv_sub hl [1, 2, 3, 4, 0] rfl)
      intro x4_10 dt H locs ls hm hW hS hl
      rw [X12_makesBits_b10] at hm
      refine lv_iload hx hb dX12_makesBits_10 (lv_at hl 4 rfl) ?_
      refine lv_iload_n hx hb dX12_makesBits_12 rfl (lv_at hl 2 rfl) ?_
      refine q_ifc hm (fun c10001 hm => ?_) (fun c10001 hm => ?_)
      · refine lv_icmp_ge (tgt := 50) hx hb dX12_makesBits_13 (by decide) (fun _ => ?_) (fun h => absurd c10001 h)
        exact e_vD C hW hS hm dX12_makesBits_50
      refine lv_icmp_ge (tgt := 50) hx hb dX12_makesBits_13 (by decide) (fun h => absurd h c10001) (fun _ => ?_)
      refine lv_aload_n hx hb dX12_makesBits_16 rfl (lv_at hl 0 rfl) ?_
      refine r_getF C hW (ci := 12) kx0_10 ff_12_26 cl_12 fl_RX12_55 dX12_makesBits_17 (fun k10002 => ?_)
      refine lv_sipush (v := 128) hx hb dX12_makesBits_20 (by decide) ?_
      refine lv_iload_n hx hb dX12_makesBits_23 rfl (lv_at hl 1 rfl) ?_
      refine lv_imul hx hb dX12_makesBits_24 ?_
      refine lv_iload hx hb dX12_makesBits_25 (lv_at hl 4 rfl) ?_
      refine lv_iadd hx hb dX12_makesBits_27 ?_
      refine lv_iload_n hx hb dX12_makesBits_28 rfl (lv_at hl 3 rfl) ?_
      refine lv_iload hx hb dX12_makesBits_29 (lv_at hl 4 rfl) ?_
      refine lv_ishr hx hb dX12_makesBits_31 ?_
      refine lv_iconst (v := 1) hx hb dX12_makesBits_32 (by decide) ?_
      refine lv_iand hx hb dX12_makesBits_33 ?_
      refine lv_iconst (v := 1) hx hb dX12_makesBits_34 (by decide) ?_
      refine q_ifc hm (fun c10003 hm => ?_) (fun c10003 hm => ?_)
      · refine lv_icmp_ne (tgt := 42) hx hb dX12_makesBits_35 (by decide) (fun h => absurd c10003 h) (fun _ => ?_)
        refine lv_iconst (v := (-1)) hx hb dX12_makesBits_38 (by decide) ?_
        refine lv_goto (tgt := 43) hx hb dX12_makesBits_39 (by decide) ?_
        exact hB43 x4_10 (al.2.2 x0_10 26) ((128 * x1_10) + x4_10) (-1) k10002 dt _ _ _ hm hW hS (lv_sub hl [0, 1, 2, 3, 4] rfl)
      refine lv_icmp_ne (tgt := 42) hx hb dX12_makesBits_35 (by decide) (fun _ => ?_) (fun h => absurd h c10003)
      refine lv_iconst (v := 1) hx hb dX12_makesBits_42 (by decide) ?_
      exact hB43 x4_10 (al.2.2 x0_10 26) ((128 * x1_10) + x4_10) 1 k10002 dt _ _ _ hm hW hS (lv_sub hl [0, 1, 2, 3, 4] rfl)
  refine lv_aload_n hx hb dX12_makesBits_0 rfl (lv_at hl 0 rfl) ?_
  refine r_getF C hW (ci := 12) kx0 ff_12_25 cl_12 fl_RX12_52 dX12_makesBits_1 (fun k1000001 => ?_)
  refine lv_iload_n hx hb dX12_makesBits_4 rfl (lv_at hl 1 rfl) ?_
  refine lv_iload_n hx hb dX12_makesBits_5 rfl (lv_at hl 2 rfl) ?_
  refine r_iast C hW hS hm k1000001 dX12_makesBits_6 (fun dt1000002 H locs hm hW hS => ?_)
  refine lv_iconst (v := 0) hx hb dX12_makesBits_7 (by decide) ?_
  refine lv_istore (i := 4) (lv' := [(4, .int 0), (0, .ref x0), (1, .int x1), (2, .int x2), (3, .int x3)]) hx hb dX12_makesBits_8 hl (by decide) rfl (fun ls hl => ?_)
  exact hB10 x0 x1 x2 x3 kx0 q_FU 0 dt1000002 _ _ _ hm hW hS (lv_sub hl [1, 2, 3, 4, 0] rfl)
theorem dX12_known_0 : decode cX12_known 0 = .ok (.aload_n 0, 1) := by decide +kernel
theorem dX12_known_1 : decode cX12_known 1 = .ok (.getfield 215, 3) := by decide +kernel
theorem dX12_known_4 : decode cX12_known 4 = .ok (.istore_n 2, 1) := by decide +kernel
theorem dX12_known_5 : decode cX12_known 5 = .ok (.aload_n 0, 1) := by decide +kernel
theorem dX12_known_6 : decode cX12_known 6 = .ok (.iconst 1, 1) := by decide +kernel
theorem dX12_known_7 : decode cX12_known 7 = .ok (.invokevirtual 280, 3) := by decide +kernel
theorem dX12_known_10 : decode cX12_known 10 = .ok (.aload_n 0, 1) := by decide +kernel
theorem dX12_known_11 : decode cX12_known 11 = .ok (.getfield 212, 3) := by decide +kernel
theorem dX12_known_14 : decode cX12_known 14 = .ok (.ifCond .le 5, 3) := by decide +kernel
theorem dX12_known_17 : decode cX12_known 17 = .ok (.iconst (-1), 1) := by decide +kernel
theorem dX12_known_18 : decode cX12_known 18 = .ok (.ireturn, 1) := by decide +kernel
theorem dX12_known_19 : decode cX12_known 19 = .ok (.iconst 0, 1) := by decide +kernel
theorem dX12_known_20 : decode cX12_known 20 = .ok (.istore_n 3, 1) := by decide +kernel
theorem dX12_known_21 : decode cX12_known 21 = .ok (.iload_n 3, 1) := by decide +kernel
theorem dX12_known_22 : decode cX12_known 22 = .ok (.aload_n 0, 1) := by decide +kernel
theorem dX12_known_23 : decode cX12_known 23 = .ok (.getfield 248, 3) := by decide +kernel
theorem dX12_known_26 : decode cX12_known 26 = .ok (.if_icmp .ge 42, 3) := by decide +kernel
theorem dX12_known_29 : decode cX12_known 29 = .ok (.aload_n 0, 1) := by decide +kernel
theorem dX12_known_30 : decode cX12_known 30 = .ok (.getfield 40, 3) := by decide +kernel
theorem dX12_known_33 : decode cX12_known 33 = .ok (.iload_n 3, 1) := by decide +kernel
theorem dX12_known_34 : decode cX12_known 34 = .ok (.laload, 1) := by decide +kernel
theorem dX12_known_35 : decode cX12_known 35 = .ok (.aload_n 0, 1) := by decide +kernel
theorem dX12_known_36 : decode cX12_known 36 = .ok (.getfield 30, 3) := by decide +kernel
theorem dX12_known_39 : decode cX12_known 39 = .ok (.iload_n 2, 1) := by decide +kernel
theorem dX12_known_40 : decode cX12_known 40 = .ok (.laload, 1) := by decide +kernel
theorem dX12_known_41 : decode cX12_known 41 = .ok (.lcmp, 1) := by decide +kernel
theorem dX12_known_42 : decode cX12_known 42 = .ok (.ifCond .ne 20, 3) := by decide +kernel
theorem dX12_known_45 : decode cX12_known 45 = .ok (.aload_n 0, 1) := by decide +kernel
theorem dX12_known_46 : decode cX12_known 46 = .ok (.getfield 43, 3) := by decide +kernel
theorem dX12_known_49 : decode cX12_known 49 = .ok (.iload_n 3, 1) := by decide +kernel
theorem dX12_known_50 : decode cX12_known 50 = .ok (.iaload, 1) := by decide +kernel
theorem dX12_known_51 : decode cX12_known 51 = .ok (.iload_n 1, 1) := by decide +kernel
theorem dX12_known_52 : decode cX12_known 52 = .ok (.if_icmp .ne 10, 3) := by decide +kernel
theorem dX12_known_55 : decode cX12_known 55 = .ok (.aload_n 0, 1) := by decide +kernel
theorem dX12_known_56 : decode cX12_known 56 = .ok (.getfield 46, 3) := by decide +kernel
theorem dX12_known_59 : decode cX12_known 59 = .ok (.iload_n 3, 1) := by decide +kernel
theorem dX12_known_60 : decode cX12_known 60 = .ok (.iaload, 1) := by decide +kernel
theorem dX12_known_61 : decode cX12_known 61 = .ok (.ireturn, 1) := by decide +kernel
theorem dX12_known_62 : decode cX12_known 62 = .ok (.iinc 3 1, 3) := by decide +kernel
theorem dX12_known_65 : decode cX12_known 65 = .ok (.goto (-44), 3) := by decide +kernel
theorem dX12_known_68 : decode cX12_known 68 = .ok (.aload_n 0, 1) := by decide +kernel
theorem dX12_known_69 : decode cX12_known 69 = .ok (.iconst 4, 1) := by decide +kernel
theorem dX12_known_70 : decode cX12_known 70 = .ok (.iload_n 2, 1) := by decide +kernel
theorem dX12_known_71 : decode cX12_known 71 = .ok (.invokevirtual 283, 3) := by decide +kernel
theorem dX12_known_74 : decode cX12_known 74 = .ok (.iconst (-1), 1) := by decide +kernel
theorem dX12_known_75 : decode cX12_known 75 = .ok (.ireturn, 1) := by decide +kernel
set_option maxRecDepth 100000 in
theorem c_X12_known (l : Launch) (D : q_D) (al : q_Al) (dt : q_Dt) (x0 : Nat) (x1 : Int32) (kx0 : al.1 x0 = 13) (r0 : Int32) (dt0 : q_Dt) (hm : X12_known al dt x0 x1 = some (r0, dt0)) : q_Mt l yX12_known cX12_known 4 (some FieldType.int) 3 62 D al [.ref x0, .int x1] dt 0 (some (.int r0)) dt0 := by
  refine q_Mt.of (by decide) (Nat.le_of_ble_eq_true rfl) ?_
  intro p e s m args below meth c ls C hargs hW hl
  have hx := C.1
  have hb := C.2.1
  have hown := C.2.2.2.2.2.1
  have hts := C.2.2.2.2.2.2.1
  have hS : va_S (q_A al) s.heap s.heap [] := va_S.rf
  have hl : lv_has ls 4 [(0, .ref x0), (1, .int x1)] := hl
  unfold X12_known at hm
  have hB21 : ∀ (x0_21 : Nat) (x1_21 : Int32) (x2_21 : Int32) (kx0_21 : al.1 x0_21 = 13) (n_21 : Nat) (x3_21 : Int32) (dt : q_Dt) (H : Heap) (locs : List Loc) (ls : Array Slot) (hm : X12_known_b21 al x0_21 x1_21 x2_21 n_21 x3_21 dt = some (r0, dt0)) (hW : q_W D al dt H) (hS : va_S (q_A al) s.heap H locs) (hl : lv_has ls 4 [(0, .ref x0_21), (1, .int x1_21), (2, .int x2_21), (3, .int x3_21)]), W p l e { frames := 3, cells := 0, slots := 0, locals := 62 } s m args below meth c H locs 0 0 (MQ below (q_Q (some (.int r0)) (fun H => q_W D al dt0 H ∧ q_Rk al 0 (some (.int r0))) (q_A al)) args s 0 0 (q_A al)) (F0 m 21 ls []) := by
    intro x0_21 x1_21 x2_21 kx0_21
    intro n_21
    induction n_21 with
    | zero => intro x3_21 dt H locs ls hm hW hS hl; cases hm
    | succ n_21 ih21 =>
      have hB62 : ∀ (x3_62 : Int32) (dt : q_Dt) (H : Heap) (locs : List Loc) (ls : Array Slot) (hm : X12_known_b62 al (X12_known_b21 al x0_21 x1_21 x2_21 n_21) x0_21 x1_21 x2_21 x3_62 dt = some (r0, dt0)) (hW : q_W D al dt H) (hS : va_S (q_A al) s.heap H locs) (hl : lv_has ls 4 [(0, .ref x0_21), (1, .int x1_21), (2, .int x2_21), (3, .int x3_62)]), W p l e { frames := 3, cells := 0, slots := 0, locals := 62 } s m args below meth c H locs 0 0 (MQ below (q_Q (some (.int r0)) (fun H => q_W D al dt0 H ∧ q_Rk al 0 (some (.int r0))) (q_A al)) args s 0 0 (q_A al)) (F0 m 62 ls []) := by
        intro x3_62 dt H locs ls hm hW hS hl
        unfold X12_known_b62 at hm
        refine lv_iinc (v := (x3_62 + 1)) (lv' := [(3, .int (x3_62 + 1)), (0, .ref x0_21), (1, .int x1_21), (2, .int x2_21)]) hx hb dX12_known_62 hl (k := 3) rfl rfl (by decide) rfl (fun ls hl => ?_)
        refine lv_goto (tgt := 21) hx hb dX12_known_65 (by decide) ?_
        exact ih21 (x3_62 + 1) dt _ _ _ hm hW hS (lv_sub hl [1, 2, 3, 0] rfl)
      intro x3_21 dt H locs ls hm hW hS hl
      rw [X12_known_b21] at hm
      refine lv_iload_n hx hb dX12_known_21 rfl (lv_at hl 3 rfl) ?_
      refine lv_aload_n hx hb dX12_known_22 rfl (lv_at hl 0 rfl) ?_
      refine r_getI C hW (ci := 12) kx0_21 ff_12_20 cl_12 fl_RX12_248 dX12_known_23 ?_
      refine q_ifc hm (fun c21001 hm => ?_) (fun c21001 hm => ?_)
      · refine lv_icmp_ge (tgt := 68) hx hb dX12_known_26 (by decide) (fun _ => ?_) (fun h => absurd c21001 h)
        refine lv_aload_n hx hb dX12_known_68 rfl (lv_at hl 0 rfl) ?_
        refine lv_iconst (v := 4) hx hb dX12_known_69 (by decide) ?_
        refine lv_iload_n hx hb dX12_known_70 rfl (lv_at hl 2 rfl) ?_
        obtain ⟨dt21003, hc21002, hm⟩ := q_b1i hm
        refine q_callV C hW hS (As := [.int 4, .int x2_21]) (rest := []) (st1 := []) (c_X12_amiss l D al dt x0_21 4 x2_21 kx0_21 dt21003 hc21002) yl_X12_amiss vl_X12_amiss ml_RX12_283 (ci := 12) rfl kx0_21 (by decide) rfl ⟨Nat.le_of_ble_eq_true rfl, Nat.le_of_ble_eq_true rfl⟩ hl rfl (Nat.le_of_ble_eq_true rfl) dX12_known_71 ⟨Nat.le_refl _, Nat.le_refl _⟩ rfl (fun H locs k21004 hW hS => ?_)
        refine lv_iconst (v := (-1)) hx hb dX12_known_74 (by decide) ?_
        exact e_iD C hW hS hm dX12_known_75
      refine lv_icmp_ge (tgt := 68) hx hb dX12_known_26 (by decide) (fun h => absurd h c21001) (fun _ => ?_)
      refine lv_aload_n hx hb dX12_known_29 rfl (lv_at hl 0 rfl) ?_
      refine r_getF C hW (ci := 12) kx0_21 ff_12_21 cl_12 fl_RX12_40 dX12_known_30 (fun k21005 => ?_)
      refine lv_iload_n hx hb dX12_known_33 rfl (lv_at hl 3 rfl) ?_
      refine r_lald C hW hm k21005 dX12_known_34 (fun hm => ?_)
      refine lv_aload_n hx hb dX12_known_35 rfl (lv_at hl 0 rfl) ?_
      refine r_getF C hW (ci := 12) kx0_21 ff_12_8 cl_12 fl_RX12_30 dX12_known_36 (fun k21006 => ?_)
      refine lv_iload_n hx hb dX12_known_39 rfl (lv_at hl 2 rfl) ?_
      refine r_lald C hW hm k21006 dX12_known_40 (fun hm => ?_)
      refine W.lcmp hx hb dX12_known_41 ?_
      refine q_ifc hm (fun c21007 hm => ?_) (fun c21007 hm => ?_)
      · refine lv_if_ne (tgt := 62) hx hb dX12_known_42 (by decide) (fun h => absurd (q_cmp_eq.mpr c21007) h) (fun _ => ?_)
        refine lv_aload_n hx hb dX12_known_45 rfl (lv_at hl 0 rfl) ?_
        refine r_getF C hW (ci := 12) kx0_21 ff_12_22 cl_12 fl_RX12_43 dX12_known_46 (fun k21008 => ?_)
        refine lv_iload_n hx hb dX12_known_49 rfl (lv_at hl 3 rfl) ?_
        refine r_iald C hW hm k21008 dX12_known_50 (fun hm => ?_)
        refine lv_iload_n hx hb dX12_known_51 rfl (lv_at hl 1 rfl) ?_
        refine q_ifc hm (fun c21009 hm => ?_) (fun c21009 hm => ?_)
        · refine lv_icmp_ne (tgt := 62) hx hb dX12_known_52 (by decide) (fun h => absurd c21009 h) (fun _ => ?_)
          refine lv_aload_n hx hb dX12_known_55 rfl (lv_at hl 0 rfl) ?_
          refine r_getF C hW (ci := 12) kx0_21 ff_12_23 cl_12 fl_RX12_46 dX12_known_56 (fun k21010 => ?_)
          refine lv_iload_n hx hb dX12_known_59 rfl (lv_at hl 3 rfl) ?_
          refine r_iald C hW hm k21010 dX12_known_60 (fun hm => ?_)
          exact e_iD C hW hS hm dX12_known_61
        refine lv_icmp_ne (tgt := 62) hx hb dX12_known_52 (by decide) (fun _ => ?_) (fun h => absurd h c21009)
        exact hB62 x3_21 dt _ _ _ hm hW hS (lv_sub hl [0, 1, 2, 3] rfl)
      refine lv_if_ne (tgt := 62) hx hb dX12_known_42 (by decide) (fun _ => ?_) (fun h => absurd (q_cmp_eq.mp h) c21007)
      exact hB62 x3_21 dt _ _ _ hm hW hS (lv_sub hl [0, 1, 2, 3] rfl)
  refine lv_aload_n hx hb dX12_known_0 rfl (lv_at hl 0 rfl) ?_
  refine r_getI C hW (ci := 12) kx0 ff_12_11 cl_12 fl_RX12_215 dX12_known_1 ?_
  refine lv_istore_n (i := 2) (lv' := [(2, .int (dt.1 x0 11)), (0, .ref x0), (1, .int x1)]) hx hb dX12_known_4 rfl hl (by decide) rfl (fun ls hl => ?_)
  refine lv_aload_n hx hb dX12_known_5 rfl (lv_at hl 1 rfl) ?_
  refine lv_iconst (v := 1) hx hb dX12_known_6 (by decide) ?_
  obtain ⟨dt1000002, hc1000001, hm⟩ := q_b1i hm
  refine q_callV C hW hS (As := [.int 1]) (rest := []) (st1 := []) (c_X12_must l D al dt x0 1 kx0 dt1000002 hc1000001) yl_X12_must vl_X12_must ml_RX12_280 (ci := 12) rfl kx0 (by decide) rfl ⟨Nat.le_of_ble_eq_true rfl, Nat.le_of_ble_eq_true rfl⟩ hl rfl (Nat.le_of_ble_eq_true rfl) dX12_known_7 ⟨Nat.le_refl _, Nat.le_refl _⟩ rfl (fun H locs k1000003 hW hS => ?_)
  refine lv_aload_n hx hb dX12_known_10 rfl (lv_at hl 1 rfl) ?_
  refine r_getI C hW (ci := 12) kx0 ff_12_13 cl_12 fl_RX12_212 dX12_known_11 ?_
  refine q_ifc hm (fun c1000004 hm => ?_) (fun c1000004 hm => ?_)
  · refine lv_if_le (tgt := 19) hx hb dX12_known_14 (by decide) (fun _ => ?_) (fun h => absurd c1000004 h)
    refine lv_iconst (v := 0) hx hb dX12_known_19 (by decide) ?_
    refine lv_istore_n (i := 3) (lv' := [(3, .int 0), (2, .int (dt.1 x0 11)), (0, .ref x0), (1, .int x1)]) hx hb dX12_known_20 rfl hl (by decide) rfl (fun ls hl => ?_)
    exact hB21 x0 x1 (dt.1 x0 11) kx0 q_FU 0 dt1000002 _ _ _ hm hW hS (lv_sub hl [2, 3, 1, 0] rfl)
  refine lv_if_le (tgt := 19) hx hb dX12_known_14 (by decide) (fun h => absurd h c1000004) (fun _ => ?_)
  refine lv_iconst (v := (-1)) hx hb dX12_known_17 (by decide) ?_
  exact e_iD C hW hS hm dX12_known_18
theorem dX12_tellBoth_0 : decode cX12_tellBoth 0 = .ok (.aload_n 0, 1) := by decide +kernel
theorem dX12_tellBoth_1 : decode cX12_tellBoth 1 = .ok (.iconst 0, 1) := by decide +kernel
theorem dX12_tellBoth_2 : decode cX12_tellBoth 2 = .ok (.invokevirtual 315, 3) := by decide +kernel
theorem dX12_tellBoth_5 : decode cX12_tellBoth 5 = .ok (.istore_n 2, 1) := by decide +kernel
theorem dX12_tellBoth_6 : decode cX12_tellBoth 6 = .ok (.aload_n 0, 1) := by decide +kernel
theorem dX12_tellBoth_7 : decode cX12_tellBoth 7 = .ok (.getfield 215, 3) := by decide +kernel
theorem dX12_tellBoth_10 : decode cX12_tellBoth 10 = .ok (.istore_n 3, 1) := by decide +kernel
theorem dX12_tellBoth_11 : decode cX12_tellBoth 11 = .ok (.aload_n 0, 1) := by decide +kernel
theorem dX12_tellBoth_12 : decode cX12_tellBoth 12 = .ok (.iconst 0, 1) := by decide +kernel
theorem dX12_tellBoth_13 : decode cX12_tellBoth 13 = .ok (.invokevirtual 315, 3) := by decide +kernel
theorem dX12_tellBoth_16 : decode cX12_tellBoth 16 = .ok (.istore 4, 2) := by decide +kernel
theorem dX12_tellBoth_18 : decode cX12_tellBoth 18 = .ok (.aload_n 0, 1) := by decide +kernel
theorem dX12_tellBoth_19 : decode cX12_tellBoth 19 = .ok (.getfield 212, 3) := by decide +kernel
theorem dX12_tellBoth_22 : decode cX12_tellBoth 22 = .ok (.ifCond .ne 16, 3) := by decide +kernel
theorem dX12_tellBoth_25 : decode cX12_tellBoth 25 = .ok (.iload_n 2, 1) := by decide +kernel
theorem dX12_tellBoth_26 : decode cX12_tellBoth 26 = .ok (.ifCond .lt 12, 3) := by decide +kernel
theorem dX12_tellBoth_29 : decode cX12_tellBoth 29 = .ok (.iload 4, 2) := by decide +kernel
theorem dX12_tellBoth_31 : decode cX12_tellBoth 31 = .ok (.ifCond .lt 7, 3) := by decide +kernel
theorem dX12_tellBoth_34 : decode cX12_tellBoth 34 = .ok (.iconst 1, 1) := by decide +kernel
theorem dX12_tellBoth_35 : decode cX12_tellBoth 35 = .ok (.goto 4, 3) := by decide +kernel
theorem dX12_tellBoth_38 : decode cX12_tellBoth 38 = .ok (.iconst 0, 1) := by decide +kernel
theorem dX12_tellBoth_39 : decode cX12_tellBoth 39 = .ok (.istore 5, 2) := by decide +kernel
theorem dX12_tellBoth_41 : decode cX12_tellBoth 41 = .ok (.iload 5, 2) := by decide +kernel
theorem dX12_tellBoth_43 : decode cX12_tellBoth 43 = .ok (.ifCond .eq 39, 3) := by decide +kernel
theorem dX12_tellBoth_46 : decode cX12_tellBoth 46 = .ok (.aload_n 0, 1) := by decide +kernel
theorem dX12_tellBoth_47 : decode cX12_tellBoth 47 = .ok (.getfield 52, 3) := by decide +kernel
theorem dX12_tellBoth_50 : decode cX12_tellBoth 50 = .ok (.bipush 8, 2) := by decide +kernel
theorem dX12_tellBoth_52 : decode cX12_tellBoth 52 = .ok (.aload_n 0, 1) := by decide +kernel
theorem dX12_tellBoth_53 : decode cX12_tellBoth 53 = .ok (.getfield 245, 3) := by decide +kernel
theorem dX12_tellBoth_56 : decode cX12_tellBoth 56 = .ok (.imul, 1) := by decide +kernel
theorem dX12_tellBoth_57 : decode cX12_tellBoth 57 = .ok (.iload_n 2, 1) := by decide +kernel
theorem dX12_tellBoth_58 : decode cX12_tellBoth 58 = .ok (.iadd, 1) := by decide +kernel
theorem dX12_tellBoth_59 : decode cX12_tellBoth 59 = .ok (.iaload, 1) := by decide +kernel
theorem dX12_tellBoth_60 : decode cX12_tellBoth 60 = .ok (.aload_n 0, 1) := by decide +kernel
theorem dX12_tellBoth_61 : decode cX12_tellBoth 61 = .ok (.getfield 52, 3) := by decide +kernel
theorem dX12_tellBoth_64 : decode cX12_tellBoth 64 = .ok (.bipush 8, 2) := by decide +kernel
theorem dX12_tellBoth_66 : decode cX12_tellBoth 66 = .ok (.aload_n 0, 1) := by decide +kernel
theorem dX12_tellBoth_67 : decode cX12_tellBoth 67 = .ok (.getfield 245, 3) := by decide +kernel
theorem dX12_tellBoth_70 : decode cX12_tellBoth 70 = .ok (.imul, 1) := by decide +kernel
theorem dX12_tellBoth_71 : decode cX12_tellBoth 71 = .ok (.iload 4, 2) := by decide +kernel
theorem dX12_tellBoth_73 : decode cX12_tellBoth 73 = .ok (.iadd, 1) := by decide +kernel
theorem dX12_tellBoth_74 : decode cX12_tellBoth 74 = .ok (.iaload, 1) := by decide +kernel
theorem dX12_tellBoth_75 : decode cX12_tellBoth 75 = .ok (.if_icmp .ne 7, 3) := by decide +kernel
theorem dX12_tellBoth_78 : decode cX12_tellBoth 78 = .ok (.iconst 1, 1) := by decide +kernel
theorem dX12_tellBoth_79 : decode cX12_tellBoth 79 = .ok (.goto 4, 3) := by decide +kernel
theorem dX12_tellBoth_82 : decode cX12_tellBoth 82 = .ok (.iconst 0, 1) := by decide +kernel
theorem dX12_tellBoth_83 : decode cX12_tellBoth 83 = .ok (.istore 6, 2) := by decide +kernel
theorem dX12_tellBoth_85 : decode cX12_tellBoth 85 = .ok (.iload 5, 2) := by decide +kernel
theorem dX12_tellBoth_87 : decode cX12_tellBoth 87 = .ok (.ifCond .eq 14, 3) := by decide +kernel
theorem dX12_tellBoth_90 : decode cX12_tellBoth 90 = .ok (.iload 6, 2) := by decide +kernel
theorem dX12_tellBoth_92 : decode cX12_tellBoth 92 = .ok (.ifCond .ne 9, 3) := by decide +kernel
theorem dX12_tellBoth_95 : decode cX12_tellBoth 95 = .ok (.aload_n 0, 1) := by decide +kernel
theorem dX12_tellBoth_96 : decode cX12_tellBoth 96 = .ok (.iconst 5, 1) := by decide +kernel
theorem dX12_tellBoth_97 : decode cX12_tellBoth 97 = .ok (.iload_n 3, 1) := by decide +kernel
theorem dX12_tellBoth_98 : decode cX12_tellBoth 98 = .ok (.invokevirtual 283, 3) := by decide +kernel
theorem dX12_tellBoth_101 : decode cX12_tellBoth 101 = .ok (.aload_n 0, 1) := by decide +kernel
theorem dX12_tellBoth_102 : decode cX12_tellBoth 102 = .ok (.iload 6, 2) := by decide +kernel
theorem dX12_tellBoth_104 : decode cX12_tellBoth 104 = .ok (.iconst 0, 1) := by decide +kernel
theorem dX12_tellBoth_105 : decode cX12_tellBoth 105 = .ok (.iload 6, 2) := by decide +kernel
theorem dX12_tellBoth_107 : decode cX12_tellBoth 107 = .ok (.ifCond .eq 22, 3) := by decide +kernel
theorem dX12_tellBoth_110 : decode cX12_tellBoth 110 = .ok (.aload_n 0, 1) := by decide +kernel
theorem dX12_tellBoth_111 : decode cX12_tellBoth 111 = .ok (.getfield 52, 3) := by decide +kernel
theorem dX12_tellBoth_114 : decode cX12_tellBoth 114 = .ok (.bipush 8, 2) := by decide +kernel
theorem dX12_tellBoth_116 : decode cX12_tellBoth 116 = .ok (.aload_n 0, 1) := by decide +kernel
theorem dX12_tellBoth_117 : decode cX12_tellBoth 117 = .ok (.getfield 245, 3) := by decide +kernel
theorem dX12_tellBoth_120 : decode cX12_tellBoth 120 = .ok (.imul, 1) := by decide +kernel
theorem dX12_tellBoth_121 : decode cX12_tellBoth 121 = .ok (.iload_n 2, 1) := by decide +kernel
theorem dX12_tellBoth_122 : decode cX12_tellBoth 122 = .ok (.iadd, 1) := by decide +kernel
theorem dX12_tellBoth_123 : decode cX12_tellBoth 123 = .ok (.iaload, 1) := by decide +kernel
theorem dX12_tellBoth_124 : decode cX12_tellBoth 124 = .ok (.iconst 1, 1) := by decide +kernel
theorem dX12_tellBoth_125 : decode cX12_tellBoth 125 = .ok (.isub, 1) := by decide +kernel
theorem dX12_tellBoth_126 : decode cX12_tellBoth 126 = .ok (.goto 4, 3) := by decide +kernel
theorem dX12_tellBoth_129 : decode cX12_tellBoth 129 = .ok (.iconst 0, 1) := by decide +kernel
theorem dX12_tellBoth_130 : decode cX12_tellBoth 130 = .ok (.invokevirtual 294, 3) := by decide +kernel
theorem dX12_tellBoth_133 : decode cX12_tellBoth 133 = .ok (.istore 7, 2) := by decide +kernel
theorem dX12_tellBoth_135 : decode cX12_tellBoth 135 = .ok (.aload_n 0, 1) := by decide +kernel
theorem dX12_tellBoth_136 : decode cX12_tellBoth 136 = .ok (.getfield 212, 3) := by decide +kernel
theorem dX12_tellBoth_139 : decode cX12_tellBoth 139 = .ok (.ifCond .gt 15, 3) := by decide +kernel
theorem dX12_tellBoth_142 : decode cX12_tellBoth 142 = .ok (.iload 6, 2) := by decide +kernel
theorem dX12_tellBoth_144 : decode cX12_tellBoth 144 = .ok (.ifCond .eq 10, 3) := by decide +kernel
theorem dX12_tellBoth_147 : decode cX12_tellBoth 147 = .ok (.aload_n 0, 1) := by decide +kernel
theorem dX12_tellBoth_148 : decode cX12_tellBoth 148 = .ok (.getfield 286, 3) := by decide +kernel
theorem dX12_tellBoth_151 : decode cX12_tellBoth 151 = .ok (.ifCond .ne 4, 3) := by decide +kernel
theorem dX12_tellBoth_154 : decode cX12_tellBoth 154 = .ok (.return_, 1) := by decide +kernel
theorem dX12_tellBoth_155 : decode cX12_tellBoth 155 = .ok (.aload_n 0, 1) := by decide +kernel
theorem dX12_tellBoth_156 : decode cX12_tellBoth 156 = .ok (.getfield 52, 3) := by decide +kernel
theorem dX12_tellBoth_159 : decode cX12_tellBoth 159 = .ok (.bipush 8, 2) := by decide +kernel
theorem dX12_tellBoth_161 : decode cX12_tellBoth 161 = .ok (.aload_n 0, 1) := by decide +kernel
theorem dX12_tellBoth_162 : decode cX12_tellBoth 162 = .ok (.getfield 245, 3) := by decide +kernel
theorem dX12_tellBoth_165 : decode cX12_tellBoth 165 = .ok (.imul, 1) := by decide +kernel
theorem dX12_tellBoth_166 : decode cX12_tellBoth 166 = .ok (.iload_n 2, 1) := by decide +kernel
theorem dX12_tellBoth_167 : decode cX12_tellBoth 167 = .ok (.iadd, 1) := by decide +kernel
theorem dX12_tellBoth_168 : decode cX12_tellBoth 168 = .ok (.iaload, 1) := by decide +kernel
theorem dX12_tellBoth_169 : decode cX12_tellBoth 169 = .ok (.istore 8, 2) := by decide +kernel
theorem dX12_tellBoth_171 : decode cX12_tellBoth 171 = .ok (.aload_n 0, 1) := by decide +kernel
theorem dX12_tellBoth_172 : decode cX12_tellBoth 172 = .ok (.getfield 52, 3) := by decide +kernel
theorem dX12_tellBoth_175 : decode cX12_tellBoth 175 = .ok (.iload_n 1, 1) := by decide +kernel
theorem dX12_tellBoth_176 : decode cX12_tellBoth 176 = .ok (.iload 8, 2) := by decide +kernel
theorem dX12_tellBoth_178 : decode cX12_tellBoth 178 = .ok (.iastore, 1) := by decide +kernel
theorem dX12_tellBoth_179 : decode cX12_tellBoth 179 = .ok (.iconst 0, 1) := by decide +kernel
theorem dX12_tellBoth_180 : decode cX12_tellBoth 180 = .ok (.istore 9, 2) := by decide +kernel
theorem dX12_tellBoth_182 : decode cX12_tellBoth 182 = .ok (.iload 9, 2) := by decide +kernel
theorem dX12_tellBoth_184 : decode cX12_tellBoth 184 = .ok (.iload 8, 2) := by decide +kernel
theorem dX12_tellBoth_186 : decode cX12_tellBoth 186 = .ok (.if_icmp .ge 72, 3) := by decide +kernel
theorem dX12_tellBoth_189 : decode cX12_tellBoth 189 = .ok (.aload_n 0, 1) := by decide +kernel
theorem dX12_tellBoth_190 : decode cX12_tellBoth 190 = .ok (.getfield 55, 3) := by decide +kernel
theorem dX12_tellBoth_193 : decode cX12_tellBoth 193 = .ok (.sipush 128, 3) := by decide +kernel
theorem dX12_tellBoth_196 : decode cX12_tellBoth 196 = .ok (.iload_n 1, 1) := by decide +kernel
theorem dX12_tellBoth_197 : decode cX12_tellBoth 197 = .ok (.imul, 1) := by decide +kernel
theorem dX12_tellBoth_198 : decode cX12_tellBoth 198 = .ok (.iload 9, 2) := by decide +kernel
theorem dX12_tellBoth_200 : decode cX12_tellBoth 200 = .ok (.iadd, 1) := by decide +kernel
theorem dX12_tellBoth_201 : decode cX12_tellBoth 201 = .ok (.aload_n 0, 1) := by decide +kernel
theorem dX12_tellBoth_202 : decode cX12_tellBoth 202 = .ok (.getfield 55, 3) := by decide +kernel
theorem dX12_tellBoth_205 : decode cX12_tellBoth 205 = .ok (.sipush 128, 3) := by decide +kernel
theorem dX12_tellBoth_208 : decode cX12_tellBoth 208 = .ok (.bipush 8, 2) := by decide +kernel
theorem dX12_tellBoth_210 : decode cX12_tellBoth 210 = .ok (.aload_n 0, 1) := by decide +kernel
theorem dX12_tellBoth_211 : decode cX12_tellBoth 211 = .ok (.getfield 245, 3) := by decide +kernel
theorem dX12_tellBoth_214 : decode cX12_tellBoth 214 = .ok (.imul, 1) := by decide +kernel
theorem dX12_tellBoth_215 : decode cX12_tellBoth 215 = .ok (.iload_n 2, 1) := by decide +kernel
theorem dX12_tellBoth_216 : decode cX12_tellBoth 216 = .ok (.iadd, 1) := by decide +kernel
theorem dX12_tellBoth_217 : decode cX12_tellBoth 217 = .ok (.imul, 1) := by decide +kernel
theorem dX12_tellBoth_218 : decode cX12_tellBoth 218 = .ok (.iload 9, 2) := by decide +kernel
theorem dX12_tellBoth_220 : decode cX12_tellBoth 220 = .ok (.iadd, 1) := by decide +kernel
theorem dX12_tellBoth_221 : decode cX12_tellBoth 221 = .ok (.iaload, 1) := by decide +kernel
theorem dX12_tellBoth_222 : decode cX12_tellBoth 222 = .ok (.aload_n 0, 1) := by decide +kernel
theorem dX12_tellBoth_223 : decode cX12_tellBoth 223 = .ok (.getfield 55, 3) := by decide +kernel
theorem dX12_tellBoth_226 : decode cX12_tellBoth 226 = .ok (.sipush 128, 3) := by decide +kernel
theorem dX12_tellBoth_229 : decode cX12_tellBoth 229 = .ok (.bipush 8, 2) := by decide +kernel
theorem dX12_tellBoth_231 : decode cX12_tellBoth 231 = .ok (.aload_n 0, 1) := by decide +kernel
theorem dX12_tellBoth_232 : decode cX12_tellBoth 232 = .ok (.getfield 245, 3) := by decide +kernel
theorem dX12_tellBoth_235 : decode cX12_tellBoth 235 = .ok (.imul, 1) := by decide +kernel
theorem dX12_tellBoth_236 : decode cX12_tellBoth 236 = .ok (.iload 4, 2) := by decide +kernel
theorem dX12_tellBoth_238 : decode cX12_tellBoth 238 = .ok (.iadd, 1) := by decide +kernel
theorem dX12_tellBoth_239 : decode cX12_tellBoth 239 = .ok (.imul, 1) := by decide +kernel
theorem dX12_tellBoth_240 : decode cX12_tellBoth 240 = .ok (.iload 9, 2) := by decide +kernel
theorem dX12_tellBoth_242 : decode cX12_tellBoth 242 = .ok (.iload 7, 2) := by decide +kernel
theorem dX12_tellBoth_244 : decode cX12_tellBoth 244 = .ok (.iadd, 1) := by decide +kernel
theorem dX12_tellBoth_245 : decode cX12_tellBoth 245 = .ok (.iload 8, 2) := by decide +kernel
theorem dX12_tellBoth_247 : decode cX12_tellBoth 247 = .ok (.irem, 1) := by decide +kernel
theorem dX12_tellBoth_248 : decode cX12_tellBoth 248 = .ok (.iadd, 1) := by decide +kernel
theorem dX12_tellBoth_249 : decode cX12_tellBoth 249 = .ok (.iaload, 1) := by decide +kernel
theorem dX12_tellBoth_250 : decode cX12_tellBoth 250 = .ok (.imul, 1) := by decide +kernel
theorem dX12_tellBoth_251 : decode cX12_tellBoth 251 = .ok (.iastore, 1) := by decide +kernel
theorem dX12_tellBoth_252 : decode cX12_tellBoth 252 = .ok (.iinc 9 1, 3) := by decide +kernel
theorem dX12_tellBoth_255 : decode cX12_tellBoth 255 = .ok (.goto (-73), 3) := by decide +kernel
theorem dX12_tellBoth_258 : decode cX12_tellBoth 258 = .ok (.return_, 1) := by decide +kernel
set_option maxRecDepth 100000 in
theorem c_X12_tellBoth (l : Launch) (D : q_D) (al : q_Al) (dt : q_Dt) (x0 : Nat) (x1 : Int32) (kx0 : al.1 x0 = 13) (dt0 : q_Dt) (hm : X12_tellBoth al dt x0 x1 = some dt0) : q_Mt l yX12_tellBoth cX12_tellBoth 10 (none) 4 87 D al [.ref x0, .int x1] dt 0 none dt0 := by
  refine q_Mt.of (by decide) (Nat.le_of_ble_eq_true rfl) ?_
  intro p e s m args below meth c ls C hargs hW hl
  have hx := C.1
  have hb := C.2.1
  have hown := C.2.2.2.2.2.1
  have hts := C.2.2.2.2.2.2.1
  have hS : va_S (q_A al) s.heap s.heap [] := va_S.rf
  have hl : lv_has ls 10 [(0, .ref x0), (1, .int x1)] := hl
  unfold X12_tellBoth at hm
  have hB182 : ∀ (x0_182 : Nat) (x1_182 : Int32) (x2_182 : Int32) (x4_182 : Int32) (x7_182 : Int32) (x8_182 : Int32) (kx0_182 : al.1 x0_182 = 13) (n_182 : Nat) (x9_182 : Int32) (dt : q_Dt) (H : Heap) (locs : List Loc) (ls : Array Slot) (hm : X12_tellBoth_b182 al x0_182 x1_182 x2_182 x4_182 x7_182 x8_182 n_182 x9_182 dt = some dt0) (hW : q_W D al dt H) (hS : va_S (q_A al) s.heap H locs) (hl : lv_has ls 10 [(0, .ref x0_182), (1, .int x1_182), (2, .int x2_182), (4, .int x4_182), (7, .int x7_182), (8, .int x8_182), (9, .int x9_182)]), W p l e { frames := 4, cells := 0, slots := 0, locals := 87 } s m args below meth c H locs 0 0 (MQ below (q_Q none (fun H => q_W D al dt0 H ∧ q_Rk al 0 none) (q_A al)) args s 0 0 (q_A al)) (F0 m 182 ls []) := by
    intro x0_182 x1_182 x2_182 x4_182 x7_182 x8_182 kx0_182
    intro n_182
    induction n_182 with
    | zero => intro x9_182 dt H locs ls hm hW hS hl; cases hm
    | succ n_182 ih182 =>
      intro x9_182 dt H locs ls hm hW hS hl
      rw [X12_tellBoth_b182] at hm
      refine lv_iload hx hb dX12_tellBoth_182 (lv_at hl 6 rfl) ?_
      refine lv_iload hx hb dX12_tellBoth_184 (lv_at hl 5 rfl) ?_
      refine q_ifc hm (fun c182001 hm => ?_) (fun c182001 hm => ?_)
      · refine lv_icmp_ge (tgt := 258) hx hb dX12_tellBoth_186 (by decide) (fun _ => ?_) (fun h => absurd c182001 h)
        exact e_vD C hW hS hm dX12_tellBoth_258
      refine lv_icmp_ge (tgt := 258) hx hb dX12_tellBoth_186 (by decide) (fun h => absurd h c182001) (fun _ => ?_)
      refine lv_aload_n hx hb dX12_tellBoth_189 rfl (lv_at hl 0 rfl) ?_
      refine r_getF C hW (ci := 12) kx0_182 ff_12_26 cl_12 fl_RX12_55 dX12_tellBoth_190 (fun k182002 => ?_)
      refine lv_sipush (v := 128) hx hb dX12_tellBoth_193 (by decide) ?_
      refine lv_iload_n hx hb dX12_tellBoth_196 rfl (lv_at hl 1 rfl) ?_
      refine lv_imul hx hb dX12_tellBoth_197 ?_
      refine lv_iload hx hb dX12_tellBoth_198 (lv_at hl 6 rfl) ?_
      refine lv_iadd hx hb dX12_tellBoth_200 ?_
      refine lv_aload_n hx hb dX12_tellBoth_201 rfl (lv_at hl 0 rfl) ?_
      refine r_getF C hW (ci := 12) kx0_182 ff_12_26 cl_12 fl_RX12_55 dX12_tellBoth_202 (fun k182003 => ?_)
      refine lv_sipush (v := 128) hx hb dX12_tellBoth_205 (by decide) ?_
      refine lv_bipush (v := 8) hx hb dX12_tellBoth_208 (by decide) ?_
      refine lv_aload_n hx hb dX12_tellBoth_210 rfl (lv_at hl 0 rfl) ?_
      refine r_getI C hW (ci := 12) kx0_182 ff_12_19 cl_12 fl_RX12_245 dX12_tellBoth_211 ?_
      refine lv_imul hx hb dX12_tellBoth_214 ?_
      refine lv_iload_n hx hb dX12_tellBoth_215 rfl (lv_at hl 2 rfl) ?_
      refine lv_iadd hx hb dX12_tellBoth_216 ?_
      refine lv_imul hx hb dX12_tellBoth_217 ?_
      refine lv_iload hx hb dX12_tellBoth_218 (lv_at hl 6 rfl) ?_
      refine lv_iadd hx hb dX12_tellBoth_220 ?_
      refine r_iald C hW hm k182003 dX12_tellBoth_221 (fun hm => ?_)
      refine lv_aload_n hx hb dX12_tellBoth_222 rfl (lv_at hl 0 rfl) ?_
      refine r_getF C hW (ci := 12) kx0_182 ff_12_26 cl_12 fl_RX12_55 dX12_tellBoth_223 (fun k182004 => ?_)
      refine lv_sipush (v := 128) hx hb dX12_tellBoth_226 (by decide) ?_
      refine lv_bipush (v := 8) hx hb dX12_tellBoth_229 (by decide) ?_
      refine lv_aload_n hx hb dX12_tellBoth_231 rfl (lv_at hl 0 rfl) ?_
      refine r_getI C hW (ci := 12) kx0_182 ff_12_19 cl_12 fl_RX12_245 dX12_tellBoth_232 ?_
      refine lv_imul hx hb dX12_tellBoth_235 ?_
      refine lv_iload hx hb dX12_tellBoth_236 (lv_at hl 3 rfl) ?_
      refine lv_iadd hx hb dX12_tellBoth_238 ?_
      refine lv_imul hx hb dX12_tellBoth_239 ?_
      refine lv_iload hx hb dX12_tellBoth_240 (lv_at hl 6 rfl) ?_
      refine lv_iload hx hb dX12_tellBoth_242 (lv_at hl 4 rfl) ?_
      refine lv_iadd hx hb dX12_tellBoth_244 ?_
      refine lv_iload hx hb dX12_tellBoth_245 (lv_at hl 5 rfl) ?_
      obtain ⟨c182005, hm⟩ := q_ini hm
      refine lv_irem hx hb dX12_tellBoth_247 c182005 ?_
      refine lv_iadd hx hb dX12_tellBoth_248 ?_
      refine r_iald C hW hm k182004 dX12_tellBoth_249 (fun hm => ?_)
      refine lv_imul hx hb dX12_tellBoth_250 ?_
      refine r_iast C hW hS hm k182002 dX12_tellBoth_251 (fun dt182006 H locs hm hW hS => ?_)
      refine lv_iinc (v := (x9_182 + 1)) (lv' := [(9, .int (x9_182 + 1)), (0, .ref x0_182), (1, .int x1_182), (2, .int x2_182), (4, .int x4_182), (7, .int x7_182), (8, .int x8_182)]) hx hb dX12_tellBoth_252 hl (k := 6) rfl rfl (by decide) rfl (fun ls hl => ?_)
      refine lv_goto (tgt := 182) hx hb dX12_tellBoth_255 (by decide) ?_
      exact ih182 (x9_182 + 1) dt182006 _ _ _ hm hW hS (lv_sub hl [1, 2, 3, 4, 5, 6, 0] rfl)
  have hB130 : ∀ (x0_130 : Nat) (x1_130 : Int32) (x2_130 : Int32) (x4_130 : Int32) (x6_130 : Int32) (t0_130 : Nat) (t1_130 : Int32) (t2_130 : Int32) (t3_130 : Int32) (kx0_130 : al.1 x0_130 = 13) (kt0_130 : al.1 t0_130 = 13) (dt : q_Dt) (H : Heap) (locs : List Loc) (ls : Array Slot) (hm : X12_tellBoth_b130 al x0_130 x1_130 x2_130 x4_130 x6_130 t0_130 t1_130 t2_130 t3_130 dt = some dt0) (hW : q_W D al dt H) (hS : va_S (q_A al) s.heap H locs) (hl : lv_has ls 10 [(0, .ref x0_130), (1, .int x1_130), (2, .int x2_130), (4, .int x4_130), (6, .int x6_130)]), W p l e { frames := 4, cells := 0, slots := 0, locals := 87 } s m args below meth c H locs 0 0 (MQ below (q_Q none (fun H => q_W D al dt0 H ∧ q_Rk al 0 none) (q_A al)) args s 0 0 (q_A al)) (F0 m 130 ls [.int t3_130, .int t2_130, .int t1_130, .ref t0_130]) := by
    intro x0_130 x1_130 x2_130 x4_130 x6_130 t0_130 t1_130 t2_130 t3_130 kx0_130 kt0_130 dt H locs ls hm hW hS hl
    unfold X12_tellBoth_b130 at hm
    obtain ⟨v130002, dt130003, hc130001, hm⟩ := q_b2i hm
    refine q_callV C hW hS (As := [.int t1_130, .int t2_130, .int t3_130]) (rest := []) (st1 := [.int v130002]) (c_X12_hangs l D al dt t0_130 t1_130 t2_130 t3_130 kt0_130 v130002 dt130003 hc130001) yl_X12_hangs vl_X12_hangs ml_RX12_294 (ci := 12) rfl kt0_130 (by decide) rfl ⟨Nat.le_of_ble_eq_true rfl, Nat.le_of_ble_eq_true rfl⟩ hl rfl (Nat.le_of_ble_eq_true rfl) dX12_tellBoth_130 ⟨Nat.le_refl _, Nat.le_refl _⟩ rfl (fun H locs k130004 hW hS => ?_)
    refine lv_istore (i := 7) (lv' := [(7, .int v130002), (0, .ref x0_130), (1, .int x1_130), (2, .int x2_130), (4, .int x4_130), (6, .int x6_130)]) hx hb dX12_tellBoth_133 hl (by decide) rfl (fun ls hl => ?_)
    refine lv_aload_n hx hb dX12_tellBoth_135 rfl (lv_at hl 1 rfl) ?_
    refine r_getI C hW (ci := 12) kx0_130 ff_12_13 cl_12 fl_RX12_212 dX12_tellBoth_136 ?_
    refine q_ifc hm (fun c130005 hm => ?_) (fun c130005 hm => ?_)
    · refine lv_if_gt (tgt := 154) hx hb dX12_tellBoth_139 (by decide) (fun _ => ?_) (fun h => absurd c130005 h)
      exact e_vD C hW hS hm dX12_tellBoth_154
    refine lv_if_gt (tgt := 154) hx hb dX12_tellBoth_139 (by decide) (fun h => absurd h c130005) (fun _ => ?_)
    refine lv_iload hx hb dX12_tellBoth_142 (lv_at hl 5 rfl) ?_
    refine q_ifc hm (fun c130006 hm => ?_) (fun c130006 hm => ?_)
    · refine lv_if_eq (tgt := 154) hx hb dX12_tellBoth_144 (by decide) (fun _ => ?_) (fun h => absurd c130006 h)
      exact e_vD C hW hS hm dX12_tellBoth_154
    refine lv_if_eq (tgt := 154) hx hb dX12_tellBoth_144 (by decide) (fun h => absurd h c130006) (fun _ => ?_)
    refine lv_aload_n hx hb dX12_tellBoth_147 rfl (lv_at hl 1 rfl) ?_
    refine r_getI C hW (ci := 12) kx0_130 ff_12_50 cl_12 fl_RX12_286 dX12_tellBoth_148 ?_
    refine q_ifc hm (fun c130007 hm => ?_) (fun c130007 hm => ?_)
    · refine lv_if_ne (tgt := 155) hx hb dX12_tellBoth_151 (by decide) (fun h => absurd c130007 h) (fun _ => ?_)
      exact e_vD C hW hS hm dX12_tellBoth_154
    refine lv_if_ne (tgt := 155) hx hb dX12_tellBoth_151 (by decide) (fun _ => ?_) (fun h => absurd h c130007)
    refine lv_aload_n hx hb dX12_tellBoth_155 rfl (lv_at hl 1 rfl) ?_
    refine r_getF C hW (ci := 12) kx0_130 ff_12_25 cl_12 fl_RX12_52 dX12_tellBoth_156 (fun k130008 => ?_)
    refine lv_bipush (v := 8) hx hb dX12_tellBoth_159 (by decide) ?_
    refine lv_aload_n hx hb dX12_tellBoth_161 rfl (lv_at hl 1 rfl) ?_
    refine r_getI C hW (ci := 12) kx0_130 ff_12_19 cl_12 fl_RX12_245 dX12_tellBoth_162 ?_
    refine lv_imul hx hb dX12_tellBoth_165 ?_
    refine lv_iload_n hx hb dX12_tellBoth_166 rfl (lv_at hl 3 rfl) ?_
    refine lv_iadd hx hb dX12_tellBoth_167 ?_
    refine r_iald C hW hm k130008 dX12_tellBoth_168 (fun hm => ?_)
    refine q_nmI hm (fun v130009 ev130009 hm => ?_)
    refine lv_istore (i := 8) (lv' := [(8, .int v130009), (7, .int v130002), (0, .ref x0_130), (1, .int x1_130), (2, .int x2_130), (4, .int x4_130), (6, .int x6_130)]) hx hb dX12_tellBoth_169 hl (by decide) rfl (fun ls hl => ?_)
    refine lv_aload_n hx hb dX12_tellBoth_171 rfl (lv_at hl 2 rfl) ?_
    refine r_getF C hW (ci := 12) kx0_130 ff_12_25 cl_12 fl_RX12_52 dX12_tellBoth_172 (fun k130010 => ?_)
    refine lv_iload_n hx hb dX12_tellBoth_175 rfl (lv_at hl 3 rfl) ?_
    refine lv_iload hx hb dX12_tellBoth_176 (lv_at hl 0 rfl) ?_
    refine r_iast C hW hS hm k130010 dX12_tellBoth_178 (fun dt130011 H locs hm hW hS => ?_)
    refine lv_iconst (v := 0) hx hb dX12_tellBoth_179 (by decide) ?_
    refine lv_istore (i := 9) (lv' := [(9, .int 0), (8, .int v130009), (7, .int v130002), (0, .ref x0_130), (1, .int x1_130), (2, .int x2_130), (4, .int x4_130), (6, .int x6_130)]) hx hb dX12_tellBoth_180 hl (by decide) rfl (fun ls hl => ?_)
    exact hB182 x0_130 x1_130 x2_130 x4_130 v130002 v130009 kx0_130 q_FU 0 dt130011 _ _ _ hm hW hS (lv_sub hl [3, 4, 5, 6, 2, 1, 0] rfl)
  have hB101 : ∀ (x0_101 : Nat) (x1_101 : Int32) (x2_101 : Int32) (x4_101 : Int32) (x6_101 : Int32) (kx0_101 : al.1 x0_101 = 13) (dt : q_Dt) (H : Heap) (locs : List Loc) (ls : Array Slot) (hm : X12_tellBoth_b101 al x0_101 x1_101 x2_101 x4_101 x6_101 dt = some dt0) (hW : q_W D al dt H) (hS : va_S (q_A al) s.heap H locs) (hl : lv_has ls 10 [(0, .ref x0_101), (1, .int x1_101), (2, .int x2_101), (4, .int x4_101), (6, .int x6_101)]), W p l e { frames := 4, cells := 0, slots := 0, locals := 87 } s m args below meth c H locs 0 0 (MQ below (q_Q none (fun H => q_W D al dt0 H ∧ q_Rk al 0 none) (q_A al)) args s 0 0 (q_A al)) (F0 m 101 ls []) := by
    intro x0_101 x1_101 x2_101 x4_101 x6_101 kx0_101 dt H locs ls hm hW hS hl
    unfold X12_tellBoth_b101 at hm
    refine lv_aload_n hx hb dX12_tellBoth_101 rfl (lv_at hl 0 rfl) ?_
    refine lv_iload hx hb dX12_tellBoth_102 (lv_at hl 4 rfl) ?_
    refine lv_iconst (v := 0) hx hb dX12_tellBoth_104 (by decide) ?_
    refine lv_iload hx hb dX12_tellBoth_105 (lv_at hl 4 rfl) ?_
    refine q_ifc hm (fun c101001 hm => ?_) (fun c101001 hm => ?_)
    · refine lv_if_eq (tgt := 129) hx hb dX12_tellBoth_107 (by decide) (fun _ => ?_) (fun h => absurd c101001 h)
      refine lv_iconst (v := 0) hx hb dX12_tellBoth_129 (by decide) ?_
      exact hB130 x0_101 x1_101 x2_101 x4_101 x6_101 x0_101 x6_101 0 0 kx0_101 kx0_101 dt _ _ _ hm hW hS (lv_sub hl [0, 1, 2, 3, 4] rfl)
    refine lv_if_eq (tgt := 129) hx hb dX12_tellBoth_107 (by decide) (fun h => absurd h c101001) (fun _ => ?_)
    refine lv_aload_n hx hb dX12_tellBoth_110 rfl (lv_at hl 0 rfl) ?_
    refine r_getF C hW (ci := 12) kx0_101 ff_12_25 cl_12 fl_RX12_52 dX12_tellBoth_111 (fun k101002 => ?_)
    refine lv_bipush (v := 8) hx hb dX12_tellBoth_114 (by decide) ?_
    refine lv_aload_n hx hb dX12_tellBoth_116 rfl (lv_at hl 0 rfl) ?_
    refine r_getI C hW (ci := 12) kx0_101 ff_12_19 cl_12 fl_RX12_245 dX12_tellBoth_117 ?_
    refine lv_imul hx hb dX12_tellBoth_120 ?_
    refine lv_iload_n hx hb dX12_tellBoth_121 rfl (lv_at hl 2 rfl) ?_
    refine lv_iadd hx hb dX12_tellBoth_122 ?_
    refine r_iald C hW hm k101002 dX12_tellBoth_123 (fun hm => ?_)
    refine lv_iconst (v := 1) hx hb dX12_tellBoth_124 (by decide) ?_
    refine lv_isub hx hb dX12_tellBoth_125 ?_
    refine lv_goto (tgt := 130) hx hb dX12_tellBoth_126 (by decide) ?_
    exact hB130 x0_101 x1_101 x2_101 x4_101 x6_101 x0_101 x6_101 0 ((dt.1 (al.2.2 x0_101 25) (Int32.toNatClampNeg ((8 * (dt.1 x0_101 19)) + x2_101))) - 1) kx0_101 kx0_101 dt _ _ _ hm hW hS (lv_sub hl [0, 1, 2, 3, 4] rfl)
  have hB83 : ∀ (x0_83 : Nat) (x1_83 : Int32) (x2_83 : Int32) (x3_83 : Int32) (x4_83 : Int32) (x5_83 : Int32) (t0_83 : Int32) (kx0_83 : al.1 x0_83 = 13) (dt : q_Dt) (H : Heap) (locs : List Loc) (ls : Array Slot) (hm : X12_tellBoth_b83 al x0_83 x1_83 x2_83 x3_83 x4_83 x5_83 t0_83 dt = some dt0) (hW : q_W D al dt H) (hS : va_S (q_A al) s.heap H locs) (hl : lv_has ls 10 [(0, .ref x0_83), (1, .int x1_83), (2, .int x2_83), (3, .int x3_83), (4, .int x4_83), (5, .int x5_83)]), W p l e { frames := 4, cells := 0, slots := 0, locals := 87 } s m args below meth c H locs 0 0 (MQ below (q_Q none (fun H => q_W D al dt0 H ∧ q_Rk al 0 none) (q_A al)) args s 0 0 (q_A al)) (F0 m 83 ls [.int t0_83]) := by
    intro x0_83 x1_83 x2_83 x3_83 x4_83 x5_83 t0_83 kx0_83 dt H locs ls hm hW hS hl
    unfold X12_tellBoth_b83 at hm
    refine lv_istore (i := 6) (lv' := [(6, .int t0_83), (0, .ref x0_83), (1, .int x1_83), (2, .int x2_83), (3, .int x3_83), (4, .int x4_83), (5, .int x5_83)]) hx hb dX12_tellBoth_83 hl (by decide) rfl (fun ls hl => ?_)
    refine lv_iload hx hb dX12_tellBoth_85 (lv_at hl 6 rfl) ?_
    refine q_ifc hm (fun c83001 hm => ?_) (fun c83001 hm => ?_)
    · refine lv_if_eq (tgt := 101) hx hb dX12_tellBoth_87 (by decide) (fun _ => ?_) (fun h => absurd c83001 h)
      exact hB101 x0_83 x1_83 x2_83 x4_83 t0_83 kx0_83 dt _ _ _ hm hW hS (lv_sub hl [1, 2, 3, 5, 0] rfl)
    refine lv_if_eq (tgt := 101) hx hb dX12_tellBoth_87 (by decide) (fun h => absurd h c83001) (fun _ => ?_)
    refine lv_iload hx hb dX12_tellBoth_90 (lv_at hl 0 rfl) ?_
    refine q_ifc hm (fun c83002 hm => ?_) (fun c83002 hm => ?_)
    · refine lv_if_ne (tgt := 101) hx hb dX12_tellBoth_92 (by decide) (fun h => absurd c83002 h) (fun _ => ?_)
      refine lv_aload_n hx hb dX12_tellBoth_95 rfl (lv_at hl 1 rfl) ?_
      refine lv_iconst (v := 5) hx hb dX12_tellBoth_96 (by decide) ?_
      refine lv_iload_n hx hb dX12_tellBoth_97 rfl (lv_at hl 4 rfl) ?_
      obtain ⟨dt83004, hc83003, hm⟩ := q_b1i hm
      refine q_callV C hW hS (As := [.int 5, .int x3_83]) (rest := []) (st1 := []) (c_X12_amiss l D al dt x0_83 5 x3_83 kx0_83 dt83004 hc83003) yl_X12_amiss vl_X12_amiss ml_RX12_283 (ci := 12) rfl kx0_83 (by decide) rfl ⟨Nat.le_of_ble_eq_true rfl, Nat.le_of_ble_eq_true rfl⟩ hl rfl (Nat.le_of_ble_eq_true rfl) dX12_tellBoth_98 ⟨Nat.le_refl _, Nat.le_refl _⟩ rfl (fun H locs k83005 hW hS => ?_)
      exact hB101 x0_83 x1_83 x2_83 x4_83 t0_83 kx0_83 dt83004 _ _ _ hm hW hS (lv_sub hl [1, 2, 3, 5, 0] rfl)
    refine lv_if_ne (tgt := 101) hx hb dX12_tellBoth_92 (by decide) (fun _ => ?_) (fun h => absurd h c83002)
    exact hB101 x0_83 x1_83 x2_83 x4_83 t0_83 kx0_83 dt _ _ _ hm hW hS (lv_sub hl [1, 2, 3, 5, 0] rfl)
  have hB82 : ∀ (x0_82 : Nat) (x1_82 : Int32) (x2_82 : Int32) (x3_82 : Int32) (x4_82 : Int32) (x5_82 : Int32) (kx0_82 : al.1 x0_82 = 13) (dt : q_Dt) (H : Heap) (locs : List Loc) (ls : Array Slot) (hm : X12_tellBoth_b82 al x0_82 x1_82 x2_82 x3_82 x4_82 x5_82 dt = some dt0) (hW : q_W D al dt H) (hS : va_S (q_A al) s.heap H locs) (hl : lv_has ls 10 [(0, .ref x0_82), (1, .int x1_82), (2, .int x2_82), (3, .int x3_82), (4, .int x4_82), (5, .int x5_82)]), W p l e { frames := 4, cells := 0, slots := 0, locals := 87 } s m args below meth c H locs 0 0 (MQ below (q_Q none (fun H => q_W D al dt0 H ∧ q_Rk al 0 none) (q_A al)) args s 0 0 (q_A al)) (F0 m 82 ls []) := by
    intro x0_82 x1_82 x2_82 x3_82 x4_82 x5_82 kx0_82 dt H locs ls hm hW hS hl
    unfold X12_tellBoth_b82 at hm
    refine lv_iconst (v := 0) hx hb dX12_tellBoth_82 (by decide) ?_
    exact hB83 x0_82 x1_82 x2_82 x3_82 x4_82 x5_82 0 kx0_82 dt _ _ _ hm hW hS (lv_sub hl [0, 1, 2, 3, 4, 5] rfl)
  have hB39 : ∀ (x0_39 : Nat) (x1_39 : Int32) (x2_39 : Int32) (x3_39 : Int32) (x4_39 : Int32) (t0_39 : Int32) (kx0_39 : al.1 x0_39 = 13) (dt : q_Dt) (H : Heap) (locs : List Loc) (ls : Array Slot) (hm : X12_tellBoth_b39 al x0_39 x1_39 x2_39 x3_39 x4_39 t0_39 dt = some dt0) (hW : q_W D al dt H) (hS : va_S (q_A al) s.heap H locs) (hl : lv_has ls 10 [(0, .ref x0_39), (1, .int x1_39), (2, .int x2_39), (3, .int x3_39), (4, .int x4_39)]), W p l e { frames := 4, cells := 0, slots := 0, locals := 87 } s m args below meth c H locs 0 0 (MQ below (q_Q none (fun H => q_W D al dt0 H ∧ q_Rk al 0 none) (q_A al)) args s 0 0 (q_A al)) (F0 m 39 ls [.int t0_39]) := by
    intro x0_39 x1_39 x2_39 x3_39 x4_39 t0_39 kx0_39 dt H locs ls hm hW hS hl
    unfold X12_tellBoth_b39 at hm
    refine lv_istore (i := 5) (lv' := [(5, .int t0_39), (0, .ref x0_39), (1, .int x1_39), (2, .int x2_39), (3, .int x3_39), (4, .int x4_39)]) hx hb dX12_tellBoth_39 hl (by decide) rfl (fun ls hl => ?_)
    refine lv_iload hx hb dX12_tellBoth_41 (lv_at hl 0 rfl) ?_
    refine q_ifc hm (fun c39001 hm => ?_) (fun c39001 hm => ?_)
    · refine lv_if_eq (tgt := 82) hx hb dX12_tellBoth_43 (by decide) (fun _ => ?_) (fun h => absurd c39001 h)
      exact hB82 x0_39 x1_39 x2_39 x3_39 x4_39 t0_39 kx0_39 dt _ _ _ hm hW hS (lv_sub hl [1, 2, 3, 4, 5, 0] rfl)
    refine lv_if_eq (tgt := 82) hx hb dX12_tellBoth_43 (by decide) (fun h => absurd h c39001) (fun _ => ?_)
    refine lv_aload_n hx hb dX12_tellBoth_46 rfl (lv_at hl 1 rfl) ?_
    refine r_getF C hW (ci := 12) kx0_39 ff_12_25 cl_12 fl_RX12_52 dX12_tellBoth_47 (fun k39002 => ?_)
    refine lv_bipush (v := 8) hx hb dX12_tellBoth_50 (by decide) ?_
    refine lv_aload_n hx hb dX12_tellBoth_52 rfl (lv_at hl 1 rfl) ?_
    refine r_getI C hW (ci := 12) kx0_39 ff_12_19 cl_12 fl_RX12_245 dX12_tellBoth_53 ?_
    refine lv_imul hx hb dX12_tellBoth_56 ?_
    refine lv_iload_n hx hb dX12_tellBoth_57 rfl (lv_at hl 3 rfl) ?_
    refine lv_iadd hx hb dX12_tellBoth_58 ?_
    refine r_iald C hW hm k39002 dX12_tellBoth_59 (fun hm => ?_)
    refine lv_aload_n hx hb dX12_tellBoth_60 rfl (lv_at hl 1 rfl) ?_
    refine r_getF C hW (ci := 12) kx0_39 ff_12_25 cl_12 fl_RX12_52 dX12_tellBoth_61 (fun k39003 => ?_)
    refine lv_bipush (v := 8) hx hb dX12_tellBoth_64 (by decide) ?_
    refine lv_aload_n hx hb dX12_tellBoth_66 rfl (lv_at hl 1 rfl) ?_
    refine r_getI C hW (ci := 12) kx0_39 ff_12_19 cl_12 fl_RX12_245 dX12_tellBoth_67 ?_
    refine lv_imul hx hb dX12_tellBoth_70 ?_
    refine lv_iload hx hb dX12_tellBoth_71 (lv_at hl 5 rfl) ?_
    refine lv_iadd hx hb dX12_tellBoth_73 ?_
    refine r_iald C hW hm k39003 dX12_tellBoth_74 (fun hm => ?_)
    refine q_ifc hm (fun c39004 hm => ?_) (fun c39004 hm => ?_)
    · refine lv_icmp_ne (tgt := 82) hx hb dX12_tellBoth_75 (by decide) (fun h => absurd c39004 h) (fun _ => ?_)
      refine lv_iconst (v := 1) hx hb dX12_tellBoth_78 (by decide) ?_
      refine lv_goto (tgt := 83) hx hb dX12_tellBoth_79 (by decide) ?_
      exact hB83 x0_39 x1_39 x2_39 x3_39 x4_39 t0_39 1 kx0_39 dt _ _ _ hm hW hS (lv_sub hl [1, 2, 3, 4, 5, 0] rfl)
    refine lv_icmp_ne (tgt := 82) hx hb dX12_tellBoth_75 (by decide) (fun _ => ?_) (fun h => absurd h c39004)
    exact hB82 x0_39 x1_39 x2_39 x3_39 x4_39 t0_39 kx0_39 dt _ _ _ hm hW hS (lv_sub hl [1, 2, 3, 4, 5, 0] rfl)
  have hB38 : ∀ (x0_38 : Nat) (x1_38 : Int32) (x2_38 : Int32) (x3_38 : Int32) (x4_38 : Int32) (kx0_38 : al.1 x0_38 = 13) (dt : q_Dt) (H : Heap) (locs : List Loc) (ls : Array Slot) (hm : X12_tellBoth_b38 al x0_38 x1_38 x2_38 x3_38 x4_38 dt = some dt0) (hW : q_W D al dt H) (hS : va_S (q_A al) s.heap H locs) (hl : lv_has ls 10 [(0, .ref x0_38), (1, .int x1_38), (2, .int x2_38), (3, .int x3_38), (4, .int x4_38)]), W p l e { frames := 4, cells := 0, slots := 0, locals := 87 } s m args below meth c H locs 0 0 (MQ below (q_Q none (fun H => q_W D al dt0 H ∧ q_Rk al 0 none) (q_A al)) args s 0 0 (q_A al)) (F0 m 38 ls []) := by
    intro x0_38 x1_38 x2_38 x3_38 x4_38 kx0_38 dt H locs ls hm hW hS hl
    unfold X12_tellBoth_b38 at hm
    refine lv_iconst (v := 0) hx hb dX12_tellBoth_38 (by decide) ?_
    exact hB39 x0_38 x1_38 x2_38 x3_38 x4_38 0 kx0_38 dt _ _ _ hm hW hS (lv_sub hl [0, 1, 2, 3, 4] rfl)
  refine lv_aload_n hx hb dX12_tellBoth_0 rfl (lv_at hl 0 rfl) ?_
  refine lv_iconst (v := 0) hx hb dX12_tellBoth_1 (by decide) ?_
  obtain ⟨v1000002, dt1000003, hc1000001, hm⟩ := q_b2i hm
  refine q_callV C hW hS (As := [.int 0]) (rest := []) (st1 := [.int v1000002]) (c_X12_known l D al dt x0 0 kx0 v1000002 dt1000003 hc1000001) yl_X12_known vl_X12_known ml_RX12_315 (ci := 12) rfl kx0 (by decide) rfl ⟨Nat.le_of_ble_eq_true rfl, Nat.le_of_ble_eq_true rfl⟩ hl rfl (Nat.le_of_ble_eq_true rfl) dX12_tellBoth_2 ⟨Nat.le_refl _, Nat.le_refl _⟩ rfl (fun H locs k1000004 hW hS => ?_)
  refine lv_istore_n (i := 2) (lv' := [(2, .int v1000002), (0, .ref x0), (1, .int x1)]) hx hb dX12_tellBoth_5 rfl hl (by decide) rfl (fun ls hl => ?_)
  refine lv_aload_n hx hb dX12_tellBoth_6 rfl (lv_at hl 1 rfl) ?_
  refine r_getI C hW (ci := 12) kx0 ff_12_11 cl_12 fl_RX12_215 dX12_tellBoth_7 ?_
  refine lv_istore_n (i := 3) (lv' := [(3, .int (dt1000003.1 x0 11)), (2, .int v1000002), (0, .ref x0), (1, .int x1)]) hx hb dX12_tellBoth_10 rfl hl (by decide) rfl (fun ls hl => ?_)
  refine lv_aload_n hx hb dX12_tellBoth_11 rfl (lv_at hl 2 rfl) ?_
  refine lv_iconst (v := 0) hx hb dX12_tellBoth_12 (by decide) ?_
  obtain ⟨v1000006, dt1000007, hc1000005, hm⟩ := q_b2i hm
  refine q_callV C hW hS (As := [.int 0]) (rest := []) (st1 := [.int v1000006]) (c_X12_known l D al dt1000003 x0 0 kx0 v1000006 dt1000007 hc1000005) yl_X12_known vl_X12_known ml_RX12_315 (ci := 12) rfl kx0 (by decide) rfl ⟨Nat.le_of_ble_eq_true rfl, Nat.le_of_ble_eq_true rfl⟩ hl rfl (Nat.le_of_ble_eq_true rfl) dX12_tellBoth_13 ⟨Nat.le_refl _, Nat.le_refl _⟩ rfl (fun H locs k1000008 hW hS => ?_)
  refine lv_istore (i := 4) (lv' := [(4, .int v1000006), (3, .int (dt1000003.1 x0 11)), (2, .int v1000002), (0, .ref x0), (1, .int x1)]) hx hb dX12_tellBoth_16 hl (by decide) rfl (fun ls hl => ?_)
  refine lv_aload_n hx hb dX12_tellBoth_18 rfl (lv_at hl 3 rfl) ?_
  refine r_getI C hW (ci := 12) kx0 ff_12_13 cl_12 fl_RX12_212 dX12_tellBoth_19 ?_
  refine q_ifc hm (fun c1000009 hm => ?_) (fun c1000009 hm => ?_)
  · refine lv_if_ne (tgt := 38) hx hb dX12_tellBoth_22 (by decide) (fun h => absurd c1000009 h) (fun _ => ?_)
    refine lv_iload_n hx hb dX12_tellBoth_25 rfl (lv_at hl 2 rfl) ?_
    refine q_ifc hm (fun c1000010 hm => ?_) (fun c1000010 hm => ?_)
    · refine lv_if_lt (tgt := 38) hx hb dX12_tellBoth_26 (by decide) (fun _ => ?_) (fun h => absurd c1000010 h)
      exact hB38 x0 x1 v1000002 (dt1000003.1 x0 11) v1000006 kx0 dt1000007 _ _ _ hm hW hS (lv_sub hl [3, 4, 2, 1, 0] rfl)
    refine lv_if_lt (tgt := 38) hx hb dX12_tellBoth_26 (by decide) (fun h => absurd h c1000010) (fun _ => ?_)
    refine lv_iload hx hb dX12_tellBoth_29 (lv_at hl 0 rfl) ?_
    refine q_ifc hm (fun c1000011 hm => ?_) (fun c1000011 hm => ?_)
    · refine lv_if_lt (tgt := 38) hx hb dX12_tellBoth_31 (by decide) (fun _ => ?_) (fun h => absurd c1000011 h)
      exact hB38 x0 x1 v1000002 (dt1000003.1 x0 11) v1000006 kx0 dt1000007 _ _ _ hm hW hS (lv_sub hl [3, 4, 2, 1, 0] rfl)
    refine lv_if_lt (tgt := 38) hx hb dX12_tellBoth_31 (by decide) (fun h => absurd h c1000011) (fun _ => ?_)
    refine lv_iconst (v := 1) hx hb dX12_tellBoth_34 (by decide) ?_
    refine lv_goto (tgt := 39) hx hb dX12_tellBoth_35 (by decide) ?_
    exact hB39 x0 x1 v1000002 (dt1000003.1 x0 11) v1000006 1 kx0 dt1000007 _ _ _ hm hW hS (lv_sub hl [3, 4, 2, 1, 0] rfl)
  refine lv_if_ne (tgt := 38) hx hb dX12_tellBoth_22 (by decide) (fun _ => ?_) (fun h => absurd h c1000009)
  exact hB38 x0 x1 v1000002 (dt1000003.1 x0 11) v1000006 kx0 dt1000007 _ _ _ hm hW hS (lv_sub hl [3, 4, 2, 1, 0] rfl)
