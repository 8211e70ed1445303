theorem dX4_bitJoined_0 : decode cX4_bitJoined 0 = .ok (.lconst 0, 1) := by decide +kernel
theorem dX4_bitJoined_1 : decode cX4_bitJoined 1 = .ok (.lstore 4, 2) := by decide +kernel
theorem dX4_bitJoined_3 : decode cX4_bitJoined 3 = .ok (.iconst 0, 1) := by decide +kernel
theorem dX4_bitJoined_4 : decode cX4_bitJoined 4 = .ok (.istore 6, 2) := by decide +kernel
theorem dX4_bitJoined_6 : decode cX4_bitJoined 6 = .ok (.iload 6, 2) := by decide +kernel
theorem dX4_bitJoined_8 : decode cX4_bitJoined 8 = .ok (.aload_n 1, 1) := by decide +kernel
theorem dX4_bitJoined_9 : decode cX4_bitJoined 9 = .ok (.getfield 44, 3) := by decide +kernel
theorem dX4_bitJoined_12 : decode cX4_bitJoined 12 = .ok (.if_icmp .ge 39, 3) := by decide +kernel
theorem dX4_bitJoined_15 : decode cX4_bitJoined 15 = .ok (.aload_n 2, 1) := by decide +kernel
theorem dX4_bitJoined_16 : decode cX4_bitJoined 16 = .ok (.iload 6, 2) := by decide +kernel
theorem dX4_bitJoined_18 : decode cX4_bitJoined 18 = .ok (.invokevirtual 47, 3) := by decide +kernel
theorem dX4_bitJoined_21 : decode cX4_bitJoined 21 = .ok (.iload_n 3, 1) := by decide +kernel
theorem dX4_bitJoined_22 : decode cX4_bitJoined 22 = .ok (.if_icmp .ne 23, 3) := by decide +kernel
theorem dX4_bitJoined_25 : decode cX4_bitJoined 25 = .ok (.lload 4, 2) := by decide +kernel
theorem dX4_bitJoined_27 : decode cX4_bitJoined 27 = .ok (.aload_n 2, 1) := by decide +kernel
theorem dX4_bitJoined_28 : decode cX4_bitJoined 28 = .ok (.iload 6, 2) := by decide +kernel
theorem dX4_bitJoined_30 : decode cX4_bitJoined 30 = .ok (.invokevirtual 60, 3) := by decide +kernel
theorem dX4_bitJoined_33 : decode cX4_bitJoined 33 = .ok (.i2l, 1) := by decide +kernel
theorem dX4_bitJoined_34 : decode cX4_bitJoined 34 = .ok (.aload_n 1, 1) := by decide +kernel
theorem dX4_bitJoined_35 : decode cX4_bitJoined 35 = .ok (.aload_n 2, 1) := by decide +kernel
theorem dX4_bitJoined_36 : decode cX4_bitJoined 36 = .ok (.iload 6, 2) := by decide +kernel
theorem dX4_bitJoined_38 : decode cX4_bitJoined 38 = .ok (.invokestatic 81, 3) := by decide +kernel
theorem dX4_bitJoined_41 : decode cX4_bitJoined 41 = .ok (.lmul, 1) := by decide +kernel
theorem dX4_bitJoined_42 : decode cX4_bitJoined 42 = .ok (.ladd, 1) := by decide +kernel
theorem dX4_bitJoined_43 : decode cX4_bitJoined 43 = .ok (.lstore 4, 2) := by decide +kernel
theorem dX4_bitJoined_45 : decode cX4_bitJoined 45 = .ok (.iinc 6 1, 3) := by decide +kernel
theorem dX4_bitJoined_48 : decode cX4_bitJoined 48 = .ok (.goto (-42), 3) := by decide +kernel
theorem dX4_bitJoined_51 : decode cX4_bitJoined 51 = .ok (.lload 4, 2) := by decide +kernel
theorem dX4_bitJoined_53 : decode cX4_bitJoined 53 = .ok (.lconst 0, 1) := by decide +kernel
theorem dX4_bitJoined_54 : decode cX4_bitJoined 54 = .ok (.lcmp, 1) := by decide +kernel
theorem dX4_bitJoined_55 : decode cX4_bitJoined 55 = .ok (.ifCond .ge 7, 3) := by decide +kernel
theorem dX4_bitJoined_58 : decode cX4_bitJoined 58 = .ok (.iconst 1, 1) := by decide +kernel
theorem dX4_bitJoined_59 : decode cX4_bitJoined 59 = .ok (.goto 4, 3) := by decide +kernel
theorem dX4_bitJoined_62 : decode cX4_bitJoined 62 = .ok (.iconst 0, 1) := by decide +kernel
theorem dX4_bitJoined_63 : decode cX4_bitJoined 63 = .ok (.ireturn, 1) := by decide +kernel
set_option maxRecDepth 100000 in
theorem c_X4_bitJoined (l : Launch) (D : q_D) (al : q_Al) (dt : q_Dt) (x0 : Nat) (x1 : Nat) (x2 : Nat) (x3 : Int32) (kx0 : al.1 x0 = 5) (kx1 : al.1 x1 = 9) (kx2 : al.1 x2 = 8) (r0 : Int32) (hm : X4_bitJoined al dt x0 x1 x2 x3 = some r0) : q_Mt l yX4_bitJoined cX4_bitJoined 7 (some FieldType.int) 3 69 D al [.ref x0, .ref x1, .ref x2, .int x3] dt 0 (some (.int r0)) dt := by
  refine q_Mt.of (by decide) (Nat.le_of_ble_eq_true rfl) ?_
  intro p e s m args below meth c ls C hargs hW hl
  have hx := C.1
  have hb := C.2.1
  have hown := C.2.2.2.2.2.1
  have hts := C.2.2.2.2.2.2.1
  have hS : va_S (q_A al) s.heap s.heap [] := va_S.rf
  have hl : lv_has ls 7 [(0, .ref x0), (1, .ref x1), (2, .ref x2), (3, .int x3)] := hl
  unfold X4_bitJoined at hm
  have hB6 : ∀ (x1_6 : Nat) (x2_6 : Nat) (x3_6 : Int32) (kx1_6 : al.1 x1_6 = 9) (kx2_6 : al.1 x2_6 = 8) (n_6 : Nat) (x4_6 : Int64) (x6_6 : Int32) (H : Heap) (locs : List Loc) (ls : Array Slot) (hm : X4_bitJoined_b6 al dt x1_6 x2_6 x3_6 n_6 x4_6 x6_6 = some r0) (hW : q_W D al dt H) (hS : va_S (q_A al) s.heap H locs) (hl : lv_has ls 7 [(1, .ref x1_6), (2, .ref x2_6), (3, .int x3_6), (4, .long x4_6), (6, .int x6_6)]), W p l e { frames := 3, cells := 0, slots := 0, locals := 69 } s m args below meth c H locs 0 0 (MQ below (q_Q (some (.int r0)) (fun H => q_W D al dt H ∧ q_Rk al 0 (some (.int r0))) (q_A al)) args s 0 0 (q_A al)) (F0 m 6 ls []) := by
    intro x1_6 x2_6 x3_6 kx1_6 kx2_6
    intro n_6
    induction n_6 with
    | zero => intro x4_6 x6_6 H locs ls hm hW hS hl; cases hm
    | succ n_6 ih6 =>
      have hB45 : ∀ (x4_45 : Int64) (x6_45 : Int32) (H : Heap) (locs : List Loc) (ls : Array Slot) (hm : X4_bitJoined_b45 al dt (X4_bitJoined_b6 al dt x1_6 x2_6 x3_6 n_6) x1_6 x2_6 x3_6 x4_45 x6_45 = some r0) (hW : q_W D al dt H) (hS : va_S (q_A al) s.heap H locs) (hl : lv_has ls 7 [(1, .ref x1_6), (2, .ref x2_6), (3, .int x3_6), (4, .long x4_45), (6, .int x6_45)]), W p l e { frames := 3, cells := 0, slots := 0, locals := 69 } s m args below meth c H locs 0 0 (MQ below (q_Q (some (.int r0)) (fun H => q_W D al dt H ∧ q_Rk al 0 (some (.int r0))) (q_A al)) args s 0 0 (q_A al)) (F0 m 45 ls []) := by
        intro x4_45 x6_45 H locs ls hm hW hS hl
        unfold X4_bitJoined_b45 at hm
        refine lv_iinc (v := (x6_45 + 1)) (lv' := [(6, .int (x6_45 + 1)), (1, .ref x1_6), (2, .ref x2_6), (3, .int x3_6), (4, .long x4_45)]) hx hb dX4_bitJoined_45 hl (k := 4) rfl rfl (by decide) rfl (fun ls hl => ?_)
        refine lv_goto (tgt := 6) hx hb dX4_bitJoined_48 (by decide) ?_
        exact ih6 x4_45 (x6_45 + 1) _ _ _ hm hW hS (lv_sub hl [1, 2, 3, 4, 0] rfl)
      intro x4_6 x6_6 H locs ls hm hW hS hl
      rw [X4_bitJoined_b6] at hm
      refine lv_iload hx hb dX4_bitJoined_6 (lv_at hl 4 rfl) ?_
      refine lv_aload_n hx hb dX4_bitJoined_8 rfl (lv_at hl 0 rfl) ?_
      refine r_getI C hW (ci := 8) kx1_6 ff_8_2 cl_8 fl_RX4_44 dX4_bitJoined_9 ?_
      refine q_ifc hm (fun c6001 hm => ?_) (fun c6001 hm => ?_)
      · refine lv_icmp_ge (tgt := 51) hx hb dX4_bitJoined_12 (by decide) (fun _ => ?_) (fun h => absurd c6001 h)
        refine lv_lload hx hb dX4_bitJoined_51 (lv_at hl 3 rfl) ?_
        refine lv_lconst (v := 0) hx hb dX4_bitJoined_53 rfl ?_
        refine W.lcmp hx hb dX4_bitJoined_54 ?_
        refine q_ifc hm (fun c6002 hm => ?_) (fun c6002 hm => ?_)
        · refine lv_if_ge (tgt := 62) hx hb dX4_bitJoined_55 (by decide) (fun _ => ?_) (fun h => absurd (q_cmp_ge.mpr c6002) h)
          refine lv_iconst (v := 0) hx hb dX4_bitJoined_62 (by decide) ?_
          exact e_i C hW hS hm dX4_bitJoined_63
        refine lv_if_ge (tgt := 62) hx hb dX4_bitJoined_55 (by decide) (fun h => absurd (q_cmp_ge.mp h) c6002) (fun _ => ?_)
        refine lv_iconst (v := 1) hx hb dX4_bitJoined_58 (by decide) ?_
        refine lv_goto (tgt := 63) hx hb dX4_bitJoined_59 (by decide) ?_
        exact e_i C hW hS hm dX4_bitJoined_63
      refine lv_icmp_ge (tgt := 51) hx hb dX4_bitJoined_12 (by decide) (fun h => absurd h c6001) (fun _ => ?_)
      refine lv_aload_n hx hb dX4_bitJoined_15 rfl (lv_at hl 1 rfl) ?_
      refine lv_iload hx hb dX4_bitJoined_16 (lv_at hl 4 rfl) ?_
      obtain ⟨v6004, hc6003, hm⟩ := q_b1i hm
      refine q_callV C hW hS (As := [.int x6_6]) (rest := []) (st1 := [.int v6004]) (c_X7_periodAt l D al dt x2_6 x6_6 kx2_6 v6004 hc6003) yl_X7_periodAt vl_X7_periodAt ml_RX4_47 (ci := 7) rfl kx2_6 (by decide) rfl ⟨Nat.le_of_ble_eq_true rfl, Nat.le_of_ble_eq_true rfl⟩ hl rfl (Nat.le_of_ble_eq_true rfl) dX4_bitJoined_18 ⟨Nat.le_refl _, Nat.le_refl _⟩ rfl (fun H locs k6005 hW hS => ?_)
      refine lv_iload_n hx hb dX4_bitJoined_21 rfl (lv_at hl 2 rfl) ?_
      refine q_ifc hm (fun c6006 hm => ?_) (fun c6006 hm => ?_)
      · refine lv_icmp_ne (tgt := 45) hx hb dX4_bitJoined_22 (by decide) (fun h => absurd c6006 h) (fun _ => ?_)
        refine lv_lload hx hb dX4_bitJoined_25 (lv_at hl 3 rfl) ?_
        refine lv_aload_n hx hb dX4_bitJoined_27 rfl (lv_at hl 1 rfl) ?_
        refine lv_iload hx hb dX4_bitJoined_28 (lv_at hl 4 rfl) ?_
        obtain ⟨v6008, hc6007, hm⟩ := q_b1i hm
        refine q_callV C hW hS (As := [.int x6_6]) (rest := [.long x4_6]) (st1 := [.int v6008, .long x4_6]) (c_X7_signAt l D al dt x2_6 x6_6 kx2_6 v6008 hc6007) yl_X7_signAt vl_X7_signAt ml_RX4_60 (ci := 7) rfl kx2_6 (by decide) rfl ⟨Nat.le_of_ble_eq_true rfl, Nat.le_of_ble_eq_true rfl⟩ hl rfl (Nat.le_of_ble_eq_true rfl) dX4_bitJoined_30 ⟨Nat.le_refl _, Nat.le_refl _⟩ rfl (fun H locs k6009 hW hS => ?_)
        refine lv_i2l (v := (Int32.toInt64 v6008)) hx hb dX4_bitJoined_33 rfl ?_
        refine lv_aload_n hx hb dX4_bitJoined_34 rfl (lv_at hl 0 rfl) ?_
        refine lv_aload_n hx hb dX4_bitJoined_35 rfl (lv_at hl 1 rfl) ?_
        refine lv_iload hx hb dX4_bitJoined_36 (lv_at hl 4 rfl) ?_
        obtain ⟨v6011, hc6010, hm⟩ := q_b1i hm
        refine q_callS C hW hS (As := [.ref x1_6, .ref x2_6, .int x6_6]) (rest := [.long (Int32.toInt64 v6008), .long x4_6]) (st1 := [.long v6011, .long (Int32.toInt64 v6008), .long x4_6]) (c_X4_joinedValue l D al dt x1_6 x2_6 x6_6 kx1_6 kx2_6 v6011 hc6010) yl_X4_joinedValue sl_X4_joinedValue ml_RX4_81 rfl ⟨Nat.le_of_ble_eq_true rfl, Nat.le_of_ble_eq_true rfl⟩ hl rfl (Nat.le_of_ble_eq_true rfl) dX4_bitJoined_38 ⟨Nat.le_refl _, Nat.le_refl _⟩ rfl (fun H locs k6012 hW hS => ?_)
        refine lv_lmul hx hb dX4_bitJoined_41 ?_
        refine lv_ladd hx hb dX4_bitJoined_42 ?_
        refine lv_lstore (i := 4) (lv' := [(4, .long (x4_6 + ((Int32.toInt64 v6008) * v6011))), (1, .ref x1_6), (2, .ref x2_6), (3, .int x3_6), (6, .int x6_6)]) hx hb dX4_bitJoined_43 hl (by decide) rfl (fun ls hl => ?_)
        exact hB45 (x4_6 + ((Int32.toInt64 v6008) * v6011)) x6_6 _ _ _ hm hW hS (lv_sub hl [1, 2, 3, 0, 4] rfl)
      refine lv_icmp_ne (tgt := 45) hx hb dX4_bitJoined_22 (by decide) (fun _ => ?_) (fun h => absurd h c6006)
      exact hB45 x4_6 x6_6 _ _ _ hm hW hS (lv_sub hl [0, 1, 2, 3, 4] rfl)
  refine lv_lconst (v := 0) hx hb dX4_bitJoined_0 rfl ?_
  refine lv_lstore (i := 4) (lv' := [(4, .long 0), (0, .ref x0), (1, .ref x1), (2, .ref x2), (3, .int x3)]) hx hb dX4_bitJoined_1 hl (by decide) rfl (fun ls hl => ?_)
  refine lv_iconst (v := 0) hx hb dX4_bitJoined_3 (by decide) ?_
  refine lv_istore (i := 6) (lv' := [(6, .int 0), (4, .long 0), (0, .ref x0), (1, .ref x1), (2, .ref x2), (3, .int x3)]) hx hb dX4_bitJoined_4 hl (by decide) rfl (fun ls hl => ?_)
  exact hB6 x1 x2 x3 kx1 kx2 q_FU 0 0 _ _ _ hm hW hS (lv_sub hl [3, 4, 5, 1, 0] rfl)
theorem dX4_isFrame_0 : decode cX4_isFrame 0 = .ok (.iconst 0, 1) := by decide +kernel
theorem dX4_isFrame_1 : decode cX4_isFrame 1 = .ok (.istore 4, 2) := by decide +kernel
theorem dX4_isFrame_3 : decode cX4_isFrame 3 = .ok (.iload 4, 2) := by decide +kernel
theorem dX4_isFrame_5 : decode cX4_isFrame 5 = .ok (.iload_n 2, 1) := by decide +kernel
theorem dX4_isFrame_6 : decode cX4_isFrame 6 = .ok (.if_icmp .ge 28, 3) := by decide +kernel
theorem dX4_isFrame_9 : decode cX4_isFrame 9 = .ok (.aload_n 0, 1) := by decide +kernel
theorem dX4_isFrame_10 : decode cX4_isFrame 10 = .ok (.iload_n 3, 1) := by decide +kernel
theorem dX4_isFrame_11 : decode cX4_isFrame 11 = .ok (.iload 4, 2) := by decide +kernel
theorem dX4_isFrame_13 : decode cX4_isFrame 13 = .ok (.iadd, 1) := by decide +kernel
theorem dX4_isFrame_14 : decode cX4_isFrame 14 = .ok (.invokevirtual 71, 3) := by decide +kernel
theorem dX4_isFrame_17 : decode cX4_isFrame 17 = .ok (.iload_n 1, 1) := by decide +kernel
theorem dX4_isFrame_18 : decode cX4_isFrame 18 = .ok (.iload 4, 2) := by decide +kernel
theorem dX4_isFrame_20 : decode cX4_isFrame 20 = .ok (.ishr, 1) := by decide +kernel
theorem dX4_isFrame_21 : decode cX4_isFrame 21 = .ok (.iconst 1, 1) := by decide +kernel
theorem dX4_isFrame_22 : decode cX4_isFrame 22 = .ok (.iand, 1) := by decide +kernel
theorem dX4_isFrame_23 : decode cX4_isFrame 23 = .ok (.if_icmp .eq 5, 3) := by decide +kernel
theorem dX4_isFrame_26 : decode cX4_isFrame 26 = .ok (.iconst 0, 1) := by decide +kernel
theorem dX4_isFrame_27 : decode cX4_isFrame 27 = .ok (.ireturn, 1) := by decide +kernel
theorem dX4_isFrame_28 : decode cX4_isFrame 28 = .ok (.iinc 4 1, 3) := by decide +kernel
theorem dX4_isFrame_31 : decode cX4_isFrame 31 = .ok (.goto (-28), 3) := by decide +kernel
theorem dX4_isFrame_34 : decode cX4_isFrame 34 = .ok (.iconst 1, 1) := by decide +kernel
theorem dX4_isFrame_35 : decode cX4_isFrame 35 = .ok (.ireturn, 1) := by decide +kernel
set_option maxRecDepth 100000 in
theorem c_X4_isFrame (l : Launch) (D : q_D) (al : q_Al) (dt : q_Dt) (x0 : Nat) (x1 : Int32) (x2 : Int32) (x3 : Int32) (kx0 : al.1 x0 = 5) (r0 : Int32) (hm : X4_isFrame al dt x0 x1 x2 x3 = some r0) : q_Mt l yX4_isFrame cX4_isFrame 5 (some FieldType.boolean) 2 42 D al [.ref x0, .int x1, .int x2, .int x3] dt 0 (some (.int r0)) dt := by
  refine q_Mt.of (by decide) (Nat.le_of_ble_eq_true rfl) ?_
  intro p e s m args below meth c ls C hargs hW hl
  have hx := C.1
  have hb := C.2.1
  have hown := C.2.2.2.2.2.1
  have hts := C.2.2.2.2.2.2.1
  have hS : va_S (q_A al) s.heap s.heap [] := va_S.rf
  have hl : lv_has ls 5 [(0, .ref x0), (1, .int x1), (2, .int x2), (3, .int x3)] := hl
  unfold X4_isFrame at hm
  have hB3 : ∀ (x0_3 : Nat) (x1_3 : Int32) (x2_3 : Int32) (x3_3 : Int32) (kx0_3 : al.1 x0_3 = 5) (n_3 : Nat) (x4_3 : Int32) (H : Heap) (locs : List Loc) (ls : Array Slot) (hm : X4_isFrame_b3 al dt x0_3 x1_3 x2_3 x3_3 n_3 x4_3 = some r0) (hW : q_W D al dt H) (hS : va_S (q_A al) s.heap H locs) (hl : lv_has ls 5 [(0, .ref x0_3), (1, .int x1_3), (2, .int x2_3), (3, .int x3_3), (4, .int x4_3)]), W p l e { frames := 2, cells := 0, slots := 0, locals := 42 } s m args below meth c H locs 0 0 (MQ below (q_Q (some (.int r0)) (fun H => q_W D al dt H ∧ q_Rk al 0 (some (.int r0))) (q_A al)) args s 0 0 (q_A al)) (F0 m 3 ls []) := by
    intro x0_3 x1_3 x2_3 x3_3 kx0_3
    intro n_3
    induction n_3 with
    | zero => intro x4_3 H locs ls hm hW hS hl; cases hm
    | succ n_3 ih3 =>
      intro x4_3 H locs ls hm hW hS hl
      rw [X4_isFrame_b3] at hm
      refine lv_iload hx hb dX4_isFrame_3 (lv_at hl 4 rfl) ?_
      refine lv_iload_n hx hb dX4_isFrame_5 rfl (lv_at hl 2 rfl) ?_
      refine q_ifc hm (fun c3001 hm => ?_) (fun c3001 hm => ?_)
      · refine lv_icmp_ge (tgt := 34) hx hb dX4_isFrame_6 (by decide) (fun _ => ?_) (fun h => absurd c3001 h)
        refine lv_iconst (v := 1) hx hb dX4_isFrame_34 (by decide) ?_
        exact e_zl C hW hS (Or.inr rfl) hm dX4_isFrame_35
      refine lv_icmp_ge (tgt := 34) hx hb dX4_isFrame_6 (by decide) (fun h => absurd h c3001) (fun _ => ?_)
      refine lv_aload_n hx hb dX4_isFrame_9 rfl (lv_at hl 0 rfl) ?_
      refine lv_iload_n hx hb dX4_isFrame_10 rfl (lv_at hl 3 rfl) ?_
      refine lv_iload hx hb dX4_isFrame_11 (lv_at hl 4 rfl) ?_
      refine lv_iadd hx hb dX4_isFrame_13 ?_
      obtain ⟨v3003, hc3002, hm⟩ := q_b1i hm
      refine q_callV C hW hS (As := [.int (x3_3 + x4_3)]) (rest := []) (st1 := [.int v3003]) (c_X4_bitRead l D al dt x0_3 (x3_3 + x4_3) kx0_3 v3003 hc3002) yl_X4_bitRead vl_X4_bitRead ml_RX4_71 (ci := 4) rfl kx0_3 (by decide) rfl ⟨Nat.le_of_ble_eq_true rfl, Nat.le_of_ble_eq_true rfl⟩ hl rfl (Nat.le_of_ble_eq_true rfl) dX4_isFrame_14 ⟨Nat.le_refl _, Nat.le_refl _⟩ rfl (fun H locs k3004 hW hS => ?_)
      refine lv_iload_n hx hb dX4_isFrame_17 rfl (lv_at hl 1 rfl) ?_
      refine lv_iload hx hb dX4_isFrame_18 (lv_at hl 4 rfl) ?_
      refine lv_ishr hx hb dX4_isFrame_20 ?_
      refine lv_iconst (v := 1) hx hb dX4_isFrame_21 (by decide) ?_
      refine lv_iand hx hb dX4_isFrame_22 ?_
      refine q_ifc hm (fun c3005 hm => ?_) (fun c3005 hm => ?_)
      · refine lv_icmp_eq (tgt := 28) hx hb dX4_isFrame_23 (by decide) (fun _ => ?_) (fun h => absurd c3005 h)
        refine lv_iinc (v := (x4_3 + 1)) (lv' := [(4, .int (x4_3 + 1)), (0, .ref x0_3), (1, .int x1_3), (2, .int x2_3), (3, .int x3_3)]) hx hb dX4_isFrame_28 hl (k := 4) rfl rfl (by decide) rfl (fun ls hl => ?_)
        refine lv_goto (tgt := 3) hx hb dX4_isFrame_31 (by decide) ?_
        exact ih3 (x4_3 + 1) _ _ _ hm hW hS (lv_sub hl [1, 2, 3, 4, 0] rfl)
      refine lv_icmp_eq (tgt := 28) hx hb dX4_isFrame_23 (by decide) (fun h => absurd h c3005) (fun _ => ?_)
      refine lv_iconst (v := 0) hx hb dX4_isFrame_26 (by decide) ?_
      exact e_zl C hW hS (Or.inl rfl) hm dX4_isFrame_27
  refine lv_iconst (v := 0) hx hb dX4_isFrame_0 (by decide) ?_
  refine lv_istore (i := 4) (lv' := [(4, .int 0), (0, .ref x0), (1, .int x1), (2, .int x2), (3, .int x3)]) hx hb dX4_isFrame_1 hl (by decide) rfl (fun ls hl => ?_)
  exact hB3 x0 x1 x2 x3 kx0 q_FU 0 _ _ _ hm hW hS (lv_sub hl [1, 2, 3, 4, 0] rfl)
theorem dX4_placeOfBits_0 : decode cX4_placeOfBits 0 = .ok (.iconst 0, 1) := by decide +kernel
theorem dX4_placeOfBits_1 : decode cX4_placeOfBits 1 = .ok (.istore 4, 2) := by decide +kernel
theorem dX4_placeOfBits_3 : decode cX4_placeOfBits 3 = .ok (.iload 4, 2) := by decide +kernel
theorem dX4_placeOfBits_5 : decode cX4_placeOfBits 5 = .ok (.iload_n 2, 1) := by decide +kernel
theorem dX4_placeOfBits_6 : decode cX4_placeOfBits 6 = .ok (.iadd, 1) := by decide +kernel
theorem dX4_placeOfBits_7 : decode cX4_placeOfBits 7 = .ok (.iload_n 3, 1) := by decide +kernel
theorem dX4_placeOfBits_8 : decode cX4_placeOfBits 8 = .ok (.if_icmp .gt 23, 3) := by decide +kernel
theorem dX4_placeOfBits_11 : decode cX4_placeOfBits 11 = .ok (.aload_n 0, 1) := by decide +kernel
theorem dX4_placeOfBits_12 : decode cX4_placeOfBits 12 = .ok (.iload_n 1, 1) := by decide +kernel
theorem dX4_placeOfBits_13 : decode cX4_placeOfBits 13 = .ok (.iload_n 2, 1) := by decide +kernel
theorem dX4_placeOfBits_14 : decode cX4_placeOfBits 14 = .ok (.iload 4, 2) := by decide +kernel
theorem dX4_placeOfBits_16 : decode cX4_placeOfBits 16 = .ok (.invokevirtual 100, 3) := by decide +kernel
theorem dX4_placeOfBits_19 : decode cX4_placeOfBits 19 = .ok (.ifCond .eq 6, 3) := by decide +kernel
theorem dX4_placeOfBits_22 : decode cX4_placeOfBits 22 = .ok (.iload 4, 2) := by decide +kernel
theorem dX4_placeOfBits_24 : decode cX4_placeOfBits 24 = .ok (.ireturn, 1) := by decide +kernel
theorem dX4_placeOfBits_25 : decode cX4_placeOfBits 25 = .ok (.iinc 4 1, 3) := by decide +kernel
theorem dX4_placeOfBits_28 : decode cX4_placeOfBits 28 = .ok (.goto (-25), 3) := by decide +kernel
theorem dX4_placeOfBits_31 : decode cX4_placeOfBits 31 = .ok (.iconst (-1), 1) := by decide +kernel
theorem dX4_placeOfBits_32 : decode cX4_placeOfBits 32 = .ok (.ireturn, 1) := by decide +kernel
set_option maxRecDepth 100000 in
theorem c_X4_placeOfBits (l : Launch) (D : q_D) (al : q_Al) (dt : q_Dt) (x0 : Nat) (x1 : Int32) (x2 : Int32) (x3 : Int32) (kx0 : al.1 x0 = 5) (r0 : Int32) (hm : X4_placeOfBits al dt x0 x1 x2 x3 = some r0) : q_Mt l yX4_placeOfBits cX4_placeOfBits 5 (some FieldType.int) 3 66 D al [.ref x0, .int x1, .int x2, .int x3] dt 0 (some (.int r0)) dt := by
  refine q_Mt.of (by decide) (Nat.le_of_ble_eq_true rfl) ?_
  intro p e s m args below meth c ls C hargs hW hl
  have hx := C.1
  have hb := C.2.1
  have hown := C.2.2.2.2.2.1
  have hts := C.2.2.2.2.2.2.1
  have hS : va_S (q_A al) s.heap s.heap [] := va_S.rf
  have hl : lv_has ls 5 [(0, .ref x0), (1, .int x1), (2, .int x2), (3, .int x3)] := hl
  unfold X4_placeOfBits at hm
  have hB3 : ∀ (x0_3 : Nat) (x1_3 : Int32) (x2_3 : Int32) (x3_3 : Int32) (kx0_3 : al.1 x0_3 = 5) (n_3 : Nat) (x4_3 : Int32) (H : Heap) (locs : List Loc) (ls : Array Slot) (hm : X4_placeOfBits_b3 al dt x0_3 x1_3 x2_3 x3_3 n_3 x4_3 = some r0) (hW : q_W D al dt H) (hS : va_S (q_A al) s.heap H locs) (hl : lv_has ls 5 [(0, .ref x0_3), (1, .int x1_3), (2, .int x2_3), (3, .int x3_3), (4, .int x4_3)]), W p l e { frames := 3, cells := 0, slots := 0, locals := 66 } s m args below meth c H locs 0 0 (MQ below (q_Q (some (.int r0)) (fun H => q_W D al dt H ∧ q_Rk al 0 (some (.int r0))) (q_A al)) args s 0 0 (q_A al)) (F0 m 3 ls []) := by
    intro x0_3 x1_3 x2_3 x3_3 kx0_3
    intro n_3
    induction n_3 with
    | zero => intro x4_3 H locs ls hm hW hS hl; cases hm
    | succ n_3 ih3 =>
      intro x4_3 H locs ls hm hW hS hl
      rw [X4_placeOfBits_b3] at hm
      refine lv_iload hx hb dX4_placeOfBits_3 (lv_at hl 4 rfl) ?_
      refine lv_iload_n hx hb dX4_placeOfBits_5 rfl (lv_at hl 2 rfl) ?_
      refine lv_iadd hx hb dX4_placeOfBits_6 ?_
      refine lv_iload_n hx hb dX4_placeOfBits_7 rfl (lv_at hl 3 rfl) ?_
      refine q_ifc hm (fun c3001 hm => ?_) (fun c3001 hm => ?_)
      · refine lv_icmp_gt (tgt := 31) hx hb dX4_placeOfBits_8 (by decide) (fun _ => ?_) (fun h => absurd c3001 h)
        refine lv_iconst (v := (-1)) hx hb dX4_placeOfBits_31 (by decide) ?_
        exact e_i C hW hS hm dX4_placeOfBits_32
      refine lv_icmp_gt (tgt := 31) hx hb dX4_placeOfBits_8 (by decide) (fun h => absurd h c3001) (fun _ => ?_)
      refine lv_aload_n hx hb dX4_placeOfBits_11 rfl (lv_at hl 0 rfl) ?_
      refine lv_iload_n hx hb dX4_placeOfBits_12 rfl (lv_at hl 1 rfl) ?_
      refine lv_iload_n hx hb dX4_placeOfBits_13 rfl (lv_at hl 2 rfl) ?_
      refine lv_iload hx hb dX4_placeOfBits_14 (lv_at hl 4 rfl) ?_
      obtain ⟨v3003, hc3002, hm⟩ := q_b1i hm
      refine q_callV C hW hS (As := [.int x1_3, .int x2_3, .int x4_3]) (rest := []) (st1 := [.int v3003]) (c_X4_isFrame l D al dt x0_3 x1_3 x2_3 x4_3 kx0_3 v3003 hc3002) yl_X4_isFrame vl_X4_isFrame ml_RX4_100 (ci := 4) rfl kx0_3 (by decide) rfl ⟨Nat.le_of_ble_eq_true rfl, Nat.le_of_ble_eq_true rfl⟩ hl rfl (Nat.le_of_ble_eq_true rfl) dX4_placeOfBits_16 ⟨Nat.le_refl _, Nat.le_refl _⟩ rfl (fun H locs k3004 hW hS => ?_)
      refine q_ifc hm (fun c3005 hm => ?_) (fun c3005 hm => ?_)
      · refine lv_if_eq (tgt := 25) hx hb dX4_placeOfBits_19 (by decide) (fun _ => ?_) (fun h => absurd c3005 h)
        refine lv_iinc (v := (x4_3 + 1)) (lv' := [(4, .int (x4_3 + 1)), (0, .ref x0_3), (1, .int x1_3), (2, .int x2_3), (3, .int x3_3)]) hx hb dX4_placeOfBits_25 hl (k := 4) rfl rfl (by decide) rfl (fun ls hl => ?_)
        refine lv_goto (tgt := 3) hx hb dX4_placeOfBits_28 (by decide) ?_
        exact ih3 (x4_3 + 1) _ _ _ hm hW hS (lv_sub hl [1, 2, 3, 4, 0] rfl)
      refine lv_if_eq (tgt := 25) hx hb dX4_placeOfBits_19 (by decide) (fun h => absurd h c3005) (fun _ => ?_)
      refine lv_iload hx hb dX4_placeOfBits_22 (lv_at hl 4 rfl) ?_
      exact e_i C hW hS hm dX4_placeOfBits_24
  refine lv_iconst (v := 0) hx hb dX4_placeOfBits_0 (by decide) ?_
  refine lv_istore (i := 4) (lv' := [(4, .int 0), (0, .ref x0), (1, .int x1), (2, .int x2), (3, .int x3)]) hx hb dX4_placeOfBits_1 hl (by decide) rfl (fun ls hl => ?_)
  exact hB3 x0 x1 x2 x3 kx0 q_FU 0 _ _ _ hm hW hS (lv_sub hl [1, 2, 3, 4, 0] rfl)
theorem dX7_periods_0 : decode cX7_periods 0 = .ok (.aload_n 0, 1) := by decide +kernel
theorem dX7_periods_1 : decode cX7_periods 1 = .ok (.iload_n 1, 1) := by decide +kernel
theorem dX7_periods_2 : decode cX7_periods 2 = .ok (.iconst 1, 1) := by decide +kernel
theorem dX7_periods_3 : decode cX7_periods 3 = .ok (.isub, 1) := by decide +kernel
theorem dX7_periods_4 : decode cX7_periods 4 = .ok (.invokevirtual 66, 3) := by decide +kernel
theorem dX7_periods_7 : decode cX7_periods 7 = .ok (.iconst 1, 1) := by decide +kernel
theorem dX7_periods_8 : decode cX7_periods 8 = .ok (.iadd, 1) := by decide +kernel
theorem dX7_periods_9 : decode cX7_periods 9 = .ok (.ireturn, 1) := by decide +kernel
set_option maxRecDepth 100000 in
theorem c_X7_periods (l : Launch) (D : q_D) (al : q_Al) (dt : q_Dt) (x0 : Nat) (x1 : Int32) (kx0 : al.1 x0 = 8) (r0 : Int32) (hm : X7_periods al dt x0 x1 = some r0) : q_Mt l yX7_periods cX7_periods 2 (some FieldType.int) 3 66 D al [.ref x0, .int x1] dt 0 (some (.int r0)) dt := by
  refine q_Mt.of (by decide) (Nat.le_of_ble_eq_true rfl) ?_
  intro p e s m args below meth c ls C hargs hW hl
  have hx := C.1
  have hb := C.2.1
  have hown := C.2.2.2.2.2.1
  have hts := C.2.2.2.2.2.2.1
  have hS : va_S (q_A al) s.heap s.heap [] := va_S.rf
  have hl : lv_has ls 2 [(0, .ref x0), (1, .int x1)] := hl
  unfold X7_periods at hm
  refine lv_aload_n hx hb dX7_periods_0 rfl (lv_at hl 0 rfl) ?_
  refine lv_iload_n hx hb dX7_periods_1 rfl (lv_at hl 1 rfl) ?_
  refine lv_iconst (v := 1) hx hb dX7_periods_2 (by decide) ?_
  refine lv_isub hx hb dX7_periods_3 ?_
  obtain ⟨v1000002, hc1000001, hm⟩ := q_b1i hm
  refine q_callV C hW hS (As := [.int (x1 - 1)]) (rest := []) (st1 := [.int v1000002]) (c_X7_periodAt l D al dt x0 (x1 - 1) kx0 v1000002 hc1000001) yl_X7_periodAt vl_X7_periodAt ml_RX7_66 (ci := 7) rfl kx0 (by decide) rfl ⟨Nat.le_of_ble_eq_true rfl, Nat.le_of_ble_eq_true rfl⟩ hl rfl (Nat.le_of_ble_eq_true rfl) dX7_periods_4 ⟨Nat.le_refl _, Nat.le_refl _⟩ rfl (fun H locs k1000003 hW hS => ?_)
  refine lv_iconst (v := 1) hx hb dX7_periods_7 (by decide) ?_
  refine lv_iadd hx hb dX7_periods_8 ?_
  exact e_i C hW hS hm dX7_periods_9
theorem dX4_wrongMore_0 : decode cX4_wrongMore 0 = .ok (.aload_n 1, 1) := by decide +kernel
theorem dX4_wrongMore_1 : decode cX4_wrongMore 1 = .ok (.iload_n 2, 1) := by decide +kernel
theorem dX4_wrongMore_2 : decode cX4_wrongMore 2 = .ok (.invokevirtual 47, 3) := by decide +kernel
theorem dX4_wrongMore_5 : decode cX4_wrongMore 5 = .ok (.istore 5, 2) := by decide +kernel
theorem dX4_wrongMore_7 : decode cX4_wrongMore 7 = .ok (.iload_n 2, 1) := by decide +kernel
theorem dX4_wrongMore_8 : decode cX4_wrongMore 8 = .ok (.iload_n 3, 1) := by decide +kernel
theorem dX4_wrongMore_9 : decode cX4_wrongMore 9 = .ok (.if_icmp .ge 16, 3) := by decide +kernel
theorem dX4_wrongMore_12 : decode cX4_wrongMore 12 = .ok (.iload 5, 2) := by decide +kernel
theorem dX4_wrongMore_14 : decode cX4_wrongMore 14 = .ok (.ifCond .lt 11, 3) := by decide +kernel
theorem dX4_wrongMore_17 : decode cX4_wrongMore 17 = .ok (.aload_n 1, 1) := by decide +kernel
theorem dX4_wrongMore_18 : decode cX4_wrongMore 18 = .ok (.iload_n 2, 1) := by decide +kernel
theorem dX4_wrongMore_19 : decode cX4_wrongMore 19 = .ok (.invokevirtual 53, 3) := by decide +kernel
theorem dX4_wrongMore_22 : decode cX4_wrongMore 22 = .ok (.ifCond .eq 5, 3) := by decide +kernel
theorem dX4_wrongMore_25 : decode cX4_wrongMore 25 = .ok (.iconst 0, 1) := by decide +kernel
theorem dX4_wrongMore_26 : decode cX4_wrongMore 26 = .ok (.ireturn, 1) := by decide +kernel
theorem dX4_wrongMore_27 : decode cX4_wrongMore 27 = .ok (.aload_n 0, 1) := by decide +kernel
theorem dX4_wrongMore_28 : decode cX4_wrongMore 28 = .ok (.aload_n 1, 1) := by decide +kernel
theorem dX4_wrongMore_29 : decode cX4_wrongMore 29 = .ok (.iload 5, 2) := by decide +kernel
theorem dX4_wrongMore_31 : decode cX4_wrongMore 31 = .ok (.invokevirtual 77, 3) := by decide +kernel
theorem dX4_wrongMore_34 : decode cX4_wrongMore 34 = .ok (.istore 6, 2) := by decide +kernel
theorem dX4_wrongMore_36 : decode cX4_wrongMore 36 = .ok (.aload_n 0, 1) := by decide +kernel
theorem dX4_wrongMore_37 : decode cX4_wrongMore 37 = .ok (.getfield 14, 3) := by decide +kernel
theorem dX4_wrongMore_40 : decode cX4_wrongMore 40 = .ok (.iload 5, 2) := by decide +kernel
theorem dX4_wrongMore_42 : decode cX4_wrongMore 42 = .ok (.iload 4, 2) := by decide +kernel
theorem dX4_wrongMore_44 : decode cX4_wrongMore 44 = .ok (.aload_n 1, 1) := by decide +kernel
theorem dX4_wrongMore_45 : decode cX4_wrongMore 45 = .ok (.iload_n 2, 1) := by decide +kernel
theorem dX4_wrongMore_46 : decode cX4_wrongMore 46 = .ok (.invokevirtual 60, 3) := by decide +kernel
theorem dX4_wrongMore_49 : decode cX4_wrongMore 49 = .ok (.imul, 1) := by decide +kernel
theorem dX4_wrongMore_50 : decode cX4_wrongMore 50 = .ok (.i2l, 1) := by decide +kernel
theorem dX4_wrongMore_51 : decode cX4_wrongMore 51 = .ok (.invokevirtual 63, 3) := by decide +kernel
theorem dX4_wrongMore_54 : decode cX4_wrongMore 54 = .ok (.aload_n 0, 1) := by decide +kernel
theorem dX4_wrongMore_55 : decode cX4_wrongMore 55 = .ok (.aload_n 1, 1) := by decide +kernel
theorem dX4_wrongMore_56 : decode cX4_wrongMore 56 = .ok (.iload 5, 2) := by decide +kernel
theorem dX4_wrongMore_58 : decode cX4_wrongMore 58 = .ok (.invokevirtual 77, 3) := by decide +kernel
theorem dX4_wrongMore_61 : decode cX4_wrongMore 61 = .ok (.iload 6, 2) := by decide +kernel
theorem dX4_wrongMore_63 : decode cX4_wrongMore 63 = .ok (.isub, 1) := by decide +kernel
theorem dX4_wrongMore_64 : decode cX4_wrongMore 64 = .ok (.ireturn, 1) := by decide +kernel
set_option maxRecDepth 100000 in
theorem c_X4_wrongMore (l : Launch) (D : q_D) (al : q_Al) (dt : q_Dt) (x0 : Nat) (x1 : Nat) (x2 : Int32) (x3 : Int32) (x4 : Int32) (kx0 : al.1 x0 = 5) (kx1 : al.1 x1 = 8) (r0 : Int32) (dt0 : q_Dt) (hm : X4_wrongMore al dt x0 x1 x2 x3 x4 = some (r0, dt0)) : q_Mt l yX4_wrongMore cX4_wrongMore 7 (some FieldType.int) 3 69 D al [.ref x0, .ref x1, .int x2, .int x3, .int x4] dt 0 (some (.int r0)) dt0 := by
  refine q_Mt.of (by decide) (Nat.le_of_ble_eq_true rfl) ?_
  intro p e s m args below meth c ls C hargs hW hl
  have hx := C.1
  have hb := C.2.1
  have hown := C.2.2.2.2.2.1
  have hts := C.2.2.2.2.2.2.1
  have hS : va_S (q_A al) s.heap s.heap [] := va_S.rf
  have hl : lv_has ls 7 [(0, .ref x0), (1, .ref x1), (2, .int x2), (3, .int x3), (4, .int x4)] := hl
  unfold X4_wrongMore at hm
  refine lv_aload_n hx hb dX4_wrongMore_0 rfl (lv_at hl 1 rfl) ?_
  refine lv_iload_n hx hb dX4_wrongMore_1 rfl (lv_at hl 2 rfl) ?_
  obtain ⟨v1000002, hc1000001, hm⟩ := q_b1i hm
  refine q_callV C hW hS (As := [.int x2]) (rest := []) (st1 := [.int v1000002]) (c_X7_periodAt l D al dt x1 x2 kx1 v1000002 hc1000001) yl_X7_periodAt vl_X7_periodAt ml_RX4_47 (ci := 7) rfl kx1 (by decide) rfl ⟨Nat.le_of_ble_eq_true rfl, Nat.le_of_ble_eq_true rfl⟩ hl rfl (Nat.le_of_ble_eq_true rfl) dX4_wrongMore_2 ⟨Nat.le_refl _, Nat.le_refl _⟩ rfl (fun H locs k1000003 hW hS => ?_)
  refine lv_istore (i := 5) (lv' := [(5, .int v1000002), (0, .ref x0), (1, .ref x1), (2, .int x2), (3, .int x3), (4, .int x4)]) hx hb dX4_wrongMore_5 hl (by decide) rfl (fun ls hl => ?_)
  refine lv_iload_n hx hb dX4_wrongMore_7 rfl (lv_at hl 3 rfl) ?_
  refine lv_iload_n hx hb dX4_wrongMore_8 rfl (lv_at hl 4 rfl) ?_
  refine q_ifc hm (fun c1000004 hm => ?_) (fun c1000004 hm => ?_)
  · refine lv_icmp_ge (tgt := 25) hx hb dX4_wrongMore_9 (by decide) (fun _ => ?_) (fun h => absurd c1000004 h)
    refine lv_iconst (v := 0) hx hb dX4_wrongMore_25 (by decide) ?_
    exact e_iD C hW hS hm dX4_wrongMore_26
  refine lv_icmp_ge (tgt := 25) hx hb dX4_wrongMore_9 (by decide) (fun h => absurd h c1000004) (fun _ => ?_)
  refine lv_iload hx hb dX4_wrongMore_12 (lv_at hl 0 rfl) ?_
  refine q_ifc hm (fun c1000005 hm => ?_) (fun c1000005 hm => ?_)
  · refine lv_if_lt (tgt := 25) hx hb dX4_wrongMore_14 (by decide) (fun _ => ?_) (fun h => absurd c1000005 h)
    refine lv_iconst (v := 0) hx hb dX4_wrongMore_25 (by decide) ?_
    exact e_iD C hW hS hm dX4_wrongMore_26
  refine lv_if_lt (tgt := 25) hx hb dX4_wrongMore_14 (by decide) (fun h => absurd h c1000005) (fun _ => ?_)
  refine lv_aload_n hx hb dX4_wrongMore_17 rfl (lv_at hl 2 rfl) ?_
  refine lv_iload_n hx hb dX4_wrongMore_18 rfl (lv_at hl 3 rfl) ?_
  obtain ⟨v1000007, hc1000006, hm⟩ := q_b1i hm
  refine q_callV C hW hS (As := [.int x2]) (rest := []) (st1 := [.int v1000007]) (c_X7_axisAt l D al dt x1 x2 kx1 v1000007 hc1000006) yl_X7_axisAt vl_X7_axisAt ml_RX4_53 (ci := 7) rfl kx1 (by decide) rfl ⟨Nat.le_of_ble_eq_true rfl, Nat.le_of_ble_eq_true rfl⟩ hl rfl (Nat.le_of_ble_eq_true rfl) dX4_wrongMore_19 ⟨Nat.le_refl _, Nat.le_refl _⟩ rfl (fun H locs k1000008 hW hS => ?_)
  refine q_ifc hm (fun c1000009 hm => ?_) (fun c1000009 hm => ?_)
  · refine lv_if_eq (tgt := 27) hx hb dX4_wrongMore_22 (by decide) (fun _ => ?_) (fun h => absurd c1000009 h)
    refine lv_aload_n hx hb dX4_wrongMore_27 rfl (lv_at hl 1 rfl) ?_
    refine lv_aload_n hx hb dX4_wrongMore_28 rfl (lv_at hl 2 rfl) ?_
    refine lv_iload hx hb dX4_wrongMore_29 (lv_at hl 0 rfl) ?_
    obtain ⟨v1000011, hc1000010, hm⟩ := q_b1i hm
    refine q_callV C hW hS (As := [.ref x1, .int v1000002]) (rest := []) (st1 := [.int v1000011]) (c_X4_wrongBit l D al dt x0 x1 v1000002 kx0 kx1 v1000011 hc1000010) yl_X4_wrongBit vl_X4_wrongBit ml_RX4_77 (ci := 4) rfl kx0 (by decide) rfl ⟨Nat.le_of_ble_eq_true rfl, Nat.le_of_ble_eq_true rfl⟩ hl rfl (Nat.le_of_ble_eq_true rfl) dX4_wrongMore_31 ⟨Nat.le_refl _, Nat.le_refl _⟩ rfl (fun H locs k1000012 hW hS => ?_)
    refine lv_istore (i := 6) (lv' := [(6, .int v1000011), (5, .int v1000002), (0, .ref x0), (1, .ref x1), (2, .int x2), (3, .int x3), (4, .int x4)]) hx hb dX4_wrongMore_34 hl (by decide) rfl (fun ls hl => ?_)
    refine lv_aload_n hx hb dX4_wrongMore_36 rfl (lv_at hl 2 rfl) ?_
    refine r_getF C hW (ci := 4) kx0 ff_4_0 cl_4 fl_RX4_14 dX4_wrongMore_37 (fun k1000013 => ?_)
    refine lv_iload hx hb dX4_wrongMore_40 (lv_at hl 1 rfl) ?_
    refine lv_iload hx hb dX4_wrongMore_42 (lv_at hl 6 rfl) ?_
    refine lv_aload_n hx hb dX4_wrongMore_44 rfl (lv_at hl 3 rfl) ?_
    refine lv_iload_n hx hb dX4_wrongMore_45 rfl (lv_at hl 4 rfl) ?_
    obtain ⟨v1000015, hc1000014, hm⟩ := q_b1i hm
    refine q_callV C hW hS (As := [.int x2]) (rest := [.int x4, .int v1000002, .ref (al.2.2 x0 0)]) (st1 := [.int v1000015, .int x4, .int v1000002, .ref (al.2.2 x0 0)]) (c_X7_signAt l D al dt x1 x2 kx1 v1000015 hc1000014) yl_X7_signAt vl_X7_signAt ml_RX4_60 (ci := 7) rfl kx1 (by decide) rfl ⟨Nat.le_of_ble_eq_true rfl, Nat.le_of_ble_eq_true rfl⟩ hl rfl (Nat.le_of_ble_eq_true rfl) dX4_wrongMore_46 ⟨Nat.le_refl _, Nat.le_refl _⟩ rfl (fun H locs k1000016 hW hS => ?_)
    refine lv_imul hx hb dX4_wrongMore_49 ?_
    refine lv_i2l (v := (Int32.toInt64 (x4 * v1000015))) hx hb dX4_wrongMore_50 rfl ?_
    obtain ⟨dt1000018, hc1000017, hm⟩ := q_b1i hm
    refine q_callV C hW hS (As := [.int v1000002, .long (Int32.toInt64 (x4 * v1000015))]) (rest := []) (st1 := []) (c_X5_increase l D al dt (al.2.2 x0 0) v1000002 (Int32.toInt64 (x4 * v1000015)) k1000013 dt1000018 hc1000017) yl_X5_increase vl_X5_increase ml_RX4_63 (ci := 5) rfl k1000013 (by decide) rfl ⟨Nat.le_of_ble_eq_true rfl, Nat.le_of_ble_eq_true rfl⟩ hl rfl (Nat.le_of_ble_eq_true rfl) dX4_wrongMore_51 ⟨Nat.le_refl _, Nat.le_refl _⟩ rfl (fun H locs k1000019 hW hS => ?_)
    refine lv_aload_n hx hb dX4_wrongMore_54 rfl (lv_at hl 2 rfl) ?_
    refine lv_aload_n hx hb dX4_wrongMore_55 rfl (lv_at hl 3 rfl) ?_
    refine lv_iload hx hb dX4_wrongMore_56 (lv_at hl 1 rfl) ?_
    obtain ⟨v1000021, hc1000020, hm⟩ := q_b1i hm
    refine q_callV C hW hS (As := [.ref x1, .int v1000002]) (rest := []) (st1 := [.int v1000021]) (c_X4_wrongBit l D al dt1000018 x0 x1 v1000002 kx0 kx1 v1000021 hc1000020) yl_X4_wrongBit vl_X4_wrongBit ml_RX4_77 (ci := 4) rfl kx0 (by decide) rfl ⟨Nat.le_of_ble_eq_true rfl, Nat.le_of_ble_eq_true rfl⟩ hl rfl (Nat.le_of_ble_eq_true rfl) dX4_wrongMore_58 ⟨Nat.le_refl _, Nat.le_refl _⟩ rfl (fun H locs k1000022 hW hS => ?_)
    refine lv_iload hx hb dX4_wrongMore_61 (lv_at hl 0 rfl) ?_
    refine lv_isub hx hb dX4_wrongMore_63 ?_
    exact e_iD C hW hS hm dX4_wrongMore_64
  refine lv_if_eq (tgt := 27) hx hb dX4_wrongMore_22 (by decide) (fun h => absurd h c1000009) (fun _ => ?_)
  refine lv_iconst (v := 0) hx hb dX4_wrongMore_25 (by decide) ?_
  exact e_iD C hW hS hm dX4_wrongMore_26
theorem dX4_findWorstPulse_0 : decode cX4_findWorstPulse 0 = .ok (.aload_n 0, 1) := by decide +kernel
theorem dX4_findWorstPulse_1 : decode cX4_findWorstPulse 1 = .ok (.aload_n 1, 1) := by decide +kernel
theorem dX4_findWorstPulse_2 : decode cX4_findWorstPulse 2 = .ok (.aload_n 2, 1) := by decide +kernel
theorem dX4_findWorstPulse_3 : decode cX4_findWorstPulse 3 = .ok (.invokevirtual 104, 3) := by decide +kernel
theorem dX4_findWorstPulse_6 : decode cX4_findWorstPulse 6 = .ok (.aload_n 1, 1) := by decide +kernel
theorem dX4_findWorstPulse_7 : decode cX4_findWorstPulse 7 = .ok (.getfield 44, 3) := by decide +kernel
theorem dX4_findWorstPulse_10 : decode cX4_findWorstPulse 10 = .ok (.istore 5, 2) := by decide +kernel
theorem dX4_findWorstPulse_12 : decode cX4_findWorstPulse 12 = .ok (.aload_n 0, 1) := by decide +kernel
theorem dX4_findWorstPulse_13 : decode cX4_findWorstPulse 13 = .ok (.aload_n 2, 1) := by decide +kernel
theorem dX4_findWorstPulse_14 : decode cX4_findWorstPulse 14 = .ok (.aload_n 2, 1) := by decide +kernel
theorem dX4_findWorstPulse_15 : decode cX4_findWorstPulse 15 = .ok (.iload 5, 2) := by decide +kernel
theorem dX4_findWorstPulse_17 : decode cX4_findWorstPulse 17 = .ok (.invokevirtual 108, 3) := by decide +kernel
theorem dX4_findWorstPulse_20 : decode cX4_findWorstPulse 20 = .ok (.invokevirtual 111, 3) := by decide +kernel
theorem dX4_findWorstPulse_23 : decode cX4_findWorstPulse 23 = .ok (.istore 6, 2) := by decide +kernel
theorem dX4_findWorstPulse_25 : decode cX4_findWorstPulse 25 = .ok (.iconst 0, 1) := by decide +kernel
theorem dX4_findWorstPulse_26 : decode cX4_findWorstPulse 26 = .ok (.istore 7, 2) := by decide +kernel
theorem dX4_findWorstPulse_28 : decode cX4_findWorstPulse 28 = .ok (.iload 7, 2) := by decide +kernel
theorem dX4_findWorstPulse_30 : decode cX4_findWorstPulse 30 = .ok (.iload_n 3, 1) := by decide +kernel
theorem dX4_findWorstPulse_31 : decode cX4_findWorstPulse 31 = .ok (.if_icmp .ge 25, 3) := by decide +kernel
theorem dX4_findWorstPulse_34 : decode cX4_findWorstPulse 34 = .ok (.iload 6, 2) := by decide +kernel
theorem dX4_findWorstPulse_36 : decode cX4_findWorstPulse 36 = .ok (.aload_n 0, 1) := by decide +kernel
theorem dX4_findWorstPulse_37 : decode cX4_findWorstPulse 37 = .ok (.aload_n 2, 1) := by decide +kernel
theorem dX4_findWorstPulse_38 : decode cX4_findWorstPulse 38 = .ok (.iload 7, 2) := by decide +kernel
theorem dX4_findWorstPulse_40 : decode cX4_findWorstPulse 40 = .ok (.iload 5, 2) := by decide +kernel
theorem dX4_findWorstPulse_42 : decode cX4_findWorstPulse 42 = .ok (.iload 4, 2) := by decide +kernel
theorem dX4_findWorstPulse_44 : decode cX4_findWorstPulse 44 = .ok (.invokevirtual 114, 3) := by decide +kernel
theorem dX4_findWorstPulse_47 : decode cX4_findWorstPulse 47 = .ok (.iadd, 1) := by decide +kernel
theorem dX4_findWorstPulse_48 : decode cX4_findWorstPulse 48 = .ok (.istore 6, 2) := by decide +kernel
theorem dX4_findWorstPulse_50 : decode cX4_findWorstPulse 50 = .ok (.iinc 7 1, 3) := by decide +kernel
theorem dX4_findWorstPulse_53 : decode cX4_findWorstPulse 53 = .ok (.goto (-25), 3) := by decide +kernel
theorem dX4_findWorstPulse_56 : decode cX4_findWorstPulse 56 = .ok (.aload_n 0, 1) := by decide +kernel
theorem dX4_findWorstPulse_57 : decode cX4_findWorstPulse 57 = .ok (.iconst 0, 1) := by decide +kernel
theorem dX4_findWorstPulse_58 : decode cX4_findWorstPulse 58 = .ok (.putfield 34, 3) := by decide +kernel
theorem dX4_findWorstPulse_61 : decode cX4_findWorstPulse 61 = .ok (.aload_n 0, 1) := by decide +kernel
theorem dX4_findWorstPulse_62 : decode cX4_findWorstPulse 62 = .ok (.iload 6, 2) := by decide +kernel
theorem dX4_findWorstPulse_64 : decode cX4_findWorstPulse 64 = .ok (.putfield 38, 3) := by decide +kernel
theorem dX4_findWorstPulse_67 : decode cX4_findWorstPulse 67 = .ok (.iconst 1, 1) := by decide +kernel
theorem dX4_findWorstPulse_68 : decode cX4_findWorstPulse 68 = .ok (.istore 7, 2) := by decide +kernel
theorem dX4_findWorstPulse_70 : decode cX4_findWorstPulse 70 = .ok (.iload 7, 2) := by decide +kernel
theorem dX4_findWorstPulse_72 : decode cX4_findWorstPulse 72 = .ok (.iload 5, 2) := by decide +kernel
theorem dX4_findWorstPulse_74 : decode cX4_findWorstPulse 74 = .ok (.if_icmp .ge 69, 3) := by decide +kernel
theorem dX4_findWorstPulse_77 : decode cX4_findWorstPulse 77 = .ok (.iload 6, 2) := by decide +kernel
theorem dX4_findWorstPulse_79 : decode cX4_findWorstPulse 79 = .ok (.aload_n 0, 1) := by decide +kernel
theorem dX4_findWorstPulse_80 : decode cX4_findWorstPulse 80 = .ok (.aload_n 2, 1) := by decide +kernel
theorem dX4_findWorstPulse_81 : decode cX4_findWorstPulse 81 = .ok (.iload 7, 2) := by decide +kernel
theorem dX4_findWorstPulse_83 : decode cX4_findWorstPulse 83 = .ok (.iconst 1, 1) := by decide +kernel
theorem dX4_findWorstPulse_84 : decode cX4_findWorstPulse 84 = .ok (.isub, 1) := by decide +kernel
theorem dX4_findWorstPulse_85 : decode cX4_findWorstPulse 85 = .ok (.iload 5, 2) := by decide +kernel
theorem dX4_findWorstPulse_87 : decode cX4_findWorstPulse 87 = .ok (.iload 4, 2) := by decide +kernel
theorem dX4_findWorstPulse_89 : decode cX4_findWorstPulse 89 = .ok (.ineg, 1) := by decide +kernel
theorem dX4_findWorstPulse_90 : decode cX4_findWorstPulse 90 = .ok (.invokevirtual 114, 3) := by decide +kernel
theorem dX4_findWorstPulse_93 : decode cX4_findWorstPulse 93 = .ok (.iadd, 1) := by decide +kernel
theorem dX4_findWorstPulse_94 : decode cX4_findWorstPulse 94 = .ok (.istore 6, 2) := by decide +kernel
theorem dX4_findWorstPulse_96 : decode cX4_findWorstPulse 96 = .ok (.iload 6, 2) := by decide +kernel
theorem dX4_findWorstPulse_98 : decode cX4_findWorstPulse 98 = .ok (.aload_n 0, 1) := by decide +kernel
theorem dX4_findWorstPulse_99 : decode cX4_findWorstPulse 99 = .ok (.aload_n 2, 1) := by decide +kernel
theorem dX4_findWorstPulse_100 : decode cX4_findWorstPulse 100 = .ok (.iload 7, 2) := by decide +kernel
theorem dX4_findWorstPulse_102 : decode cX4_findWorstPulse 102 = .ok (.iload_n 3, 1) := by decide +kernel
theorem dX4_findWorstPulse_103 : decode cX4_findWorstPulse 103 = .ok (.iadd, 1) := by decide +kernel
theorem dX4_findWorstPulse_104 : decode cX4_findWorstPulse 104 = .ok (.iconst 1, 1) := by decide +kernel
theorem dX4_findWorstPulse_105 : decode cX4_findWorstPulse 105 = .ok (.isub, 1) := by decide +kernel
theorem dX4_findWorstPulse_106 : decode cX4_findWorstPulse 106 = .ok (.iload 5, 2) := by decide +kernel
theorem dX4_findWorstPulse_108 : decode cX4_findWorstPulse 108 = .ok (.iload 4, 2) := by decide +kernel
theorem dX4_findWorstPulse_110 : decode cX4_findWorstPulse 110 = .ok (.invokevirtual 114, 3) := by decide +kernel
theorem dX4_findWorstPulse_113 : decode cX4_findWorstPulse 113 = .ok (.iadd, 1) := by decide +kernel
theorem dX4_findWorstPulse_114 : decode cX4_findWorstPulse 114 = .ok (.istore 6, 2) := by decide +kernel
theorem dX4_findWorstPulse_116 : decode cX4_findWorstPulse 116 = .ok (.iload 6, 2) := by decide +kernel
theorem dX4_findWorstPulse_118 : decode cX4_findWorstPulse 118 = .ok (.aload_n 0, 1) := by decide +kernel
theorem dX4_findWorstPulse_119 : decode cX4_findWorstPulse 119 = .ok (.getfield 38, 3) := by decide +kernel
theorem dX4_findWorstPulse_122 : decode cX4_findWorstPulse 122 = .ok (.if_icmp .le 15, 3) := by decide +kernel
theorem dX4_findWorstPulse_125 : decode cX4_findWorstPulse 125 = .ok (.aload_n 0, 1) := by decide +kernel
theorem dX4_findWorstPulse_126 : decode cX4_findWorstPulse 126 = .ok (.iload 7, 2) := by decide +kernel
theorem dX4_findWorstPulse_128 : decode cX4_findWorstPulse 128 = .ok (.putfield 34, 3) := by decide +kernel
theorem dX4_findWorstPulse_131 : decode cX4_findWorstPulse 131 = .ok (.aload_n 0, 1) := by decide +kernel
theorem dX4_findWorstPulse_132 : decode cX4_findWorstPulse 132 = .ok (.iload 6, 2) := by decide +kernel
theorem dX4_findWorstPulse_134 : decode cX4_findWorstPulse 134 = .ok (.putfield 38, 3) := by decide +kernel
theorem dX4_findWorstPulse_137 : decode cX4_findWorstPulse 137 = .ok (.iinc 7 1, 3) := by decide +kernel
theorem dX4_findWorstPulse_140 : decode cX4_findWorstPulse 140 = .ok (.goto (-70), 3) := by decide +kernel
theorem dX4_findWorstPulse_143 : decode cX4_findWorstPulse 143 = .ok (.return_, 1) := by decide +kernel
set_option maxRecDepth 100000 in
theorem c_X4_findWorstPulse (l : Launch) (D : q_D) (al : q_Al) (dt : q_Dt) (x0 : Nat) (x1 : Nat) (x2 : Nat) (x3 : Int32) (x4 : Int32) (kx0 : al.1 x0 = 5) (kx1 : al.1 x1 = 9) (kx2 : al.1 x2 = 8) (dt0 : q_Dt) (hm : X4_findWorstPulse al dt x0 x1 x2 x3 x4 = some dt0) : q_Mt l yX4_findWorstPulse cX4_findWorstPulse 8 (none) 4 95 D al [.ref x0, .ref x1, .ref x2, .int x3, .int x4] dt 0 none dt0 := by
  refine q_Mt.of (by decide) (Nat.le_of_ble_eq_true rfl) ?_
  intro p e s m args below meth c ls C hargs hW hl
  have hx := C.1
  have hb := C.2.1
  have hown := C.2.2.2.2.2.1
  have hts := C.2.2.2.2.2.2.1
  have hS : va_S (q_A al) s.heap s.heap [] := va_S.rf
  have hl : lv_has ls 8 [(0, .ref x0), (1, .ref x1), (2, .ref x2), (3, .int x3), (4, .int x4)] := hl
  unfold X4_findWorstPulse at hm
  have hB70 : ∀ (x0_70 : Nat) (x2_70 : Nat) (x3_70 : Int32) (x4_70 : Int32) (x5_70 : Int32) (kx0_70 : al.1 x0_70 = 5) (kx2_70 : al.1 x2_70 = 8) (n_70 : Nat) (x6_70 : Int32) (x7_70 : Int32) (dt : q_Dt) (H : Heap) (locs : List Loc) (ls : Array Slot) (hm : X4_findWorstPulse_b70 al x0_70 x2_70 x3_70 x4_70 x5_70 n_70 x6_70 x7_70 dt = some dt0) (hW : q_W D al dt H) (hS : va_S (q_A al) s.heap H locs) (hl : lv_has ls 8 [(0, .ref x0_70), (2, .ref x2_70), (3, .int x3_70), (4, .int x4_70), (5, .int x5_70), (6, .int x6_70), (7, .int x7_70)]), W p l e { frames := 4, cells := 0, slots := 0, locals := 95 } s m args below meth c H locs 0 0 (MQ below (q_Q none (fun H => q_W D al dt0 H ∧ q_Rk al 0 none) (q_A al)) args s 0 0 (q_A al)) (F0 m 70 ls []) := by
    intro x0_70 x2_70 x3_70 x4_70 x5_70 kx0_70 kx2_70
    intro n_70
    induction n_70 with
    | zero => intro x6_70 x7_70 dt H locs ls hm hW hS hl; cases hm
    | succ n_70 ih70 =>
      have hB137 : ∀ (x6_137 : Int32) (x7_137 : Int32) (dt : q_Dt) (H : Heap) (locs : List Loc) (ls : Array Slot) (hm : X4_findWorstPulse_b137 al (X4_findWorstPulse_b70 al x0_70 x2_70 x3_70 x4_70 x5_70 n_70) x0_70 x2_70 x3_70 x4_70 x5_70 x6_137 x7_137 dt = some dt0) (hW : q_W D al dt H) (hS : va_S (q_A al) s.heap H locs) (hl : lv_has ls 8 [(0, .ref x0_70), (2, .ref x2_70), (3, .int x3_70), (4, .int x4_70), (5, .int x5_70), (6, .int x6_137), (7, .int x7_137)]), W p l e { frames := 4, cells := 0, slots := 0, locals := 95 } s m args below meth c H locs 0 0 (MQ below (q_Q none (fun H => q_W D al dt0 H ∧ q_Rk al 0 none) (q_A al)) args s 0 0 (q_A al)) (F0 m 137 ls []) := by
        intro x6_137 x7_137 dt H locs ls hm hW hS hl
        unfold X4_findWorstPulse_b137 at hm
        refine lv_iinc (v := (x7_137 + 1)) (lv' := [(7, .int (x7_137 + 1)), (0, .ref x0_70), (2, .ref x2_70), (3, .int x3_70), (4, .int x4_70), (5, .int x5_70), (6, .int x6_137)]) hx hb dX4_findWorstPulse_137 hl (k := 6) rfl rfl (by decide) rfl (fun ls hl => ?_)
        refine lv_goto (tgt := 70) hx hb dX4_findWorstPulse_140 (by decide) ?_
        exact ih70 x6_137 (x7_137 + 1) dt _ _ _ hm hW hS (lv_sub hl [1, 2, 3, 4, 5, 6, 0] rfl)
      intro x6_70 x7_70 dt H locs ls hm hW hS hl
      rw [X4_findWorstPulse_b70] at hm
      refine lv_iload hx hb dX4_findWorstPulse_70 (lv_at hl 6 rfl) ?_
      refine lv_iload hx hb dX4_findWorstPulse_72 (lv_at hl 4 rfl) ?_
      refine q_ifc hm (fun c70001 hm => ?_) (fun c70001 hm => ?_)
      · refine lv_icmp_ge (tgt := 143) hx hb dX4_findWorstPulse_74 (by decide) (fun _ => ?_) (fun h => absurd c70001 h)
        exact e_vD C hW hS hm dX4_findWorstPulse_143
      refine lv_icmp_ge (tgt := 143) hx hb dX4_findWorstPulse_74 (by decide) (fun h => absurd h c70001) (fun _ => ?_)
      refine lv_iload hx hb dX4_findWorstPulse_77 (lv_at hl 5 rfl) ?_
      refine lv_aload_n hx hb dX4_findWorstPulse_79 rfl (lv_at hl 0 rfl) ?_
      refine lv_aload_n hx hb dX4_findWorstPulse_80 rfl (lv_at hl 1 rfl) ?_
      refine lv_iload hx hb dX4_findWorstPulse_81 (lv_at hl 6 rfl) ?_
      refine lv_iconst (v := 1) hx hb dX4_findWorstPulse_83 (by decide) ?_
      refine lv_isub hx hb dX4_findWorstPulse_84 ?_
      refine lv_iload hx hb dX4_findWorstPulse_85 (lv_at hl 4 rfl) ?_
      refine lv_iload hx hb dX4_findWorstPulse_87 (lv_at hl 3 rfl) ?_
      refine lv_ineg hx hb dX4_findWorstPulse_89 ?_
      obtain ⟨v70003, dt70004, hc70002, hm⟩ := q_b2i hm
      refine q_callV C hW hS (As := [.ref x2_70, .int (x7_70 - 1), .int x5_70, .int (-x4_70)]) (rest := [.int x6_70]) (st1 := [.int v70003, .int x6_70]) (c_X4_wrongMore l D al dt x0_70 x2_70 (x7_70 - 1) x5_70 (-x4_70) kx0_70 kx2_70 v70003 dt70004 hc70002) yl_X4_wrongMore vl_X4_wrongMore ml_RX4_114 (ci := 4) rfl kx0_70 (by decide) rfl ⟨Nat.le_of_ble_eq_true rfl, Nat.le_of_ble_eq_true rfl⟩ hl rfl (Nat.le_of_ble_eq_true rfl) dX4_findWorstPulse_90 ⟨Nat.le_refl _, Nat.le_refl _⟩ rfl (fun H locs k70005 hW hS => ?_)
      refine lv_iadd hx hb dX4_findWorstPulse_93 ?_
      refine lv_istore (i := 6) (lv' := [(6, .int (x6_70 + v70003)), (0, .ref x0_70), (2, .ref x2_70), (3, .int x3_70), (4, .int x4_70), (5, .int x5_70), (7, .int x7_70)]) hx hb dX4_findWorstPulse_94 hl (by decide) rfl (fun ls hl => ?_)
      refine lv_iload hx hb dX4_findWorstPulse_96 (lv_at hl 0 rfl) ?_
      refine lv_aload_n hx hb dX4_findWorstPulse_98 rfl (lv_at hl 1 rfl) ?_
      refine lv_aload_n hx hb dX4_findWorstPulse_99 rfl (lv_at hl 2 rfl) ?_
      refine lv_iload hx hb dX4_findWorstPulse_100 (lv_at hl 6 rfl) ?_
      refine lv_iload_n hx hb dX4_findWorstPulse_102 rfl (lv_at hl 3 rfl) ?_
      refine lv_iadd hx hb dX4_findWorstPulse_103 ?_
      refine lv_iconst (v := 1) hx hb dX4_findWorstPulse_104 (by decide) ?_
      refine lv_isub hx hb dX4_findWorstPulse_105 ?_
      refine lv_iload hx hb dX4_findWorstPulse_106 (lv_at hl 5 rfl) ?_
      refine lv_iload hx hb dX4_findWorstPulse_108 (lv_at hl 4 rfl) ?_
      obtain ⟨v70007, dt70008, hc70006, hm⟩ := q_b2i hm
      refine q_callV C hW hS (As := [.ref x2_70, .int ((x7_70 + x3_70) - 1), .int x5_70, .int x4_70]) (rest := [.int (x6_70 + v70003)]) (st1 := [.int v70007, .int (x6_70 + v70003)]) (c_X4_wrongMore l D al dt70004 x0_70 x2_70 ((x7_70 + x3_70) - 1) x5_70 x4_70 kx0_70 kx2_70 v70007 dt70008 hc70006) yl_X4_wrongMore vl_X4_wrongMore ml_RX4_114 (ci := 4) rfl kx0_70 (by decide) rfl ⟨Nat.le_of_ble_eq_true rfl, Nat.le_of_ble_eq_true rfl⟩ hl rfl (Nat.le_of_ble_eq_true rfl) dX4_findWorstPulse_110 ⟨Nat.le_refl _, Nat.le_refl _⟩ rfl (fun H locs k70009 hW hS => ?_)
      refine lv_iadd hx hb dX4_findWorstPulse_113 ?_
      refine lv_istore (i := 6) (lv' := [(6, .int ((x6_70 + v70003) + v70007)), (0, .ref x0_70), (2, .ref x2_70), (3, .int x3_70), (4, .int x4_70), (5, .int x5_70), (7, .int x7_70)]) hx hb dX4_findWorstPulse_114 hl (by decide) rfl (fun ls hl => ?_)
      refine lv_iload hx hb dX4_findWorstPulse_116 (lv_at hl 0 rfl) ?_
      refine lv_aload_n hx hb dX4_findWorstPulse_118 rfl (lv_at hl 1 rfl) ?_
      refine r_getI C hW (ci := 4) kx0_70 ff_4_5 cl_4 fl_RX4_38 dX4_findWorstPulse_119 ?_
      refine q_ifc hm (fun c70010 hm => ?_) (fun c70010 hm => ?_)
      · refine lv_icmp_le (tgt := 137) hx hb dX4_findWorstPulse_122 (by decide) (fun _ => ?_) (fun h => absurd c70010 h)
        exact hB137 ((x6_70 + v70003) + v70007) x7_70 dt70008 _ _ _ hm hW hS (lv_sub hl [1, 2, 3, 4, 5, 0, 6] rfl)
      refine lv_icmp_le (tgt := 137) hx hb dX4_findWorstPulse_122 (by decide) (fun h => absurd h c70010) (fun _ => ?_)
      refine lv_aload_n hx hb dX4_findWorstPulse_125 rfl (lv_at hl 1 rfl) ?_
      refine lv_iload hx hb dX4_findWorstPulse_126 (lv_at hl 6 rfl) ?_
      refine r_putI C hW hS hm (ci := 4) kx0_70 ff_4_4 cl_4 fl_RX4_34 (nf_4_4) rfl dX4_findWorstPulse_128 (fun dt70011 H locs hm hW hS => ?_)
      refine lv_aload_n hx hb dX4_findWorstPulse_131 rfl (lv_at hl 1 rfl) ?_
      refine lv_iload hx hb dX4_findWorstPulse_132 (lv_at hl 0 rfl) ?_
      refine r_putI C hW hS hm (ci := 4) kx0_70 ff_4_5 cl_4 fl_RX4_38 (nf_4_5) rfl dX4_findWorstPulse_134 (fun dt70012 H locs hm hW hS => ?_)
      exact hB137 ((x6_70 + v70003) + v70007) x7_70 dt70012 _ _ _ hm hW hS (lv_sub hl [1, 2, 3, 4, 5, 0, 6] rfl)
  have hB28 : ∀ (x0_28 : Nat) (x2_28 : Nat) (x3_28 : Int32) (x4_28 : Int32) (x5_28 : Int32) (kx0_28 : al.1 x0_28 = 5) (kx2_28 : al.1 x2_28 = 8) (n_28 : Nat) (x6_28 : Int32) (x7_28 : Int32) (dt : q_Dt) (H : Heap) (locs : List Loc) (ls : Array Slot) (hm : X4_findWorstPulse_b28 al x0_28 x2_28 x3_28 x4_28 x5_28 n_28 x6_28 x7_28 dt = some dt0) (hW : q_W D al dt H) (hS : va_S (q_A al) s.heap H locs) (hl : lv_has ls 8 [(0, .ref x0_28), (2, .ref x2_28), (3, .int x3_28), (4, .int x4_28), (5, .int x5_28), (6, .int x6_28), (7, .int x7_28)]), W p l e { frames := 4, cells := 0, slots := 0, locals := 95 } s m args below meth c H locs 0 0 (MQ below (q_Q none (fun H => q_W D al dt0 H ∧ q_Rk al 0 none) (q_A al)) args s 0 0 (q_A al)) (F0 m 28 ls []) := by
    intro x0_28 x2_28 x3_28 x4_28 x5_28 kx0_28 kx2_28
    intro n_28
    induction n_28 with
    | zero => intro x6_28 x7_28 dt H locs ls hm hW hS hl; cases hm
    | succ n_28 ih28 =>
      intro x6_28 x7_28 dt H locs ls hm hW hS hl
      rw [X4_findWorstPulse_b28] at hm
      refine lv_iload hx hb dX4_findWorstPulse_28 (lv_at hl 6 rfl) ?_
      refine lv_iload_n hx hb dX4_findWorstPulse_30 rfl (lv_at hl 2 rfl) ?_
      refine q_ifc hm (fun c28001 hm => ?_) (fun c28001 hm => ?_)
      · refine lv_icmp_ge (tgt := 56) hx hb dX4_findWorstPulse_31 (by decide) (fun _ => ?_) (fun h => absurd c28001 h)
        refine lv_aload_n hx hb dX4_findWorstPulse_56 rfl (lv_at hl 0 rfl) ?_
        refine lv_iconst (v := 0) hx hb dX4_findWorstPulse_57 (by decide) ?_
        refine r_putI C hW hS hm (ci := 4) kx0_28 ff_4_4 cl_4 fl_RX4_34 (nf_4_4) rfl dX4_findWorstPulse_58 (fun dt28002 H locs hm hW hS => ?_)
        refine lv_aload_n hx hb dX4_findWorstPulse_61 rfl (lv_at hl 0 rfl) ?_
        refine lv_iload hx hb dX4_findWorstPulse_62 (lv_at hl 5 rfl) ?_
        refine r_putI C hW hS hm (ci := 4) kx0_28 ff_4_5 cl_4 fl_RX4_38 (nf_4_5) rfl dX4_findWorstPulse_64 (fun dt28003 H locs hm hW hS => ?_)
        refine lv_iconst (v := 1) hx hb dX4_findWorstPulse_67 (by decide) ?_
        refine lv_istore (i := 7) (lv' := [(7, .int 1), (0, .ref x0_28), (2, .ref x2_28), (3, .int x3_28), (4, .int x4_28), (5, .int x5_28), (6, .int x6_28)]) hx hb dX4_findWorstPulse_68 hl (by decide) rfl (fun ls hl => ?_)
        exact hB70 x0_28 x2_28 x3_28 x4_28 x5_28 kx0_28 kx2_28 q_FU x6_28 1 dt28003 _ _ _ hm hW hS (lv_sub hl [1, 2, 3, 4, 5, 6, 0] rfl)
      refine lv_icmp_ge (tgt := 56) hx hb dX4_findWorstPulse_31 (by decide) (fun h => absurd h c28001) (fun _ => ?_)
      refine lv_iload hx hb dX4_findWorstPulse_34 (lv_at hl 5 rfl) ?_
      refine lv_aload_n hx hb dX4_findWorstPulse_36 rfl (lv_at hl 0 rfl) ?_
      refine lv_aload_n hx hb dX4_findWorstPulse_37 rfl (lv_at hl 1 rfl) ?_
      refine lv_iload hx hb dX4_findWorstPulse_38 (lv_at hl 6 rfl) ?_
      refine lv_iload hx hb dX4_findWorstPulse_40 (lv_at hl 4 rfl) ?_
      refine lv_iload hx hb dX4_findWorstPulse_42 (lv_at hl 3 rfl) ?_
      obtain ⟨v28005, dt28006, hc28004, hm⟩ := q_b2i hm
      refine q_callV C hW hS (As := [.ref x2_28, .int x7_28, .int x5_28, .int x4_28]) (rest := [.int x6_28]) (st1 := [.int v28005, .int x6_28]) (c_X4_wrongMore l D al dt x0_28 x2_28 x7_28 x5_28 x4_28 kx0_28 kx2_28 v28005 dt28006 hc28004) yl_X4_wrongMore vl_X4_wrongMore ml_RX4_114 (ci := 4) rfl kx0_28 (by decide) rfl ⟨Nat.le_of_ble_eq_true rfl, Nat.le_of_ble_eq_true rfl⟩ hl rfl (Nat.le_of_ble_eq_true rfl) dX4_findWorstPulse_44 ⟨Nat.le_refl _, Nat.le_refl _⟩ rfl (fun H locs k28007 hW hS => ?_)
      refine lv_iadd hx hb dX4_findWorstPulse_47 ?_
      refine lv_istore (i := 6) (lv' := [(6, .int (x6_28 + v28005)), (0, .ref x0_28), (2, .ref x2_28), (3, .int x3_28), (4, .int x4_28), (5, .int x5_28), (7, .int x7_28)]) hx hb dX4_findWorstPulse_48 hl (by decide) rfl (fun ls hl => ?_)
      refine lv_iinc (v := (x7_28 + 1)) (lv' := [(7, .int (x7_28 + 1)), (6, .int (x6_28 + v28005)), (0, .ref x0_28), (2, .ref x2_28), (3, .int x3_28), (4, .int x4_28), (5, .int x5_28)]) hx hb dX4_findWorstPulse_50 hl (k := 6) rfl rfl (by decide) rfl (fun ls hl => ?_)
      refine lv_goto (tgt := 28) hx hb dX4_findWorstPulse_53 (by decide) ?_
      exact ih28 (x6_28 + v28005) (x7_28 + 1) dt28006 _ _ _ hm hW hS (lv_sub hl [2, 3, 4, 5, 6, 1, 0] rfl)
  refine lv_aload_n hx hb dX4_findWorstPulse_0 rfl (lv_at hl 0 rfl) ?_
  refine lv_aload_n hx hb dX4_findWorstPulse_1 rfl (lv_at hl 1 rfl) ?_
  refine lv_aload_n hx hb dX4_findWorstPulse_2 rfl (lv_at hl 2 rfl) ?_
  obtain ⟨dt1000002, hc1000001, hm⟩ := q_b1i hm
  refine q_callV C hW hS (As := [.ref x1, .ref x2]) (rest := []) (st1 := []) (c_X4_gather l D al dt x0 x1 x2 kx0 kx1 kx2 dt1000002 hc1000001) yl_X4_gather vl_X4_gather ml_RX4_104 (ci := 4) rfl kx0 (by decide) rfl ⟨Nat.le_of_ble_eq_true rfl, Nat.le_of_ble_eq_true rfl⟩ hl rfl (Nat.le_of_ble_eq_true rfl) dX4_findWorstPulse_3 ⟨Nat.le_refl _, Nat.le_refl _⟩ rfl (fun H locs k1000003 hW hS => ?_)
  refine lv_aload_n hx hb dX4_findWorstPulse_6 rfl (lv_at hl 1 rfl) ?_
  refine r_getI C hW (ci := 8) kx1 ff_8_2 cl_8 fl_RX4_44 dX4_findWorstPulse_7 ?_
  refine lv_istore (i := 5) (lv' := [(5, .int (dt1000002.1 x1 2)), (0, .ref x0), (1, .ref x1), (2, .ref x2), (3, .int x3), (4, .int x4)]) hx hb dX4_findWorstPulse_10 hl (by decide) rfl (fun ls hl => ?_)
  refine lv_aload_n hx hb dX4_findWorstPulse_12 rfl (lv_at hl 1 rfl) ?_
  refine lv_aload_n hx hb dX4_findWorstPulse_13 rfl (lv_at hl 3 rfl) ?_
  refine lv_aload_n hx hb dX4_findWorstPulse_14 rfl (lv_at hl 3 rfl) ?_
  refine lv_iload hx hb dX4_findWorstPulse_15 (lv_at hl 0 rfl) ?_
  obtain ⟨v1000005, hc1000004, hm⟩ := q_b1i hm
  refine q_callV C hW hS (As := [.int (dt1000002.1 x1 2)]) (rest := [.ref x2, .ref x0]) (st1 := [.int v1000005, .ref x2, .ref x0]) (c_X7_periods l D al dt1000002 x2 (dt1000002.1 x1 2) kx2 v1000005 hc1000004) yl_X7_periods vl_X7_periods ml_RX4_108 (ci := 7) rfl kx2 (by decide) rfl ⟨Nat.le_of_ble_eq_true rfl, Nat.le_of_ble_eq_true rfl⟩ hl rfl (Nat.le_of_ble_eq_true rfl) dX4_findWorstPulse_17 ⟨Nat.le_refl _, Nat.le_refl _⟩ rfl (fun H locs k1000006 hW hS => ?_)
  obtain ⟨v1000008, hc1000007, hm⟩ := q_b1i hm
  refine q_callV C hW hS (As := [.ref x2, .int v1000005]) (rest := []) (st1 := [.int v1000008]) (c_X4_wrongBits l D al dt1000002 x0 x2 v1000005 kx0 kx2 v1000008 hc1000007) yl_X4_wrongBits vl_X4_wrongBits ml_RX4_111 (ci := 4) rfl kx0 (by decide) rfl ⟨Nat.le_of_ble_eq_true rfl, Nat.le_of_ble_eq_true rfl⟩ hl rfl (Nat.le_of_ble_eq_true rfl) dX4_findWorstPulse_20 ⟨Nat.le_refl _, Nat.le_refl _⟩ rfl (fun H locs k1000009 hW hS => ?_)
  refine lv_istore (i := 6) (lv' := [(6, .int v1000008), (5, .int (dt1000002.1 x1 2)), (0, .ref x0), (1, .ref x1), (2, .ref x2), (3, .int x3), (4, .int x4)]) hx hb dX4_findWorstPulse_23 hl (by decide) rfl (fun ls hl => ?_)
  refine lv_iconst (v := 0) hx hb dX4_findWorstPulse_25 (by decide) ?_
  refine lv_istore (i := 7) (lv' := [(7, .int 0), (6, .int v1000008), (5, .int (dt1000002.1 x1 2)), (0, .ref x0), (1, .ref x1), (2, .ref x2), (3, .int x3), (4, .int x4)]) hx hb dX4_findWorstPulse_26 hl (by decide) rfl (fun ls hl => ?_)
  exact hB28 x0 x2 x3 x4 (dt1000002.1 x1 2) kx0 kx2 q_FU v1000008 0 dt1000002 _ _ _ hm hW hS (lv_sub hl [3, 5, 6, 7, 2, 1, 0] rfl)
theorem dX4_strongerThan_0 : decode cX4_strongerThan 0 = .ok (.aload_n 0, 1) := by decide +kernel
theorem dX4_strongerThan_1 : decode cX4_strongerThan 1 = .ok (.iload_n 1, 1) := by decide +kernel
theorem dX4_strongerThan_2 : decode cX4_strongerThan 2 = .ok (.invokevirtual 127, 3) := by decide +kernel
theorem dX4_strongerThan_5 : decode cX4_strongerThan 5 = .ok (.astore_n 2, 1) := by decide +kernel
theorem dX4_strongerThan_6 : decode cX4_strongerThan 6 = .ok (.iconst 0, 1) := by decide +kernel
theorem dX4_strongerThan_7 : decode cX4_strongerThan 7 = .ok (.istore_n 3, 1) := by decide +kernel
theorem dX4_strongerThan_8 : decode cX4_strongerThan 8 = .ok (.iconst 0, 1) := by decide +kernel
theorem dX4_strongerThan_9 : decode cX4_strongerThan 9 = .ok (.istore 4, 2) := by decide +kernel
theorem dX4_strongerThan_11 : decode cX4_strongerThan 11 = .ok (.iload 4, 2) := by decide +kernel
theorem dX4_strongerThan_13 : decode cX4_strongerThan 13 = .ok (.aload_n 0, 1) := by decide +kernel
theorem dX4_strongerThan_14 : decode cX4_strongerThan 14 = .ok (.getfield 118, 3) := by decide +kernel
theorem dX4_strongerThan_17 : decode cX4_strongerThan 17 = .ok (.if_icmp .ge 76, 3) := by decide +kernel
theorem dX4_strongerThan_20 : decode cX4_strongerThan 20 = .ok (.aload_n 0, 1) := by decide +kernel
theorem dX4_strongerThan_21 : decode cX4_strongerThan 21 = .ok (.iload 4, 2) := by decide +kernel
theorem dX4_strongerThan_23 : decode cX4_strongerThan 23 = .ok (.invokevirtual 127, 3) := by decide +kernel
theorem dX4_strongerThan_26 : decode cX4_strongerThan 26 = .ok (.astore 5, 2) := by decide +kernel
theorem dX4_strongerThan_28 : decode cX4_strongerThan 28 = .ok (.aload_n 2, 1) := by decide +kernel
theorem dX4_strongerThan_29 : decode cX4_strongerThan 29 = .ok (.ifnull 58, 3) := by decide +kernel
theorem dX4_strongerThan_32 : decode cX4_strongerThan 32 = .ok (.aload 5, 2) := by decide +kernel
theorem dX4_strongerThan_34 : decode cX4_strongerThan 34 = .ok (.ifnull 53, 3) := by decide +kernel
theorem dX4_strongerThan_37 : decode cX4_strongerThan 37 = .ok (.aload 5, 2) := by decide +kernel
theorem dX4_strongerThan_39 : decode cX4_strongerThan 39 = .ok (.getfield 85, 3) := by decide +kernel
theorem dX4_strongerThan_42 : decode cX4_strongerThan 42 = .ok (.aload_n 2, 1) := by decide +kernel
theorem dX4_strongerThan_43 : decode cX4_strongerThan 43 = .ok (.getfield 85, 3) := by decide +kernel
theorem dX4_strongerThan_46 : decode cX4_strongerThan 46 = .ok (.if_icmp .ne 13, 3) := by decide +kernel
theorem dX4_strongerThan_49 : decode cX4_strongerThan 49 = .ok (.iload 4, 2) := by decide +kernel
theorem dX4_strongerThan_51 : decode cX4_strongerThan 51 = .ok (.iload_n 1, 1) := by decide +kernel
theorem dX4_strongerThan_52 : decode cX4_strongerThan 52 = .ok (.if_icmp .ge 7, 3) := by decide +kernel
theorem dX4_strongerThan_55 : decode cX4_strongerThan 55 = .ok (.iconst 1, 1) := by decide +kernel
theorem dX4_strongerThan_56 : decode cX4_strongerThan 56 = .ok (.goto 4, 3) := by decide +kernel
theorem dX4_strongerThan_59 : decode cX4_strongerThan 59 = .ok (.iconst 0, 1) := by decide +kernel
theorem dX4_strongerThan_60 : decode cX4_strongerThan 60 = .ok (.istore 6, 2) := by decide +kernel
theorem dX4_strongerThan_62 : decode cX4_strongerThan 62 = .ok (.iload_n 3, 1) := by decide +kernel
theorem dX4_strongerThan_63 : decode cX4_strongerThan 63 = .ok (.aload 5, 2) := by decide +kernel
theorem dX4_strongerThan_65 : decode cX4_strongerThan 65 = .ok (.getfield 85, 3) := by decide +kernel
theorem dX4_strongerThan_68 : decode cX4_strongerThan 68 = .ok (.aload_n 2, 1) := by decide +kernel
theorem dX4_strongerThan_69 : decode cX4_strongerThan 69 = .ok (.getfield 85, 3) := by decide +kernel
theorem dX4_strongerThan_72 : decode cX4_strongerThan 72 = .ok (.if_icmp .gt 8, 3) := by decide +kernel
theorem dX4_strongerThan_75 : decode cX4_strongerThan 75 = .ok (.iload 6, 2) := by decide +kernel
theorem dX4_strongerThan_77 : decode cX4_strongerThan 77 = .ok (.ifCond .eq 7, 3) := by decide +kernel
theorem dX4_strongerThan_80 : decode cX4_strongerThan 80 = .ok (.iconst 1, 1) := by decide +kernel
theorem dX4_strongerThan_81 : decode cX4_strongerThan 81 = .ok (.goto 4, 3) := by decide +kernel
theorem dX4_strongerThan_84 : decode cX4_strongerThan 84 = .ok (.iconst 0, 1) := by decide +kernel
theorem dX4_strongerThan_85 : decode cX4_strongerThan 85 = .ok (.iadd, 1) := by decide +kernel
theorem dX4_strongerThan_86 : decode cX4_strongerThan 86 = .ok (.istore_n 3, 1) := by decide +kernel
theorem dX4_strongerThan_87 : decode cX4_strongerThan 87 = .ok (.iinc 4 1, 3) := by decide +kernel
theorem dX4_strongerThan_90 : decode cX4_strongerThan 90 = .ok (.goto (-79), 3) := by decide +kernel
theorem dX4_strongerThan_93 : decode cX4_strongerThan 93 = .ok (.iload_n 3, 1) := by decide +kernel
theorem dX4_strongerThan_94 : decode cX4_strongerThan 94 = .ok (.ireturn, 1) := by decide +kernel
set_option maxRecDepth 100000 in
theorem c_X4_strongerThan (l : Launch) (D : q_D) (al : q_Al) (dt : q_Dt) (x0 : Nat) (x1 : Int32) (kx0 : al.1 x0 = 11) (r0 : Int32) (hm : X4_strongerThan al dt x0 x1 = some r0) : q_Mt l yX4_strongerThan cX4_strongerThan 7 (some FieldType.int) 1 21 D al [.ref x0, .int x1] dt 0 (some (.int r0)) dt := by
  refine q_Mt.of (by decide) (Nat.le_of_ble_eq_true rfl) ?_
  intro p e s m args below meth c ls C hargs hW hl
  have hx := C.1
  have hb := C.2.1
  have hown := C.2.2.2.2.2.1
  have hts := C.2.2.2.2.2.2.1
  have hS : va_S (q_A al) s.heap s.heap [] := va_S.rf
  have hl : lv_has ls 7 [(0, .ref x0), (1, .int x1)] := hl
  unfold X4_strongerThan at hm
  have hB11 : ∀ (x0_11 : Nat) (x1_11 : Int32) (x2_11 : Option Nat) (kx0_11 : al.1 x0_11 = 11) (kx2_11 : ∀ b, x2_11 = some b → al.1 b = 8) (n_11 : Nat) (x3_11 : Int32) (x4_11 : Int32) (H : Heap) (locs : List Loc) (ls : Array Slot) (hm : X4_strongerThan_b11 al dt x0_11 x1_11 x2_11 n_11 x3_11 x4_11 = some r0) (hW : q_W D al dt H) (hS : va_S (q_A al) s.heap H locs) (hl : lv_has ls 7 [(0, .ref x0_11), (1, .int x1_11), (2, va_rf x2_11), (3, .int x3_11), (4, .int x4_11)]), W p l e { frames := 1, cells := 0, slots := 0, locals := 21 } s m args below meth c H locs 0 0 (MQ below (q_Q (some (.int r0)) (fun H => q_W D al dt H ∧ q_Rk al 0 (some (.int r0))) (q_A al)) args s 0 0 (q_A al)) (F0 m 11 ls []) := by
    intro x0_11 x1_11 x2_11 kx0_11 kx2_11
    intro n_11
    induction n_11 with
    | zero => intro x3_11 x4_11 H locs ls hm hW hS hl; cases hm
    | succ n_11 ih11 =>
      have hB87 : ∀ (x3_87 : Int32) (x4_87 : Int32) (H : Heap) (locs : List Loc) (ls : Array Slot) (hm : X4_strongerThan_b87 al dt (X4_strongerThan_b11 al dt x0_11 x1_11 x2_11 n_11) x0_11 x1_11 x2_11 x3_87 x4_87 = some r0) (hW : q_W D al dt H) (hS : va_S (q_A al) s.heap H locs) (hl : lv_has ls 7 [(0, .ref x0_11), (1, .int x1_11), (2, va_rf x2_11), (3, .int x3_87), (4, .int x4_87)]), W p l e { frames := 1, cells := 0, slots := 0, locals := 21 } s m args below meth c H locs 0 0 (MQ below (q_Q (some (.int r0)) (fun H => q_W D al dt H ∧ q_Rk al 0 (some (.int r0))) (q_A al)) args s 0 0 (q_A al)) (F0 m 87 ls []) := by
        intro x3_87 x4_87 H locs ls hm hW hS hl
        unfold X4_strongerThan_b87 at hm
        refine lv_iinc (v := (x4_87 + 1)) (lv' := [(4, .int (x4_87 + 1)), (0, .ref x0_11), (1, .int x1_11), (2, va_rf x2_11), (3, .int x3_87)]) hx hb dX4_strongerThan_87 hl (k := 4) rfl rfl (by decide) rfl (fun ls hl => ?_)
        refine lv_goto (tgt := 11) hx hb dX4_strongerThan_90 (by decide) ?_
        exact ih11 x3_87 (x4_87 + 1) _ _ _ hm hW hS (lv_sub hl [1, 2, 3, 4, 0] rfl)
      have hB85 : ∀ (x4_85 : Int32) (t0_85 : Int32) (t1_85 : Int32) (H : Heap) (locs : List Loc) (ls : Array Slot) (hm : X4_strongerThan_b85 al dt (X4_strongerThan_b11 al dt x0_11 x1_11 x2_11 n_11) x0_11 x1_11 x2_11 x4_85 t0_85 t1_85 = some r0) (hW : q_W D al dt H) (hS : va_S (q_A al) s.heap H locs) (hl : lv_has ls 7 [(0, .ref x0_11), (1, .int x1_11), (2, va_rf x2_11), (4, .int x4_85)]), W p l e { frames := 1, cells := 0, slots := 0, locals := 21 } s m args below meth c H locs 0 0 (MQ below (q_Q (some (.int r0)) (fun H => q_W D al dt H ∧ q_Rk al 0 (some (.int r0))) (q_A al)) args s 0 0 (q_A al)) (F0 m 85 ls [.int t1_85, .int t0_85]) := by
        intro x4_85 t0_85 t1_85 H locs ls hm hW hS hl
        unfold X4_strongerThan_b85 at hm
        refine lv_iadd hx hb dX4_strongerThan_85 ?_
        refine lv_istore_n (i := 3) (lv' := [(3, .int (t0_85 + t1_85)), (0, .ref x0_11), (1, .int x1_11), (2, va_rf x2_11), (4, .int x4_85)]) hx hb dX4_strongerThan_86 rfl hl (by decide) (by simp [q_cat, q_catR, q_catI, q_catL] <;> rfl) (fun ls hl => ?_)
        exact hB87 (t0_85 + t1_85) x4_85 _ _ _ hm hW hS (lv_sub hl [1, 2, 3, 0, 4] rfl)
      have hB80 : ∀ (x4_80 : Int32) (t0_80 : Int32) (H : Heap) (locs : List Loc) (ls : Array Slot) (hm : X4_strongerThan_b80 al dt (X4_strongerThan_b11 al dt x0_11 x1_11 x2_11 n_11) x0_11 x1_11 x2_11 x4_80 t0_80 = some r0) (hW : q_W D al dt H) (hS : va_S (q_A al) s.heap H locs) (hl : lv_has ls 7 [(0, .ref x0_11), (1, .int x1_11), (2, va_rf x2_11), (4, .int x4_80)]), W p l e { frames := 1, cells := 0, slots := 0, locals := 21 } s m args below meth c H locs 0 0 (MQ below (q_Q (some (.int r0)) (fun H => q_W D al dt H ∧ q_Rk al 0 (some (.int r0))) (q_A al)) args s 0 0 (q_A al)) (F0 m 80 ls [.int t0_80]) := by
        intro x4_80 t0_80 H locs ls hm hW hS hl
        unfold X4_strongerThan_b80 at hm
        refine lv_iconst (v := 1) hx hb dX4_strongerThan_80 (by decide) ?_
        refine lv_goto (tgt := 85) hx hb dX4_strongerThan_81 (by decide) ?_
        exact hB85 x4_80 t0_80 1 _ _ _ hm hW hS (lv_sub hl [0, 1, 2, 3] rfl)
      have hB60 : ∀ (x3_60 : Int32) (x4_60 : Int32) (x5_60 : Nat) (t0_60 : Int32) (kx5_60 : al.1 x5_60 = 8) (H : Heap) (locs : List Loc) (ls : Array Slot) (hm : X4_strongerThan_b60 al dt (X4_strongerThan_b11 al dt x0_11 x1_11 x2_11 n_11) x0_11 x1_11 x2_11 x3_60 x4_60 x5_60 t0_60 = some r0) (hW : q_W D al dt H) (hS : va_S (q_A al) s.heap H locs) (hl : lv_has ls 7 [(0, .ref x0_11), (1, .int x1_11), (2, va_rf x2_11), (3, .int x3_60), (4, .int x4_60), (5, .ref x5_60)]), W p l e { frames := 1, cells := 0, slots := 0, locals := 21 } s m args below meth c H locs 0 0 (MQ below (q_Q (some (.int r0)) (fun H => q_W D al dt H ∧ q_Rk al 0 (some (.int r0))) (q_A al)) args s 0 0 (q_A al)) (F0 m 60 ls [.int t0_60]) := by
        intro x3_60 x4_60 x5_60 t0_60 kx5_60 H locs ls hm hW hS hl
        unfold X4_strongerThan_b60 at hm
        refine lv_istore (i := 6) (lv' := [(6, .int t0_60), (0, .ref x0_11), (1, .int x1_11), (2, va_rf x2_11), (3, .int x3_60), (4, .int x4_60), (5, .ref x5_60)]) hx hb dX4_strongerThan_60 hl (by decide) rfl (fun ls hl => ?_)
        refine lv_iload_n hx hb dX4_strongerThan_62 rfl (lv_at hl 4 rfl) ?_
        refine lv_aload hx hb dX4_strongerThan_63 (lv_at hl 6 rfl) ?_
        refine r_getI C hW (ci := 7) kx5_60 ff_7_4 cl_7 fl_RX4_85 dX4_strongerThan_65 ?_
        refine q_aloadQ_n C dX4_strongerThan_68 rfl (lv_at hl 3 rfl) ?_
        obtain ⟨b60001, e60002, hq60003⟩ := q_mi hm
        subst e60002
        have hm := hq60003
        have k60004 := kx2_11 b60001 rfl
        refine r_getI C hW (ci := 7) k60004 ff_7_4 cl_7 fl_RX4_85 dX4_strongerThan_69 ?_
        refine q_ifc hm (fun c60005 hm => ?_) (fun c60005 hm => ?_)
        · refine lv_icmp_gt (tgt := 80) hx hb dX4_strongerThan_72 (by decide) (fun _ => ?_) (fun h => absurd c60005 h)
          exact hB80 x4_60 x3_60 _ _ _ hm hW hS (lv_sub hl [1, 2, 3, 5] rfl)
        refine lv_icmp_gt (tgt := 80) hx hb dX4_strongerThan_72 (by decide) (fun h => absurd h c60005) (fun _ => ?_)
        refine lv_iload hx hb dX4_strongerThan_75 (lv_at hl 0 rfl) ?_
        refine q_ifc hm (fun c60006 hm => ?_) (fun c60006 hm => ?_)
        · refine lv_if_eq (tgt := 84) hx hb dX4_strongerThan_77 (by decide) (fun _ => ?_) (fun h => absurd c60006 h)
          refine lv_iconst (v := 0) hx hb dX4_strongerThan_84 (by decide) ?_
          exact hB85 x4_60 x3_60 0 _ _ _ hm hW hS (lv_sub hl [1, 2, 3, 5] rfl)
        refine lv_if_eq (tgt := 84) hx hb dX4_strongerThan_77 (by decide) (fun h => absurd h c60006) (fun _ => ?_)
        exact hB80 x4_60 x3_60 _ _ _ hm hW hS (lv_sub hl [1, 2, 3, 5] rfl)
      have hB59 : ∀ (x3_59 : Int32) (x4_59 : Int32) (x5_59 : Nat) (kx5_59 : al.1 x5_59 = 8) (H : Heap) (locs : List Loc) (ls : Array Slot) (hm : X4_strongerThan_b59 al dt (X4_strongerThan_b11 al dt x0_11 x1_11 x2_11 n_11) x0_11 x1_11 x2_11 x3_59 x4_59 x5_59 = some r0) (hW : q_W D al dt H) (hS : va_S (q_A al) s.heap H locs) (hl : lv_has ls 7 [(0, .ref x0_11), (1, .int x1_11), (2, va_rf x2_11), (3, .int x3_59), (4, .int x4_59), (5, .ref x5_59)]), W p l e { frames := 1, cells := 0, slots := 0, locals := 21 } s m args below meth c H locs 0 0 (MQ below (q_Q (some (.int r0)) (fun H => q_W D al dt H ∧ q_Rk al 0 (some (.int r0))) (q_A al)) args s 0 0 (q_A al)) (F0 m 59 ls []) := by
        intro x3_59 x4_59 x5_59 kx5_59 H locs ls hm hW hS hl
        unfold X4_strongerThan_b59 at hm
        refine lv_iconst (v := 0) hx hb dX4_strongerThan_59 (by decide) ?_
        exact hB60 x3_59 x4_59 x5_59 0 kx5_59 _ _ _ hm hW hS (lv_sub hl [0, 1, 2, 3, 4, 5] rfl)
      intro x3_11 x4_11 H locs ls hm hW hS hl
      rw [X4_strongerThan_b11] at hm
      refine lv_iload hx hb dX4_strongerThan_11 (lv_at hl 4 rfl) ?_
      refine lv_aload_n hx hb dX4_strongerThan_13 rfl (lv_at hl 0 rfl) ?_
      refine r_getI C hW (ci := 10) kx0_11 ff_10_9 cl_10 fl_RX4_118 dX4_strongerThan_14 ?_
      refine q_ifc hm (fun c11001 hm => ?_) (fun c11001 hm => ?_)
      · refine lv_icmp_ge (tgt := 93) hx hb dX4_strongerThan_17 (by decide) (fun _ => ?_) (fun h => absurd c11001 h)
        refine lv_iload_n hx hb dX4_strongerThan_93 rfl (lv_at hl 3 rfl) ?_
        exact e_i C hW hS hm dX4_strongerThan_94
      refine lv_icmp_ge (tgt := 93) hx hb dX4_strongerThan_17 (by decide) (fun h => absurd h c11001) (fun _ => ?_)
      refine lv_aload_n hx hb dX4_strongerThan_20 rfl (lv_at hl 0 rfl) ?_
      refine lv_iload hx hb dX4_strongerThan_21 (lv_at hl 4 rfl) ?_
      obtain ⟨v11003, hc11002, hm⟩ := q_b1i hm
      refine q_callV C hW hS (As := [.int x4_11]) (rest := []) (st1 := [va_rf v11003]) (c_X10_senderAt l D al dt x0_11 x4_11 kx0_11 v11003 hc11002) yl_X10_senderAt vl_X10_senderAt ml_RX4_127 (ci := 10) rfl kx0_11 (by decide) rfl ⟨Nat.le_of_ble_eq_true rfl, Nat.le_of_ble_eq_true rfl⟩ hl rfl (Nat.le_of_ble_eq_true rfl) dX4_strongerThan_23 ⟨Nat.le_refl _, Nat.le_refl _⟩ rfl (fun H locs k11004 hW hS => ?_)
      have k11004 := q_rk k11004 (by decide)
      refine q_astoreQ (i := 5) (lv' := [(5, va_rf v11003), (0, .ref x0_11), (1, .int x1_11), (2, va_rf x2_11), (3, .int x3_11), (4, .int x4_11)]) C dX4_strongerThan_26 hl (by decide) rfl (fun ls hl => ?_)
      refine q_aloadQ_n C dX4_strongerThan_28 rfl (lv_at hl 3 rfl) ?_
      refine q_ifnull C hm (tgt := 87) dX4_strongerThan_29 (by decide) (fun e11007 hq11008 => ?_) (fun b11005 e11007 hq11008 => ?_)
      · subst e11007
        have hm := hq11008
        exact hB87 x3_11 x4_11 _ _ _ hm hW hS (lv_sub hl [1, 2, 3, 4, 5] rfl)
      subst e11007
      have hm := hq11008
      have k11006 := kx2_11 b11005 rfl
      refine q_aloadQ C dX4_strongerThan_32 (lv_at hl 0 rfl) ?_
      refine q_ifnull C hm (tgt := 87) dX4_strongerThan_34 (by decide) (fun e11011 hq11012 => ?_) (fun b11009 e11011 hq11012 => ?_)
      · subst e11011
        have hm := hq11012
        exact hB87 x3_11 x4_11 _ _ _ hm hW hS (lv_sub hl [1, 2, 3, 4, 5] rfl)
      subst e11011
      have hm := hq11012
      have k11010 := k11004 b11009 rfl
      refine lv_aload hx hb dX4_strongerThan_37 (lv_at hl 0 rfl) ?_
      refine r_getI C hW (ci := 7) k11010 ff_7_4 cl_7 fl_RX4_85 dX4_strongerThan_39 ?_
      refine lv_aload_n hx hb dX4_strongerThan_42 rfl (lv_at hl 3 rfl) ?_
      refine r_getI C hW (ci := 7) k11006 ff_7_4 cl_7 fl_RX4_85 dX4_strongerThan_43 ?_
      refine q_ifc hm (fun c11013 hm => ?_) (fun c11013 hm => ?_)
      · refine lv_icmp_ne (tgt := 59) hx hb dX4_strongerThan_46 (by decide) (fun h => absurd c11013 h) (fun _ => ?_)
        refine lv_iload hx hb dX4_strongerThan_49 (lv_at hl 5 rfl) ?_
        refine lv_iload_n hx hb dX4_strongerThan_51 rfl (lv_at hl 2 rfl) ?_
        refine q_ifc hm (fun c11014 hm => ?_) (fun c11014 hm => ?_)
        · refine lv_icmp_ge (tgt := 59) hx hb dX4_strongerThan_52 (by decide) (fun _ => ?_) (fun h => absurd c11014 h)
          exact hB59 x3_11 x4_11 b11009 k11010 _ _ _ hm hW hS (lv_sub hl [1, 2, 3, 4, 5, 0] rfl)
        refine lv_icmp_ge (tgt := 59) hx hb dX4_strongerThan_52 (by decide) (fun h => absurd h c11014) (fun _ => ?_)
        refine lv_iconst (v := 1) hx hb dX4_strongerThan_55 (by decide) ?_
        refine lv_goto (tgt := 60) hx hb dX4_strongerThan_56 (by decide) ?_
        exact hB60 x3_11 x4_11 b11009 1 k11010 _ _ _ hm hW hS (lv_sub hl [1, 2, 3, 4, 5, 0] rfl)
      refine lv_icmp_ne (tgt := 59) hx hb dX4_strongerThan_46 (by decide) (fun _ => ?_) (fun h => absurd h c11013)
      exact hB59 x3_11 x4_11 b11009 k11010 _ _ _ hm hW hS (lv_sub hl [1, 2, 3, 4, 5, 0] rfl)
  refine lv_aload_n hx hb dX4_strongerThan_0 rfl (lv_at hl 0 rfl) ?_
  refine lv_iload_n hx hb dX4_strongerThan_1 rfl (lv_at hl 1 rfl) ?_
  obtain ⟨v1000002, hc1000001, hm⟩ := q_b1i hm
  refine q_callV C hW hS (As := [.int x1]) (rest := []) (st1 := [va_rf v1000002]) (c_X10_senderAt l D al dt x0 x1 kx0 v1000002 hc1000001) yl_X10_senderAt vl_X10_senderAt ml_RX4_127 (ci := 10) rfl kx0 (by decide) rfl ⟨Nat.le_of_ble_eq_true rfl, Nat.le_of_ble_eq_true rfl⟩ hl rfl (Nat.le_of_ble_eq_true rfl) dX4_strongerThan_2 ⟨Nat.le_refl _, Nat.le_refl _⟩ rfl (fun H locs k1000003 hW hS => ?_)
  have k1000003 := q_rk k1000003 (by decide)
  refine q_astoreQ_n (i := 2) (lv' := [(2, va_rf v1000002), (0, .ref x0), (1, .int x1)]) C dX4_strongerThan_5 rfl hl (by decide) rfl (fun ls hl => ?_)
  refine lv_iconst (v := 0) hx hb dX4_strongerThan_6 (by decide) ?_
  refine lv_istore_n (i := 3) (lv' := [(3, .int 0), (2, va_rf v1000002), (0, .ref x0), (1, .int x1)]) hx hb dX4_strongerThan_7 rfl hl (by decide) (by simp [q_cat, q_catR, q_catI, q_catL] <;> rfl) (fun ls hl => ?_)
  refine lv_iconst (v := 0) hx hb dX4_strongerThan_8 (by decide) ?_
  refine lv_istore (i := 4) (lv' := [(4, .int 0), (3, .int 0), (2, va_rf v1000002), (0, .ref x0), (1, .int x1)]) hx hb dX4_strongerThan_9 hl (by decide) rfl (fun ls hl => ?_)
  exact hB11 x0 x1 v1000002 kx0 k1000003 q_FU 0 0 _ _ _ hm hW hS (lv_sub hl [3, 4, 2, 1, 0] rfl)
theorem dX4_strongerFirst_0 : decode cX4_strongerFirst 0 = .ok (.iconst 0, 1) := by decide +kernel
theorem dX4_strongerFirst_1 : decode cX4_strongerFirst 1 = .ok (.istore_n 3, 1) := by decide +kernel
theorem dX4_strongerFirst_2 : decode cX4_strongerFirst 2 = .ok (.iload_n 3, 1) := by decide +kernel
theorem dX4_strongerFirst_3 : decode cX4_strongerFirst 3 = .ok (.aload_n 1, 1) := by decide +kernel
theorem dX4_strongerFirst_4 : decode cX4_strongerFirst 4 = .ok (.getfield 118, 3) := by decide +kernel
theorem dX4_strongerFirst_7 : decode cX4_strongerFirst 7 = .ok (.if_icmp .ge 20, 3) := by decide +kernel
theorem dX4_strongerFirst_10 : decode cX4_strongerFirst 10 = .ok (.aload_n 1, 1) := by decide +kernel
theorem dX4_strongerFirst_11 : decode cX4_strongerFirst 11 = .ok (.iload_n 3, 1) := by decide +kernel
theorem dX4_strongerFirst_12 : decode cX4_strongerFirst 12 = .ok (.invokestatic 123, 3) := by decide +kernel
theorem dX4_strongerFirst_15 : decode cX4_strongerFirst 15 = .ok (.iload_n 2, 1) := by decide +kernel
theorem dX4_strongerFirst_16 : decode cX4_strongerFirst 16 = .ok (.if_icmp .ne 5, 3) := by decide +kernel
theorem dX4_strongerFirst_19 : decode cX4_strongerFirst 19 = .ok (.iload_n 3, 1) := by decide +kernel
theorem dX4_strongerFirst_20 : decode cX4_strongerFirst 20 = .ok (.ireturn, 1) := by decide +kernel
theorem dX4_strongerFirst_21 : decode cX4_strongerFirst 21 = .ok (.iinc 3 1, 3) := by decide +kernel
theorem dX4_strongerFirst_24 : decode cX4_strongerFirst 24 = .ok (.goto (-22), 3) := by decide +kernel
theorem dX4_strongerFirst_27 : decode cX4_strongerFirst 27 = .ok (.iconst (-1), 1) := by decide +kernel
theorem dX4_strongerFirst_28 : decode cX4_strongerFirst 28 = .ok (.ireturn, 1) := by decide +kernel
set_option maxRecDepth 100000 in
theorem c_X4_strongerFirst (l : Launch) (D : q_D) (al : q_Al) (dt : q_Dt) (x0 : Nat) (x1 : Option Nat) (x2 : Int32) (kx0 : al.1 x0 = 5) (kx1 : ∀ b, x1 = some b → al.1 b = 11) (r0 : Int32) (hm : X4_strongerFirst al dt x0 x1 x2 = some r0) : q_Mt l yX4_strongerFirst cX4_strongerFirst 4 (some FieldType.int) 2 47 D al [.ref x0, va_rf x1, .int x2] dt 0 (some (.int r0)) dt := by
  refine q_Mt.of (by decide) (by simp [lg_sl, q_cat, q_catR, q_catI, q_catL]) ?_
  intro p e s m args below meth c ls C hargs hW hl
  have hx := C.1
  have hb := C.2.1
  have hown := C.2.2.2.2.2.1
  have hts := C.2.2.2.2.2.2.1
  have hS : va_S (q_A al) s.heap s.heap [] := va_S.rf
  have hl : lv_has ls 4 [(0, .ref x0), (1, va_rf x1), (2, .int x2)] := by simpa [lv_args, q_cat, q_catR, q_catI, q_catL] using hl
  unfold X4_strongerFirst at hm
  have hB2 : ∀ (x1_2 : Option Nat) (x2_2 : Int32) (kx1_2 : ∀ b, x1_2 = some b → al.1 b = 11) (n_2 : Nat) (x3_2 : Int32) (H : Heap) (locs : List Loc) (ls : Array Slot) (hm : X4_strongerFirst_b2 al dt x1_2 x2_2 n_2 x3_2 = some r0) (hW : q_W D al dt H) (hS : va_S (q_A al) s.heap H locs) (hl : lv_has ls 4 [(1, va_rf x1_2), (2, .int x2_2), (3, .int x3_2)]), W p l e { frames := 2, cells := 0, slots := 0, locals := 47 } s m args below meth c H locs 0 0 (MQ below (q_Q (some (.int r0)) (fun H => q_W D al dt H ∧ q_Rk al 0 (some (.int r0))) (q_A al)) args s 0 0 (q_A al)) (F0 m 2 ls []) := by
    intro x1_2 x2_2 kx1_2
    intro n_2
    induction n_2 with
    | zero => intro x3_2 H locs ls hm hW hS hl; cases hm
    | succ n_2 ih2 =>
      intro x3_2 H locs ls hm hW hS hl
      rw [X4_strongerFirst_b2] at hm
      refine lv_iload_n hx hb dX4_strongerFirst_2 rfl (lv_at hl 2 rfl) ?_
      refine q_aloadQ_n C dX4_strongerFirst_3 rfl (lv_at hl 0 rfl) ?_
      obtain ⟨b2001, e2002, hq2003⟩ := q_mi hm
      subst e2002
      have hm := hq2003
      have k2004 := kx1_2 b2001 rfl
      refine r_getI C hW (ci := 10) k2004 ff_10_9 cl_10 fl_RX4_118 dX4_strongerFirst_4 ?_
      refine q_ifc hm (fun c2005 hm => ?_) (fun c2005 hm => ?_)
      · refine lv_icmp_ge (tgt := 27) hx hb dX4_strongerFirst_7 (by decide) (fun _ => ?_) (fun h => absurd c2005 h)
        refine lv_iconst (v := (-1)) hx hb dX4_strongerFirst_27 (by decide) ?_
        exact e_i C hW hS hm dX4_strongerFirst_28
      refine lv_icmp_ge (tgt := 27) hx hb dX4_strongerFirst_7 (by decide) (fun h => absurd h c2005) (fun _ => ?_)
      refine lv_aload_n hx hb dX4_strongerFirst_10 rfl (lv_at hl 0 rfl) ?_
      refine lv_iload_n hx hb dX4_strongerFirst_11 rfl (lv_at hl 2 rfl) ?_
      obtain ⟨v2007, hc2006, hm⟩ := q_b1i hm
      refine q_callS C hW hS (As := [.ref b2001, .int x3_2]) (rest := []) (st1 := [.int v2007]) (c_X4_strongerThan l D al dt b2001 x3_2 k2004 v2007 hc2006) yl_X4_strongerThan sl_X4_strongerThan ml_RX4_123 rfl ⟨Nat.le_of_ble_eq_true rfl, Nat.le_of_ble_eq_true rfl⟩ hl rfl (Nat.le_of_ble_eq_true rfl) dX4_strongerFirst_12 ⟨Nat.le_refl _, Nat.le_refl _⟩ rfl (fun H locs k2008 hW hS => ?_)
      refine lv_iload_n hx hb dX4_strongerFirst_15 rfl (lv_at hl 1 rfl) ?_
      refine q_ifc hm (fun c2009 hm => ?_) (fun c2009 hm => ?_)
      · refine lv_icmp_ne (tgt := 21) hx hb dX4_strongerFirst_16 (by decide) (fun h => absurd c2009 h) (fun _ => ?_)
        refine lv_iload_n hx hb dX4_strongerFirst_19 rfl (lv_at hl 2 rfl) ?_
        exact e_i C hW hS hm dX4_strongerFirst_20
      refine lv_icmp_ne (tgt := 21) hx hb dX4_strongerFirst_16 (by decide) (fun _ => ?_) (fun h => absurd h c2009)
      refine lv_iinc (v := (x3_2 + 1)) (lv' := [(3, .int (x3_2 + 1)), (1, .ref b2001), (2, .int x2_2)]) hx hb dX4_strongerFirst_21 hl (k := 2) rfl rfl (by decide) rfl (fun ls hl => ?_)
      refine lv_goto (tgt := 2) hx hb dX4_strongerFirst_24 (by decide) ?_
      exact ih2 (x3_2 + 1) _ _ _ hm hW hS (lv_sub hl [1, 2, 0] rfl)
  refine lv_iconst (v := 0) hx hb dX4_strongerFirst_0 (by decide) ?_
  refine lv_istore_n (i := 3) (lv' := [(3, .int 0), (0, .ref x0), (1, va_rf x1), (2, .int x2)]) hx hb dX4_strongerFirst_1 rfl hl (by decide) rfl (fun ls hl => ?_)
  exact hB2 x1 x2 kx1 q_FU 0 _ _ _ hm hW hS (lv_sub hl [2, 3, 0] rfl)
theorem dX8_takeOver_0 : decode cX8_takeOver 0 = .ok (.aload_n 0, 1) := by decide +kernel
theorem dX8_takeOver_1 : decode cX8_takeOver 1 = .ok (.aload_n 1, 1) := by decide +kernel
theorem dX8_takeOver_2 : decode cX8_takeOver 2 = .ok (.getfield 23, 3) := by decide +kernel
theorem dX8_takeOver_5 : decode cX8_takeOver 5 = .ok (.putfield 23, 3) := by decide +kernel
theorem dX8_takeOver_8 : decode cX8_takeOver 8 = .ok (.aload_n 0, 1) := by decide +kernel
theorem dX8_takeOver_9 : decode cX8_takeOver 9 = .ok (.getfield 14, 3) := by decide +kernel
theorem dX8_takeOver_12 : decode cX8_takeOver 12 = .ok (.aload_n 1, 1) := by decide +kernel
theorem dX8_takeOver_13 : decode cX8_takeOver 13 = .ok (.getfield 14, 3) := by decide +kernel
theorem dX8_takeOver_16 : decode cX8_takeOver 16 = .ok (.invokevirtual 35, 3) := by decide +kernel
theorem dX8_takeOver_19 : decode cX8_takeOver 19 = .ok (.aload_n 0, 1) := by decide +kernel
theorem dX8_takeOver_20 : decode cX8_takeOver 20 = .ok (.getfield 20, 3) := by decide +kernel
theorem dX8_takeOver_23 : decode cX8_takeOver 23 = .ok (.aload_n 1, 1) := by decide +kernel
theorem dX8_takeOver_24 : decode cX8_takeOver 24 = .ok (.getfield 20, 3) := by decide +kernel
theorem dX8_takeOver_27 : decode cX8_takeOver 27 = .ok (.invokevirtual 35, 3) := by decide +kernel
theorem dX8_takeOver_30 : decode cX8_takeOver 30 = .ok (.return_, 1) := by decide +kernel
set_option maxRecDepth 100000 in
theorem c_X8_takeOver (l : Launch) (D : q_D) (al : q_Al) (dt : q_Dt) (x0 : Nat) (x1 : Nat) (kx0 : al.1 x0 = 9) (kx1 : al.1 x1 = 9) (dt0 : q_Dt) (hm : X8_takeOver al dt x0 x1 = some dt0) : q_Mt l yX8_takeOver cX8_takeOver 2 (none) 2 43 D al [.ref x0, .ref x1] dt 0 none dt0 := by
  refine q_Mt.of (by decide) (Nat.le_of_ble_eq_true rfl) ?_
  intro p e s m args below meth c ls C hargs hW hl
  have hx := C.1
  have hb := C.2.1
  have hown := C.2.2.2.2.2.1
  have hts := C.2.2.2.2.2.2.1
  have hS : va_S (q_A al) s.heap s.heap [] := va_S.rf
  have hl : lv_has ls 2 [(0, .ref x0), (1, .ref x1)] := hl
  unfold X8_takeOver at hm
  refine lv_aload_n hx hb dX8_takeOver_0 rfl (lv_at hl 0 rfl) ?_
  refine lv_aload_n hx hb dX8_takeOver_1 rfl (lv_at hl 1 rfl) ?_
  refine r_getI C hW (ci := 8) kx1 ff_8_2 cl_8 fl_RX8_23 dX8_takeOver_2 ?_
  refine r_putI C hW hS hm (ci := 8) kx0 ff_8_2 cl_8 fl_RX8_23 (nf_8_2) rfl dX8_takeOver_5 (fun dt1000001 H locs hm hW hS => ?_)
  refine lv_aload_n hx hb dX8_takeOver_8 rfl (lv_at hl 0 rfl) ?_
  refine r_getF C hW (ci := 8) kx0 ff_8_0 cl_8 fl_RX8_14 dX8_takeOver_9 (fun k1000002 => ?_)
  refine lv_aload_n hx hb dX8_takeOver_12 rfl (lv_at hl 1 rfl) ?_
  refine r_getF C hW (ci := 8) kx1 ff_8_0 cl_8 fl_RX8_14 dX8_takeOver_13 (fun k1000003 => ?_)
  obtain ⟨dt1000005, hc1000004, hm⟩ := q_b1i hm
  refine q_callV C hW hS (As := [.ref (al.2.2 x1 0)]) (rest := []) (st1 := []) (c_X5_takeOver l D al dt1000001 (al.2.2 x0 0) (al.2.2 x1 0) k1000002 k1000003 dt1000005 hc1000004) yl_X5_takeOver vl_X5_takeOver ml_RX8_35 (ci := 5) rfl k1000002 (by decide) rfl ⟨Nat.le_of_ble_eq_true rfl, Nat.le_of_ble_eq_true rfl⟩ hl rfl (Nat.le_of_ble_eq_true rfl) dX8_takeOver_16 ⟨Nat.le_refl _, Nat.le_refl _⟩ rfl (fun H locs k1000006 hW hS => ?_)
  refine lv_aload_n hx hb dX8_takeOver_19 rfl (lv_at hl 0 rfl) ?_
  refine r_getF C hW (ci := 8) kx0 ff_8_1 cl_8 fl_RX8_20 dX8_takeOver_20 (fun k1000007 => ?_)
  refine lv_aload_n hx hb dX8_takeOver_23 rfl (lv_at hl 1 rfl) ?_
  refine r_getF C hW (ci := 8) kx1 ff_8_1 cl_8 fl_RX8_20 dX8_takeOver_24 (fun k1000008 => ?_)
  obtain ⟨dt1000010, hc1000009, hm⟩ := q_b1i hm
  refine q_callV C hW hS (As := [.ref (al.2.2 x1 1)]) (rest := []) (st1 := []) (c_X5_takeOver l D al dt1000005 (al.2.2 x0 1) (al.2.2 x1 1) k1000007 k1000008 dt1000010 hc1000009) yl_X5_takeOver vl_X5_takeOver ml_RX8_35 (ci := 5) rfl k1000007 (by decide) rfl ⟨Nat.le_of_ble_eq_true rfl, Nat.le_of_ble_eq_true rfl⟩ hl rfl (Nat.le_of_ble_eq_true rfl) dX8_takeOver_27 ⟨Nat.le_refl _, Nat.le_refl _⟩ rfl (fun H locs k1000011 hW hS => ?_)
  exact e_vD C hW hS hm dX8_takeOver_30
theorem dX8_increase_0 : decode cX8_increase 0 = .ok (.iload_n 1, 1) := by decide +kernel
theorem dX8_increase_1 : decode cX8_increase 1 = .ok (.aload_n 0, 1) := by decide +kernel
theorem dX8_increase_2 : decode cX8_increase 2 = .ok (.getfield 23, 3) := by decide +kernel
theorem dX8_increase_5 : decode cX8_increase 5 = .ok (.if_icmp .ge 20, 3) := by decide +kernel
theorem dX8_increase_8 : decode cX8_increase 8 = .ok (.iload_n 2, 1) := by decide +kernel
theorem dX8_increase_9 : decode cX8_increase 9 = .ok (.ifCond .ne 16, 3) := by decide +kernel
theorem dX8_increase_12 : decode cX8_increase 12 = .ok (.aload_n 0, 1) := by decide +kernel
theorem dX8_increase_13 : decode cX8_increase 13 = .ok (.getfield 14, 3) := by decide +kernel
theorem dX8_increase_16 : decode cX8_increase 16 = .ok (.iload_n 1, 1) := by decide +kernel
theorem dX8_increase_17 : decode cX8_increase 17 = .ok (.iload_n 3, 1) := by decide +kernel
theorem dX8_increase_18 : decode cX8_increase 18 = .ok (.i2l, 1) := by decide +kernel
theorem dX8_increase_19 : decode cX8_increase 19 = .ok (.invokevirtual 31, 3) := by decide +kernel
theorem dX8_increase_22 : decode cX8_increase 22 = .ok (.goto 21, 3) := by decide +kernel
theorem dX8_increase_25 : decode cX8_increase 25 = .ok (.iload_n 1, 1) := by decide +kernel
theorem dX8_increase_26 : decode cX8_increase 26 = .ok (.aload_n 0, 1) := by decide +kernel
theorem dX8_increase_27 : decode cX8_increase 27 = .ok (.getfield 23, 3) := by decide +kernel
theorem dX8_increase_30 : decode cX8_increase 30 = .ok (.if_icmp .ge 13, 3) := by decide +kernel
theorem dX8_increase_33 : decode cX8_increase 33 = .ok (.aload_n 0, 1) := by decide +kernel
theorem dX8_increase_34 : decode cX8_increase 34 = .ok (.getfield 20, 3) := by decide +kernel
theorem dX8_increase_37 : decode cX8_increase 37 = .ok (.iload_n 1, 1) := by decide +kernel
theorem dX8_increase_38 : decode cX8_increase 38 = .ok (.iload_n 3, 1) := by decide +kernel
theorem dX8_increase_39 : decode cX8_increase 39 = .ok (.i2l, 1) := by decide +kernel
theorem dX8_increase_40 : decode cX8_increase 40 = .ok (.invokevirtual 31, 3) := by decide +kernel
theorem dX8_increase_43 : decode cX8_increase 43 = .ok (.return_, 1) := by decide +kernel
set_option maxRecDepth 100000 in
theorem c_X8_increase (l : Launch) (D : q_D) (al : q_Al) (dt : q_Dt) (x0 : Nat) (x1 : Int32) (x2 : Int32) (x3 : Int32) (kx0 : al.1 x0 = 9) (dt0 : q_Dt) (hm : X8_increase al dt x0 x1 x2 x3 = some dt0) : q_Mt l yX8_increase cX8_increase 4 (none) 1 23 D al [.ref x0, .int x1, .int x2, .int x3] dt 0 none dt0 := by
  refine q_Mt.of (by decide) (Nat.le_of_ble_eq_true rfl) ?_
  intro p e s m args below meth c ls C hargs hW hl
  have hx := C.1
  have hb := C.2.1
  have hown := C.2.2.2.2.2.1
  have hts := C.2.2.2.2.2.2.1
  have hS : va_S (q_A al) s.heap s.heap [] := va_S.rf
  have hl : lv_has ls 4 [(0, .ref x0), (1, .int x1), (2, .int x2), (3, .int x3)] := hl
  unfold X8_increase at hm
  have hB25 : ∀ (x0_25 : Nat) (x1_25 : Int32) (x3_25 : Int32) (kx0_25 : al.1 x0_25 = 9) (dt : q_Dt) (H : Heap) (locs : List Loc) (ls : Array Slot) (hm : X8_increase_b25 al x0_25 x1_25 x3_25 dt = some dt0) (hW : q_W D al dt H) (hS : va_S (q_A al) s.heap H locs) (hl : lv_has ls 4 [(0, .ref x0_25), (1, .int x1_25), (3, .int x3_25)]), W p l e { frames := 1, cells := 0, slots := 0, locals := 23 } s m args below meth c H locs 0 0 (MQ below (q_Q none (fun H => q_W D al dt0 H ∧ q_Rk al 0 none) (q_A al)) args s 0 0 (q_A al)) (F0 m 25 ls []) := by
    intro x0_25 x1_25 x3_25 kx0_25 dt H locs ls hm hW hS hl
    unfold X8_increase_b25 at hm
    refine lv_iload_n hx hb dX8_increase_25 rfl (lv_at hl 1 rfl) ?_
    refine lv_aload_n hx hb dX8_increase_26 rfl (lv_at hl 0 rfl) ?_
    refine r_getI C hW (ci := 8) kx0_25 ff_8_2 cl_8 fl_RX8_23 dX8_increase_27 ?_
    refine q_ifc hm (fun c25001 hm => ?_) (fun c25001 hm => ?_)
    · refine lv_icmp_ge (tgt := 43) hx hb dX8_increase_30 (by decide) (fun _ => ?_) (fun h => absurd c25001 h)
      exact e_vD C hW hS hm dX8_increase_43
    refine lv_icmp_ge (tgt := 43) hx hb dX8_increase_30 (by decide) (fun h => absurd h c25001) (fun _ => ?_)
    refine lv_aload_n hx hb dX8_increase_33 rfl (lv_at hl 0 rfl) ?_
    refine r_getF C hW (ci := 8) kx0_25 ff_8_1 cl_8 fl_RX8_20 dX8_increase_34 (fun k25002 => ?_)
    refine lv_iload_n hx hb dX8_increase_37 rfl (lv_at hl 1 rfl) ?_
    refine lv_iload_n hx hb dX8_increase_38 rfl (lv_at hl 2 rfl) ?_
    refine lv_i2l (v := (Int32.toInt64 x3_25)) hx hb dX8_increase_39 rfl ?_
    obtain ⟨dt25004, hc25003, hm⟩ := q_b1i hm
    refine q_callV C hW hS (As := [.int x1_25, .long (Int32.toInt64 x3_25)]) (rest := []) (st1 := []) (c_X5_increase l D al dt (al.2.2 x0_25 1) x1_25 (Int32.toInt64 x3_25) k25002 dt25004 hc25003) yl_X5_increase vl_X5_increase ml_RX8_31 (ci := 5) rfl k25002 (by decide) rfl ⟨Nat.le_of_ble_eq_true rfl, Nat.le_of_ble_eq_true rfl⟩ hl rfl (Nat.le_of_ble_eq_true rfl) dX8_increase_40 ⟨Nat.le_refl _, Nat.le_refl _⟩ rfl (fun H locs k25005 hW hS => ?_)
    exact e_vD C hW hS hm dX8_increase_43
  refine lv_iload_n hx hb dX8_increase_0 rfl (lv_at hl 1 rfl) ?_
  refine lv_aload_n hx hb dX8_increase_1 rfl (lv_at hl 0 rfl) ?_
  refine r_getI C hW (ci := 8) kx0 ff_8_2 cl_8 fl_RX8_23 dX8_increase_2 ?_
  refine q_ifc hm (fun c1000001 hm => ?_) (fun c1000001 hm => ?_)
  · refine lv_icmp_ge (tgt := 25) hx hb dX8_increase_5 (by decide) (fun _ => ?_) (fun h => absurd c1000001 h)
    exact hB25 x0 x1 x3 kx0 dt _ _ _ hm hW hS (lv_sub hl [0, 1, 3] rfl)
  refine lv_icmp_ge (tgt := 25) hx hb dX8_increase_5 (by decide) (fun h => absurd h c1000001) (fun _ => ?_)
  refine lv_iload_n hx hb dX8_increase_8 rfl (lv_at hl 2 rfl) ?_
  refine q_ifc hm (fun c1000002 hm => ?_) (fun c1000002 hm => ?_)
  · refine lv_if_ne (tgt := 25) hx hb dX8_increase_9 (by decide) (fun h => absurd c1000002 h) (fun _ => ?_)
    refine lv_aload_n hx hb dX8_increase_12 rfl (lv_at hl 0 rfl) ?_
    refine r_getF C hW (ci := 8) kx0 ff_8_0 cl_8 fl_RX8_14 dX8_increase_13 (fun k1000003 => ?_)
    refine lv_iload_n hx hb dX8_increase_16 rfl (lv_at hl 1 rfl) ?_
    refine lv_iload_n hx hb dX8_increase_17 rfl (lv_at hl 3 rfl) ?_
    refine lv_i2l (v := (Int32.toInt64 x3)) hx hb dX8_increase_18 rfl ?_
    obtain ⟨dt1000005, hc1000004, hm⟩ := q_b1i hm
    refine q_callV C hW hS (As := [.int x1, .long (Int32.toInt64 x3)]) (rest := []) (st1 := []) (c_X5_increase l D al dt (al.2.2 x0 0) x1 (Int32.toInt64 x3) k1000003 dt1000005 hc1000004) yl_X5_increase vl_X5_increase ml_RX8_31 (ci := 5) rfl k1000003 (by decide) rfl ⟨Nat.le_of_ble_eq_true rfl, Nat.le_of_ble_eq_true rfl⟩ hl rfl (Nat.le_of_ble_eq_true rfl) dX8_increase_19 ⟨Nat.le_refl _, Nat.le_refl _⟩ rfl (fun H locs k1000006 hW hS => ?_)
    refine lv_goto (tgt := 43) hx hb dX8_increase_22 (by decide) ?_
    exact e_vD C hW hS hm dX8_increase_43
  refine lv_if_ne (tgt := 25) hx hb dX8_increase_9 (by decide) (fun _ => ?_) (fun h => absurd h c1000002)
  exact hB25 x0 x1 x3 kx0 dt _ _ _ hm hW hS (lv_sub hl [0, 1, 3] rfl)
theorem dX8_layUnit_0 : decode cX8_layUnit 0 = .ok (.aload_n 1, 1) := by decide +kernel
theorem dX8_layUnit_1 : decode cX8_layUnit 1 = .ok (.iload_n 2, 1) := by decide +kernel
theorem dX8_layUnit_2 : decode cX8_layUnit 2 = .ok (.invokevirtual 89, 3) := by decide +kernel
theorem dX8_layUnit_5 : decode cX8_layUnit 5 = .ok (.istore 4, 2) := by decide +kernel
theorem dX8_layUnit_7 : decode cX8_layUnit 7 = .ok (.aload_n 0, 1) := by decide +kernel
theorem dX8_layUnit_8 : decode cX8_layUnit 8 = .ok (.iload_n 2, 1) := by decide +kernel
theorem dX8_layUnit_9 : decode cX8_layUnit 9 = .ok (.iload 4, 2) := by decide +kernel
theorem dX8_layUnit_11 : decode cX8_layUnit 11 = .ok (.iload_n 3, 1) := by decide +kernel
theorem dX8_layUnit_12 : decode cX8_layUnit 12 = .ok (.aload_n 1, 1) := by decide +kernel
theorem dX8_layUnit_13 : decode cX8_layUnit 13 = .ok (.getfield 92, 3) := by decide +kernel
theorem dX8_layUnit_16 : decode cX8_layUnit 16 = .ok (.imul, 1) := by decide +kernel
theorem dX8_layUnit_17 : decode cX8_layUnit 17 = .ok (.invokevirtual 95, 3) := by decide +kernel
theorem dX8_layUnit_20 : decode cX8_layUnit 20 = .ok (.iconst 0, 1) := by decide +kernel
theorem dX8_layUnit_21 : decode cX8_layUnit 21 = .ok (.istore 5, 2) := by decide +kernel
theorem dX8_layUnit_23 : decode cX8_layUnit 23 = .ok (.iload 5, 2) := by decide +kernel
theorem dX8_layUnit_25 : decode cX8_layUnit 25 = .ok (.aload_n 1, 1) := by decide +kernel
theorem dX8_layUnit_26 : decode cX8_layUnit 26 = .ok (.getfield 98, 3) := by decide +kernel
theorem dX8_layUnit_29 : decode cX8_layUnit 29 = .ok (.if_icmp .ge 37, 3) := by decide +kernel
theorem dX8_layUnit_32 : decode cX8_layUnit 32 = .ok (.aload_n 0, 1) := by decide +kernel
theorem dX8_layUnit_33 : decode cX8_layUnit 33 = .ok (.iload_n 2, 1) := by decide +kernel
theorem dX8_layUnit_34 : decode cX8_layUnit 34 = .ok (.aload_n 1, 1) := by decide +kernel
theorem dX8_layUnit_35 : decode cX8_layUnit 35 = .ok (.getfield 101, 3) := by decide +kernel
theorem dX8_layUnit_38 : decode cX8_layUnit 38 = .ok (.iload 5, 2) := by decide +kernel
theorem dX8_layUnit_40 : decode cX8_layUnit 40 = .ok (.invokevirtual 104, 3) := by decide +kernel
theorem dX8_layUnit_43 : decode cX8_layUnit 43 = .ok (.iadd, 1) := by decide +kernel
theorem dX8_layUnit_44 : decode cX8_layUnit 44 = .ok (.iload 4, 2) := by decide +kernel
theorem dX8_layUnit_46 : decode cX8_layUnit 46 = .ok (.iload_n 3, 1) := by decide +kernel
theorem dX8_layUnit_47 : decode cX8_layUnit 47 = .ok (.aload_n 1, 1) := by decide +kernel
theorem dX8_layUnit_48 : decode cX8_layUnit 48 = .ok (.getfield 107, 3) := by decide +kernel
theorem dX8_layUnit_51 : decode cX8_layUnit 51 = .ok (.iload 5, 2) := by decide +kernel
theorem dX8_layUnit_53 : decode cX8_layUnit 53 = .ok (.invokevirtual 104, 3) := by decide +kernel
theorem dX8_layUnit_56 : decode cX8_layUnit 56 = .ok (.imul, 1) := by decide +kernel
theorem dX8_layUnit_57 : decode cX8_layUnit 57 = .ok (.invokevirtual 95, 3) := by decide +kernel
theorem dX8_layUnit_60 : decode cX8_layUnit 60 = .ok (.iinc 5 1, 3) := by decide +kernel
theorem dX8_layUnit_63 : decode cX8_layUnit 63 = .ok (.goto (-40), 3) := by decide +kernel
theorem dX8_layUnit_66 : decode cX8_layUnit 66 = .ok (.return_, 1) := by decide +kernel
set_option maxRecDepth 100000 in
theorem c_X8_layUnit (l : Launch) (D : q_D) (al : q_Al) (dt : q_Dt) (x0 : Nat) (x1 : Nat) (x2 : Int32) (x3 : Int32) (kx0 : al.1 x0 = 9) (kx1 : al.1 x1 = 8) (dt0 : q_Dt) (hm : X8_layUnit al dt x0 x1 x2 x3 = some dt0) : q_Mt l yX8_layUnit cX8_layUnit 6 (none) 2 46 D al [.ref x0, .ref x1, .int x2, .int x3] dt 0 none dt0 := by
  refine q_Mt.of (by decide) (Nat.le_of_ble_eq_true rfl) ?_
  intro p e s m args below meth c ls C hargs hW hl
  have hx := C.1
  have hb := C.2.1
  have hown := C.2.2.2.2.2.1
  have hts := C.2.2.2.2.2.2.1
  have hS : va_S (q_A al) s.heap s.heap [] := va_S.rf
  have hl : lv_has ls 6 [(0, .ref x0), (1, .ref x1), (2, .int x2), (3, .int x3)] := hl
  unfold X8_layUnit at hm
  have hB23 : ∀ (x0_23 : Nat) (x1_23 : Nat) (x2_23 : Int32) (x3_23 : Int32) (x4_23 : Int32) (kx0_23 : al.1 x0_23 = 9) (kx1_23 : al.1 x1_23 = 8) (n_23 : Nat) (x5_23 : Int32) (dt : q_Dt) (H : Heap) (locs : List Loc) (ls : Array Slot) (hm : X8_layUnit_b23 al x0_23 x1_23 x2_23 x3_23 x4_23 n_23 x5_23 dt = some dt0) (hW : q_W D al dt H) (hS : va_S (q_A al) s.heap H locs) (hl : lv_has ls 6 [(0, .ref x0_23), (1, .ref x1_23), (2, .int x2_23), (3, .int x3_23), (4, .int x4_23), (5, .int x5_23)]), W p l e { frames := 2, cells := 0, slots := 0, locals := 46 } s m args below meth c H locs 0 0 (MQ below (q_Q none (fun H => q_W D al dt0 H ∧ q_Rk al 0 none) (q_A al)) args s 0 0 (q_A al)) (F0 m 23 ls []) := by
    intro x0_23 x1_23 x2_23 x3_23 x4_23 kx0_23 kx1_23
    intro n_23
    induction n_23 with
    | zero => intro x5_23 dt H locs ls hm hW hS hl; cases hm
    | succ n_23 ih23 =>
      intro x5_23 dt H locs ls hm hW hS hl
      rw [X8_layUnit_b23] at hm
      refine lv_iload hx hb dX8_layUnit_23 (lv_at hl 5 rfl) ?_
      refine lv_aload_n hx hb dX8_layUnit_25 rfl (lv_at hl 1 rfl) ?_
      refine r_getI C hW (ci := 7) kx1_23 ff_7_3 cl_7 fl_RX8_98 dX8_layUnit_26 ?_
      refine q_ifc hm (fun c23001 hm => ?_) (fun c23001 hm => ?_)
      · refine lv_icmp_ge (tgt := 66) hx hb dX8_layUnit_29 (by decide) (fun _ => ?_) (fun h => absurd c23001 h)
        exact e_vD C hW hS hm dX8_layUnit_66
      refine lv_icmp_ge (tgt := 66) hx hb dX8_layUnit_29 (by decide) (fun h => absurd h c23001) (fun _ => ?_)
      refine lv_aload_n hx hb dX8_layUnit_32 rfl (lv_at hl 0 rfl) ?_
      refine lv_iload_n hx hb dX8_layUnit_33 rfl (lv_at hl 2 rfl) ?_
      refine lv_aload_n hx hb dX8_layUnit_34 rfl (lv_at hl 1 rfl) ?_
      refine r_getF C hW (ci := 7) kx1_23 ff_7_0 cl_7 fl_RX8_101 dX8_layUnit_35 (fun k23002 => ?_)
      refine lv_iload hx hb dX8_layUnit_38 (lv_at hl 5 rfl) ?_
      obtain ⟨v23004, hc23003, hm⟩ := q_b1i hm
      refine q_callV C hW hS (As := [.int x5_23]) (rest := [.int x2_23, .ref x0_23]) (st1 := [.int v23004, .int x2_23, .ref x0_23]) (c_X5_small l D al dt (al.2.2 x1_23 0) x5_23 k23002 v23004 hc23003) yl_X5_small vl_X5_small ml_RX8_104 (ci := 5) rfl k23002 (by decide) rfl ⟨Nat.le_of_ble_eq_true rfl, Nat.le_of_ble_eq_true rfl⟩ hl rfl (Nat.le_of_ble_eq_true rfl) dX8_layUnit_40 ⟨Nat.le_refl _, Nat.le_refl _⟩ rfl (fun H locs k23005 hW hS => ?_)
      refine lv_iadd hx hb dX8_layUnit_43 ?_
      refine lv_iload hx hb dX8_layUnit_44 (lv_at hl 4 rfl) ?_
      refine lv_iload_n hx hb dX8_layUnit_46 rfl (lv_at hl 3 rfl) ?_
      refine lv_aload_n hx hb dX8_layUnit_47 rfl (lv_at hl 1 rfl) ?_
      refine r_getF C hW (ci := 7) kx1_23 ff_7_1 cl_7 fl_RX8_107 dX8_layUnit_48 (fun k23006 => ?_)
      refine lv_iload hx hb dX8_layUnit_51 (lv_at hl 5 rfl) ?_
      obtain ⟨v23008, hc23007, hm⟩ := q_b1i hm
      refine q_callV C hW hS (As := [.int x5_23]) (rest := [.int x3_23, .int x4_23, .int (x2_23 + v23004), .ref x0_23]) (st1 := [.int v23008, .int x3_23, .int x4_23, .int (x2_23 + v23004), .ref x0_23]) (c_X5_small l D al dt (al.2.2 x1_23 1) x5_23 k23006 v23008 hc23007) yl_X5_small vl_X5_small ml_RX8_104 (ci := 5) rfl k23006 (by decide) rfl ⟨Nat.le_of_ble_eq_true rfl, Nat.le_of_ble_eq_true rfl⟩ hl rfl (Nat.le_of_ble_eq_true rfl) dX8_layUnit_53 ⟨Nat.le_refl _, Nat.le_refl _⟩ rfl (fun H locs k23009 hW hS => ?_)
      refine lv_imul hx hb dX8_layUnit_56 ?_
      obtain ⟨dt23011, hc23010, hm⟩ := q_b1i hm
      refine q_callV C hW hS (As := [.int (x2_23 + v23004), .int x4_23, .int (x3_23 * v23008)]) (rest := []) (st1 := []) (c_X8_increase l D al dt x0_23 (x2_23 + v23004) x4_23 (x3_23 * v23008) kx0_23 dt23011 hc23010) yl_X8_increase vl_X8_increase ml_RX8_95 (ci := 8) rfl kx0_23 (by decide) rfl ⟨Nat.le_of_ble_eq_true rfl, Nat.le_of_ble_eq_true rfl⟩ hl rfl (Nat.le_of_ble_eq_true rfl) dX8_layUnit_57 ⟨Nat.le_refl _, Nat.le_refl _⟩ rfl (fun H locs k23012 hW hS => ?_)
      refine lv_iinc (v := (x5_23 + 1)) (lv' := [(5, .int (x5_23 + 1)), (0, .ref x0_23), (1, .ref x1_23), (2, .int x2_23), (3, .int x3_23), (4, .int x4_23)]) hx hb dX8_layUnit_60 hl (k := 5) rfl rfl (by decide) rfl (fun ls hl => ?_)
      refine lv_goto (tgt := 23) hx hb dX8_layUnit_63 (by decide) ?_
      exact ih23 (x5_23 + 1) dt23011 _ _ _ hm hW hS (lv_sub hl [1, 2, 3, 4, 5, 0] rfl)
  refine lv_aload_n hx hb dX8_layUnit_0 rfl (lv_at hl 1 rfl) ?_
  refine lv_iload_n hx hb dX8_layUnit_1 rfl (lv_at hl 2 rfl) ?_
  obtain ⟨v1000002, hc1000001, hm⟩ := q_b1i hm
  refine q_callV C hW hS (As := [.int x2]) (rest := []) (st1 := [.int v1000002]) (c_X7_axisAt l D al dt x1 x2 kx1 v1000002 hc1000001) yl_X7_axisAt vl_X7_axisAt ml_RX8_89 (ci := 7) rfl kx1 (by decide) rfl ⟨Nat.le_of_ble_eq_true rfl, Nat.le_of_ble_eq_true rfl⟩ hl rfl (Nat.le_of_ble_eq_true rfl) dX8_layUnit_2 ⟨Nat.le_refl _, Nat.le_refl _⟩ rfl (fun H locs k1000003 hW hS => ?_)
  refine lv_istore (i := 4) (lv' := [(4, .int v1000002), (0, .ref x0), (1, .ref x1), (2, .int x2), (3, .int x3)]) hx hb dX8_layUnit_5 hl (by decide) rfl (fun ls hl => ?_)
  refine lv_aload_n hx hb dX8_layUnit_7 rfl (lv_at hl 1 rfl) ?_
  refine lv_iload_n hx hb dX8_layUnit_8 rfl (lv_at hl 3 rfl) ?_
  refine lv_iload hx hb dX8_layUnit_9 (lv_at hl 0 rfl) ?_
  refine lv_iload_n hx hb dX8_layUnit_11 rfl (lv_at hl 4 rfl) ?_
  refine lv_aload_n hx hb dX8_layUnit_12 rfl (lv_at hl 2 rfl) ?_
  refine r_getI C hW (ci := 7) kx1 ff_7_4 cl_7 fl_RX8_92 dX8_layUnit_13 ?_
  refine lv_imul hx hb dX8_layUnit_16 ?_
  obtain ⟨dt1000005, hc1000004, hm⟩ := q_b1i hm
  refine q_callV C hW hS (As := [.int x2, .int v1000002, .int (x3 * (dt.1 x1 4))]) (rest := []) (st1 := []) (c_X8_increase l D al dt x0 x2 v1000002 (x3 * (dt.1 x1 4)) kx0 dt1000005 hc1000004) yl_X8_increase vl_X8_increase ml_RX8_95 (ci := 8) rfl kx0 (by decide) rfl ⟨Nat.le_of_ble_eq_true rfl, Nat.le_of_ble_eq_true rfl⟩ hl rfl (Nat.le_of_ble_eq_true rfl) dX8_layUnit_17 ⟨Nat.le_refl _, Nat.le_refl _⟩ rfl (fun H locs k1000006 hW hS => ?_)
  refine lv_iconst (v := 0) hx hb dX8_layUnit_20 (by decide) ?_
  refine lv_istore (i := 5) (lv' := [(5, .int 0), (4, .int v1000002), (0, .ref x0), (1, .ref x1), (2, .int x2), (3, .int x3)]) hx hb dX8_layUnit_21 hl (by decide) rfl (fun ls hl => ?_)
  exact hB23 x0 x1 x2 x3 v1000002 kx0 kx1 q_FU 0 dt1000005 _ _ _ hm hW hS (lv_sub hl [2, 3, 4, 5, 1, 0] rfl)
theorem dX8_layWave_0 : decode cX8_layWave 0 = .ok (.iconst 0, 1) := by decide +kernel
theorem dX8_layWave_1 : decode cX8_layWave 1 = .ok (.istore 4, 2) := by decide +kernel
theorem dX8_layWave_3 : decode cX8_layWave 3 = .ok (.iload 4, 2) := by decide +kernel
theorem dX8_layWave_5 : decode cX8_layWave 5 = .ok (.aload_n 0, 1) := by decide +kernel
theorem dX8_layWave_6 : decode cX8_layWave 6 = .ok (.getfield 23, 3) := by decide +kernel
theorem dX8_layWave_9 : decode cX8_layWave 9 = .ok (.if_icmp .ge 91, 3) := by decide +kernel
theorem dX8_layWave_12 : decode cX8_layWave 12 = .ok (.aload_n 1, 1) := by decide +kernel
theorem dX8_layWave_13 : decode cX8_layWave 13 = .ok (.iload 4, 2) := by decide +kernel
theorem dX8_layWave_15 : decode cX8_layWave 15 = .ok (.invokevirtual 73, 3) := by decide +kernel
theorem dX8_layWave_18 : decode cX8_layWave 18 = .ok (.istore 5, 2) := by decide +kernel
theorem dX8_layWave_20 : decode cX8_layWave 20 = .ok (.iload 5, 2) := by decide +kernel
theorem dX8_layWave_22 : decode cX8_layWave 22 = .ok (.ifCond .lt 72, 3) := by decide +kernel
theorem dX8_layWave_25 : decode cX8_layWave 25 = .ok (.aload_n 2, 1) := by decide +kernel
theorem dX8_layWave_26 : decode cX8_layWave 26 = .ok (.ifnonnull 21, 3) := by decide +kernel
theorem dX8_layWave_29 : decode cX8_layWave 29 = .ok (.aload_n 1, 1) := by decide +kernel
theorem dX8_layWave_30 : decode cX8_layWave 30 = .ok (.iload 5, 2) := by decide +kernel
theorem dX8_layWave_32 : decode cX8_layWave 32 = .ok (.invokevirtual 79, 3) := by decide +kernel
theorem dX8_layWave_35 : decode cX8_layWave 35 = .ok (.iconst 1, 1) := by decide +kernel
theorem dX8_layWave_36 : decode cX8_layWave 36 = .ok (.if_icmp .ne 7, 3) := by decide +kernel
theorem dX8_layWave_39 : decode cX8_layWave 39 = .ok (.iconst 1, 1) := by decide +kernel
theorem dX8_layWave_40 : decode cX8_layWave 40 = .ok (.goto 23, 3) := by decide +kernel
theorem dX8_layWave_43 : decode cX8_layWave 43 = .ok (.iconst 0, 1) := by decide +kernel
theorem dX8_layWave_44 : decode cX8_layWave 44 = .ok (.goto 19, 3) := by decide +kernel
theorem dX8_layWave_47 : decode cX8_layWave 47 = .ok (.aload_n 2, 1) := by decide +kernel
theorem dX8_layWave_48 : decode cX8_layWave 48 = .ok (.iload 5, 2) := by decide +kernel
theorem dX8_layWave_50 : decode cX8_layWave 50 = .ok (.invokevirtual 27, 3) := by decide +kernel
theorem dX8_layWave_53 : decode cX8_layWave 53 = .ok (.lconst 0, 1) := by decide +kernel
theorem dX8_layWave_54 : decode cX8_layWave 54 = .ok (.lcmp, 1) := by decide +kernel
theorem dX8_layWave_55 : decode cX8_layWave 55 = .ok (.ifCond .ge 7, 3) := by decide +kernel
theorem dX8_layWave_58 : decode cX8_layWave 58 = .ok (.iconst 1, 1) := by decide +kernel
theorem dX8_layWave_59 : decode cX8_layWave 59 = .ok (.goto 4, 3) := by decide +kernel
theorem dX8_layWave_62 : decode cX8_layWave 62 = .ok (.iconst 0, 1) := by decide +kernel
theorem dX8_layWave_63 : decode cX8_layWave 63 = .ok (.istore 6, 2) := by decide +kernel
theorem dX8_layWave_65 : decode cX8_layWave 65 = .ok (.aload_n 1, 1) := by decide +kernel
theorem dX8_layWave_66 : decode cX8_layWave 66 = .ok (.iload 4, 2) := by decide +kernel
theorem dX8_layWave_68 : decode cX8_layWave 68 = .ok (.invokevirtual 82, 3) := by decide +kernel
theorem dX8_layWave_71 : decode cX8_layWave 71 = .ok (.iload 6, 2) := by decide +kernel
theorem dX8_layWave_73 : decode cX8_layWave 73 = .ok (.ifCond .eq 8, 3) := by decide +kernel
theorem dX8_layWave_76 : decode cX8_layWave 76 = .ok (.iload_n 3, 1) := by decide +kernel
theorem dX8_layWave_77 : decode cX8_layWave 77 = .ok (.ineg, 1) := by decide +kernel
theorem dX8_layWave_78 : decode cX8_layWave 78 = .ok (.goto 4, 3) := by decide +kernel
theorem dX8_layWave_81 : decode cX8_layWave 81 = .ok (.iload_n 3, 1) := by decide +kernel
theorem dX8_layWave_82 : decode cX8_layWave 82 = .ok (.imul, 1) := by decide +kernel
theorem dX8_layWave_83 : decode cX8_layWave 83 = .ok (.istore 7, 2) := by decide +kernel
theorem dX8_layWave_85 : decode cX8_layWave 85 = .ok (.aload_n 0, 1) := by decide +kernel
theorem dX8_layWave_86 : decode cX8_layWave 86 = .ok (.aload_n 1, 1) := by decide +kernel
theorem dX8_layWave_87 : decode cX8_layWave 87 = .ok (.iload 4, 2) := by decide +kernel
theorem dX8_layWave_89 : decode cX8_layWave 89 = .ok (.iload 7, 2) := by decide +kernel
theorem dX8_layWave_91 : decode cX8_layWave 91 = .ok (.invokevirtual 85, 3) := by decide +kernel
theorem dX8_layWave_94 : decode cX8_layWave 94 = .ok (.iinc 4 1, 3) := by decide +kernel
theorem dX8_layWave_97 : decode cX8_layWave 97 = .ok (.goto (-94), 3) := by decide +kernel
theorem dX8_layWave_100 : decode cX8_layWave 100 = .ok (.return_, 1) := by decide +kernel
set_option maxRecDepth 100000 in
theorem c_X8_layWave (l : Launch) (D : q_D) (al : q_Al) (dt : q_Dt) (x0 : Nat) (x1 : Nat) (x2 : Option Nat) (x3 : Int32) (kx0 : al.1 x0 = 9) (kx1 : al.1 x1 = 8) (kx2 : ∀ b, x2 = some b → al.1 b = 6) (dt0 : q_Dt) (hm : X8_layWave al dt x0 x1 x2 x3 = some dt0) : q_Mt l yX8_layWave cX8_layWave 8 (none) 3 71 D al [.ref x0, .ref x1, va_rf x2, .int x3] dt 0 none dt0 := by
  refine q_Mt.of (by decide) (by simp [lg_sl, q_cat, q_catR, q_catI, q_catL]) ?_
  intro p e s m args below meth c ls C hargs hW hl
  have hx := C.1
  have hb := C.2.1
  have hown := C.2.2.2.2.2.1
  have hts := C.2.2.2.2.2.2.1
  have hS : va_S (q_A al) s.heap s.heap [] := va_S.rf
  have hl : lv_has ls 8 [(0, .ref x0), (1, .ref x1), (2, va_rf x2), (3, .int x3)] := by simpa [lv_args, q_cat, q_catR, q_catI, q_catL] using hl
  unfold X8_layWave at hm
  have hB3 : ∀ (x0_3 : Nat) (x1_3 : Nat) (x2_3 : Option Nat) (x3_3 : Int32) (kx0_3 : al.1 x0_3 = 9) (kx1_3 : al.1 x1_3 = 8) (kx2_3 : ∀ b, x2_3 = some b → al.1 b = 6) (n_3 : Nat) (x4_3 : Int32) (dt : q_Dt) (H : Heap) (locs : List Loc) (ls : Array Slot) (hm : X8_layWave_b3 al x0_3 x1_3 x2_3 x3_3 n_3 x4_3 dt = some dt0) (hW : q_W D al dt H) (hS : va_S (q_A al) s.heap H locs) (hl : lv_has ls 8 [(0, .ref x0_3), (1, .ref x1_3), (2, va_rf x2_3), (3, .int x3_3), (4, .int x4_3)]), W p l e { frames := 3, cells := 0, slots := 0, locals := 71 } s m args below meth c H locs 0 0 (MQ below (q_Q none (fun H => q_W D al dt0 H ∧ q_Rk al 0 none) (q_A al)) args s 0 0 (q_A al)) (F0 m 3 ls []) := by
    intro x0_3 x1_3 x2_3 x3_3 kx0_3 kx1_3 kx2_3
    intro n_3
    induction n_3 with
    | zero => intro x4_3 dt H locs ls hm hW hS hl; cases hm
    | succ n_3 ih3 =>
      have hB94 : ∀ (x4_94 : Int32) (dt : q_Dt) (H : Heap) (locs : List Loc) (ls : Array Slot) (hm : X8_layWave_b94 al (X8_layWave_b3 al x0_3 x1_3 x2_3 x3_3 n_3) x0_3 x1_3 x2_3 x3_3 x4_94 dt = some dt0) (hW : q_W D al dt H) (hS : va_S (q_A al) s.heap H locs) (hl : lv_has ls 8 [(0, .ref x0_3), (1, .ref x1_3), (2, va_rf x2_3), (3, .int x3_3), (4, .int x4_94)]), W p l e { frames := 3, cells := 0, slots := 0, locals := 71 } s m args below meth c H locs 0 0 (MQ below (q_Q none (fun H => q_W D al dt0 H ∧ q_Rk al 0 none) (q_A al)) args s 0 0 (q_A al)) (F0 m 94 ls []) := by
        intro x4_94 dt H locs ls hm hW hS hl
        unfold X8_layWave_b94 at hm
        refine lv_iinc (v := (x4_94 + 1)) (lv' := [(4, .int (x4_94 + 1)), (0, .ref x0_3), (1, .ref x1_3), (2, va_rf x2_3), (3, .int x3_3)]) hx hb dX8_layWave_94 hl (k := 4) rfl rfl (by decide) rfl (fun ls hl => ?_)
        refine lv_goto (tgt := 3) hx hb dX8_layWave_97 (by decide) ?_
        exact ih3 (x4_94 + 1) dt _ _ _ hm hW hS (lv_sub hl [1, 2, 3, 4, 0] rfl)
      have hB82 : ∀ (x4_82 : Int32) (t0_82 : Int32) (t1_82 : Int32) (dt : q_Dt) (H : Heap) (locs : List Loc) (ls : Array Slot) (hm : X8_layWave_b82 al (X8_layWave_b3 al x0_3 x1_3 x2_3 x3_3 n_3) x0_3 x1_3 x2_3 x3_3 x4_82 t0_82 t1_82 dt = some dt0) (hW : q_W D al dt H) (hS : va_S (q_A al) s.heap H locs) (hl : lv_has ls 8 [(0, .ref x0_3), (1, .ref x1_3), (2, va_rf x2_3), (3, .int x3_3), (4, .int x4_82)]), W p l e { frames := 3, cells := 0, slots := 0, locals := 71 } s m args below meth c H locs 0 0 (MQ below (q_Q none (fun H => q_W D al dt0 H ∧ q_Rk al 0 none) (q_A al)) args s 0 0 (q_A al)) (F0 m 82 ls [.int t1_82, .int t0_82]) := by
        intro x4_82 t0_82 t1_82 dt H locs ls hm hW hS hl
        unfold X8_layWave_b82 at hm
        refine lv_imul hx hb dX8_layWave_82 ?_
        refine lv_istore (i := 7) (lv' := [(7, .int (t0_82 * t1_82)), (0, .ref x0_3), (1, .ref x1_3), (2, va_rf x2_3), (3, .int x3_3), (4, .int x4_82)]) hx hb dX8_layWave_83 hl (by decide) rfl (fun ls hl => ?_)
        refine lv_aload_n hx hb dX8_layWave_85 rfl (lv_at hl 1 rfl) ?_
        refine lv_aload_n hx hb dX8_layWave_86 rfl (lv_at hl 2 rfl) ?_
        refine lv_iload hx hb dX8_layWave_87 (lv_at hl 5 rfl) ?_
        refine lv_iload hx hb dX8_layWave_89 (lv_at hl 0 rfl) ?_
        obtain ⟨dt82002, hc82001, hm⟩ := q_b1i hm
        refine q_callV C hW hS (As := [.ref x1_3, .int x4_82, .int (t0_82 * t1_82)]) (rest := []) (st1 := []) (c_X8_layUnit l D al dt x0_3 x1_3 x4_82 (t0_82 * t1_82) kx0_3 kx1_3 dt82002 hc82001) yl_X8_layUnit vl_X8_layUnit ml_RX8_85 (ci := 8) rfl kx0_3 (by decide) rfl ⟨Nat.le_of_ble_eq_true rfl, Nat.le_of_ble_eq_true rfl⟩ hl rfl (Nat.le_of_ble_eq_true rfl) dX8_layWave_91 ⟨Nat.le_refl _, Nat.le_refl _⟩ rfl (fun H locs k82003 hW hS => ?_)
        exact hB94 x4_82 dt82002 _ _ _ hm hW hS (lv_sub hl [1, 2, 3, 4, 5] rfl)
      have hB63 : ∀ (x4_63 : Int32) (t0_63 : Int32) (dt : q_Dt) (H : Heap) (locs : List Loc) (ls : Array Slot) (hm : X8_layWave_b63 al (X8_layWave_b3 al x0_3 x1_3 x2_3 x3_3 n_3) x0_3 x1_3 x2_3 x3_3 x4_63 t0_63 dt = some dt0) (hW : q_W D al dt H) (hS : va_S (q_A al) s.heap H locs) (hl : lv_has ls 8 [(0, .ref x0_3), (1, .ref x1_3), (2, va_rf x2_3), (3, .int x3_3), (4, .int x4_63)]), W p l e { frames := 3, cells := 0, slots := 0, locals := 71 } s m args below meth c H locs 0 0 (MQ below (q_Q none (fun H => q_W D al dt0 H ∧ q_Rk al 0 none) (q_A al)) args s 0 0 (q_A al)) (F0 m 63 ls [.int t0_63]) := by
        intro x4_63 t0_63 dt H locs ls hm hW hS hl
        unfold X8_layWave_b63 at hm
        refine lv_istore (i := 6) (lv' := [(6, .int t0_63), (0, .ref x0_3), (1, .ref x1_3), (2, va_rf x2_3), (3, .int x3_3), (4, .int x4_63)]) hx hb dX8_layWave_63 hl (by decide) rfl (fun ls hl => ?_)
        refine lv_aload_n hx hb dX8_layWave_65 rfl (lv_at hl 2 rfl) ?_
        refine lv_iload hx hb dX8_layWave_66 (lv_at hl 5 rfl) ?_
        obtain ⟨v63002, hc63001, hm⟩ := q_b1i hm
        refine q_callV C hW hS (As := [.int x4_63]) (rest := []) (st1 := [.int v63002]) (c_X7_signAt l D al dt x1_3 x4_63 kx1_3 v63002 hc63001) yl_X7_signAt vl_X7_signAt ml_RX8_82 (ci := 7) rfl kx1_3 (by decide) rfl ⟨Nat.le_of_ble_eq_true rfl, Nat.le_of_ble_eq_true rfl⟩ hl rfl (Nat.le_of_ble_eq_true rfl) dX8_layWave_68 ⟨Nat.le_refl _, Nat.le_refl _⟩ rfl (fun H locs k63003 hW hS => ?_)
        refine lv_iload hx hb dX8_layWave_71 (lv_at hl 0 rfl) ?_
        refine q_ifc hm (fun c63004 hm => ?_) (fun c63004 hm => ?_)
        · refine lv_if_eq (tgt := 81) hx hb dX8_layWave_73 (by decide) (fun _ => ?_) (fun h => absurd c63004 h)
          refine lv_iload_n hx hb dX8_layWave_81 rfl (lv_at hl 4 rfl) ?_
          exact hB82 x4_63 v63002 x3_3 dt _ _ _ hm hW hS (lv_sub hl [1, 2, 3, 4, 5] rfl)
        refine lv_if_eq (tgt := 81) hx hb dX8_layWave_73 (by decide) (fun h => absurd h c63004) (fun _ => ?_)
        refine lv_iload_n hx hb dX8_layWave_76 rfl (lv_at hl 4 rfl) ?_
        refine lv_ineg hx hb dX8_layWave_77 ?_
        refine lv_goto (tgt := 82) hx hb dX8_layWave_78 (by decide) ?_
        exact hB82 x4_63 v63002 (-x3_3) dt _ _ _ hm hW hS (lv_sub hl [1, 2, 3, 4, 5] rfl)
      intro x4_3 dt H locs ls hm hW hS hl
      rw [X8_layWave_b3] at hm
      refine lv_iload hx hb dX8_layWave_3 (lv_at hl 4 rfl) ?_
      refine lv_aload_n hx hb dX8_layWave_5 rfl (lv_at hl 0 rfl) ?_
      refine r_getI C hW (ci := 8) kx0_3 ff_8_2 cl_8 fl_RX8_23 dX8_layWave_6 ?_
      refine q_ifc hm (fun c3001 hm => ?_) (fun c3001 hm => ?_)
      · refine lv_icmp_ge (tgt := 100) hx hb dX8_layWave_9 (by decide) (fun _ => ?_) (fun h => absurd c3001 h)
        exact e_vD C hW hS hm dX8_layWave_100
      refine lv_icmp_ge (tgt := 100) hx hb dX8_layWave_9 (by decide) (fun h => absurd h c3001) (fun _ => ?_)
      refine lv_aload_n hx hb dX8_layWave_12 rfl (lv_at hl 1 rfl) ?_
      refine lv_iload hx hb dX8_layWave_13 (lv_at hl 4 rfl) ?_
      obtain ⟨v3003, hc3002, hm⟩ := q_b1i hm
      refine q_callV C hW hS (As := [.int x4_3]) (rest := []) (st1 := [.int v3003]) (c_X7_periodAt l D al dt x1_3 x4_3 kx1_3 v3003 hc3002) yl_X7_periodAt vl_X7_periodAt ml_RX8_73 (ci := 7) rfl kx1_3 (by decide) rfl ⟨Nat.le_of_ble_eq_true rfl, Nat.le_of_ble_eq_true rfl⟩ hl rfl (Nat.le_of_ble_eq_true rfl) dX8_layWave_15 ⟨Nat.le_refl _, Nat.le_refl _⟩ rfl (fun H locs k3004 hW hS => ?_)
      refine lv_istore (i := 5) (lv' := [(5, .int v3003), (0, .ref x0_3), (1, .ref x1_3), (2, va_rf x2_3), (3, .int x3_3), (4, .int x4_3)]) hx hb dX8_layWave_18 hl (by decide) rfl (fun ls hl => ?_)
      refine lv_iload hx hb dX8_layWave_20 (lv_at hl 0 rfl) ?_
      refine q_ifc hm (fun c3005 hm => ?_) (fun c3005 hm => ?_)
      · refine lv_if_lt (tgt := 94) hx hb dX8_layWave_22 (by decide) (fun _ => ?_) (fun h => absurd c3005 h)
        exact hB94 x4_3 dt _ _ _ hm hW hS (lv_sub hl [1, 2, 3, 4, 5] rfl)
      refine lv_if_lt (tgt := 94) hx hb dX8_layWave_22 (by decide) (fun h => absurd h c3005) (fun _ => ?_)
      refine q_aloadQ_n C dX8_layWave_25 rfl (lv_at hl 3 rfl) ?_
      refine q_ifnonnull C hm (tgt := 47) dX8_layWave_26 (by decide) (fun e3008 hq3009 => ?_) (fun b3006 e3008 hq3009 => ?_)
      · subst e3008
        have hm := hq3009
        refine lv_aload_n hx hb dX8_layWave_29 rfl (lv_at hl 2 rfl) ?_
        refine lv_iload hx hb dX8_layWave_30 (lv_at hl 0 rfl) ?_
        obtain ⟨v3011, hc3010, hm⟩ := q_b1i hm
        refine q_callV C hW hS (As := [.int v3003]) (rest := []) (st1 := [.int v3011]) (c_X7_bitSent l D al dt x1_3 v3003 kx1_3 v3011 hc3010) yl_X7_bitSent vl_X7_bitSent ml_RX8_79 (ci := 7) rfl kx1_3 (by decide) rfl ⟨Nat.le_of_ble_eq_true rfl, Nat.le_of_ble_eq_true rfl⟩ hl rfl (Nat.le_of_ble_eq_true rfl) dX8_layWave_32 ⟨Nat.le_refl _, Nat.le_refl _⟩ rfl (fun H locs k3012 hW hS => ?_)
        refine lv_iconst (v := 1) hx hb dX8_layWave_35 (by decide) ?_
        refine q_ifc hm (fun c3013 hm => ?_) (fun c3013 hm => ?_)
        · refine lv_icmp_ne (tgt := 43) hx hb dX8_layWave_36 (by decide) (fun h => absurd c3013 h) (fun _ => ?_)
          refine lv_iconst (v := 1) hx hb dX8_layWave_39 (by decide) ?_
          refine lv_goto (tgt := 63) hx hb dX8_layWave_40 (by decide) ?_
          exact hB63 x4_3 1 dt _ _ _ hm hW hS (lv_sub hl [1, 2, 3, 4, 5] rfl)
        refine lv_icmp_ne (tgt := 43) hx hb dX8_layWave_36 (by decide) (fun _ => ?_) (fun h => absurd h c3013)
        refine lv_iconst (v := 0) hx hb dX8_layWave_43 (by decide) ?_
        refine lv_goto (tgt := 63) hx hb dX8_layWave_44 (by decide) ?_
        exact hB63 x4_3 0 dt _ _ _ hm hW hS (lv_sub hl [1, 2, 3, 4, 5] rfl)
      subst e3008
      have hm := hq3009
      have k3007 := kx2_3 b3006 rfl
      refine lv_aload_n hx hb dX8_layWave_47 rfl (lv_at hl 3 rfl) ?_
      refine lv_iload hx hb dX8_layWave_48 (lv_at hl 0 rfl) ?_
      obtain ⟨v3015, hc3014, hm⟩ := q_b1i hm
      refine q_callV C hW hS (As := [.int v3003]) (rest := []) (st1 := [.long v3015]) (c_X5_at l D al dt b3006 v3003 k3007 v3015 hc3014) yl_X5_at vl_X5_at ml_RX8_27 (ci := 5) rfl k3007 (by decide) rfl ⟨Nat.le_of_ble_eq_true rfl, Nat.le_of_ble_eq_true rfl⟩ hl rfl (Nat.le_of_ble_eq_true rfl) dX8_layWave_50 ⟨Nat.le_refl _, Nat.le_refl _⟩ rfl (fun H locs k3016 hW hS => ?_)
      refine lv_lconst (v := 0) hx hb dX8_layWave_53 rfl ?_
      refine W.lcmp hx hb dX8_layWave_54 ?_
      refine q_ifc hm (fun c3017 hm => ?_) (fun c3017 hm => ?_)
      · refine lv_if_ge (tgt := 62) hx hb dX8_layWave_55 (by decide) (fun _ => ?_) (fun h => absurd (q_cmp_ge.mpr c3017) h)
        refine lv_iconst (v := 0) hx hb dX8_layWave_62 (by decide) ?_
        exact hB63 x4_3 0 dt _ _ _ hm hW hS (lv_sub hl [1, 2, 3, 4, 5] rfl)
      refine lv_if_ge (tgt := 62) hx hb dX8_layWave_55 (by decide) (fun h => absurd (q_cmp_ge.mp h) c3017) (fun _ => ?_)
      refine lv_iconst (v := 1) hx hb dX8_layWave_58 (by decide) ?_
      refine lv_goto (tgt := 63) hx hb dX8_layWave_59 (by decide) ?_
      exact hB63 x4_3 1 dt _ _ _ hm hW hS (lv_sub hl [1, 2, 3, 4, 5] rfl)
  refine lv_iconst (v := 0) hx hb dX8_layWave_0 (by decide) ?_
  refine lv_istore (i := 4) (lv' := [(4, .int 0), (0, .ref x0), (1, .ref x1), (2, va_rf x2), (3, .int x3)]) hx hb dX8_layWave_1 hl (by decide) rfl (fun ls hl => ?_)
  exact hB3 x0 x1 x2 x3 kx0 kx1 kx2 q_FU 0 dt _ _ _ hm hW hS (lv_sub hl [1, 2, 3, 4, 0] rfl)
theorem dX4_takeOut_0 : decode cX4_takeOut 0 = .ok (.aload_n 0, 1) := by decide +kernel
theorem dX4_takeOut_1 : decode cX4_takeOut 1 = .ok (.getfield 23, 3) := by decide +kernel
theorem dX4_takeOut_4 : decode cX4_takeOut 4 = .ok (.aload_n 2, 1) := by decide +kernel
theorem dX4_takeOut_5 : decode cX4_takeOut 5 = .ok (.invokevirtual 131, 3) := by decide +kernel
theorem dX4_takeOut_8 : decode cX4_takeOut 8 = .ok (.iconst 0, 1) := by decide +kernel
theorem dX4_takeOut_9 : decode cX4_takeOut 9 = .ok (.istore 4, 2) := by decide +kernel
theorem dX4_takeOut_11 : decode cX4_takeOut 11 = .ok (.iconst 0, 1) := by decide +kernel
theorem dX4_takeOut_12 : decode cX4_takeOut 12 = .ok (.istore 5, 2) := by decide +kernel
theorem dX4_takeOut_14 : decode cX4_takeOut 14 = .ok (.iload 5, 2) := by decide +kernel
theorem dX4_takeOut_16 : decode cX4_takeOut 16 = .ok (.iload_n 3, 1) := by decide +kernel
theorem dX4_takeOut_17 : decode cX4_takeOut 17 = .ok (.if_icmp .ge 74, 3) := by decide +kernel
theorem dX4_takeOut_20 : decode cX4_takeOut 20 = .ok (.aload_n 1, 1) := by decide +kernel
theorem dX4_takeOut_21 : decode cX4_takeOut 21 = .ok (.aload_n 0, 1) := by decide +kernel
theorem dX4_takeOut_22 : decode cX4_takeOut 22 = .ok (.aload_n 1, 1) := by decide +kernel
theorem dX4_takeOut_23 : decode cX4_takeOut 23 = .ok (.iload 5, 2) := by decide +kernel
theorem dX4_takeOut_25 : decode cX4_takeOut 25 = .ok (.invokevirtual 135, 3) := by decide +kernel
theorem dX4_takeOut_28 : decode cX4_takeOut 28 = .ok (.invokevirtual 127, 3) := by decide +kernel
theorem dX4_takeOut_31 : decode cX4_takeOut 31 = .ok (.astore 6, 2) := by decide +kernel
theorem dX4_takeOut_33 : decode cX4_takeOut 33 = .ok (.aload 6, 2) := by decide +kernel
theorem dX4_takeOut_35 : decode cX4_takeOut 35 = .ok (.ifnull 50, 3) := by decide +kernel
theorem dX4_takeOut_38 : decode cX4_takeOut 38 = .ok (.aload_n 0, 1) := by decide +kernel
theorem dX4_takeOut_39 : decode cX4_takeOut 39 = .ok (.aload_n 0, 1) := by decide +kernel
theorem dX4_takeOut_40 : decode cX4_takeOut 40 = .ok (.getfield 23, 3) := by decide +kernel
theorem dX4_takeOut_43 : decode cX4_takeOut 43 = .ok (.aload 6, 2) := by decide +kernel
theorem dX4_takeOut_45 : decode cX4_takeOut 45 = .ok (.invokevirtual 104, 3) := by decide +kernel
theorem dX4_takeOut_48 : decode cX4_takeOut 48 = .ok (.iload 4, 2) := by decide +kernel
theorem dX4_takeOut_50 : decode cX4_takeOut 50 = .ok (.aload_n 0, 1) := by decide +kernel
theorem dX4_takeOut_51 : decode cX4_takeOut 51 = .ok (.aload 6, 2) := by decide +kernel
theorem dX4_takeOut_53 : decode cX4_takeOut 53 = .ok (.aload 6, 2) := by decide +kernel
theorem dX4_takeOut_55 : decode cX4_takeOut 55 = .ok (.aload_n 0, 1) := by decide +kernel
theorem dX4_takeOut_56 : decode cX4_takeOut 56 = .ok (.getfield 23, 3) := by decide +kernel
theorem dX4_takeOut_59 : decode cX4_takeOut 59 = .ok (.getfield 44, 3) := by decide +kernel
theorem dX4_takeOut_62 : decode cX4_takeOut 62 = .ok (.invokevirtual 108, 3) := by decide +kernel
theorem dX4_takeOut_65 : decode cX4_takeOut 65 = .ok (.invokevirtual 111, 3) := by decide +kernel
theorem dX4_takeOut_68 : decode cX4_takeOut 68 = .ok (.iadd, 1) := by decide +kernel
theorem dX4_takeOut_69 : decode cX4_takeOut 69 = .ok (.istore 4, 2) := by decide +kernel
theorem dX4_takeOut_71 : decode cX4_takeOut 71 = .ok (.aload_n 0, 1) := by decide +kernel
theorem dX4_takeOut_72 : decode cX4_takeOut 72 = .ok (.getfield 23, 3) := by decide +kernel
theorem dX4_takeOut_75 : decode cX4_takeOut 75 = .ok (.aload 6, 2) := by decide +kernel
theorem dX4_takeOut_77 : decode cX4_takeOut 77 = .ok (.aload_n 0, 1) := by decide +kernel
theorem dX4_takeOut_78 : decode cX4_takeOut 78 = .ok (.getfield 14, 3) := by decide +kernel
theorem dX4_takeOut_81 : decode cX4_takeOut 81 = .ok (.iconst (-1), 1) := by decide +kernel
theorem dX4_takeOut_82 : decode cX4_takeOut 82 = .ok (.invokevirtual 138, 3) := by decide +kernel
theorem dX4_takeOut_85 : decode cX4_takeOut 85 = .ok (.iinc 5 1, 3) := by decide +kernel
theorem dX4_takeOut_88 : decode cX4_takeOut 88 = .ok (.goto (-74), 3) := by decide +kernel
theorem dX4_takeOut_91 : decode cX4_takeOut 91 = .ok (.iload 4, 2) := by decide +kernel
theorem dX4_takeOut_93 : decode cX4_takeOut 93 = .ok (.ireturn, 1) := by decide +kernel
set_option maxRecDepth 100000 in
theorem c_X4_takeOut (l : Launch) (D : q_D) (al : q_Al) (dt : q_Dt) (x0 : Nat) (x1 : Option Nat) (x2 : Nat) (x3 : Int32) (kx0 : al.1 x0 = 5) (kx1 : ∀ b, x1 = some b → al.1 b = 11) (kx2 : al.1 x2 = 9) (r0 : Int32) (dt0 : q_Dt) (hm : X4_takeOut al dt x0 x1 x2 x3 = some (r0, dt0)) : q_Mt l yX4_takeOut cX4_takeOut 7 (some FieldType.int) 4 98 D al [.ref x0, va_rf x1, .ref x2, .int x3] dt 0 (some (.int r0)) dt0 := by
  refine q_Mt.of (by decide) (by simp [lg_sl, q_cat, q_catR, q_catI, q_catL]) ?_
  intro p e s m args below meth c ls C hargs hW hl
  have hx := C.1
  have hb := C.2.1
  have hown := C.2.2.2.2.2.1
  have hts := C.2.2.2.2.2.2.1
  have hS : va_S (q_A al) s.heap s.heap [] := va_S.rf
  have hl : lv_has ls 7 [(0, .ref x0), (1, va_rf x1), (2, .ref x2), (3, .int x3)] := by simpa [lv_args, q_cat, q_catR, q_catI, q_catL] using hl
  unfold X4_takeOut at hm
  have hB14 : ∀ (x0_14 : Nat) (x1_14 : Option Nat) (x3_14 : Int32) (kx0_14 : al.1 x0_14 = 5) (kx1_14 : ∀ b, x1_14 = some b → al.1 b = 11) (n_14 : Nat) (x4_14 : Int32) (x5_14 : Int32) (dt : q_Dt) (H : Heap) (locs : List Loc) (ls : Array Slot) (hm : X4_takeOut_b14 al x0_14 x1_14 x3_14 n_14 x4_14 x5_14 dt = some (r0, dt0)) (hW : q_W D al dt H) (hS : va_S (q_A al) s.heap H locs) (hl : lv_has ls 7 [(0, .ref x0_14), (1, va_rf x1_14), (3, .int x3_14), (4, .int x4_14), (5, .int x5_14)]), W p l e { frames := 4, cells := 0, slots := 0, locals := 98 } s m args below meth c H locs 0 0 (MQ below (q_Q (some (.int r0)) (fun H => q_W D al dt0 H ∧ q_Rk al 0 (some (.int r0))) (q_A al)) args s 0 0 (q_A al)) (F0 m 14 ls []) := by
    intro x0_14 x1_14 x3_14 kx0_14 kx1_14
    intro n_14
    induction n_14 with
    | zero => intro x4_14 x5_14 dt H locs ls hm hW hS hl; cases hm
    | succ n_14 ih14 =>
      have hB85 : ∀ (x4_85 : Int32) (x5_85 : Int32) (dt : q_Dt) (H : Heap) (locs : List Loc) (ls : Array Slot) (hm : X4_takeOut_b85 al (X4_takeOut_b14 al x0_14 x1_14 x3_14 n_14) x0_14 x1_14 x3_14 x4_85 x5_85 dt = some (r0, dt0)) (hW : q_W D al dt H) (hS : va_S (q_A al) s.heap H locs) (hl : lv_has ls 7 [(0, .ref x0_14), (1, va_rf x1_14), (3, .int x3_14), (4, .int x4_85), (5, .int x5_85)]), W p l e { frames := 4, cells := 0, slots := 0, locals := 98 } s m args below meth c H locs 0 0 (MQ below (q_Q (some (.int r0)) (fun H => q_W D al dt0 H ∧ q_Rk al 0 (some (.int r0))) (q_A al)) args s 0 0 (q_A al)) (F0 m 85 ls []) := by
        intro x4_85 x5_85 dt H locs ls hm hW hS hl
        unfold X4_takeOut_b85 at hm
        refine lv_iinc (v := (x5_85 + 1)) (lv' := [(5, .int (x5_85 + 1)), (0, .ref x0_14), (1, va_rf x1_14), (3, .int x3_14), (4, .int x4_85)]) hx hb dX4_takeOut_85 hl (k := 4) rfl rfl (by decide) rfl (fun ls hl => ?_)
        refine lv_goto (tgt := 14) hx hb dX4_takeOut_88 (by decide) ?_
        exact ih14 x4_85 (x5_85 + 1) dt _ _ _ hm hW hS (lv_sub hl [1, 2, 3, 4, 0] rfl)
      intro x4_14 x5_14 dt H locs ls hm hW hS hl
      rw [X4_takeOut_b14] at hm
      refine lv_iload hx hb dX4_takeOut_14 (lv_at hl 4 rfl) ?_
      refine lv_iload_n hx hb dX4_takeOut_16 rfl (lv_at hl 2 rfl) ?_
      refine q_ifc hm (fun c14001 hm => ?_) (fun c14001 hm => ?_)
      · refine lv_icmp_ge (tgt := 91) hx hb dX4_takeOut_17 (by decide) (fun _ => ?_) (fun h => absurd c14001 h)
        refine lv_iload hx hb dX4_takeOut_91 (lv_at hl 3 rfl) ?_
        exact e_iD C hW hS hm dX4_takeOut_93
      refine lv_icmp_ge (tgt := 91) hx hb dX4_takeOut_17 (by decide) (fun h => absurd h c14001) (fun _ => ?_)
      refine q_aloadQ_n C dX4_takeOut_20 rfl (lv_at hl 1 rfl) ?_
      refine lv_aload_n hx hb dX4_takeOut_21 rfl (lv_at hl 0 rfl) ?_
      refine q_aloadQ_n C dX4_takeOut_22 rfl (lv_at hl 1 rfl) ?_
      refine lv_iload hx hb dX4_takeOut_23 (lv_at hl 4 rfl) ?_
      obtain ⟨v14003, hc14002, hm⟩ := q_b1i hm
      refine q_callV C hW hS (As := [va_rf x1_14, .int x5_14]) (rest := [va_rf x1_14]) (st1 := [.int v14003, va_rf x1_14]) (c_X4_strongerFirst l D al dt x0_14 x1_14 x5_14 kx0_14 kx1_14 v14003 hc14002) yl_X4_strongerFirst vl_X4_strongerFirst ml_RX4_135 (ci := 4) rfl kx0_14 (by decide) rfl ⟨Nat.le_of_ble_eq_true rfl, Nat.le_of_ble_eq_true rfl⟩ hl rfl (by simp [q_cat, q_catR, q_catI, q_catL]) dX4_takeOut_25 ⟨Nat.le_refl _, Nat.le_refl _⟩ rfl (fun H locs k14004 hW hS => ?_)
      obtain ⟨b14005, e14006, hq14007⟩ := q_mi hm
      subst e14006
      have hm := hq14007
      have k14008 := kx1_14 b14005 rfl
      obtain ⟨v14010, hc14009, hm⟩ := q_b1i hm
      refine q_callV C hW hS (As := [.int v14003]) (rest := []) (st1 := [va_rf v14010]) (c_X10_senderAt l D al dt b14005 v14003 k14008 v14010 hc14009) yl_X10_senderAt vl_X10_senderAt ml_RX4_127 (ci := 10) rfl k14008 (by decide) rfl ⟨Nat.le_of_ble_eq_true rfl, Nat.le_of_ble_eq_true rfl⟩ hl rfl (Nat.le_of_ble_eq_true rfl) dX4_takeOut_28 ⟨Nat.le_refl _, Nat.le_refl _⟩ rfl (fun H locs k14011 hW hS => ?_)
      have k14011 := q_rk k14011 (by decide)
      refine q_astoreQ (i := 6) (lv' := [(6, va_rf v14010), (0, .ref x0_14), (1, .ref b14005), (3, .int x3_14), (4, .int x4_14), (5, .int x5_14)]) C dX4_takeOut_31 hl (by decide) rfl (fun ls hl => ?_)
      refine q_aloadQ C dX4_takeOut_33 (lv_at hl 0 rfl) ?_
      refine q_ifnull C hm (tgt := 85) dX4_takeOut_35 (by decide) (fun e14014 hq14015 => ?_) (fun b14012 e14014 hq14015 => ?_)
      · subst e14014
        have hm := hq14015
        exact hB85 x4_14 x5_14 dt _ _ _ hm hW hS (lv_sub hl [1, 2, 3, 4, 5] rfl)
      subst e14014
      have hm := hq14015
      have k14013 := k14011 b14012 rfl
      refine lv_aload_n hx hb dX4_takeOut_38 rfl (lv_at hl 1 rfl) ?_
      refine lv_aload_n hx hb dX4_takeOut_39 rfl (lv_at hl 1 rfl) ?_
      refine r_getF C hW (ci := 4) kx0_14 ff_4_1 cl_4 fl_RX4_23 dX4_takeOut_40 (fun k14016 => ?_)
      refine lv_aload hx hb dX4_takeOut_43 (lv_at hl 0 rfl) ?_
      obtain ⟨dt14018, hc14017, hm⟩ := q_b1i hm
      refine q_callV C hW hS (As := [.ref (al.2.2 x0_14 1), .ref b14012]) (rest := []) (st1 := []) (c_X4_gather l D al dt x0_14 (al.2.2 x0_14 1) b14012 kx0_14 k14016 k14013 dt14018 hc14017) yl_X4_gather vl_X4_gather ml_RX4_104 (ci := 4) rfl kx0_14 (by decide) rfl ⟨Nat.le_of_ble_eq_true rfl, Nat.le_of_ble_eq_true rfl⟩ hl rfl (Nat.le_of_ble_eq_true rfl) dX4_takeOut_45 ⟨Nat.le_refl _, Nat.le_refl _⟩ rfl (fun H locs k14019 hW hS => ?_)
      refine lv_iload hx hb dX4_takeOut_48 (lv_at hl 4 rfl) ?_
      refine lv_aload_n hx hb dX4_takeOut_50 rfl (lv_at hl 1 rfl) ?_
      refine lv_aload hx hb dX4_takeOut_51 (lv_at hl 0 rfl) ?_
      refine lv_aload hx hb dX4_takeOut_53 (lv_at hl 0 rfl) ?_
      refine lv_aload_n hx hb dX4_takeOut_55 rfl (lv_at hl 1 rfl) ?_
      refine r_getF C hW (ci := 4) kx0_14 ff_4_1 cl_4 fl_RX4_23 dX4_takeOut_56 (fun k14020 => ?_)
      refine r_getI C hW (ci := 8) k14020 ff_8_2 cl_8 fl_RX4_44 dX4_takeOut_59 ?_
      obtain ⟨v14022, hc14021, hm⟩ := q_b1i hm
      refine q_callV C hW hS (As := [.int (dt14018.1 (al.2.2 x0_14 1) 2)]) (rest := [.ref b14012, .ref x0_14, .int x4_14]) (st1 := [.int v14022, .ref b14012, .ref x0_14, .int x4_14]) (c_X7_periods l D al dt14018 b14012 (dt14018.1 (al.2.2 x0_14 1) 2) k14013 v14022 hc14021) yl_X7_periods vl_X7_periods ml_RX4_108 (ci := 7) rfl k14013 (by decide) rfl ⟨Nat.le_of_ble_eq_true rfl, Nat.le_of_ble_eq_true rfl⟩ hl rfl (Nat.le_of_ble_eq_true rfl) dX4_takeOut_62 ⟨Nat.le_refl _, Nat.le_refl _⟩ rfl (fun H locs k14023 hW hS => ?_)
      obtain ⟨v14025, hc14024, hm⟩ := q_b1i hm
      refine q_callV C hW hS (As := [.ref b14012, .int v14022]) (rest := [.int x4_14]) (st1 := [.int v14025, .int x4_14]) (c_X4_wrongBits l D al dt14018 x0_14 b14012 v14022 kx0_14 k14013 v14025 hc14024) yl_X4_wrongBits vl_X4_wrongBits ml_RX4_111 (ci := 4) rfl kx0_14 (by decide) rfl ⟨Nat.le_of_ble_eq_true rfl, Nat.le_of_ble_eq_true rfl⟩ hl rfl (Nat.le_of_ble_eq_true rfl) dX4_takeOut_65 ⟨Nat.le_refl _, Nat.le_refl _⟩ rfl (fun H locs k14026 hW hS => ?_)
      refine lv_iadd hx hb dX4_takeOut_68 ?_
      refine lv_istore (i := 4) (lv' := [(4, .int (x4_14 + v14025)), (6, .ref b14012), (0, .ref x0_14), (1, .ref b14005), (3, .int x3_14), (5, .int x5_14)]) hx hb dX4_takeOut_69 hl (by decide) rfl (fun ls hl => ?_)
      refine lv_aload_n hx hb dX4_takeOut_71 rfl (lv_at hl 2 rfl) ?_
      refine r_getF C hW (ci := 4) kx0_14 ff_4_1 cl_4 fl_RX4_23 dX4_takeOut_72 (fun k14027 => ?_)
      refine lv_aload hx hb dX4_takeOut_75 (lv_at hl 1 rfl) ?_
      refine lv_aload_n hx hb dX4_takeOut_77 rfl (lv_at hl 2 rfl) ?_
      refine r_getF C hW (ci := 4) kx0_14 ff_4_0 cl_4 fl_RX4_14 dX4_takeOut_78 (fun k14028 => ?_)
      refine lv_iconst (v := (-1)) hx hb dX4_takeOut_81 (by decide) ?_
      obtain ⟨dt14030, hc14029, hm⟩ := q_b1i hm
      refine q_callV C hW hS (As := [.ref b14012, .ref (al.2.2 x0_14 0), .int (-1)]) (rest := []) (st1 := []) (c_X8_layWave l D al dt14018 (al.2.2 x0_14 1) b14012 (some (al.2.2 x0_14 0)) (-1) k14027 k14013 (q_ks k14028) dt14030 hc14029) yl_X8_layWave vl_X8_layWave ml_RX4_138 (ci := 8) rfl k14027 (by decide) rfl ⟨Nat.le_of_ble_eq_true rfl, Nat.le_of_ble_eq_true rfl⟩ hl rfl (Nat.le_of_ble_eq_true rfl) dX4_takeOut_82 ⟨Nat.le_refl _, Nat.le_refl _⟩ rfl (fun H locs k14031 hW hS => ?_)
      exact hB85 (x4_14 + v14025) x5_14 dt14030 _ _ _ hm hW hS (lv_sub hl [2, 3, 4, 0, 5] rfl)
  refine lv_aload_n hx hb dX4_takeOut_0 rfl (lv_at hl 0 rfl) ?_
  refine r_getF C hW (ci := 4) kx0 ff_4_1 cl_4 fl_RX4_23 dX4_takeOut_1 (fun k1000001 => ?_)
  refine lv_aload_n hx hb dX4_takeOut_4 rfl (lv_at hl 2 rfl) ?_
  obtain ⟨dt1000003, hc1000002, hm⟩ := q_b1i hm
  refine q_callV C hW hS (As := [.ref x2]) (rest := []) (st1 := []) (c_X8_takeOver l D al dt (al.2.2 x0 1) x2 k1000001 kx2 dt1000003 hc1000002) yl_X8_takeOver vl_X8_takeOver ml_RX4_131 (ci := 8) rfl k1000001 (by decide) rfl ⟨Nat.le_of_ble_eq_true rfl, Nat.le_of_ble_eq_true rfl⟩ hl rfl (Nat.le_of_ble_eq_true rfl) dX4_takeOut_5 ⟨Nat.le_refl _, Nat.le_refl _⟩ rfl (fun H locs k1000004 hW hS => ?_)
  refine lv_iconst (v := 0) hx hb dX4_takeOut_8 (by decide) ?_
  refine lv_istore (i := 4) (lv' := [(4, .int 0), (0, .ref x0), (1, va_rf x1), (2, .ref x2), (3, .int x3)]) hx hb dX4_takeOut_9 hl (by decide) rfl (fun ls hl => ?_)
  refine lv_iconst (v := 0) hx hb dX4_takeOut_11 (by decide) ?_
  refine lv_istore (i := 5) (lv' := [(5, .int 0), (4, .int 0), (0, .ref x0), (1, va_rf x1), (2, .ref x2), (3, .int x3)]) hx hb dX4_takeOut_12 hl (by decide) rfl (fun ls hl => ?_)
  exact hB14 x0 x1 x3 kx0 kx1 q_FU 0 0 dt1000003 _ _ _ hm hW hS (lv_sub hl [2, 3, 5, 1, 0] rfl)
theorem dX8_squares_0 : decode cX8_squares 0 = .ok (.lconst 0, 1) := by decide +kernel
theorem dX8_squares_1 : decode cX8_squares 1 = .ok (.lstore_n 3, 1) := by decide +kernel
theorem dX8_squares_2 : decode cX8_squares 2 = .ok (.iload_n 1, 1) := by decide +kernel
theorem dX8_squares_3 : decode cX8_squares 3 = .ok (.istore 5, 2) := by decide +kernel
theorem dX8_squares_5 : decode cX8_squares 5 = .ok (.iload 5, 2) := by decide +kernel
theorem dX8_squares_7 : decode cX8_squares 7 = .ok (.iload_n 2, 1) := by decide +kernel
theorem dX8_squares_8 : decode cX8_squares 8 = .ok (.if_icmp .gt 60, 3) := by decide +kernel
theorem dX8_squares_11 : decode cX8_squares 11 = .ok (.iload 5, 2) := by decide +kernel
theorem dX8_squares_13 : decode cX8_squares 13 = .ok (.aload_n 0, 1) := by decide +kernel
theorem dX8_squares_14 : decode cX8_squares 14 = .ok (.getfield 23, 3) := by decide +kernel
theorem dX8_squares_17 : decode cX8_squares 17 = .ok (.if_icmp .ge 51, 3) := by decide +kernel
theorem dX8_squares_20 : decode cX8_squares 20 = .ok (.lload_n 3, 1) := by decide +kernel
theorem dX8_squares_21 : decode cX8_squares 21 = .ok (.aload_n 0, 1) := by decide +kernel
theorem dX8_squares_22 : decode cX8_squares 22 = .ok (.getfield 14, 3) := by decide +kernel
theorem dX8_squares_25 : decode cX8_squares 25 = .ok (.iload 5, 2) := by decide +kernel
theorem dX8_squares_27 : decode cX8_squares 27 = .ok (.invokevirtual 27, 3) := by decide +kernel
theorem dX8_squares_30 : decode cX8_squares 30 = .ok (.aload_n 0, 1) := by decide +kernel
theorem dX8_squares_31 : decode cX8_squares 31 = .ok (.getfield 14, 3) := by decide +kernel
theorem dX8_squares_34 : decode cX8_squares 34 = .ok (.iload 5, 2) := by decide +kernel
theorem dX8_squares_36 : decode cX8_squares 36 = .ok (.invokevirtual 27, 3) := by decide +kernel
theorem dX8_squares_39 : decode cX8_squares 39 = .ok (.lmul, 1) := by decide +kernel
theorem dX8_squares_40 : decode cX8_squares 40 = .ok (.aload_n 0, 1) := by decide +kernel
theorem dX8_squares_41 : decode cX8_squares 41 = .ok (.getfield 20, 3) := by decide +kernel
theorem dX8_squares_44 : decode cX8_squares 44 = .ok (.iload 5, 2) := by decide +kernel
theorem dX8_squares_46 : decode cX8_squares 46 = .ok (.invokevirtual 27, 3) := by decide +kernel
theorem dX8_squares_49 : decode cX8_squares 49 = .ok (.aload_n 0, 1) := by decide +kernel
theorem dX8_squares_50 : decode cX8_squares 50 = .ok (.getfield 20, 3) := by decide +kernel
theorem dX8_squares_53 : decode cX8_squares 53 = .ok (.iload 5, 2) := by decide +kernel
theorem dX8_squares_55 : decode cX8_squares 55 = .ok (.invokevirtual 27, 3) := by decide +kernel
theorem dX8_squares_58 : decode cX8_squares 58 = .ok (.lmul, 1) := by decide +kernel
theorem dX8_squares_59 : decode cX8_squares 59 = .ok (.ladd, 1) := by decide +kernel
theorem dX8_squares_60 : decode cX8_squares 60 = .ok (.ladd, 1) := by decide +kernel
theorem dX8_squares_61 : decode cX8_squares 61 = .ok (.lstore_n 3, 1) := by decide +kernel
theorem dX8_squares_62 : decode cX8_squares 62 = .ok (.iinc 5 1, 3) := by decide +kernel
theorem dX8_squares_65 : decode cX8_squares 65 = .ok (.goto (-60), 3) := by decide +kernel
theorem dX8_squares_68 : decode cX8_squares 68 = .ok (.lload_n 3, 1) := by decide +kernel
theorem dX8_squares_69 : decode cX8_squares 69 = .ok (.lreturn, 1) := by decide +kernel
set_option maxRecDepth 100000 in
theorem c_X8_squares (l : Launch) (D : q_D) (al : q_Al) (dt : q_Dt) (x0 : Nat) (x1 : Int32) (x2 : Int32) (kx0 : al.1 x0 = 9) (r0 : Int64) (hm : X8_squares al dt x0 x1 x2 = some r0) : q_Mt l yX8_squares cX8_squares 6 (some FieldType.long) 1 21 D al [.ref x0, .int x1, .int x2] dt 0 (some (.long r0)) dt := by
  refine q_Mt.of (by decide) (Nat.le_of_ble_eq_true rfl) ?_
  intro p e s m args below meth c ls C hargs hW hl
  have hx := C.1
  have hb := C.2.1
  have hown := C.2.2.2.2.2.1
  have hts := C.2.2.2.2.2.2.1
  have hS : va_S (q_A al) s.heap s.heap [] := va_S.rf
  have hl : lv_has ls 6 [(0, .ref x0), (1, .int x1), (2, .int x2)] := hl
  unfold X8_squares at hm
  have hB68 : ∀ (x3_68 : Int64) (H : Heap) (locs : List Loc) (ls : Array Slot) (hm : X8_squares_b68 al dt x3_68 = some r0) (hW : q_W D al dt H) (hS : va_S (q_A al) s.heap H locs) (hl : lv_has ls 6 [(3, .long x3_68)]), W p l e { frames := 1, cells := 0, slots := 0, locals := 21 } s m args below meth c H locs 0 0 (MQ below (q_Q (some (.long r0)) (fun H => q_W D al dt H ∧ q_Rk al 0 (some (.long r0))) (q_A al)) args s 0 0 (q_A al)) (F0 m 68 ls []) := by
    intro x3_68 H locs ls hm hW hS hl
    unfold X8_squares_b68 at hm
    refine lv_lload_n hx hb dX8_squares_68 rfl (lv_at hl 0 rfl) ?_
    exact e_l C hW hS hm dX8_squares_69
  have hB5 : ∀ (x0_5 : Nat) (x2_5 : Int32) (kx0_5 : al.1 x0_5 = 9) (n_5 : Nat) (x3_5 : Int64) (x5_5 : Int32) (H : Heap) (locs : List Loc) (ls : Array Slot) (hm : X8_squares_b5 al dt x0_5 x2_5 n_5 x3_5 x5_5 = some r0) (hW : q_W D al dt H) (hS : va_S (q_A al) s.heap H locs) (hl : lv_has ls 6 [(0, .ref x0_5), (2, .int x2_5), (3, .long x3_5), (5, .int x5_5)]), W p l e { frames := 1, cells := 0, slots := 0, locals := 21 } s m args below meth c H locs 0 0 (MQ below (q_Q (some (.long r0)) (fun H => q_W D al dt H ∧ q_Rk al 0 (some (.long r0))) (q_A al)) args s 0 0 (q_A al)) (F0 m 5 ls []) := by
    intro x0_5 x2_5 kx0_5
    intro n_5
    induction n_5 with
    | zero => intro x3_5 x5_5 H locs ls hm hW hS hl; cases hm
    | succ n_5 ih5 =>
      intro x3_5 x5_5 H locs ls hm hW hS hl
      rw [X8_squares_b5] at hm
      refine lv_iload hx hb dX8_squares_5 (lv_at hl 3 rfl) ?_
      refine lv_iload_n hx hb dX8_squares_7 rfl (lv_at hl 1 rfl) ?_
      refine q_ifc hm (fun c5001 hm => ?_) (fun c5001 hm => ?_)
      · refine lv_icmp_gt (tgt := 68) hx hb dX8_squares_8 (by decide) (fun _ => ?_) (fun h => absurd c5001 h)
        exact hB68 x3_5 _ _ _ hm hW hS (lv_sub hl [2] rfl)
      refine lv_icmp_gt (tgt := 68) hx hb dX8_squares_8 (by decide) (fun h => absurd h c5001) (fun _ => ?_)
      refine lv_iload hx hb dX8_squares_11 (lv_at hl 3 rfl) ?_
      refine lv_aload_n hx hb dX8_squares_13 rfl (lv_at hl 0 rfl) ?_
      refine r_getI C hW (ci := 8) kx0_5 ff_8_2 cl_8 fl_RX8_23 dX8_squares_14 ?_
      refine q_ifc hm (fun c5002 hm => ?_) (fun c5002 hm => ?_)
      · refine lv_icmp_ge (tgt := 68) hx hb dX8_squares_17 (by decide) (fun _ => ?_) (fun h => absurd c5002 h)
        exact hB68 x3_5 _ _ _ hm hW hS (lv_sub hl [2] rfl)
      refine lv_icmp_ge (tgt := 68) hx hb dX8_squares_17 (by decide) (fun h => absurd h c5002) (fun _ => ?_)
      refine lv_lload_n hx hb dX8_squares_20 rfl (lv_at hl 2 rfl) ?_
      refine lv_aload_n hx hb dX8_squares_21 rfl (lv_at hl 0 rfl) ?_
      refine r_getF C hW (ci := 8) kx0_5 ff_8_0 cl_8 fl_RX8_14 dX8_squares_22 (fun k5003 => ?_)
      refine lv_iload hx hb dX8_squares_25 (lv_at hl 3 rfl) ?_
      obtain ⟨v5005, hc5004, hm⟩ := q_b1i hm
      refine q_callV C hW hS (As := [.int x5_5]) (rest := [.long x3_5]) (st1 := [.long v5005, .long x3_5]) (c_X5_at l D al dt (al.2.2 x0_5 0) x5_5 k5003 v5005 hc5004) yl_X5_at vl_X5_at ml_RX8_27 (ci := 5) rfl k5003 (by decide) rfl ⟨Nat.le_of_ble_eq_true rfl, Nat.le_of_ble_eq_true rfl⟩ hl rfl (Nat.le_of_ble_eq_true rfl) dX8_squares_27 ⟨Nat.le_refl _, Nat.le_refl _⟩ rfl (fun H locs k5006 hW hS => ?_)
      refine lv_aload_n hx hb dX8_squares_30 rfl (lv_at hl 0 rfl) ?_
      refine r_getF C hW (ci := 8) kx0_5 ff_8_0 cl_8 fl_RX8_14 dX8_squares_31 (fun k5007 => ?_)
      refine lv_iload hx hb dX8_squares_34 (lv_at hl 3 rfl) ?_
      obtain ⟨v5009, hc5008, hm⟩ := q_b1i hm
      refine q_callV C hW hS (As := [.int x5_5]) (rest := [.long v5005, .long x3_5]) (st1 := [.long v5009, .long v5005, .long x3_5]) (c_X5_at l D al dt (al.2.2 x0_5 0) x5_5 k5007 v5009 hc5008) yl_X5_at vl_X5_at ml_RX8_27 (ci := 5) rfl k5007 (by decide) rfl ⟨Nat.le_of_ble_eq_true rfl, Nat.le_of_ble_eq_true rfl⟩ hl rfl (Nat.le_of_ble_eq_true rfl) dX8_squares_36 ⟨Nat.le_refl _, Nat.le_refl _⟩ rfl (fun H locs k5010 hW hS => ?_)
      refine lv_lmul hx hb dX8_squares_39 ?_
      refine lv_aload_n hx hb dX8_squares_40 rfl (lv_at hl 0 rfl) ?_
      refine r_getF C hW (ci := 8) kx0_5 ff_8_1 cl_8 fl_RX8_20 dX8_squares_41 (fun k5011 => ?_)
      refine lv_iload hx hb dX8_squares_44 (lv_at hl 3 rfl) ?_
      obtain ⟨v5013, hc5012, hm⟩ := q_b1i hm
      refine q_callV C hW hS (As := [.int x5_5]) (rest := [.long (v5005 * v5009), .long x3_5]) (st1 := [.long v5013, .long (v5005 * v5009), .long x3_5]) (c_X5_at l D al dt (al.2.2 x0_5 1) x5_5 k5011 v5013 hc5012) yl_X5_at vl_X5_at ml_RX8_27 (ci := 5) rfl k5011 (by decide) rfl ⟨Nat.le_of_ble_eq_true rfl, Nat.le_of_ble_eq_true rfl⟩ hl rfl (Nat.le_of_ble_eq_true rfl) dX8_squares_46 ⟨Nat.le_refl _, Nat.le_refl _⟩ rfl (fun H locs k5014 hW hS => ?_)
      refine lv_aload_n hx hb dX8_squares_49 rfl (lv_at hl 0 rfl) ?_
      refine r_getF C hW (ci := 8) kx0_5 ff_8_1 cl_8 fl_RX8_20 dX8_squares_50 (fun k5015 => ?_)
      refine lv_iload hx hb dX8_squares_53 (lv_at hl 3 rfl) ?_
      obtain ⟨v5017, hc5016, hm⟩ := q_b1i hm
      refine q_callV C hW hS (As := [.int x5_5]) (rest := [.long v5013, .long (v5005 * v5009), .long x3_5]) (st1 := [.long v5017, .long v5013, .long (v5005 * v5009), .long x3_5]) (c_X5_at l D al dt (al.2.2 x0_5 1) x5_5 k5015 v5017 hc5016) yl_X5_at vl_X5_at ml_RX8_27 (ci := 5) rfl k5015 (by decide) rfl ⟨Nat.le_of_ble_eq_true rfl, Nat.le_of_ble_eq_true rfl⟩ hl rfl (Nat.le_of_ble_eq_true rfl) dX8_squares_55 ⟨Nat.le_refl _, Nat.le_refl _⟩ rfl (fun H locs k5018 hW hS => ?_)
      refine lv_lmul hx hb dX8_squares_58 ?_
      refine lv_ladd hx hb dX8_squares_59 ?_
      refine lv_ladd hx hb dX8_squares_60 ?_
      refine q_nmL hm (fun v5019 ev5019 hm => ?_)
      refine lv_lstore_n (i := 3) (lv' := [(3, .long v5019), (0, .ref x0_5), (2, .int x2_5), (5, .int x5_5)]) hx hb dX8_squares_61 rfl hl (by decide) rfl (fun ls hl => ?_)
      refine lv_iinc (v := (x5_5 + 1)) (lv' := [(5, .int (x5_5 + 1)), (3, .long v5019), (0, .ref x0_5), (2, .int x2_5)]) hx hb dX8_squares_62 hl (k := 3) rfl rfl (by decide) rfl (fun ls hl => ?_)
      refine lv_goto (tgt := 5) hx hb dX8_squares_65 (by decide) ?_
      exact ih5 v5019 (x5_5 + 1) _ _ _ hm hW hS (lv_sub hl [2, 3, 1, 0] rfl)
  refine lv_lconst (v := 0) hx hb dX8_squares_0 rfl ?_
  refine lv_lstore_n (i := 3) (lv' := [(3, .long 0), (0, .ref x0), (1, .int x1), (2, .int x2)]) hx hb dX8_squares_1 rfl hl (by decide) rfl (fun ls hl => ?_)
  refine lv_iload_n hx hb dX8_squares_2 rfl (lv_at hl 2 rfl) ?_
  refine lv_istore (i := 5) (lv' := [(5, .int x1), (3, .long 0), (0, .ref x0), (1, .int x1), (2, .int x2)]) hx hb dX8_squares_3 hl (by decide) rfl (fun ls hl => ?_)
  exact hB5 x0 x2 kx0 q_FU 0 x1 _ _ _ hm hW hS (lv_sub hl [2, 4, 1, 0] rfl)
theorem dX4_squaresLeft_0 : decode cX4_squaresLeft 0 = .ok (.aload_n 0, 1) := by decide +kernel
theorem dX4_squaresLeft_1 : decode cX4_squaresLeft 1 = .ok (.getfield 23, 3) := by decide +kernel
theorem dX4_squaresLeft_4 : decode cX4_squaresLeft 4 = .ok (.iconst 0, 1) := by decide +kernel
theorem dX4_squaresLeft_5 : decode cX4_squaresLeft 5 = .ok (.aload_n 0, 1) := by decide +kernel
theorem dX4_squaresLeft_6 : decode cX4_squaresLeft 6 = .ok (.getfield 23, 3) := by decide +kernel
theorem dX4_squaresLeft_9 : decode cX4_squaresLeft 9 = .ok (.getfield 44, 3) := by decide +kernel
theorem dX4_squaresLeft_12 : decode cX4_squaresLeft 12 = .ok (.iconst 1, 1) := by decide +kernel
theorem dX4_squaresLeft_13 : decode cX4_squaresLeft 13 = .ok (.isub, 1) := by decide +kernel
theorem dX4_squaresLeft_14 : decode cX4_squaresLeft 14 = .ok (.invokevirtual 142, 3) := by decide +kernel
theorem dX4_squaresLeft_17 : decode cX4_squaresLeft 17 = .ok (.lreturn, 1) := by decide +kernel
set_option maxRecDepth 100000 in
theorem c_X4_squaresLeft (l : Launch) (D : q_D) (al : q_Al) (dt : q_Dt) (x0 : Nat) (kx0 : al.1 x0 = 5) (r0 : Int64) (hm : X4_squaresLeft al dt x0 = some r0) : q_Mt l yX4_squaresLeft cX4_squaresLeft 1 (some FieldType.long) 2 46 D al [.ref x0] dt 0 (some (.long r0)) dt := by
  refine q_Mt.of (by decide) (Nat.le_of_ble_eq_true rfl) ?_
  intro p e s m args below meth c ls C hargs hW hl
  have hx := C.1
  have hb := C.2.1
  have hown := C.2.2.2.2.2.1
  have hts := C.2.2.2.2.2.2.1
  have hS : va_S (q_A al) s.heap s.heap [] := va_S.rf
  have hl : lv_has ls 1 [(0, .ref x0)] := hl
  unfold X4_squaresLeft at hm
  refine lv_aload_n hx hb dX4_squaresLeft_0 rfl (lv_at hl 0 rfl) ?_
  refine r_getF C hW (ci := 4) kx0 ff_4_1 cl_4 fl_RX4_23 dX4_squaresLeft_1 (fun k1000001 => ?_)
  refine lv_iconst (v := 0) hx hb dX4_squaresLeft_4 (by decide) ?_
  refine lv_aload_n hx hb dX4_squaresLeft_5 rfl (lv_at hl 0 rfl) ?_
  refine r_getF C hW (ci := 4) kx0 ff_4_1 cl_4 fl_RX4_23 dX4_squaresLeft_6 (fun k1000002 => ?_)
  refine r_getI C hW (ci := 8) k1000002 ff_8_2 cl_8 fl_RX4_44 dX4_squaresLeft_9 ?_
  refine lv_iconst (v := 1) hx hb dX4_squaresLeft_12 (by decide) ?_
  refine lv_isub hx hb dX4_squaresLeft_13 ?_
  obtain ⟨v1000004, hc1000003, hm⟩ := q_b1i hm
  refine q_callV C hW hS (As := [.int 0, .int ((dt.1 (al.2.2 x0 1) 2) - 1)]) (rest := []) (st1 := [.long v1000004]) (c_X8_squares l D al dt (al.2.2 x0 1) 0 ((dt.1 (al.2.2 x0 1) 2) - 1) k1000001 v1000004 hc1000003) yl_X8_squares vl_X8_squares ml_RX4_142 (ci := 8) rfl k1000001 (by decide) rfl ⟨Nat.le_of_ble_eq_true rfl, Nat.le_of_ble_eq_true rfl⟩ hl rfl (Nat.le_of_ble_eq_true rfl) dX4_squaresLeft_14 ⟨Nat.le_refl _, Nat.le_refl _⟩ rfl (fun H locs k1000005 hW hS => ?_)
  exact e_l C hW hS hm dX4_squaresLeft_17
