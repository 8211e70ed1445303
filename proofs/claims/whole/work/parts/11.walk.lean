theorem dX1_strongestBeside_0 : decode cX1_strongestBeside 0 = .ok (.iconst (-1), 1) := by decide +kernel
theorem dX1_strongestBeside_1 : decode cX1_strongestBeside 1 = .ok (.istore_n 2, 1) := by decide +kernel
theorem dX1_strongestBeside_2 : decode cX1_strongestBeside 2 = .ok (.iconst 0, 1) := by decide +kernel
theorem dX1_strongestBeside_3 : decode cX1_strongestBeside 3 = .ok (.istore_n 3, 1) := by decide +kernel
theorem dX1_strongestBeside_4 : decode cX1_strongestBeside 4 = .ok (.iconst 0, 1) := by decide +kernel
theorem dX1_strongestBeside_5 : decode cX1_strongestBeside 5 = .ok (.istore 4, 2) := by decide +kernel
theorem dX1_strongestBeside_7 : decode cX1_strongestBeside 7 = .ok (.iload 4, 2) := by decide +kernel
theorem dX1_strongestBeside_9 : decode cX1_strongestBeside 9 = .ok (.aload_n 0, 1) := by decide +kernel
theorem dX1_strongestBeside_10 : decode cX1_strongestBeside 10 = .ok (.getfield 9, 3) := by decide +kernel
theorem dX1_strongestBeside_13 : decode cX1_strongestBeside 13 = .ok (.if_icmp .ge 45, 3) := by decide +kernel
theorem dX1_strongestBeside_16 : decode cX1_strongestBeside 16 = .ok (.iload_n 1, 1) := by decide +kernel
theorem dX1_strongestBeside_17 : decode cX1_strongestBeside 17 = .ok (.iload 4, 2) := by decide +kernel
theorem dX1_strongestBeside_19 : decode cX1_strongestBeside 19 = .ok (.ishr, 1) := by decide +kernel
theorem dX1_strongestBeside_20 : decode cX1_strongestBeside 20 = .ok (.iconst 1, 1) := by decide +kernel
theorem dX1_strongestBeside_21 : decode cX1_strongestBeside 21 = .ok (.iand, 1) := by decide +kernel
theorem dX1_strongestBeside_22 : decode cX1_strongestBeside 22 = .ok (.iconst 1, 1) := by decide +kernel
theorem dX1_strongestBeside_23 : decode cX1_strongestBeside 23 = .ok (.if_icmp .ne 7, 3) := by decide +kernel
theorem dX1_strongestBeside_26 : decode cX1_strongestBeside 26 = .ok (.iconst (-1), 1) := by decide +kernel
theorem dX1_strongestBeside_27 : decode cX1_strongestBeside 27 = .ok (.goto 11, 3) := by decide +kernel
theorem dX1_strongestBeside_30 : decode cX1_strongestBeside 30 = .ok (.aload_n 0, 1) := by decide +kernel
theorem dX1_strongestBeside_31 : decode cX1_strongestBeside 31 = .ok (.iconst 1, 1) := by decide +kernel
theorem dX1_strongestBeside_32 : decode cX1_strongestBeside 32 = .ok (.iload 4, 2) := by decide +kernel
theorem dX1_strongestBeside_34 : decode cX1_strongestBeside 34 = .ok (.ishl, 1) := by decide +kernel
theorem dX1_strongestBeside_35 : decode cX1_strongestBeside 35 = .ok (.invokevirtual 32, 3) := by decide +kernel
theorem dX1_strongestBeside_38 : decode cX1_strongestBeside 38 = .ok (.istore 5, 2) := by decide +kernel
theorem dX1_strongestBeside_40 : decode cX1_strongestBeside 40 = .ok (.iload 5, 2) := by decide +kernel
theorem dX1_strongestBeside_42 : decode cX1_strongestBeside 42 = .ok (.iload_n 2, 1) := by decide +kernel
theorem dX1_strongestBeside_43 : decode cX1_strongestBeside 43 = .ok (.if_icmp .le 9, 3) := by decide +kernel
theorem dX1_strongestBeside_46 : decode cX1_strongestBeside 46 = .ok (.iload 5, 2) := by decide +kernel
theorem dX1_strongestBeside_48 : decode cX1_strongestBeside 48 = .ok (.istore_n 2, 1) := by decide +kernel
theorem dX1_strongestBeside_49 : decode cX1_strongestBeside 49 = .ok (.iload 4, 2) := by decide +kernel
theorem dX1_strongestBeside_51 : decode cX1_strongestBeside 51 = .ok (.istore_n 3, 1) := by decide +kernel
theorem dX1_strongestBeside_52 : decode cX1_strongestBeside 52 = .ok (.iinc 4 1, 3) := by decide +kernel
theorem dX1_strongestBeside_55 : decode cX1_strongestBeside 55 = .ok (.goto (-48), 3) := by decide +kernel
theorem dX1_strongestBeside_58 : decode cX1_strongestBeside 58 = .ok (.iload_n 3, 1) := by decide +kernel
theorem dX1_strongestBeside_59 : decode cX1_strongestBeside 59 = .ok (.ireturn, 1) := by decide +kernel
set_option maxRecDepth 100000 in
theorem c_X1_strongestBeside (l : Launch) (D : q_D) (al : q_Al) (dt : q_Dt) (x0 : Nat) (x1 : Int32) (kx0 : al.1 x0 = 2) (r0 : Int32) (hm : X1_strongestBeside al dt x0 x1 = some r0) : q_Mt l yX1_strongestBeside cX1_strongestBeside 6 (some FieldType.int) 3 70 D al [.ref x0, .int x1] dt 0 (some (.int r0)) dt := by
  refine q_Mt.of (by decide) (Nat.le_of_ble_eq_true rfl) ?_
  intro p e s m args below meth c ls C hargs hW hl
  have hx := C.1
  have hb := C.2.1
  have hown := C.2.2.2.2.2.1
  have hts := C.2.2.2.2.2.2.1
  have hS : va_S (q_A al) s.heap s.heap [] := va_S.rf
  have hl : lv_has ls 6 [(0, .ref x0), (1, .int x1)] := hl
  unfold X1_strongestBeside at hm
  have hB7 : ∀ (x0_7 : Nat) (x1_7 : Int32) (kx0_7 : al.1 x0_7 = 2) (n_7 : Nat) (x2_7 : Int32) (x3_7 : Int32) (x4_7 : Int32) (H : Heap) (locs : List Loc) (ls : Array Slot) (hm : X1_strongestBeside_b7 al dt x0_7 x1_7 n_7 x2_7 x3_7 x4_7 = some r0) (hW : q_W D al dt H) (hS : va_S (q_A al) s.heap H locs) (hl : lv_has ls 6 [(0, .ref x0_7), (1, .int x1_7), (2, .int x2_7), (3, .int x3_7), (4, .int x4_7)]), W p l e { frames := 3, cells := 0, slots := 0, locals := 70 } s m args below meth c H locs 0 0 (MQ below (q_Q (some (.int r0)) (fun H => q_W D al dt H ∧ q_Rk al 0 (some (.int r0))) (q_A al)) args s 0 0 (q_A al)) (F0 m 7 ls []) := by
    intro x0_7 x1_7 kx0_7
    intro n_7
    induction n_7 with
    | zero => intro x2_7 x3_7 x4_7 H locs ls hm hW hS hl; cases hm
    | succ n_7 ih7 =>
      have hB52 : ∀ (x2_52 : Int32) (x3_52 : Int32) (x4_52 : Int32) (H : Heap) (locs : List Loc) (ls : Array Slot) (hm : X1_strongestBeside_b52 al dt (X1_strongestBeside_b7 al dt x0_7 x1_7 n_7) x0_7 x1_7 x2_52 x3_52 x4_52 = some r0) (hW : q_W D al dt H) (hS : va_S (q_A al) s.heap H locs) (hl : lv_has ls 6 [(0, .ref x0_7), (1, .int x1_7), (2, .int x2_52), (3, .int x3_52), (4, .int x4_52)]), W p l e { frames := 3, cells := 0, slots := 0, locals := 70 } s m args below meth c H locs 0 0 (MQ below (q_Q (some (.int r0)) (fun H => q_W D al dt H ∧ q_Rk al 0 (some (.int r0))) (q_A al)) args s 0 0 (q_A al)) (F0 m 52 ls []) := by
        intro x2_52 x3_52 x4_52 H locs ls hm hW hS hl
        unfold X1_strongestBeside_b52 at hm
        refine lv_iinc (v := (x4_52 + 1)) (lv' := [(4, .int (x4_52 + 1)), (0, .ref x0_7), (1, .int x1_7), (2, .int x2_52), (3, .int x3_52)]) hx hb dX1_strongestBeside_52 hl (k := 4) rfl rfl (by decide) rfl (fun ls hl => ?_)
        refine lv_goto (tgt := 7) hx hb dX1_strongestBeside_55 (by decide) ?_
        exact ih7 x2_52 x3_52 (x4_52 + 1) _ _ _ hm hW hS (lv_sub hl [1, 2, 3, 4, 0] rfl)
      have hB38 : ∀ (x2_38 : Int32) (x3_38 : Int32) (x4_38 : Int32) (t0_38 : Int32) (H : Heap) (locs : List Loc) (ls : Array Slot) (hm : X1_strongestBeside_b38 al dt (X1_strongestBeside_b7 al dt x0_7 x1_7 n_7) x0_7 x1_7 x2_38 x3_38 x4_38 t0_38 = some r0) (hW : q_W D al dt H) (hS : va_S (q_A al) s.heap H locs) (hl : lv_has ls 6 [(0, .ref x0_7), (1, .int x1_7), (2, .int x2_38), (3, .int x3_38), (4, .int x4_38)]), W p l e { frames := 3, cells := 0, slots := 0, locals := 70 } s m args below meth c H locs 0 0 (MQ below (q_Q (some (.int r0)) (fun H => q_W D al dt H ∧ q_Rk al 0 (some (.int r0))) (q_A al)) args s 0 0 (q_A al)) (F0 m 38 ls [.int t0_38]) := by
        intro x2_38 x3_38 x4_38 t0_38 H locs ls hm hW hS hl
        unfold X1_strongestBeside_b38 at hm
        refine lv_istore (i := 5) (lv' := [(5, .int t0_38), (0, .ref x0_7), (1, .int x1_7), (2, .int x2_38), (3, .int x3_38), (4, .int x4_38)]) hx hb dX1_strongestBeside_38 hl (by decide) rfl (fun ls hl => ?_)
        refine lv_iload hx hb dX1_strongestBeside_40 (lv_at hl 0 rfl) ?_
        refine lv_iload_n hx hb dX1_strongestBeside_42 rfl (lv_at hl 3 rfl) ?_
        refine q_ifc hm (fun c38001 hm => ?_) (fun c38001 hm => ?_)
        · refine lv_icmp_le (tgt := 52) hx hb dX1_strongestBeside_43 (by decide) (fun _ => ?_) (fun h => absurd c38001 h)
          exact hB52 x2_38 x3_38 x4_38 _ _ _ hm hW hS (lv_sub hl [1, 2, 3, 4, 5] rfl)
        refine lv_icmp_le (tgt := 52) hx hb dX1_strongestBeside_43 (by decide) (fun h => absurd h c38001) (fun _ => ?_)
        refine lv_iload hx hb dX1_strongestBeside_46 (lv_at hl 0 rfl) ?_
        refine lv_istore_n (i := 2) (lv' := [(2, .int t0_38), (5, .int t0_38), (0, .ref x0_7), (1, .int x1_7), (3, .int x3_38), (4, .int x4_38)]) hx hb dX1_strongestBeside_48 rfl hl (by decide) rfl (fun ls hl => ?_)
        refine lv_iload hx hb dX1_strongestBeside_49 (lv_at hl 5 rfl) ?_
        refine lv_istore_n (i := 3) (lv' := [(3, .int x4_38), (2, .int t0_38), (5, .int t0_38), (0, .ref x0_7), (1, .int x1_7), (4, .int x4_38)]) hx hb dX1_strongestBeside_51 rfl hl (by decide) rfl (fun ls hl => ?_)
        exact hB52 t0_38 x4_38 x4_38 _ _ _ hm hW hS (lv_sub hl [3, 4, 1, 0, 5] rfl)
      intro x2_7 x3_7 x4_7 H locs ls hm hW hS hl
      rw [X1_strongestBeside_b7] at hm
      refine lv_iload hx hb dX1_strongestBeside_7 (lv_at hl 4 rfl) ?_
      refine lv_aload_n hx hb dX1_strongestBeside_9 rfl (lv_at hl 0 rfl) ?_
      refine r_getI C hW (ci := 1) kx0_7 ff_1_0 cl_1 fl_RX1_9 dX1_strongestBeside_10 ?_
      refine q_ifc hm (fun c7001 hm => ?_) (fun c7001 hm => ?_)
      · refine lv_icmp_ge (tgt := 58) hx hb dX1_strongestBeside_13 (by decide) (fun _ => ?_) (fun h => absurd c7001 h)
        refine lv_iload_n hx hb dX1_strongestBeside_58 rfl (lv_at hl 3 rfl) ?_
        exact e_i C hW hS hm dX1_strongestBeside_59
      refine lv_icmp_ge (tgt := 58) hx hb dX1_strongestBeside_13 (by decide) (fun h => absurd h c7001) (fun _ => ?_)
      refine lv_iload_n hx hb dX1_strongestBeside_16 rfl (lv_at hl 1 rfl) ?_
      refine lv_iload hx hb dX1_strongestBeside_17 (lv_at hl 4 rfl) ?_
      refine lv_ishr hx hb dX1_strongestBeside_19 ?_
      refine lv_iconst (v := 1) hx hb dX1_strongestBeside_20 (by decide) ?_
      refine lv_iand hx hb dX1_strongestBeside_21 ?_
      refine lv_iconst (v := 1) hx hb dX1_strongestBeside_22 (by decide) ?_
      refine q_ifc hm (fun c7002 hm => ?_) (fun c7002 hm => ?_)
      · refine lv_icmp_ne (tgt := 30) hx hb dX1_strongestBeside_23 (by decide) (fun h => absurd c7002 h) (fun _ => ?_)
        refine lv_iconst (v := (-1)) hx hb dX1_strongestBeside_26 (by decide) ?_
        refine lv_goto (tgt := 38) hx hb dX1_strongestBeside_27 (by decide) ?_
        exact hB38 x2_7 x3_7 x4_7 (-1) _ _ _ hm hW hS (lv_sub hl [0, 1, 2, 3, 4] rfl)
      refine lv_icmp_ne (tgt := 30) hx hb dX1_strongestBeside_23 (by decide) (fun _ => ?_) (fun h => absurd h c7002)
      refine lv_aload_n hx hb dX1_strongestBeside_30 rfl (lv_at hl 0 rfl) ?_
      refine lv_iconst (v := 1) hx hb dX1_strongestBeside_31 (by decide) ?_
      refine lv_iload hx hb dX1_strongestBeside_32 (lv_at hl 4 rfl) ?_
      refine lv_ishl hx hb dX1_strongestBeside_34 ?_
      obtain ⟨v7004, hc7003, hm⟩ := q_b1i hm
      refine q_callV C hW hS (As := [.int (1 <<< (x4_7 &&& 31))]) (rest := []) (st1 := [.int v7004]) (c_X1_slotsIn l D al dt x0_7 (1 <<< (x4_7 &&& 31)) kx0_7 v7004 hc7003) yl_X1_slotsIn vl_X1_slotsIn ml_RX1_32 (ci := 1) rfl kx0_7 (by decide) rfl ⟨Nat.le_of_ble_eq_true rfl, Nat.le_of_ble_eq_true rfl⟩ hl rfl (Nat.le_of_ble_eq_true rfl) dX1_strongestBeside_35 ⟨Nat.le_refl _, Nat.le_refl _⟩ rfl (fun H locs k7005 hW hS => ?_)
      exact hB38 x2_7 x3_7 x4_7 v7004 _ _ _ hm hW hS (lv_sub hl [0, 1, 2, 3, 4] rfl)
  refine lv_iconst (v := (-1)) hx hb dX1_strongestBeside_0 (by decide) ?_
  refine lv_istore_n (i := 2) (lv' := [(2, .int (-1)), (0, .ref x0), (1, .int x1)]) hx hb dX1_strongestBeside_1 rfl hl (by decide) rfl (fun ls hl => ?_)
  refine lv_iconst (v := 0) hx hb dX1_strongestBeside_2 (by decide) ?_
  refine lv_istore_n (i := 3) (lv' := [(3, .int 0), (2, .int (-1)), (0, .ref x0), (1, .int x1)]) hx hb dX1_strongestBeside_3 rfl hl (by decide) rfl (fun ls hl => ?_)
  refine lv_iconst (v := 0) hx hb dX1_strongestBeside_4 (by decide) ?_
  refine lv_istore (i := 4) (lv' := [(4, .int 0), (3, .int 0), (2, .int (-1)), (0, .ref x0), (1, .int x1)]) hx hb dX1_strongestBeside_5 hl (by decide) rfl (fun ls hl => ?_)
  exact hB7 x0 x1 kx0 q_FU (-1) 0 0 _ _ _ hm hW hS (lv_sub hl [3, 4, 2, 1, 0] rfl)
theorem dX1_strongestChannels_0 : decode cX1_strongestChannels 0 = .ok (.iconst 0, 1) := by decide +kernel
theorem dX1_strongestChannels_1 : decode cX1_strongestChannels 1 = .ok (.istore_n 2, 1) := by decide +kernel
theorem dX1_strongestChannels_2 : decode cX1_strongestChannels 2 = .ok (.iconst 0, 1) := by decide +kernel
theorem dX1_strongestChannels_3 : decode cX1_strongestChannels 3 = .ok (.istore_n 3, 1) := by decide +kernel
theorem dX1_strongestChannels_4 : decode cX1_strongestChannels 4 = .ok (.iload_n 3, 1) := by decide +kernel
theorem dX1_strongestChannels_5 : decode cX1_strongestChannels 5 = .ok (.iload_n 1, 1) := by decide +kernel
theorem dX1_strongestChannels_6 : decode cX1_strongestChannels 6 = .ok (.if_icmp .ge 19, 3) := by decide +kernel
theorem dX1_strongestChannels_9 : decode cX1_strongestChannels 9 = .ok (.iload_n 2, 1) := by decide +kernel
theorem dX1_strongestChannels_10 : decode cX1_strongestChannels 10 = .ok (.iconst 1, 1) := by decide +kernel
theorem dX1_strongestChannels_11 : decode cX1_strongestChannels 11 = .ok (.aload_n 0, 1) := by decide +kernel
theorem dX1_strongestChannels_12 : decode cX1_strongestChannels 12 = .ok (.iload_n 2, 1) := by decide +kernel
theorem dX1_strongestChannels_13 : decode cX1_strongestChannels 13 = .ok (.invokevirtual 29, 3) := by decide +kernel
theorem dX1_strongestChannels_16 : decode cX1_strongestChannels 16 = .ok (.ishl, 1) := by decide +kernel
theorem dX1_strongestChannels_17 : decode cX1_strongestChannels 17 = .ok (.ior, 1) := by decide +kernel
theorem dX1_strongestChannels_18 : decode cX1_strongestChannels 18 = .ok (.istore_n 2, 1) := by decide +kernel
theorem dX1_strongestChannels_19 : decode cX1_strongestChannels 19 = .ok (.iinc 3 1, 3) := by decide +kernel
theorem dX1_strongestChannels_22 : decode cX1_strongestChannels 22 = .ok (.goto (-18), 3) := by decide +kernel
theorem dX1_strongestChannels_25 : decode cX1_strongestChannels 25 = .ok (.iload_n 2, 1) := by decide +kernel
theorem dX1_strongestChannels_26 : decode cX1_strongestChannels 26 = .ok (.ireturn, 1) := by decide +kernel
set_option maxRecDepth 100000 in
theorem c_X1_strongestChannels (l : Launch) (D : q_D) (al : q_Al) (dt : q_Dt) (x0 : Nat) (x1 : Int32) (kx0 : al.1 x0 = 2) (r0 : Int32) (hm : X1_strongestChannels al dt x0 x1 = some r0) : q_Mt l yX1_strongestChannels cX1_strongestChannels 4 (some FieldType.int) 4 95 D al [.ref x0, .int x1] dt 0 (some (.int r0)) dt := by
  refine q_Mt.of (by decide) (Nat.le_of_ble_eq_true rfl) ?_
  intro p e s m args below meth c ls C hargs hW hl
  have hx := C.1
  have hb := C.2.1
  have hown := C.2.2.2.2.2.1
  have hts := C.2.2.2.2.2.2.1
  have hS : va_S (q_A al) s.heap s.heap [] := va_S.rf
  have hl : lv_has ls 4 [(0, .ref x0), (1, .int x1)] := hl
  unfold X1_strongestChannels at hm
  have hB4 : ∀ (x0_4 : Nat) (x1_4 : Int32) (kx0_4 : al.1 x0_4 = 2) (n_4 : Nat) (x2_4 : Int32) (x3_4 : Int32) (H : Heap) (locs : List Loc) (ls : Array Slot) (hm : X1_strongestChannels_b4 al dt x0_4 x1_4 n_4 x2_4 x3_4 = some r0) (hW : q_W D al dt H) (hS : va_S (q_A al) s.heap H locs) (hl : lv_has ls 4 [(0, .ref x0_4), (1, .int x1_4), (2, .int x2_4), (3, .int x3_4)]), W p l e { frames := 4, cells := 0, slots := 0, locals := 95 } s m args below meth c H locs 0 0 (MQ below (q_Q (some (.int r0)) (fun H => q_W D al dt H ∧ q_Rk al 0 (some (.int r0))) (q_A al)) args s 0 0 (q_A al)) (F0 m 4 ls []) := by
    intro x0_4 x1_4 kx0_4
    intro n_4
    induction n_4 with
    | zero => intro x2_4 x3_4 H locs ls hm hW hS hl; cases hm
    | succ n_4 ih4 =>
      intro x2_4 x3_4 H locs ls hm hW hS hl
      rw [X1_strongestChannels_b4] at hm
      refine lv_iload_n hx hb dX1_strongestChannels_4 rfl (lv_at hl 3 rfl) ?_
      refine lv_iload_n hx hb dX1_strongestChannels_5 rfl (lv_at hl 1 rfl) ?_
      refine q_ifc hm (fun c4001 hm => ?_) (fun c4001 hm => ?_)
      · refine lv_icmp_ge (tgt := 25) hx hb dX1_strongestChannels_6 (by decide) (fun _ => ?_) (fun h => absurd c4001 h)
        refine lv_iload_n hx hb dX1_strongestChannels_25 rfl (lv_at hl 2 rfl) ?_
        exact e_i C hW hS hm dX1_strongestChannels_26
      refine lv_icmp_ge (tgt := 25) hx hb dX1_strongestChannels_6 (by decide) (fun h => absurd h c4001) (fun _ => ?_)
      refine lv_iload_n hx hb dX1_strongestChannels_9 rfl (lv_at hl 2 rfl) ?_
      refine lv_iconst (v := 1) hx hb dX1_strongestChannels_10 (by decide) ?_
      refine lv_aload_n hx hb dX1_strongestChannels_11 rfl (lv_at hl 0 rfl) ?_
      refine lv_iload_n hx hb dX1_strongestChannels_12 rfl (lv_at hl 2 rfl) ?_
      obtain ⟨v4003, hc4002, hm⟩ := q_b1i hm
      refine q_callV C hW hS (As := [.int x2_4]) (rest := [.int 1, .int x2_4]) (st1 := [.int v4003, .int 1, .int x2_4]) (c_X1_strongestBeside l D al dt x0_4 x2_4 kx0_4 v4003 hc4002) yl_X1_strongestBeside vl_X1_strongestBeside ml_RX1_29 (ci := 1) rfl kx0_4 (by decide) rfl ⟨Nat.le_of_ble_eq_true rfl, Nat.le_of_ble_eq_true rfl⟩ hl rfl (Nat.le_of_ble_eq_true rfl) dX1_strongestChannels_13 ⟨Nat.le_refl _, Nat.le_refl _⟩ rfl (fun H locs k4004 hW hS => ?_)
      refine lv_ishl hx hb dX1_strongestChannels_16 ?_
      refine lv_ior hx hb dX1_strongestChannels_17 ?_
      refine lv_istore_n (i := 2) (lv' := [(2, .int (x2_4 ||| (1 <<< (v4003 &&& 31)))), (0, .ref x0_4), (1, .int x1_4), (3, .int x3_4)]) hx hb dX1_strongestChannels_18 rfl hl (by decide) rfl (fun ls hl => ?_)
      refine lv_iinc (v := (x3_4 + 1)) (lv' := [(3, .int (x3_4 + 1)), (2, .int (x2_4 ||| (1 <<< (v4003 &&& 31)))), (0, .ref x0_4), (1, .int x1_4)]) hx hb dX1_strongestChannels_19 hl (k := 3) rfl rfl (by decide) rfl (fun ls hl => ?_)
      refine lv_goto (tgt := 4) hx hb dX1_strongestChannels_22 (by decide) ?_
      exact ih4 (x2_4 ||| (1 <<< (v4003 &&& 31))) (x3_4 + 1) _ _ _ hm hW hS (lv_sub hl [2, 3, 1, 0] rfl)
  refine lv_iconst (v := 0) hx hb dX1_strongestChannels_0 (by decide) ?_
  refine lv_istore_n (i := 2) (lv' := [(2, .int 0), (0, .ref x0), (1, .int x1)]) hx hb dX1_strongestChannels_1 rfl hl (by decide) rfl (fun ls hl => ?_)
  refine lv_iconst (v := 0) hx hb dX1_strongestChannels_2 (by decide) ?_
  refine lv_istore_n (i := 3) (lv' := [(3, .int 0), (2, .int 0), (0, .ref x0), (1, .int x1)]) hx hb dX1_strongestChannels_3 rfl hl (by decide) rfl (fun ls hl => ?_)
  exact hB4 x0 x1 kx0 q_FU 0 0 _ _ _ hm hW hS (lv_sub hl [2, 3, 1, 0] rfl)
theorem dX5_clear_0 : decode cX5_clear 0 = .ok (.iconst 0, 1) := by decide +kernel
theorem dX5_clear_1 : decode cX5_clear 1 = .ok (.istore_n 1, 1) := by decide +kernel
theorem dX5_clear_2 : decode cX5_clear 2 = .ok (.iload_n 1, 1) := by decide +kernel
theorem dX5_clear_3 : decode cX5_clear 3 = .ok (.aload_n 0, 1) := by decide +kernel
theorem dX5_clear_4 : decode cX5_clear 4 = .ok (.getfield 13, 3) := by decide +kernel
theorem dX5_clear_7 : decode cX5_clear 7 = .ok (.arraylength, 1) := by decide +kernel
theorem dX5_clear_8 : decode cX5_clear 8 = .ok (.if_icmp .ge 16, 3) := by decide +kernel
theorem dX5_clear_11 : decode cX5_clear 11 = .ok (.aload_n 0, 1) := by decide +kernel
theorem dX5_clear_12 : decode cX5_clear 12 = .ok (.getfield 13, 3) := by decide +kernel
theorem dX5_clear_15 : decode cX5_clear 15 = .ok (.iload_n 1, 1) := by decide +kernel
theorem dX5_clear_16 : decode cX5_clear 16 = .ok (.lconst 0, 1) := by decide +kernel
theorem dX5_clear_17 : decode cX5_clear 17 = .ok (.lastore, 1) := by decide +kernel
theorem dX5_clear_18 : decode cX5_clear 18 = .ok (.iinc 1 1, 3) := by decide +kernel
theorem dX5_clear_21 : decode cX5_clear 21 = .ok (.goto (-19), 3) := by decide +kernel
theorem dX5_clear_24 : decode cX5_clear 24 = .ok (.return_, 1) := by decide +kernel
set_option maxRecDepth 100000 in
theorem c_X5_clear (l : Launch) (D : q_D) (al : q_Al) (dt : q_Dt) (x0 : Nat) (kx0 : al.1 x0 = 6) (dt0 : q_Dt) (hm : X5_clear al dt x0 = some dt0) : q_Mt l yX5_clear cX5_clear 2 (none) 0 0 D al [.ref x0] dt 0 none dt0 := by
  refine q_Mt.of (by decide) (Nat.le_of_ble_eq_true rfl) ?_
  intro p e s m args below meth c ls C hargs hW hl
  have hx := C.1
  have hb := C.2.1
  have hown := C.2.2.2.2.2.1
  have hts := C.2.2.2.2.2.2.1
  have hS : va_S (q_A al) s.heap s.heap [] := va_S.rf
  have hl : lv_has ls 2 [(0, .ref x0)] := hl
  unfold X5_clear at hm
  have hB2 : ∀ (x0_2 : Nat) (kx0_2 : al.1 x0_2 = 6) (n_2 : Nat) (x1_2 : Int32) (dt : q_Dt) (H : Heap) (locs : List Loc) (ls : Array Slot) (hm : X5_clear_b2 al x0_2 n_2 x1_2 dt = some dt0) (hW : q_W D al dt H) (hS : va_S (q_A al) s.heap H locs) (hl : lv_has ls 2 [(0, .ref x0_2), (1, .int x1_2)]), W p l e { frames := 0, cells := 0, slots := 0, locals := 0 } s m args below meth c H locs 0 0 (MQ below (q_Q none (fun H => q_W D al dt0 H ∧ q_Rk al 0 none) (q_A al)) args s 0 0 (q_A al)) (F0 m 2 ls []) := by
    intro x0_2 kx0_2
    intro n_2
    induction n_2 with
    | zero => intro x1_2 dt H locs ls hm hW hS hl; cases hm
    | succ n_2 ih2 =>
      intro x1_2 dt H locs ls hm hW hS hl
      rw [X5_clear_b2] at hm
      refine lv_iload_n hx hb dX5_clear_2 rfl (lv_at hl 1 rfl) ?_
      refine lv_aload_n hx hb dX5_clear_3 rfl (lv_at hl 0 rfl) ?_
      refine r_getF C hW (ci := 5) kx0_2 ff_5_0 cl_5 fl_RX5_13 dX5_clear_4 (fun k2001 => ?_)
      refine q_alenJ C hW k2001 dX5_clear_7 ?_
      refine q_ifc hm (fun c2002 hm => ?_) (fun c2002 hm => ?_)
      · refine lv_icmp_ge (tgt := 24) hx hb dX5_clear_8 (by decide) (fun _ => ?_) (fun h => absurd c2002 h)
        exact e_vD C hW hS hm dX5_clear_24
      refine lv_icmp_ge (tgt := 24) hx hb dX5_clear_8 (by decide) (fun h => absurd h c2002) (fun _ => ?_)
      refine lv_aload_n hx hb dX5_clear_11 rfl (lv_at hl 0 rfl) ?_
      refine r_getF C hW (ci := 5) kx0_2 ff_5_0 cl_5 fl_RX5_13 dX5_clear_12 (fun k2003 => ?_)
      refine lv_iload_n hx hb dX5_clear_15 rfl (lv_at hl 1 rfl) ?_
      refine lv_lconst (v := 0) hx hb dX5_clear_16 rfl ?_
      refine r_last C hW hS hm k2003 dX5_clear_17 (fun dt2004 H locs hm hW hS => ?_)
      refine lv_iinc (v := (x1_2 + 1)) (lv' := [(1, .int (x1_2 + 1)), (0, .ref x0_2)]) hx hb dX5_clear_18 hl (k := 1) rfl rfl (by decide) rfl (fun ls hl => ?_)
      refine lv_goto (tgt := 2) hx hb dX5_clear_21 (by decide) ?_
      exact ih2 (x1_2 + 1) dt2004 _ _ _ hm hW hS (lv_sub hl [1, 0] rfl)
  refine lv_iconst (v := 0) hx hb dX5_clear_0 (by decide) ?_
  refine lv_istore_n (i := 1) (lv' := [(1, .int 0), (0, .ref x0)]) hx hb dX5_clear_1 rfl hl (by decide) rfl (fun ls hl => ?_)
  exact hB2 x0 kx0 q_FU 0 dt _ _ _ hm hW hS (lv_sub hl [1, 0] rfl)
theorem dX10_codeAt_0 : decode cX10_codeAt 0 = .ok (.iload_n 1, 1) := by decide +kernel
theorem dX10_codeAt_1 : decode cX10_codeAt 1 = .ok (.ifCond .lt 29, 3) := by decide +kernel
theorem dX10_codeAt_4 : decode cX10_codeAt 4 = .ok (.iload_n 1, 1) := by decide +kernel
theorem dX10_codeAt_5 : decode cX10_codeAt 5 = .ok (.aload_n 0, 1) := by decide +kernel
theorem dX10_codeAt_6 : decode cX10_codeAt 6 = .ok (.getfield 47, 3) := by decide +kernel
theorem dX10_codeAt_9 : decode cX10_codeAt 9 = .ok (.if_icmp .ge 21, 3) := by decide +kernel
theorem dX10_codeAt_12 : decode cX10_codeAt 12 = .ok (.iload_n 1, 1) := by decide +kernel
theorem dX10_codeAt_13 : decode cX10_codeAt 13 = .ok (.aload_n 0, 1) := by decide +kernel
theorem dX10_codeAt_14 : decode cX10_codeAt 14 = .ok (.getfield 11, 3) := by decide +kernel
theorem dX10_codeAt_17 : decode cX10_codeAt 17 = .ok (.arraylength, 1) := by decide +kernel
theorem dX10_codeAt_18 : decode cX10_codeAt 18 = .ok (.if_icmp .ge 12, 3) := by decide +kernel
theorem dX10_codeAt_21 : decode cX10_codeAt 21 = .ok (.aload_n 0, 1) := by decide +kernel
theorem dX10_codeAt_22 : decode cX10_codeAt 22 = .ok (.getfield 11, 3) := by decide +kernel
theorem dX10_codeAt_25 : decode cX10_codeAt 25 = .ok (.iload_n 1, 1) := by decide +kernel
theorem dX10_codeAt_26 : decode cX10_codeAt 26 = .ok (.aaload, 1) := by decide +kernel
theorem dX10_codeAt_27 : decode cX10_codeAt 27 = .ok (.goto 4, 3) := by decide +kernel
theorem dX10_codeAt_30 : decode cX10_codeAt 30 = .ok (.aconst_null, 1) := by decide +kernel
theorem dX10_codeAt_31 : decode cX10_codeAt 31 = .ok (.areturn, 1) := by decide +kernel
set_option maxRecDepth 100000 in
theorem c_X10_codeAt (l : Launch) (D : q_D) (al : q_Al) (dt : q_Dt) (x0 : Nat) (x1 : Int32) (kx0 : al.1 x0 = 11) (r0 : Option Nat) (hm : X10_codeAt al dt x0 x1 = some r0) : q_Mt l yX10_codeAt cX10_codeAt 2 (some (FieldType.object "SpreadRows$Code")) 0 0 D al [.ref x0, .int x1] dt 1 (some (va_rf r0)) dt := by
  refine q_Mt.of (by decide) (Nat.le_of_ble_eq_true rfl) ?_
  intro p e s m args below meth c ls C hargs hW hl
  have hx := C.1
  have hb := C.2.1
  have hown := C.2.2.2.2.2.1
  have hts := C.2.2.2.2.2.2.1
  have hS : va_S (q_A al) s.heap s.heap [] := va_S.rf
  have hl : lv_has ls 2 [(0, .ref x0), (1, .int x1)] := hl
  unfold X10_codeAt at hm
  refine lv_iload_n hx hb dX10_codeAt_0 rfl (lv_at hl 1 rfl) ?_
  refine q_ifc hm (fun c1000001 hm => ?_) (fun c1000001 hm => ?_)
  · refine lv_if_lt (tgt := 30) hx hb dX10_codeAt_1 (by decide) (fun _ => ?_) (fun h => absurd c1000001 h)
    refine q_null C dX10_codeAt_30 ?_
    exact e_a C hW hS (v := none) hm (Or.inr q_kn) dX10_codeAt_31
  refine lv_if_lt (tgt := 30) hx hb dX10_codeAt_1 (by decide) (fun h => absurd h c1000001) (fun _ => ?_)
  refine lv_iload_n hx hb dX10_codeAt_4 rfl (lv_at hl 1 rfl) ?_
  refine lv_aload_n hx hb dX10_codeAt_5 rfl (lv_at hl 0 rfl) ?_
  refine r_getI C hW (ci := 10) kx0 ff_10_7 cl_10 fl_RX10_47 dX10_codeAt_6 ?_
  refine q_ifc hm (fun c1000002 hm => ?_) (fun c1000002 hm => ?_)
  · refine lv_icmp_ge (tgt := 30) hx hb dX10_codeAt_9 (by decide) (fun _ => ?_) (fun h => absurd c1000002 h)
    refine q_null C dX10_codeAt_30 ?_
    exact e_a C hW hS (v := none) hm (Or.inr q_kn) dX10_codeAt_31
  refine lv_icmp_ge (tgt := 30) hx hb dX10_codeAt_9 (by decide) (fun h => absurd h c1000002) (fun _ => ?_)
  refine lv_iload_n hx hb dX10_codeAt_12 rfl (lv_at hl 1 rfl) ?_
  refine lv_aload_n hx hb dX10_codeAt_13 rfl (lv_at hl 0 rfl) ?_
  refine r_getF C hW (ci := 10) kx0 ff_10_0 cl_10 fl_RX10_11 dX10_codeAt_14 (fun k1000003 => ?_)
  refine q_alenR C hW (ci := 0) (t0 := 4) k1000003 (by decide) rfl dX10_codeAt_17 ?_
  refine q_ifc hm (fun c1000004 hm => ?_) (fun c1000004 hm => ?_)
  · refine lv_icmp_ge (tgt := 30) hx hb dX10_codeAt_18 (by decide) (fun _ => ?_) (fun h => absurd c1000004 h)
    refine q_null C dX10_codeAt_30 ?_
    exact e_a C hW hS (v := none) hm (Or.inr q_kn) dX10_codeAt_31
  refine lv_icmp_ge (tgt := 30) hx hb dX10_codeAt_18 (by decide) (fun h => absurd h c1000004) (fun _ => ?_)
  refine lv_aload_n hx hb dX10_codeAt_21 rfl (lv_at hl 0 rfl) ?_
  refine r_getF C hW (ci := 10) kx0 ff_10_0 cl_10 fl_RX10_11 dX10_codeAt_22 (fun k1000005 => ?_)
  refine lv_iload_n hx hb dX10_codeAt_25 rfl (lv_at hl 1 rfl) ?_
  refine r_aald C hW hm (ci := 0) (t0 := 4) k1000005 (by decide) rfl dX10_codeAt_26 (fun k1000006 hm => ?_)
  refine lv_goto (tgt := 31) hx hb dX10_codeAt_27 (by decide) ?_
  exact e_a C hW hS (v := (some (al.2.2 (al.2.2 x0 0) (Int32.toNatClampNeg x1)))) hm (Or.inr (q_ks k1000006)) dX10_codeAt_31
theorem dX11_likeLong_0 : decode cX11_likeLong 0 = .ok (.aload_n 0, 1) := by decide +kernel
theorem dX11_likeLong_1 : decode cX11_likeLong 1 = .ok (.ifnull 22, 3) := by decide +kernel
theorem dX11_likeLong_4 : decode cX11_likeLong 4 = .ok (.aload_n 1, 1) := by decide +kernel
theorem dX11_likeLong_5 : decode cX11_likeLong 5 = .ok (.ifnull 18, 3) := by decide +kernel
theorem dX11_likeLong_8 : decode cX11_likeLong 8 = .ok (.aload_n 0, 1) := by decide +kernel
theorem dX11_likeLong_9 : decode cX11_likeLong 9 = .ok (.getfield 91, 3) := by decide +kernel
theorem dX11_likeLong_12 : decode cX11_likeLong 12 = .ok (.aload_n 1, 1) := by decide +kernel
theorem dX11_likeLong_13 : decode cX11_likeLong 13 = .ok (.getfield 91, 3) := by decide +kernel
theorem dX11_likeLong_16 : decode cX11_likeLong 16 = .ok (.if_icmp .ne 7, 3) := by decide +kernel
theorem dX11_likeLong_19 : decode cX11_likeLong 19 = .ok (.iconst 1, 1) := by decide +kernel
theorem dX11_likeLong_20 : decode cX11_likeLong 20 = .ok (.goto 4, 3) := by decide +kernel
theorem dX11_likeLong_23 : decode cX11_likeLong 23 = .ok (.iconst 0, 1) := by decide +kernel
theorem dX11_likeLong_24 : decode cX11_likeLong 24 = .ok (.ireturn, 1) := by decide +kernel
set_option maxRecDepth 100000 in
theorem c_X11_likeLong (l : Launch) (D : q_D) (al : q_Al) (dt : q_Dt) (x0 : Option Nat) (x1 : Option Nat) (kx0 : ∀ b, x0 = some b → al.1 b = 1) (kx1 : ∀ b, x1 = some b → al.1 b = 1) (r0 : Int32) (hm : X11_likeLong al dt x0 x1 = some r0) : q_Mt l yX11_likeLong cX11_likeLong 2 (some FieldType.boolean) 0 0 D al [va_rf x0, va_rf x1] dt 0 (some (.int r0)) dt := by
  refine q_Mt.of (by decide) (by simp [lg_sl, q_cat, q_catR, q_catI, q_catL]) ?_
  intro p e s m args below meth c ls C hargs hW hl
  have hx := C.1
  have hb := C.2.1
  have hown := C.2.2.2.2.2.1
  have hts := C.2.2.2.2.2.2.1
  have hS : va_S (q_A al) s.heap s.heap [] := va_S.rf
  have hl : lv_has ls 2 [(0, va_rf x0), (1, va_rf x1)] := by simpa [lv_args, q_cat, q_catR, q_catI, q_catL] using hl
  unfold X11_likeLong at hm
  refine q_aloadQ_n C dX11_likeLong_0 rfl (lv_at hl 0 rfl) ?_
  refine q_ifnull C hm (tgt := 23) dX11_likeLong_1 (by decide) (fun e1000003 hq1000004 => ?_) (fun b1000001 e1000003 hq1000004 => ?_)
  · subst e1000003
    have hm := hq1000004
    refine lv_iconst (v := 0) hx hb dX11_likeLong_23 (by decide) ?_
    exact e_zl C hW hS (Or.inl rfl) hm dX11_likeLong_24
  subst e1000003
  have hm := hq1000004
  have k1000002 := kx0 b1000001 rfl
  refine q_aloadQ_n C dX11_likeLong_4 rfl (lv_at hl 1 rfl) ?_
  refine q_ifnull C hm (tgt := 23) dX11_likeLong_5 (by decide) (fun e1000007 hq1000008 => ?_) (fun b1000005 e1000007 hq1000008 => ?_)
  · subst e1000007
    have hm := hq1000008
    refine lv_iconst (v := 0) hx hb dX11_likeLong_23 (by decide) ?_
    exact e_zl C hW hS (Or.inl rfl) hm dX11_likeLong_24
  subst e1000007
  have hm := hq1000008
  have k1000006 := kx1 b1000005 rfl
  refine lv_aload_n hx hb dX11_likeLong_8 rfl (lv_at hl 0 rfl) ?_
  refine r_getI C hW (ci := 0) k1000002 ff_0_1 cl_0 fl_RX11_91 dX11_likeLong_9 ?_
  refine lv_aload_n hx hb dX11_likeLong_12 rfl (lv_at hl 1 rfl) ?_
  refine r_getI C hW (ci := 0) k1000006 ff_0_1 cl_0 fl_RX11_91 dX11_likeLong_13 ?_
  refine q_ifc hm (fun c1000009 hm => ?_) (fun c1000009 hm => ?_)
  · refine lv_icmp_ne (tgt := 23) hx hb dX11_likeLong_16 (by decide) (fun h => absurd c1000009 h) (fun _ => ?_)
    refine lv_iconst (v := 1) hx hb dX11_likeLong_19 (by decide) ?_
    refine lv_goto (tgt := 24) hx hb dX11_likeLong_20 (by decide) ?_
    exact e_zl C hW hS (Or.inr rfl) hm dX11_likeLong_24
  refine lv_icmp_ne (tgt := 23) hx hb dX11_likeLong_16 (by decide) (fun _ => ?_) (fun h => absurd h c1000009)
  refine lv_iconst (v := 0) hx hb dX11_likeLong_23 (by decide) ?_
  exact e_zl C hW hS (Or.inl rfl) hm dX11_likeLong_24
theorem dX2_befriend_0 : decode cX2_befriend 0 = .ok (.aload_n 1, 1) := by decide +kernel
theorem dX2_befriend_1 : decode cX2_befriend 1 = .ok (.iload_n 2, 1) := by decide +kernel
theorem dX2_befriend_2 : decode cX2_befriend 2 = .ok (.invokevirtual 58, 3) := by decide +kernel
theorem dX2_befriend_5 : decode cX2_befriend 5 = .ok (.astore 5, 2) := by decide +kernel
theorem dX2_befriend_7 : decode cX2_befriend 7 = .ok (.aload_n 1, 1) := by decide +kernel
theorem dX2_befriend_8 : decode cX2_befriend 8 = .ok (.iload_n 3, 1) := by decide +kernel
theorem dX2_befriend_9 : decode cX2_befriend 9 = .ok (.invokevirtual 58, 3) := by decide +kernel
theorem dX2_befriend_12 : decode cX2_befriend 12 = .ok (.astore 6, 2) := by decide +kernel
theorem dX2_befriend_14 : decode cX2_befriend 14 = .ok (.aload 5, 2) := by decide +kernel
theorem dX2_befriend_16 : decode cX2_befriend 16 = .ok (.aload 6, 2) := by decide +kernel
theorem dX2_befriend_18 : decode cX2_befriend 18 = .ok (.invokestatic 62, 3) := by decide +kernel
theorem dX2_befriend_21 : decode cX2_befriend 21 = .ok (.ifCond .eq 65, 3) := by decide +kernel
theorem dX2_befriend_24 : decode cX2_befriend 24 = .ok (.aload 5, 2) := by decide +kernel
theorem dX2_befriend_26 : decode cX2_befriend 26 = .ok (.aload 6, 2) := by decide +kernel
theorem dX2_befriend_28 : decode cX2_befriend 28 = .ok (.iload_n 2, 1) := by decide +kernel
theorem dX2_befriend_29 : decode cX2_befriend 29 = .ok (.iload_n 3, 1) := by decide +kernel
theorem dX2_befriend_30 : decode cX2_befriend 30 = .ok (.if_icmp .ne 7, 3) := by decide +kernel
theorem dX2_befriend_33 : decode cX2_befriend 33 = .ok (.iconst 1, 1) := by decide +kernel
theorem dX2_befriend_34 : decode cX2_befriend 34 = .ok (.goto 4, 3) := by decide +kernel
theorem dX2_befriend_37 : decode cX2_befriend 37 = .ok (.iconst 0, 1) := by decide +kernel
theorem dX2_befriend_38 : decode cX2_befriend 38 = .ok (.invokevirtual 66, 3) := by decide +kernel
theorem dX2_befriend_41 : decode cX2_befriend 41 = .ok (.iload 4, 2) := by decide +kernel
theorem dX2_befriend_43 : decode cX2_befriend 43 = .ok (.if_icmp .gt 43, 3) := by decide +kernel
theorem dX2_befriend_46 : decode cX2_befriend 46 = .ok (.aload_n 0, 1) := by decide +kernel
theorem dX2_befriend_47 : decode cX2_befriend 47 = .ok (.getfield 14, 3) := by decide +kernel
theorem dX2_befriend_50 : decode cX2_befriend 50 = .ok (.iload_n 2, 1) := by decide +kernel
theorem dX2_befriend_51 : decode cX2_befriend 51 = .ok (.aload_n 0, 1) := by decide +kernel
theorem dX2_befriend_52 : decode cX2_befriend 52 = .ok (.getfield 14, 3) := by decide +kernel
theorem dX2_befriend_55 : decode cX2_befriend 55 = .ok (.iload_n 2, 1) := by decide +kernel
theorem dX2_befriend_56 : decode cX2_befriend 56 = .ok (.invokevirtual 72, 3) := by decide +kernel
theorem dX2_befriend_59 : decode cX2_befriend 59 = .ok (.lconst 1, 1) := by decide +kernel
theorem dX2_befriend_60 : decode cX2_befriend 60 = .ok (.iload_n 3, 1) := by decide +kernel
theorem dX2_befriend_61 : decode cX2_befriend 61 = .ok (.lshl, 1) := by decide +kernel
theorem dX2_befriend_62 : decode cX2_befriend 62 = .ok (.lor, 1) := by decide +kernel
theorem dX2_befriend_63 : decode cX2_befriend 63 = .ok (.invokevirtual 76, 3) := by decide +kernel
theorem dX2_befriend_66 : decode cX2_befriend 66 = .ok (.aload_n 0, 1) := by decide +kernel
theorem dX2_befriend_67 : decode cX2_befriend 67 = .ok (.getfield 14, 3) := by decide +kernel
theorem dX2_befriend_70 : decode cX2_befriend 70 = .ok (.iload_n 3, 1) := by decide +kernel
theorem dX2_befriend_71 : decode cX2_befriend 71 = .ok (.aload_n 0, 1) := by decide +kernel
theorem dX2_befriend_72 : decode cX2_befriend 72 = .ok (.getfield 14, 3) := by decide +kernel
theorem dX2_befriend_75 : decode cX2_befriend 75 = .ok (.iload_n 3, 1) := by decide +kernel
theorem dX2_befriend_76 : decode cX2_befriend 76 = .ok (.invokevirtual 72, 3) := by decide +kernel
theorem dX2_befriend_79 : decode cX2_befriend 79 = .ok (.lconst 1, 1) := by decide +kernel
theorem dX2_befriend_80 : decode cX2_befriend 80 = .ok (.iload_n 2, 1) := by decide +kernel
theorem dX2_befriend_81 : decode cX2_befriend 81 = .ok (.lshl, 1) := by decide +kernel
theorem dX2_befriend_82 : decode cX2_befriend 82 = .ok (.lor, 1) := by decide +kernel
theorem dX2_befriend_83 : decode cX2_befriend 83 = .ok (.invokevirtual 76, 3) := by decide +kernel
theorem dX2_befriend_86 : decode cX2_befriend 86 = .ok (.return_, 1) := by decide +kernel
set_option maxRecDepth 100000 in
theorem c_X2_befriend (l : Launch) (D : q_D) (al : q_Al) (dt : q_Dt) (x0 : Nat) (x1 : Option Nat) (x2 : Int32) (x3 : Int32) (x4 : Int32) (kx0 : al.1 x0 = 3) (kx1 : ∀ b, x1 = some b → al.1 b = 11) (dt0 : q_Dt) (hm : X2_befriend al dt x0 x1 x2 x3 x4 = some dt0) : q_Mt l yX2_befriend cX2_befriend 7 (none) 5 119 D al [.ref x0, va_rf x1, .int x2, .int x3, .int x4] dt 0 none dt0 := by
  refine q_Mt.of (by decide) (by simp [lg_sl, q_cat, q_catR, q_catI, q_catL]) ?_
  intro p e s m args below meth c ls C hargs hW hl
  have hx := C.1
  have hb := C.2.1
  have hown := C.2.2.2.2.2.1
  have hts := C.2.2.2.2.2.2.1
  have hS : va_S (q_A al) s.heap s.heap [] := va_S.rf
  have hl : lv_has ls 7 [(0, .ref x0), (1, va_rf x1), (2, .int x2), (3, .int x3), (4, .int x4)] := by simpa [lv_args, q_cat, q_catR, q_catI, q_catL] using hl
  unfold X2_befriend at hm
  have hB38 : ∀ (x0_38 : Nat) (x2_38 : Int32) (x3_38 : Int32) (x4_38 : Int32) (t0_38 : Option Nat) (t1_38 : Option Nat) (t2_38 : Int32) (kx0_38 : al.1 x0_38 = 3) (kt0_38 : ∀ b, t0_38 = some b → al.1 b = 1) (kt1_38 : ∀ b, t1_38 = some b → al.1 b = 1) (dt : q_Dt) (H : Heap) (locs : List Loc) (ls : Array Slot) (hm : X2_befriend_b38 al x0_38 x2_38 x3_38 x4_38 t0_38 t1_38 t2_38 dt = some dt0) (hW : q_W D al dt H) (hS : va_S (q_A al) s.heap H locs) (hl : lv_has ls 7 [(0, .ref x0_38), (2, .int x2_38), (3, .int x3_38), (4, .int x4_38)]), W p l e { frames := 5, cells := 0, slots := 0, locals := 119 } s m args below meth c H locs 0 0 (MQ below (q_Q none (fun H => q_W D al dt0 H ∧ q_Rk al 0 none) (q_A al)) args s 0 0 (q_A al)) (F0 m 38 ls [.int t2_38, va_rf t1_38, va_rf t0_38]) := by
    intro x0_38 x2_38 x3_38 x4_38 t0_38 t1_38 t2_38 kx0_38 kt0_38 kt1_38 dt H locs ls hm hW hS hl
    unfold X2_befriend_b38 at hm
    obtain ⟨b38001, e38002, hq38003⟩ := q_mi hm
    subst e38002
    have hm := hq38003
    have k38004 := kt0_38 b38001 rfl
    obtain ⟨v38006, hc38005, hm⟩ := q_b1i hm
    refine q_callV C hW hS (As := [va_rf t1_38, .int t2_38]) (rest := []) (st1 := [.int v38006]) (c_X0_worstLikeness l D al dt b38001 t1_38 t2_38 k38004 kt1_38 v38006 hc38005) yl_X0_worstLikeness vl_X0_worstLikeness ml_RX2_66 (ci := 0) rfl k38004 (by decide) rfl ⟨Nat.le_of_ble_eq_true rfl, Nat.le_of_ble_eq_true rfl⟩ hl rfl (Nat.le_of_ble_eq_true rfl) dX2_befriend_38 ⟨Nat.le_refl _, Nat.le_refl _⟩ rfl (fun H locs k38007 hW hS => ?_)
    refine lv_iload hx hb dX2_befriend_41 (lv_at hl 3 rfl) ?_
    refine q_ifc hm (fun c38008 hm => ?_) (fun c38008 hm => ?_)
    · refine lv_icmp_gt (tgt := 86) hx hb dX2_befriend_43 (by decide) (fun _ => ?_) (fun h => absurd c38008 h)
      exact e_vD C hW hS hm dX2_befriend_86
    refine lv_icmp_gt (tgt := 86) hx hb dX2_befriend_43 (by decide) (fun h => absurd h c38008) (fun _ => ?_)
    refine lv_aload_n hx hb dX2_befriend_46 rfl (lv_at hl 0 rfl) ?_
    refine r_getF C hW (ci := 2) kx0_38 ff_2_0 cl_2 fl_RX2_14 dX2_befriend_47 (fun k38009 => ?_)
    refine lv_iload_n hx hb dX2_befriend_50 rfl (lv_at hl 1 rfl) ?_
    refine lv_aload_n hx hb dX2_befriend_51 rfl (lv_at hl 0 rfl) ?_
    refine r_getF C hW (ci := 2) kx0_38 ff_2_0 cl_2 fl_RX2_14 dX2_befriend_52 (fun k38010 => ?_)
    refine lv_iload_n hx hb dX2_befriend_55 rfl (lv_at hl 1 rfl) ?_
    obtain ⟨v38012, hc38011, hm⟩ := q_b1i hm
    refine q_callV C hW hS (As := [.int x2_38]) (rest := [.int x2_38, .ref (al.2.2 x0_38 0)]) (st1 := [.long v38012, .int x2_38, .ref (al.2.2 x0_38 0)]) (c_X5_at l D al dt (al.2.2 x0_38 0) x2_38 k38010 v38012 hc38011) yl_X5_at vl_X5_at ml_RX2_72 (ci := 5) rfl k38010 (by decide) rfl ⟨Nat.le_of_ble_eq_true rfl, Nat.le_of_ble_eq_true rfl⟩ hl rfl (Nat.le_of_ble_eq_true rfl) dX2_befriend_56 ⟨Nat.le_refl _, Nat.le_refl _⟩ rfl (fun H locs k38013 hW hS => ?_)
    refine lv_lconst (v := 1) hx hb dX2_befriend_59 rfl ?_
    refine lv_iload_n hx hb dX2_befriend_60 rfl (lv_at hl 2 rfl) ?_
    refine lv_lshl (v := (1 <<< (Int32.toInt64 x3_38 &&& 63))) hx hb dX2_befriend_61 rfl ?_
    refine lv_lor hx hb dX2_befriend_62 ?_
    obtain ⟨dt38015, hc38014, hm⟩ := q_b1i hm
    refine q_callV C hW hS (As := [.int x2_38, .long (v38012 ||| (1 <<< (Int32.toInt64 x3_38 &&& 63)))]) (rest := []) (st1 := []) (c_X5_put l D al dt (al.2.2 x0_38 0) x2_38 (v38012 ||| (1 <<< (Int32.toInt64 x3_38 &&& 63))) k38009 dt38015 hc38014) yl_X5_put vl_X5_put ml_RX2_76 (ci := 5) rfl k38009 (by decide) rfl ⟨Nat.le_of_ble_eq_true rfl, Nat.le_of_ble_eq_true rfl⟩ hl rfl (Nat.le_of_ble_eq_true rfl) dX2_befriend_63 ⟨Nat.le_refl _, Nat.le_refl _⟩ rfl (fun H locs k38016 hW hS => ?_)
    refine lv_aload_n hx hb dX2_befriend_66 rfl (lv_at hl 0 rfl) ?_
    refine r_getF C hW (ci := 2) kx0_38 ff_2_0 cl_2 fl_RX2_14 dX2_befriend_67 (fun k38017 => ?_)
    refine lv_iload_n hx hb dX2_befriend_70 rfl (lv_at hl 2 rfl) ?_
    refine lv_aload_n hx hb dX2_befriend_71 rfl (lv_at hl 0 rfl) ?_
    refine r_getF C hW (ci := 2) kx0_38 ff_2_0 cl_2 fl_RX2_14 dX2_befriend_72 (fun k38018 => ?_)
    refine lv_iload_n hx hb dX2_befriend_75 rfl (lv_at hl 2 rfl) ?_
    obtain ⟨v38020, hc38019, hm⟩ := q_b1i hm
    refine q_callV C hW hS (As := [.int x3_38]) (rest := [.int x3_38, .ref (al.2.2 x0_38 0)]) (st1 := [.long v38020, .int x3_38, .ref (al.2.2 x0_38 0)]) (c_X5_at l D al dt38015 (al.2.2 x0_38 0) x3_38 k38018 v38020 hc38019) yl_X5_at vl_X5_at ml_RX2_72 (ci := 5) rfl k38018 (by decide) rfl ⟨Nat.le_of_ble_eq_true rfl, Nat.le_of_ble_eq_true rfl⟩ hl rfl (Nat.le_of_ble_eq_true rfl) dX2_befriend_76 ⟨Nat.le_refl _, Nat.le_refl _⟩ rfl (fun H locs k38021 hW hS => ?_)
    refine lv_lconst (v := 1) hx hb dX2_befriend_79 rfl ?_
    refine lv_iload_n hx hb dX2_befriend_80 rfl (lv_at hl 1 rfl) ?_
    refine lv_lshl (v := (1 <<< (Int32.toInt64 x2_38 &&& 63))) hx hb dX2_befriend_81 rfl ?_
    refine lv_lor hx hb dX2_befriend_82 ?_
    obtain ⟨dt38023, hc38022, hm⟩ := q_b1i hm
    refine q_callV C hW hS (As := [.int x3_38, .long (v38020 ||| (1 <<< (Int32.toInt64 x2_38 &&& 63)))]) (rest := []) (st1 := []) (c_X5_put l D al dt38015 (al.2.2 x0_38 0) x3_38 (v38020 ||| (1 <<< (Int32.toInt64 x2_38 &&& 63))) k38017 dt38023 hc38022) yl_X5_put vl_X5_put ml_RX2_76 (ci := 5) rfl k38017 (by decide) rfl ⟨Nat.le_of_ble_eq_true rfl, Nat.le_of_ble_eq_true rfl⟩ hl rfl (Nat.le_of_ble_eq_true rfl) dX2_befriend_83 ⟨Nat.le_refl _, Nat.le_refl _⟩ rfl (fun H locs k38024 hW hS => ?_)
    exact e_vD C hW hS hm dX2_befriend_86
  refine q_aloadQ_n C dX2_befriend_0 rfl (lv_at hl 1 rfl) ?_
  refine lv_iload_n hx hb dX2_befriend_1 rfl (lv_at hl 2 rfl) ?_
  obtain ⟨b1000001, e1000002, hq1000003⟩ := q_mi hm
  subst e1000002
  have hm := hq1000003
  have k1000004 := kx1 b1000001 rfl
  obtain ⟨v1000006, hc1000005, hm⟩ := q_b1i hm
  refine q_callV C hW hS (As := [.int x2]) (rest := []) (st1 := [va_rf v1000006]) (c_X10_codeAt l D al dt b1000001 x2 k1000004 v1000006 hc1000005) yl_X10_codeAt vl_X10_codeAt ml_RX2_58 (ci := 10) rfl k1000004 (by decide) rfl ⟨Nat.le_of_ble_eq_true rfl, Nat.le_of_ble_eq_true rfl⟩ hl rfl (Nat.le_of_ble_eq_true rfl) dX2_befriend_2 ⟨Nat.le_refl _, Nat.le_refl _⟩ rfl (fun H locs k1000007 hW hS => ?_)
  have k1000007 := q_rk k1000007 (by decide)
  refine q_astoreQ (i := 5) (lv' := [(5, va_rf v1000006), (0, .ref x0), (1, .ref b1000001), (2, .int x2), (3, .int x3), (4, .int x4)]) C dX2_befriend_5 hl (by decide) rfl (fun ls hl => ?_)
  refine lv_aload_n hx hb dX2_befriend_7 rfl (lv_at hl 2 rfl) ?_
  refine lv_iload_n hx hb dX2_befriend_8 rfl (lv_at hl 4 rfl) ?_
  obtain ⟨v1000009, hc1000008, hm⟩ := q_b1i hm
  refine q_callV C hW hS (As := [.int x3]) (rest := []) (st1 := [va_rf v1000009]) (c_X10_codeAt l D al dt b1000001 x3 k1000004 v1000009 hc1000008) yl_X10_codeAt vl_X10_codeAt ml_RX2_58 (ci := 10) rfl k1000004 (by decide) rfl ⟨Nat.le_of_ble_eq_true rfl, Nat.le_of_ble_eq_true rfl⟩ hl rfl (Nat.le_of_ble_eq_true rfl) dX2_befriend_9 ⟨Nat.le_refl _, Nat.le_refl _⟩ rfl (fun H locs k1000010 hW hS => ?_)
  have k1000010 := q_rk k1000010 (by decide)
  refine q_astoreQ (i := 6) (lv' := [(6, va_rf v1000009), (5, va_rf v1000006), (0, .ref x0), (1, .ref b1000001), (2, .int x2), (3, .int x3), (4, .int x4)]) C dX2_befriend_12 hl (by decide) (by simp [q_cat, q_catR, q_catI, q_catL] <;> rfl) (fun ls hl => ?_)
  refine q_aloadQ C dX2_befriend_14 (lv_at hl 1 rfl) ?_
  refine q_aloadQ C dX2_befriend_16 (lv_at hl 0 rfl) ?_
  obtain ⟨v1000012, hc1000011, hm⟩ := q_b1i hm
  refine q_callS C hW hS (As := [va_rf v1000006, va_rf v1000009]) (rest := []) (st1 := [.int v1000012]) (c_X11_likeLong l D al dt v1000006 v1000009 k1000007 k1000010 v1000012 hc1000011) yl_X11_likeLong sl_X11_likeLong ml_RX2_62 rfl ⟨Nat.le_of_ble_eq_true rfl, Nat.le_of_ble_eq_true rfl⟩ hl rfl (Nat.le_of_ble_eq_true rfl) dX2_befriend_18 ⟨Nat.le_refl _, Nat.le_refl _⟩ rfl (fun H locs k1000013 hW hS => ?_)
  refine q_ifc hm (fun c1000014 hm => ?_) (fun c1000014 hm => ?_)
  · refine lv_if_eq (tgt := 86) hx hb dX2_befriend_21 (by decide) (fun _ => ?_) (fun h => absurd c1000014 h)
    exact e_vD C hW hS hm dX2_befriend_86
  refine lv_if_eq (tgt := 86) hx hb dX2_befriend_21 (by decide) (fun h => absurd h c1000014) (fun _ => ?_)
  refine q_aloadQ C dX2_befriend_24 (lv_at hl 1 rfl) ?_
  refine q_aloadQ C dX2_befriend_26 (lv_at hl 0 rfl) ?_
  refine lv_iload_n hx hb dX2_befriend_28 rfl (lv_at hl 4 rfl) ?_
  refine lv_iload_n hx hb dX2_befriend_29 rfl (lv_at hl 5 rfl) ?_
  refine q_ifc hm (fun c1000015 hm => ?_) (fun c1000015 hm => ?_)
  · refine lv_icmp_ne (tgt := 37) hx hb dX2_befriend_30 (by decide) (fun h => absurd c1000015 h) (fun _ => ?_)
    refine lv_iconst (v := 1) hx hb dX2_befriend_33 (by decide) ?_
    refine lv_goto (tgt := 38) hx hb dX2_befriend_34 (by decide) ?_
    exact hB38 x0 x2 x3 x4 v1000006 v1000009 1 kx0 k1000007 k1000010 dt _ _ _ hm hW hS (lv_sub hl [2, 4, 5, 6] rfl)
  refine lv_icmp_ne (tgt := 37) hx hb dX2_befriend_30 (by decide) (fun _ => ?_) (fun h => absurd h c1000015)
  refine lv_iconst (v := 0) hx hb dX2_befriend_37 (by decide) ?_
  exact hB38 x0 x2 x3 x4 v1000006 v1000009 0 kx0 k1000007 k1000010 dt _ _ _ hm hW hS (lv_sub hl [2, 4, 5, 6] rfl)
theorem dX2_areFriends_0 : decode cX2_areFriends 0 = .ok (.iconst 0, 1) := by decide +kernel
theorem dX2_areFriends_1 : decode cX2_areFriends 1 = .ok (.istore_n 2, 1) := by decide +kernel
theorem dX2_areFriends_2 : decode cX2_areFriends 2 = .ok (.iload_n 2, 1) := by decide +kernel
theorem dX2_areFriends_3 : decode cX2_areFriends 3 = .ok (.bipush 8, 2) := by decide +kernel
theorem dX2_areFriends_5 : decode cX2_areFriends 5 = .ok (.if_icmp .ge 35, 3) := by decide +kernel
theorem dX2_areFriends_8 : decode cX2_areFriends 8 = .ok (.iload_n 1, 1) := by decide +kernel
theorem dX2_areFriends_9 : decode cX2_areFriends 9 = .ok (.iload_n 2, 1) := by decide +kernel
theorem dX2_areFriends_10 : decode cX2_areFriends 10 = .ok (.ishr, 1) := by decide +kernel
theorem dX2_areFriends_11 : decode cX2_areFriends 11 = .ok (.iconst 1, 1) := by decide +kernel
theorem dX2_areFriends_12 : decode cX2_areFriends 12 = .ok (.iand, 1) := by decide +kernel
theorem dX2_areFriends_13 : decode cX2_areFriends 13 = .ok (.iconst 1, 1) := by decide +kernel
theorem dX2_areFriends_14 : decode cX2_areFriends 14 = .ok (.if_icmp .ne 20, 3) := by decide +kernel
theorem dX2_areFriends_17 : decode cX2_areFriends 17 = .ok (.iload_n 1, 1) := by decide +kernel
theorem dX2_areFriends_18 : decode cX2_areFriends 18 = .ok (.aload_n 0, 1) := by decide +kernel
theorem dX2_areFriends_19 : decode cX2_areFriends 19 = .ok (.getfield 14, 3) := by decide +kernel
theorem dX2_areFriends_22 : decode cX2_areFriends 22 = .ok (.iload_n 2, 1) := by decide +kernel
theorem dX2_areFriends_23 : decode cX2_areFriends 23 = .ok (.invokevirtual 80, 3) := by decide +kernel
theorem dX2_areFriends_26 : decode cX2_areFriends 26 = .ok (.iconst (-1), 1) := by decide +kernel
theorem dX2_areFriends_27 : decode cX2_areFriends 27 = .ok (.ixor, 1) := by decide +kernel
theorem dX2_areFriends_28 : decode cX2_areFriends 28 = .ok (.iand, 1) := by decide +kernel
theorem dX2_areFriends_29 : decode cX2_areFriends 29 = .ok (.ifCond .eq 5, 3) := by decide +kernel
theorem dX2_areFriends_32 : decode cX2_areFriends 32 = .ok (.iconst 0, 1) := by decide +kernel
theorem dX2_areFriends_33 : decode cX2_areFriends 33 = .ok (.ireturn, 1) := by decide +kernel
theorem dX2_areFriends_34 : decode cX2_areFriends 34 = .ok (.iinc 2 1, 3) := by decide +kernel
theorem dX2_areFriends_37 : decode cX2_areFriends 37 = .ok (.goto (-35), 3) := by decide +kernel
theorem dX2_areFriends_40 : decode cX2_areFriends 40 = .ok (.iconst 1, 1) := by decide +kernel
theorem dX2_areFriends_41 : decode cX2_areFriends 41 = .ok (.ireturn, 1) := by decide +kernel
set_option maxRecDepth 100000 in
theorem c_X2_areFriends (l : Launch) (D : q_D) (al : q_Al) (dt : q_Dt) (x0 : Nat) (x1 : Int32) (kx0 : al.1 x0 = 3) (r0 : Int32) (hm : X2_areFriends al dt x0 x1 = some r0) : q_Mt l yX2_areFriends cX2_areFriends 3 (some FieldType.boolean) 1 21 D al [.ref x0, .int x1] dt 0 (some (.int r0)) dt := by
  refine q_Mt.of (by decide) (Nat.le_of_ble_eq_true rfl) ?_
  intro p e s m args below meth c ls C hargs hW hl
  have hx := C.1
  have hb := C.2.1
  have hown := C.2.2.2.2.2.1
  have hts := C.2.2.2.2.2.2.1
  have hS : va_S (q_A al) s.heap s.heap [] := va_S.rf
  have hl : lv_has ls 3 [(0, .ref x0), (1, .int x1)] := hl
  unfold X2_areFriends at hm
  have hB2 : ∀ (x0_2 : Nat) (x1_2 : Int32) (kx0_2 : al.1 x0_2 = 3) (n_2 : Nat) (x2_2 : Int32) (H : Heap) (locs : List Loc) (ls : Array Slot) (hm : X2_areFriends_b2 al dt x0_2 x1_2 n_2 x2_2 = some r0) (hW : q_W D al dt H) (hS : va_S (q_A al) s.heap H locs) (hl : lv_has ls 3 [(0, .ref x0_2), (1, .int x1_2), (2, .int x2_2)]), W p l e { frames := 1, cells := 0, slots := 0, locals := 21 } s m args below meth c H locs 0 0 (MQ below (q_Q (some (.int r0)) (fun H => q_W D al dt H ∧ q_Rk al 0 (some (.int r0))) (q_A al)) args s 0 0 (q_A al)) (F0 m 2 ls []) := by
    intro x0_2 x1_2 kx0_2
    intro n_2
    induction n_2 with
    | zero => intro x2_2 H locs ls hm hW hS hl; cases hm
    | succ n_2 ih2 =>
      have hB34 : ∀ (x2_34 : Int32) (H : Heap) (locs : List Loc) (ls : Array Slot) (hm : X2_areFriends_b34 al dt (X2_areFriends_b2 al dt x0_2 x1_2 n_2) x0_2 x1_2 x2_34 = some r0) (hW : q_W D al dt H) (hS : va_S (q_A al) s.heap H locs) (hl : lv_has ls 3 [(0, .ref x0_2), (1, .int x1_2), (2, .int x2_34)]), W p l e { frames := 1, cells := 0, slots := 0, locals := 21 } s m args below meth c H locs 0 0 (MQ below (q_Q (some (.int r0)) (fun H => q_W D al dt H ∧ q_Rk al 0 (some (.int r0))) (q_A al)) args s 0 0 (q_A al)) (F0 m 34 ls []) := by
        intro x2_34 H locs ls hm hW hS hl
        unfold X2_areFriends_b34 at hm
        refine lv_iinc (v := (x2_34 + 1)) (lv' := [(2, .int (x2_34 + 1)), (0, .ref x0_2), (1, .int x1_2)]) hx hb dX2_areFriends_34 hl (k := 2) rfl rfl (by decide) rfl (fun ls hl => ?_)
        refine lv_goto (tgt := 2) hx hb dX2_areFriends_37 (by decide) ?_
        exact ih2 (x2_34 + 1) _ _ _ hm hW hS (lv_sub hl [1, 2, 0] rfl)
      intro x2_2 H locs ls hm hW hS hl
      rw [X2_areFriends_b2] at hm
      refine lv_iload_n hx hb dX2_areFriends_2 rfl (lv_at hl 2 rfl) ?_
      refine lv_bipush (v := 8) hx hb dX2_areFriends_3 (by decide) ?_
      refine q_ifc hm (fun c2001 hm => ?_) (fun c2001 hm => ?_)
      · refine lv_icmp_ge (tgt := 40) hx hb dX2_areFriends_5 (by decide) (fun _ => ?_) (fun h => absurd c2001 h)
        refine lv_iconst (v := 1) hx hb dX2_areFriends_40 (by decide) ?_
        exact e_zl C hW hS (Or.inr rfl) hm dX2_areFriends_41
      refine lv_icmp_ge (tgt := 40) hx hb dX2_areFriends_5 (by decide) (fun h => absurd h c2001) (fun _ => ?_)
      refine lv_iload_n hx hb dX2_areFriends_8 rfl (lv_at hl 1 rfl) ?_
      refine lv_iload_n hx hb dX2_areFriends_9 rfl (lv_at hl 2 rfl) ?_
      refine lv_ishr hx hb dX2_areFriends_10 ?_
      refine lv_iconst (v := 1) hx hb dX2_areFriends_11 (by decide) ?_
      refine lv_iand hx hb dX2_areFriends_12 ?_
      refine lv_iconst (v := 1) hx hb dX2_areFriends_13 (by decide) ?_
      refine q_ifc hm (fun c2002 hm => ?_) (fun c2002 hm => ?_)
      · refine lv_icmp_ne (tgt := 34) hx hb dX2_areFriends_14 (by decide) (fun h => absurd c2002 h) (fun _ => ?_)
        refine lv_iload_n hx hb dX2_areFriends_17 rfl (lv_at hl 1 rfl) ?_
        refine lv_aload_n hx hb dX2_areFriends_18 rfl (lv_at hl 0 rfl) ?_
        refine r_getF C hW (ci := 2) kx0_2 ff_2_0 cl_2 fl_RX2_14 dX2_areFriends_19 (fun k2003 => ?_)
        refine lv_iload_n hx hb dX2_areFriends_22 rfl (lv_at hl 2 rfl) ?_
        obtain ⟨v2005, hc2004, hm⟩ := q_b1i hm
        refine q_callV C hW hS (As := [.int x2_2]) (rest := [.int x1_2]) (st1 := [.int v2005, .int x1_2]) (c_X5_small l D al dt (al.2.2 x0_2 0) x2_2 k2003 v2005 hc2004) yl_X5_small vl_X5_small ml_RX2_80 (ci := 5) rfl k2003 (by decide) rfl ⟨Nat.le_of_ble_eq_true rfl, Nat.le_of_ble_eq_true rfl⟩ hl rfl (Nat.le_of_ble_eq_true rfl) dX2_areFriends_23 ⟨Nat.le_refl _, Nat.le_refl _⟩ rfl (fun H locs k2006 hW hS => ?_)
        refine lv_iconst (v := (-1)) hx hb dX2_areFriends_26 (by decide) ?_
        refine lv_ixor hx hb dX2_areFriends_27 ?_
        refine lv_iand hx hb dX2_areFriends_28 ?_
        refine q_ifc hm (fun c2007 hm => ?_) (fun c2007 hm => ?_)
        · refine lv_if_eq (tgt := 34) hx hb dX2_areFriends_29 (by decide) (fun _ => ?_) (fun h => absurd c2007 h)
          exact hB34 x2_2 _ _ _ hm hW hS (lv_sub hl [0, 1, 2] rfl)
        refine lv_if_eq (tgt := 34) hx hb dX2_areFriends_29 (by decide) (fun h => absurd h c2007) (fun _ => ?_)
        refine lv_iconst (v := 0) hx hb dX2_areFriends_32 (by decide) ?_
        exact e_zl C hW hS (Or.inl rfl) hm dX2_areFriends_33
      refine lv_icmp_ne (tgt := 34) hx hb dX2_areFriends_14 (by decide) (fun _ => ?_) (fun h => absurd h c2002)
      exact hB34 x2_2 _ _ _ hm hW hS (lv_sub hl [0, 1, 2] rfl)
  refine lv_iconst (v := 0) hx hb dX2_areFriends_0 (by decide) ?_
  refine lv_istore_n (i := 2) (lv' := [(2, .int 0), (0, .ref x0), (1, .int x1)]) hx hb dX2_areFriends_1 rfl hl (by decide) rfl (fun ls hl => ?_)
  exact hB2 x0 x1 kx0 q_FU 0 _ _ _ hm hW hS (lv_sub hl [1, 2, 0] rfl)
theorem dX2_familyOf_0 : decode cX2_familyOf 0 = .ok (.aload_n 0, 1) := by decide +kernel
theorem dX2_familyOf_1 : decode cX2_familyOf 1 = .ok (.getfield 14, 3) := by decide +kernel
theorem dX2_familyOf_4 : decode cX2_familyOf 4 = .ok (.invokevirtual 29, 3) := by decide +kernel
theorem dX2_familyOf_7 : decode cX2_familyOf 7 = .ok (.iconst 0, 1) := by decide +kernel
theorem dX2_familyOf_8 : decode cX2_familyOf 8 = .ok (.istore_n 3, 1) := by decide +kernel
theorem dX2_familyOf_9 : decode cX2_familyOf 9 = .ok (.iload_n 3, 1) := by decide +kernel
theorem dX2_familyOf_10 : decode cX2_familyOf 10 = .ok (.aload_n 1, 1) := by decide +kernel
theorem dX2_familyOf_11 : decode cX2_familyOf 11 = .ok (.getfield 32, 3) := by decide +kernel
theorem dX2_familyOf_14 : decode cX2_familyOf 14 = .ok (.if_icmp .ge 33, 3) := by decide +kernel
theorem dX2_familyOf_17 : decode cX2_familyOf 17 = .ok (.iconst 0, 1) := by decide +kernel
theorem dX2_familyOf_18 : decode cX2_familyOf 18 = .ok (.istore 4, 2) := by decide +kernel
theorem dX2_familyOf_20 : decode cX2_familyOf 20 = .ok (.iload 4, 2) := by decide +kernel
theorem dX2_familyOf_22 : decode cX2_familyOf 22 = .ok (.iload_n 3, 1) := by decide +kernel
theorem dX2_familyOf_23 : decode cX2_familyOf 23 = .ok (.if_icmp .gt 18, 3) := by decide +kernel
theorem dX2_familyOf_26 : decode cX2_familyOf 26 = .ok (.aload_n 0, 1) := by decide +kernel
theorem dX2_familyOf_27 : decode cX2_familyOf 27 = .ok (.aload_n 1, 1) := by decide +kernel
theorem dX2_familyOf_28 : decode cX2_familyOf 28 = .ok (.iload_n 3, 1) := by decide +kernel
theorem dX2_familyOf_29 : decode cX2_familyOf 29 = .ok (.iload 4, 2) := by decide +kernel
theorem dX2_familyOf_31 : decode cX2_familyOf 31 = .ok (.iload_n 2, 1) := by decide +kernel
theorem dX2_familyOf_32 : decode cX2_familyOf 32 = .ok (.invokevirtual 38, 3) := by decide +kernel
theorem dX2_familyOf_35 : decode cX2_familyOf 35 = .ok (.iinc 4 1, 3) := by decide +kernel
theorem dX2_familyOf_38 : decode cX2_familyOf 38 = .ok (.goto (-18), 3) := by decide +kernel
theorem dX2_familyOf_41 : decode cX2_familyOf 41 = .ok (.iinc 3 1, 3) := by decide +kernel
theorem dX2_familyOf_44 : decode cX2_familyOf 44 = .ok (.goto (-35), 3) := by decide +kernel
theorem dX2_familyOf_47 : decode cX2_familyOf 47 = .ok (.iconst 0, 1) := by decide +kernel
theorem dX2_familyOf_48 : decode cX2_familyOf 48 = .ok (.istore_n 3, 1) := by decide +kernel
theorem dX2_familyOf_49 : decode cX2_familyOf 49 = .ok (.iconst 1, 1) := by decide +kernel
theorem dX2_familyOf_50 : decode cX2_familyOf 50 = .ok (.istore 4, 2) := by decide +kernel
theorem dX2_familyOf_52 : decode cX2_familyOf 52 = .ok (.iload 4, 2) := by decide +kernel
theorem dX2_familyOf_54 : decode cX2_familyOf 54 = .ok (.iconst 1, 1) := by decide +kernel
theorem dX2_familyOf_55 : decode cX2_familyOf 55 = .ok (.aload_n 1, 1) := by decide +kernel
theorem dX2_familyOf_56 : decode cX2_familyOf 56 = .ok (.getfield 32, 3) := by decide +kernel
theorem dX2_familyOf_59 : decode cX2_familyOf 59 = .ok (.bipush 8, 2) := by decide +kernel
theorem dX2_familyOf_61 : decode cX2_familyOf 61 = .ok (.invokestatic 42, 3) := by decide +kernel
theorem dX2_familyOf_64 : decode cX2_familyOf 64 = .ok (.ishl, 1) := by decide +kernel
theorem dX2_familyOf_65 : decode cX2_familyOf 65 = .ok (.if_icmp .ge 33, 3) := by decide +kernel
theorem dX2_familyOf_68 : decode cX2_familyOf 68 = .ok (.iload 4, 2) := by decide +kernel
theorem dX2_familyOf_70 : decode cX2_familyOf 70 = .ok (.invokestatic 48, 3) := by decide +kernel
theorem dX2_familyOf_73 : decode cX2_familyOf 73 = .ok (.iload_n 3, 1) := by decide +kernel
theorem dX2_familyOf_74 : decode cX2_familyOf 74 = .ok (.invokestatic 48, 3) := by decide +kernel
theorem dX2_familyOf_77 : decode cX2_familyOf 77 = .ok (.if_icmp .le 15, 3) := by decide +kernel
theorem dX2_familyOf_80 : decode cX2_familyOf 80 = .ok (.aload_n 0, 1) := by decide +kernel
theorem dX2_familyOf_81 : decode cX2_familyOf 81 = .ok (.iload 4, 2) := by decide +kernel
theorem dX2_familyOf_83 : decode cX2_familyOf 83 = .ok (.invokevirtual 54, 3) := by decide +kernel
theorem dX2_familyOf_86 : decode cX2_familyOf 86 = .ok (.ifCond .eq 6, 3) := by decide +kernel
theorem dX2_familyOf_89 : decode cX2_familyOf 89 = .ok (.iload 4, 2) := by decide +kernel
theorem dX2_familyOf_91 : decode cX2_familyOf 91 = .ok (.istore_n 3, 1) := by decide +kernel
theorem dX2_familyOf_92 : decode cX2_familyOf 92 = .ok (.iinc 4 1, 3) := by decide +kernel
theorem dX2_familyOf_95 : decode cX2_familyOf 95 = .ok (.goto (-43), 3) := by decide +kernel
theorem dX2_familyOf_98 : decode cX2_familyOf 98 = .ok (.iload_n 3, 1) := by decide +kernel
theorem dX2_familyOf_99 : decode cX2_familyOf 99 = .ok (.ireturn, 1) := by decide +kernel
set_option maxRecDepth 100000 in
theorem c_X2_familyOf (l : Launch) (D : q_D) (al : q_Al) (dt : q_Dt) (x0 : Nat) (x1 : Option Nat) (x2 : Int32) (kx0 : al.1 x0 = 3) (kx1 : ∀ b, x1 = some b → al.1 b = 11) (r0 : Int32) (dt0 : q_Dt) (hm : X2_familyOf al dt x0 x1 x2 = some (r0, dt0)) : q_Mt l yX2_familyOf cX2_familyOf 5 (some FieldType.int) 6 145 D al [.ref x0, va_rf x1, .int x2] dt 0 (some (.int r0)) dt0 := by
  refine q_Mt.of (by decide) (by simp [lg_sl, q_cat, q_catR, q_catI, q_catL]) ?_
  intro p e s m args below meth c ls C hargs hW hl
  have hx := C.1
  have hb := C.2.1
  have hown := C.2.2.2.2.2.1
  have hts := C.2.2.2.2.2.2.1
  have hS : va_S (q_A al) s.heap s.heap [] := va_S.rf
  have hl : lv_has ls 5 [(0, .ref x0), (1, va_rf x1), (2, .int x2)] := by simpa [lv_args, q_cat, q_catR, q_catI, q_catL] using hl
  unfold X2_familyOf at hm
  have hB52 : ∀ (x0_52 : Nat) (x1_52 : Nat) (kx0_52 : al.1 x0_52 = 3) (kx1_52 : al.1 x1_52 = 11) (n_52 : Nat) (x3_52 : Int32) (x4_52 : Int32) (dt : q_Dt) (H : Heap) (locs : List Loc) (ls : Array Slot) (hm : X2_familyOf_b52 al x0_52 x1_52 n_52 x3_52 x4_52 dt = some (r0, dt0)) (hW : q_W D al dt H) (hS : va_S (q_A al) s.heap H locs) (hl : lv_has ls 5 [(0, .ref x0_52), (1, .ref x1_52), (3, .int x3_52), (4, .int x4_52)]), W p l e { frames := 6, cells := 0, slots := 0, locals := 145 } s m args below meth c H locs 0 0 (MQ below (q_Q (some (.int r0)) (fun H => q_W D al dt0 H ∧ q_Rk al 0 (some (.int r0))) (q_A al)) args s 0 0 (q_A al)) (F0 m 52 ls []) := by
    intro x0_52 x1_52 kx0_52 kx1_52
    intro n_52
    induction n_52 with
    | zero => intro x3_52 x4_52 dt H locs ls hm hW hS hl; cases hm
    | succ n_52 ih52 =>
      have hB92 : ∀ (x3_92 : Int32) (x4_92 : Int32) (dt : q_Dt) (H : Heap) (locs : List Loc) (ls : Array Slot) (hm : X2_familyOf_b92 al (X2_familyOf_b52 al x0_52 x1_52 n_52) x0_52 x1_52 x3_92 x4_92 dt = some (r0, dt0)) (hW : q_W D al dt H) (hS : va_S (q_A al) s.heap H locs) (hl : lv_has ls 5 [(0, .ref x0_52), (1, .ref x1_52), (3, .int x3_92), (4, .int x4_92)]), W p l e { frames := 6, cells := 0, slots := 0, locals := 145 } s m args below meth c H locs 0 0 (MQ below (q_Q (some (.int r0)) (fun H => q_W D al dt0 H ∧ q_Rk al 0 (some (.int r0))) (q_A al)) args s 0 0 (q_A al)) (F0 m 92 ls []) := by
        intro x3_92 x4_92 dt H locs ls hm hW hS hl
        unfold X2_familyOf_b92 at hm
        refine lv_iinc (v := (x4_92 + 1)) (lv' := [(4, .int (x4_92 + 1)), (0, .ref x0_52), (1, .ref x1_52), (3, .int x3_92)]) hx hb dX2_familyOf_92 hl (k := 3) rfl rfl (by decide) rfl (fun ls hl => ?_)
        refine lv_goto (tgt := 52) hx hb dX2_familyOf_95 (by decide) ?_
        exact ih52 x3_92 (x4_92 + 1) dt _ _ _ hm hW hS (lv_sub hl [1, 2, 3, 0] rfl)
      intro x3_52 x4_52 dt H locs ls hm hW hS hl
      rw [X2_familyOf_b52] at hm
      refine lv_iload hx hb dX2_familyOf_52 (lv_at hl 3 rfl) ?_
      refine lv_iconst (v := 1) hx hb dX2_familyOf_54 (by decide) ?_
      refine lv_aload_n hx hb dX2_familyOf_55 rfl (lv_at hl 1 rfl) ?_
      refine r_getI C hW (ci := 10) kx1_52 ff_10_7 cl_10 fl_RX2_32 dX2_familyOf_56 ?_
      refine lv_bipush (v := 8) hx hb dX2_familyOf_59 (by decide) ?_
      refine q_mmin C hl wm_RX2_42 wms_min wmi wmc_min (Nat.le_of_ble_eq_true rfl) (Nat.le_of_ble_eq_true rfl) ⟨Nat.le_refl _, Nat.le_refl _⟩ dX2_familyOf_61 ?_
      refine lv_ishl hx hb dX2_familyOf_64 ?_
      refine q_ifc hm (fun c52001 hm => ?_) (fun c52001 hm => ?_)
      · refine lv_icmp_ge (tgt := 98) hx hb dX2_familyOf_65 (by decide) (fun _ => ?_) (fun h => absurd c52001 h)
        refine lv_iload_n hx hb dX2_familyOf_98 rfl (lv_at hl 2 rfl) ?_
        exact e_iD C hW hS hm dX2_familyOf_99
      refine lv_icmp_ge (tgt := 98) hx hb dX2_familyOf_65 (by decide) (fun h => absurd h c52001) (fun _ => ?_)
      refine lv_iload hx hb dX2_familyOf_68 (lv_at hl 3 rfl) ?_
      obtain ⟨v52003, hc52002, hm⟩ := q_b1i hm
      refine q_callS C hW hS (As := [.int x4_52]) (rest := []) (st1 := [.int v52003]) (c_J6_bitCount_0f7a4 l D al dt x4_52 v52003 hc52002) yl_J6_bitCount_0f7a4 sl_J6_bitCount_0f7a4 ml_RX2_48 rfl ⟨Nat.le_of_ble_eq_true rfl, Nat.le_of_ble_eq_true rfl⟩ hl rfl (Nat.le_of_ble_eq_true rfl) dX2_familyOf_70 ⟨Nat.le_refl _, Nat.le_refl _⟩ rfl (fun H locs k52004 hW hS => ?_)
      refine lv_iload_n hx hb dX2_familyOf_73 rfl (lv_at hl 2 rfl) ?_
      obtain ⟨v52006, hc52005, hm⟩ := q_b1i hm
      refine q_callS C hW hS (As := [.int x3_52]) (rest := [.int v52003]) (st1 := [.int v52006, .int v52003]) (c_J6_bitCount_0f7a4 l D al dt x3_52 v52006 hc52005) yl_J6_bitCount_0f7a4 sl_J6_bitCount_0f7a4 ml_RX2_48 rfl ⟨Nat.le_of_ble_eq_true rfl, Nat.le_of_ble_eq_true rfl⟩ hl rfl (Nat.le_of_ble_eq_true rfl) dX2_familyOf_74 ⟨Nat.le_refl _, Nat.le_refl _⟩ rfl (fun H locs k52007 hW hS => ?_)
      refine q_ifc hm (fun c52008 hm => ?_) (fun c52008 hm => ?_)
      · refine lv_icmp_le (tgt := 92) hx hb dX2_familyOf_77 (by decide) (fun _ => ?_) (fun h => absurd c52008 h)
        exact hB92 x3_52 x4_52 dt _ _ _ hm hW hS (lv_sub hl [0, 1, 2, 3] rfl)
      refine lv_icmp_le (tgt := 92) hx hb dX2_familyOf_77 (by decide) (fun h => absurd h c52008) (fun _ => ?_)
      refine lv_aload_n hx hb dX2_familyOf_80 rfl (lv_at hl 0 rfl) ?_
      refine lv_iload hx hb dX2_familyOf_81 (lv_at hl 3 rfl) ?_
      obtain ⟨v52010, hc52009, hm⟩ := q_b1i hm
      refine q_callV C hW hS (As := [.int x4_52]) (rest := []) (st1 := [.int v52010]) (c_X2_areFriends l D al dt x0_52 x4_52 kx0_52 v52010 hc52009) yl_X2_areFriends vl_X2_areFriends ml_RX2_54 (ci := 2) rfl kx0_52 (by decide) rfl ⟨Nat.le_of_ble_eq_true rfl, Nat.le_of_ble_eq_true rfl⟩ hl rfl (Nat.le_of_ble_eq_true rfl) dX2_familyOf_83 ⟨Nat.le_refl _, Nat.le_refl _⟩ rfl (fun H locs k52011 hW hS => ?_)
      refine q_ifc hm (fun c52012 hm => ?_) (fun c52012 hm => ?_)
      · refine lv_if_eq (tgt := 92) hx hb dX2_familyOf_86 (by decide) (fun _ => ?_) (fun h => absurd c52012 h)
        exact hB92 x3_52 x4_52 dt _ _ _ hm hW hS (lv_sub hl [0, 1, 2, 3] rfl)
      refine lv_if_eq (tgt := 92) hx hb dX2_familyOf_86 (by decide) (fun h => absurd h c52012) (fun _ => ?_)
      refine lv_iload hx hb dX2_familyOf_89 (lv_at hl 3 rfl) ?_
      refine lv_istore_n (i := 3) (lv' := [(3, .int x4_52), (0, .ref x0_52), (1, .ref x1_52), (4, .int x4_52)]) hx hb dX2_familyOf_91 rfl hl (by decide) rfl (fun ls hl => ?_)
      exact hB92 x4_52 x4_52 dt _ _ _ hm hW hS (lv_sub hl [1, 2, 0, 3] rfl)
  have hB9 : ∀ (x0_9 : Nat) (x1_9 : Option Nat) (x2_9 : Int32) (kx0_9 : al.1 x0_9 = 3) (kx1_9 : ∀ b, x1_9 = some b → al.1 b = 11) (n_9 : Nat) (x3_9 : Int32) (dt : q_Dt) (H : Heap) (locs : List Loc) (ls : Array Slot) (hm : X2_familyOf_b9 al x0_9 x1_9 x2_9 n_9 x3_9 dt = some (r0, dt0)) (hW : q_W D al dt H) (hS : va_S (q_A al) s.heap H locs) (hl : lv_has ls 5 [(0, .ref x0_9), (1, va_rf x1_9), (2, .int x2_9), (3, .int x3_9)]), W p l e { frames := 6, cells := 0, slots := 0, locals := 145 } s m args below meth c H locs 0 0 (MQ below (q_Q (some (.int r0)) (fun H => q_W D al dt0 H ∧ q_Rk al 0 (some (.int r0))) (q_A al)) args s 0 0 (q_A al)) (F0 m 9 ls []) := by
    intro x0_9 x1_9 x2_9 kx0_9 kx1_9
    intro n_9
    induction n_9 with
    | zero => intro x3_9 dt H locs ls hm hW hS hl; cases hm
    | succ n_9 ih9 =>
      have hB20 : ∀ (x3_20 : Int32) (n_20 : Nat) (x4_20 : Int32) (dt : q_Dt) (H : Heap) (locs : List Loc) (ls : Array Slot) (hm : X2_familyOf_b20 al (X2_familyOf_b9 al x0_9 x1_9 x2_9 n_9) x0_9 x1_9 x2_9 x3_20 n_20 x4_20 dt = some (r0, dt0)) (hW : q_W D al dt H) (hS : va_S (q_A al) s.heap H locs) (hl : lv_has ls 5 [(0, .ref x0_9), (1, va_rf x1_9), (2, .int x2_9), (3, .int x3_20), (4, .int x4_20)]), W p l e { frames := 6, cells := 0, slots := 0, locals := 145 } s m args below meth c H locs 0 0 (MQ below (q_Q (some (.int r0)) (fun H => q_W D al dt0 H ∧ q_Rk al 0 (some (.int r0))) (q_A al)) args s 0 0 (q_A al)) (F0 m 20 ls []) := by
        intro x3_20
        intro n_20
        induction n_20 with
        | zero => intro x4_20 dt H locs ls hm hW hS hl; cases hm
        | succ n_20 ih20 =>
          intro x4_20 dt H locs ls hm hW hS hl
          rw [X2_familyOf_b20] at hm
          refine lv_iload hx hb dX2_familyOf_20 (lv_at hl 4 rfl) ?_
          refine lv_iload_n hx hb dX2_familyOf_22 rfl (lv_at hl 3 rfl) ?_
          refine q_ifc hm (fun c20001 hm => ?_) (fun c20001 hm => ?_)
          · refine lv_icmp_gt (tgt := 41) hx hb dX2_familyOf_23 (by decide) (fun _ => ?_) (fun h => absurd c20001 h)
            refine lv_iinc (v := (x3_20 + 1)) (lv' := [(3, .int (x3_20 + 1)), (0, .ref x0_9), (1, va_rf x1_9), (2, .int x2_9), (4, .int x4_20)]) hx hb dX2_familyOf_41 hl (k := 3) rfl rfl (by decide) rfl (fun ls hl => ?_)
            refine lv_goto (tgt := 9) hx hb dX2_familyOf_44 (by decide) ?_
            exact ih9 (x3_20 + 1) dt _ _ _ hm hW hS (lv_sub hl [1, 2, 3, 0] rfl)
          refine lv_icmp_gt (tgt := 41) hx hb dX2_familyOf_23 (by decide) (fun h => absurd h c20001) (fun _ => ?_)
          refine lv_aload_n hx hb dX2_familyOf_26 rfl (lv_at hl 0 rfl) ?_
          refine q_aloadQ_n C dX2_familyOf_27 rfl (lv_at hl 1 rfl) ?_
          refine lv_iload_n hx hb dX2_familyOf_28 rfl (lv_at hl 3 rfl) ?_
          refine lv_iload hx hb dX2_familyOf_29 (lv_at hl 4 rfl) ?_
          refine lv_iload_n hx hb dX2_familyOf_31 rfl (lv_at hl 2 rfl) ?_
          obtain ⟨dt20003, hc20002, hm⟩ := q_b1i hm
          refine q_callV C hW hS (As := [va_rf x1_9, .int x3_20, .int x4_20, .int x2_9]) (rest := []) (st1 := []) (c_X2_befriend l D al dt x0_9 x1_9 x3_20 x4_20 x2_9 kx0_9 kx1_9 dt20003 hc20002) yl_X2_befriend vl_X2_befriend ml_RX2_38 (ci := 2) rfl kx0_9 (by decide) rfl ⟨Nat.le_of_ble_eq_true rfl, Nat.le_of_ble_eq_true rfl⟩ hl rfl (Nat.le_of_ble_eq_true rfl) dX2_familyOf_32 ⟨Nat.le_refl _, Nat.le_refl _⟩ rfl (fun H locs k20004 hW hS => ?_)
          refine lv_iinc (v := (x4_20 + 1)) (lv' := [(4, .int (x4_20 + 1)), (0, .ref x0_9), (1, va_rf x1_9), (2, .int x2_9), (3, .int x3_20)]) hx hb dX2_familyOf_35 hl (k := 4) rfl rfl (by decide) rfl (fun ls hl => ?_)
          refine lv_goto (tgt := 20) hx hb dX2_familyOf_38 (by decide) ?_
          exact ih20 (x4_20 + 1) dt20003 _ _ _ hm hW hS (lv_sub hl [1, 2, 3, 4, 0] rfl)
      intro x3_9 dt H locs ls hm hW hS hl
      rw [X2_familyOf_b9] at hm
      refine lv_iload_n hx hb dX2_familyOf_9 rfl (lv_at hl 3 rfl) ?_
      refine q_aloadQ_n C dX2_familyOf_10 rfl (lv_at hl 1 rfl) ?_
      obtain ⟨b9001, e9002, hq9003⟩ := q_mi hm
      subst e9002
      have hm := hq9003
      have k9004 := kx1_9 b9001 rfl
      refine r_getI C hW (ci := 10) k9004 ff_10_7 cl_10 fl_RX2_32 dX2_familyOf_11 ?_
      refine q_ifc hm (fun c9005 hm => ?_) (fun c9005 hm => ?_)
      · refine lv_icmp_ge (tgt := 47) hx hb dX2_familyOf_14 (by decide) (fun _ => ?_) (fun h => absurd c9005 h)
        refine lv_iconst (v := 0) hx hb dX2_familyOf_47 (by decide) ?_
        refine lv_istore_n (i := 3) (lv' := [(3, .int 0), (0, .ref x0_9), (1, .ref b9001), (2, .int x2_9)]) hx hb dX2_familyOf_48 rfl hl (by decide) rfl (fun ls hl => ?_)
        refine lv_iconst (v := 1) hx hb dX2_familyOf_49 (by decide) ?_
        refine lv_istore (i := 4) (lv' := [(4, .int 1), (3, .int 0), (0, .ref x0_9), (1, .ref b9001), (2, .int x2_9)]) hx hb dX2_familyOf_50 hl (by decide) rfl (fun ls hl => ?_)
        exact hB52 x0_9 b9001 kx0_9 k9004 q_FU 0 1 dt _ _ _ hm hW hS (lv_sub hl [2, 3, 1, 0] rfl)
      refine lv_icmp_ge (tgt := 47) hx hb dX2_familyOf_14 (by decide) (fun h => absurd h c9005) (fun _ => ?_)
      refine lv_iconst (v := 0) hx hb dX2_familyOf_17 (by decide) ?_
      refine lv_istore (i := 4) (lv' := [(4, .int 0), (0, .ref x0_9), (1, .ref b9001), (2, .int x2_9), (3, .int x3_9)]) hx hb dX2_familyOf_18 hl (by decide) rfl (fun ls hl => ?_)
      exact hB20 x3_9 q_FU 0 dt _ _ _ hm hW hS (lv_sub hl [1, 2, 3, 4, 0] rfl)
  refine lv_aload_n hx hb dX2_familyOf_0 rfl (lv_at hl 0 rfl) ?_
  refine r_getF C hW (ci := 2) kx0 ff_2_0 cl_2 fl_RX2_14 dX2_familyOf_1 (fun k1000001 => ?_)
  obtain ⟨dt1000003, hc1000002, hm⟩ := q_b1i hm
  refine q_callV C hW hS (As := []) (rest := []) (st1 := []) (c_X5_clear l D al dt (al.2.2 x0 0) k1000001 dt1000003 hc1000002) yl_X5_clear vl_X5_clear ml_RX2_29 (ci := 5) rfl k1000001 (by decide) rfl ⟨Nat.le_of_ble_eq_true rfl, Nat.le_of_ble_eq_true rfl⟩ hl rfl (Nat.le_of_ble_eq_true rfl) dX2_familyOf_4 ⟨Nat.le_refl _, Nat.le_refl _⟩ rfl (fun H locs k1000004 hW hS => ?_)
  refine lv_iconst (v := 0) hx hb dX2_familyOf_7 (by decide) ?_
  refine lv_istore_n (i := 3) (lv' := [(3, .int 0), (0, .ref x0), (1, va_rf x1), (2, .int x2)]) hx hb dX2_familyOf_8 rfl hl (by decide) rfl (fun ls hl => ?_)
  exact hB9 x0 x1 x2 kx0 kx1 q_FU 0 dt1000003 _ _ _ hm hW hS (lv_sub hl [1, 2, 3, 0] rfl)
theorem dX5_takeOver_0 : decode cX5_takeOver 0 = .ok (.iconst 0, 1) := by decide +kernel
theorem dX5_takeOver_1 : decode cX5_takeOver 1 = .ok (.istore_n 2, 1) := by decide +kernel
theorem dX5_takeOver_2 : decode cX5_takeOver 2 = .ok (.iload_n 2, 1) := by decide +kernel
theorem dX5_takeOver_3 : decode cX5_takeOver 3 = .ok (.aload_n 0, 1) := by decide +kernel
theorem dX5_takeOver_4 : decode cX5_takeOver 4 = .ok (.getfield 13, 3) := by decide +kernel
theorem dX5_takeOver_7 : decode cX5_takeOver 7 = .ok (.arraylength, 1) := by decide +kernel
theorem dX5_takeOver_8 : decode cX5_takeOver 8 = .ok (.if_icmp .ge 20, 3) := by decide +kernel
theorem dX5_takeOver_11 : decode cX5_takeOver 11 = .ok (.aload_n 0, 1) := by decide +kernel
theorem dX5_takeOver_12 : decode cX5_takeOver 12 = .ok (.getfield 13, 3) := by decide +kernel
theorem dX5_takeOver_15 : decode cX5_takeOver 15 = .ok (.iload_n 2, 1) := by decide +kernel
theorem dX5_takeOver_16 : decode cX5_takeOver 16 = .ok (.aload_n 1, 1) := by decide +kernel
theorem dX5_takeOver_17 : decode cX5_takeOver 17 = .ok (.iload_n 2, 1) := by decide +kernel
theorem dX5_takeOver_18 : decode cX5_takeOver 18 = .ok (.invokevirtual 19, 3) := by decide +kernel
theorem dX5_takeOver_21 : decode cX5_takeOver 21 = .ok (.lastore, 1) := by decide +kernel
theorem dX5_takeOver_22 : decode cX5_takeOver 22 = .ok (.iinc 2 1, 3) := by decide +kernel
theorem dX5_takeOver_25 : decode cX5_takeOver 25 = .ok (.goto (-23), 3) := by decide +kernel
theorem dX5_takeOver_28 : decode cX5_takeOver 28 = .ok (.return_, 1) := by decide +kernel
set_option maxRecDepth 100000 in
theorem c_X5_takeOver (l : Launch) (D : q_D) (al : q_Al) (dt : q_Dt) (x0 : Nat) (x1 : Nat) (kx0 : al.1 x0 = 6) (kx1 : al.1 x1 = 6) (dt0 : q_Dt) (hm : X5_takeOver al dt x0 x1 = some dt0) : q_Mt l yX5_takeOver cX5_takeOver 3 (none) 1 21 D al [.ref x0, .ref x1] dt 0 none dt0 := by
  refine q_Mt.of (by decide) (Nat.le_of_ble_eq_true rfl) ?_
  intro p e s m args below meth c ls C hargs hW hl
  have hx := C.1
  have hb := C.2.1
  have hown := C.2.2.2.2.2.1
  have hts := C.2.2.2.2.2.2.1
  have hS : va_S (q_A al) s.heap s.heap [] := va_S.rf
  have hl : lv_has ls 3 [(0, .ref x0), (1, .ref x1)] := hl
  unfold X5_takeOver at hm
  have hB2 : ∀ (x0_2 : Nat) (x1_2 : Nat) (kx0_2 : al.1 x0_2 = 6) (kx1_2 : al.1 x1_2 = 6) (n_2 : Nat) (x2_2 : Int32) (dt : q_Dt) (H : Heap) (locs : List Loc) (ls : Array Slot) (hm : X5_takeOver_b2 al x0_2 x1_2 n_2 x2_2 dt = some dt0) (hW : q_W D al dt H) (hS : va_S (q_A al) s.heap H locs) (hl : lv_has ls 3 [(0, .ref x0_2), (1, .ref x1_2), (2, .int x2_2)]), W p l e { frames := 1, cells := 0, slots := 0, locals := 21 } s m args below meth c H locs 0 0 (MQ below (q_Q none (fun H => q_W D al dt0 H ∧ q_Rk al 0 none) (q_A al)) args s 0 0 (q_A al)) (F0 m 2 ls []) := by
    intro x0_2 x1_2 kx0_2 kx1_2
    intro n_2
    induction n_2 with
    | zero => intro x2_2 dt H locs ls hm hW hS hl; cases hm
    | succ n_2 ih2 =>
      intro x2_2 dt H locs ls hm hW hS hl
      rw [X5_takeOver_b2] at hm
      refine lv_iload_n hx hb dX5_takeOver_2 rfl (lv_at hl 2 rfl) ?_
      refine lv_aload_n hx hb dX5_takeOver_3 rfl (lv_at hl 0 rfl) ?_
      refine r_getF C hW (ci := 5) kx0_2 ff_5_0 cl_5 fl_RX5_13 dX5_takeOver_4 (fun k2001 => ?_)
      refine q_alenJ C hW k2001 dX5_takeOver_7 ?_
      refine q_ifc hm (fun c2002 hm => ?_) (fun c2002 hm => ?_)
      · refine lv_icmp_ge (tgt := 28) hx hb dX5_takeOver_8 (by decide) (fun _ => ?_) (fun h => absurd c2002 h)
        exact e_vD C hW hS hm dX5_takeOver_28
      refine lv_icmp_ge (tgt := 28) hx hb dX5_takeOver_8 (by decide) (fun h => absurd h c2002) (fun _ => ?_)
      refine lv_aload_n hx hb dX5_takeOver_11 rfl (lv_at hl 0 rfl) ?_
      refine r_getF C hW (ci := 5) kx0_2 ff_5_0 cl_5 fl_RX5_13 dX5_takeOver_12 (fun k2003 => ?_)
      refine lv_iload_n hx hb dX5_takeOver_15 rfl (lv_at hl 2 rfl) ?_
      refine lv_aload_n hx hb dX5_takeOver_16 rfl (lv_at hl 1 rfl) ?_
      refine lv_iload_n hx hb dX5_takeOver_17 rfl (lv_at hl 2 rfl) ?_
      obtain ⟨v2005, hc2004, hm⟩ := q_b1i hm
      refine q_callV C hW hS (As := [.int x2_2]) (rest := [.int x2_2, .ref (al.2.2 x0_2 0)]) (st1 := [.long v2005, .int x2_2, .ref (al.2.2 x0_2 0)]) (c_X5_at l D al dt x1_2 x2_2 kx1_2 v2005 hc2004) yl_X5_at vl_X5_at ml_RX5_19 (ci := 5) rfl kx1_2 (by decide) rfl ⟨Nat.le_of_ble_eq_true rfl, Nat.le_of_ble_eq_true rfl⟩ hl rfl (Nat.le_of_ble_eq_true rfl) dX5_takeOver_18 ⟨Nat.le_refl _, Nat.le_refl _⟩ rfl (fun H locs k2006 hW hS => ?_)
      refine r_last C hW hS hm k2003 dX5_takeOver_21 (fun dt2007 H locs hm hW hS => ?_)
      refine lv_iinc (v := (x2_2 + 1)) (lv' := [(2, .int (x2_2 + 1)), (0, .ref x0_2), (1, .ref x1_2)]) hx hb dX5_takeOver_22 hl (k := 2) rfl rfl (by decide) rfl (fun ls hl => ?_)
      refine lv_goto (tgt := 2) hx hb dX5_takeOver_25 (by decide) ?_
      exact ih2 (x2_2 + 1) dt2007 _ _ _ hm hW hS (lv_sub hl [1, 2, 0] rfl)
  refine lv_iconst (v := 0) hx hb dX5_takeOver_0 (by decide) ?_
  refine lv_istore_n (i := 2) (lv' := [(2, .int 0), (0, .ref x0), (1, .ref x1)]) hx hb dX5_takeOver_1 rfl hl (by decide) rfl (fun ls hl => ?_)
  exact hB2 x0 x1 kx0 kx1 q_FU 0 dt _ _ _ hm hW hS (lv_sub hl [1, 2, 0] rfl)
theorem dX2_fails_0 : decode cX2_fails 0 = .ok (.iconst 0, 1) := by decide +kernel
theorem dX2_fails_1 : decode cX2_fails 1 = .ok (.istore 4, 2) := by decide +kernel
theorem dX2_fails_3 : decode cX2_fails 3 = .ok (.iconst 0, 1) := by decide +kernel
theorem dX2_fails_4 : decode cX2_fails 4 = .ok (.istore 5, 2) := by decide +kernel
theorem dX2_fails_6 : decode cX2_fails 6 = .ok (.iload 5, 2) := by decide +kernel
theorem dX2_fails_8 : decode cX2_fails 8 = .ok (.iload_n 3, 1) := by decide +kernel
theorem dX2_fails_9 : decode cX2_fails 9 = .ok (.if_icmp .gt 44, 3) := by decide +kernel
theorem dX2_fails_12 : decode cX2_fails 12 = .ok (.aload_n 1, 1) := by decide +kernel
theorem dX2_fails_13 : decode cX2_fails 13 = .ok (.iload_n 2, 1) := by decide +kernel
theorem dX2_fails_14 : decode cX2_fails 14 = .ok (.iload 5, 2) := by decide +kernel
theorem dX2_fails_16 : decode cX2_fails 16 = .ok (.isub, 1) := by decide +kernel
theorem dX2_fails_17 : decode cX2_fails 17 = .ok (.invokevirtual 97, 3) := by decide +kernel
theorem dX2_fails_20 : decode cX2_fails 20 = .ok (.ifCond .ge 7, 3) := by decide +kernel
theorem dX2_fails_23 : decode cX2_fails 23 = .ok (.iconst 1, 1) := by decide +kernel
theorem dX2_fails_24 : decode cX2_fails 24 = .ok (.goto 4, 3) := by decide +kernel
theorem dX2_fails_27 : decode cX2_fails 27 = .ok (.iconst 0, 1) := by decide +kernel
theorem dX2_fails_28 : decode cX2_fails 28 = .ok (.istore 6, 2) := by decide +kernel
theorem dX2_fails_30 : decode cX2_fails 30 = .ok (.iload 4, 2) := by decide +kernel
theorem dX2_fails_32 : decode cX2_fails 32 = .ok (.aload_n 0, 1) := by decide +kernel
theorem dX2_fails_33 : decode cX2_fails 33 = .ok (.getfield 20, 3) := by decide +kernel
theorem dX2_fails_36 : decode cX2_fails 36 = .ok (.iload 5, 2) := by decide +kernel
theorem dX2_fails_38 : decode cX2_fails 38 = .ok (.invokevirtual 80, 3) := by decide +kernel
theorem dX2_fails_41 : decode cX2_fails 41 = .ok (.iload 6, 2) := by decide +kernel
theorem dX2_fails_43 : decode cX2_fails 43 = .ok (.iand, 1) := by decide +kernel
theorem dX2_fails_44 : decode cX2_fails 44 = .ok (.ixor, 1) := by decide +kernel
theorem dX2_fails_45 : decode cX2_fails 45 = .ok (.istore 4, 2) := by decide +kernel
theorem dX2_fails_47 : decode cX2_fails 47 = .ok (.iinc 5 1, 3) := by decide +kernel
theorem dX2_fails_50 : decode cX2_fails 50 = .ok (.goto (-44), 3) := by decide +kernel
theorem dX2_fails_53 : decode cX2_fails 53 = .ok (.iload 4, 2) := by decide +kernel
theorem dX2_fails_55 : decode cX2_fails 55 = .ok (.iconst 1, 1) := by decide +kernel
theorem dX2_fails_56 : decode cX2_fails 56 = .ok (.if_icmp .ne 7, 3) := by decide +kernel
theorem dX2_fails_59 : decode cX2_fails 59 = .ok (.iconst 1, 1) := by decide +kernel
theorem dX2_fails_60 : decode cX2_fails 60 = .ok (.goto 4, 3) := by decide +kernel
theorem dX2_fails_63 : decode cX2_fails 63 = .ok (.iconst 0, 1) := by decide +kernel
theorem dX2_fails_64 : decode cX2_fails 64 = .ok (.ireturn, 1) := by decide +kernel
set_option maxRecDepth 100000 in
theorem c_X2_fails (l : Launch) (D : q_D) (al : q_Al) (dt : q_Dt) (x0 : Nat) (x1 : Nat) (x2 : Int32) (x3 : Int32) (kx0 : al.1 x0 = 3) (kx1 : al.1 x1 = 1) (r0 : Int32) (hm : X2_fails al dt x0 x1 x2 x3 = some r0) : q_Mt l yX2_fails cX2_fails 7 (some FieldType.boolean) 2 46 D al [.ref x0, .ref x1, .int x2, .int x3] dt 0 (some (.int r0)) dt := by
  refine q_Mt.of (by decide) (Nat.le_of_ble_eq_true rfl) ?_
  intro p e s m args below meth c ls C hargs hW hl
  have hx := C.1
  have hb := C.2.1
  have hown := C.2.2.2.2.2.1
  have hts := C.2.2.2.2.2.2.1
  have hS : va_S (q_A al) s.heap s.heap [] := va_S.rf
  have hl : lv_has ls 7 [(0, .ref x0), (1, .ref x1), (2, .int x2), (3, .int x3)] := hl
  unfold X2_fails at hm
  have hB6 : ∀ (x0_6 : Nat) (x1_6 : Nat) (x2_6 : Int32) (x3_6 : Int32) (kx0_6 : al.1 x0_6 = 3) (kx1_6 : al.1 x1_6 = 1) (n_6 : Nat) (x4_6 : Int32) (x5_6 : Int32) (H : Heap) (locs : List Loc) (ls : Array Slot) (hm : X2_fails_b6 al dt x0_6 x1_6 x2_6 x3_6 n_6 x4_6 x5_6 = some r0) (hW : q_W D al dt H) (hS : va_S (q_A al) s.heap H locs) (hl : lv_has ls 7 [(0, .ref x0_6), (1, .ref x1_6), (2, .int x2_6), (3, .int x3_6), (4, .int x4_6), (5, .int x5_6)]), W p l e { frames := 2, cells := 0, slots := 0, locals := 46 } s m args below meth c H locs 0 0 (MQ below (q_Q (some (.int r0)) (fun H => q_W D al dt H ∧ q_Rk al 0 (some (.int r0))) (q_A al)) args s 0 0 (q_A al)) (F0 m 6 ls []) := by
    intro x0_6 x1_6 x2_6 x3_6 kx0_6 kx1_6
    intro n_6
    induction n_6 with
    | zero => intro x4_6 x5_6 H locs ls hm hW hS hl; cases hm
    | succ n_6 ih6 =>
      have hB28 : ∀ (x4_28 : Int32) (x5_28 : Int32) (t0_28 : Int32) (H : Heap) (locs : List Loc) (ls : Array Slot) (hm : X2_fails_b28 al dt (X2_fails_b6 al dt x0_6 x1_6 x2_6 x3_6 n_6) x0_6 x1_6 x2_6 x3_6 x4_28 x5_28 t0_28 = some r0) (hW : q_W D al dt H) (hS : va_S (q_A al) s.heap H locs) (hl : lv_has ls 7 [(0, .ref x0_6), (1, .ref x1_6), (2, .int x2_6), (3, .int x3_6), (4, .int x4_28), (5, .int x5_28)]), W p l e { frames := 2, cells := 0, slots := 0, locals := 46 } s m args below meth c H locs 0 0 (MQ below (q_Q (some (.int r0)) (fun H => q_W D al dt H ∧ q_Rk al 0 (some (.int r0))) (q_A al)) args s 0 0 (q_A al)) (F0 m 28 ls [.int t0_28]) := by
        intro x4_28 x5_28 t0_28 H locs ls hm hW hS hl
        unfold X2_fails_b28 at hm
        refine lv_istore (i := 6) (lv' := [(6, .int t0_28), (0, .ref x0_6), (1, .ref x1_6), (2, .int x2_6), (3, .int x3_6), (4, .int x4_28), (5, .int x5_28)]) hx hb dX2_fails_28 hl (by decide) rfl (fun ls hl => ?_)
        refine lv_iload hx hb dX2_fails_30 (lv_at hl 5 rfl) ?_
        refine lv_aload_n hx hb dX2_fails_32 rfl (lv_at hl 1 rfl) ?_
        refine r_getF C hW (ci := 2) kx0_6 ff_2_1 cl_2 fl_RX2_20 dX2_fails_33 (fun k28001 => ?_)
        refine lv_iload hx hb dX2_fails_36 (lv_at hl 6 rfl) ?_
        obtain ⟨v28003, hc28002, hm⟩ := q_b1i hm
        refine q_callV C hW hS (As := [.int x5_28]) (rest := [.int x4_28]) (st1 := [.int v28003, .int x4_28]) (c_X5_small l D al dt (al.2.2 x0_6 1) x5_28 k28001 v28003 hc28002) yl_X5_small vl_X5_small ml_RX2_80 (ci := 5) rfl k28001 (by decide) rfl ⟨Nat.le_of_ble_eq_true rfl, Nat.le_of_ble_eq_true rfl⟩ hl rfl (Nat.le_of_ble_eq_true rfl) dX2_fails_38 ⟨Nat.le_refl _, Nat.le_refl _⟩ rfl (fun H locs k28004 hW hS => ?_)
        refine lv_iload hx hb dX2_fails_41 (lv_at hl 0 rfl) ?_
        refine lv_iand hx hb dX2_fails_43 ?_
        refine lv_ixor hx hb dX2_fails_44 ?_
        refine lv_istore (i := 4) (lv' := [(4, .int (x4_28 ^^^ (v28003 &&& t0_28))), (6, .int t0_28), (0, .ref x0_6), (1, .ref x1_6), (2, .int x2_6), (3, .int x3_6), (5, .int x5_28)]) hx hb dX2_fails_45 hl (by decide) rfl (fun ls hl => ?_)
        refine lv_iinc (v := (x5_28 + 1)) (lv' := [(5, .int (x5_28 + 1)), (4, .int (x4_28 ^^^ (v28003 &&& t0_28))), (6, .int t0_28), (0, .ref x0_6), (1, .ref x1_6), (2, .int x2_6), (3, .int x3_6)]) hx hb dX2_fails_47 hl (k := 6) rfl rfl (by decide) rfl (fun ls hl => ?_)
        refine lv_goto (tgt := 6) hx hb dX2_fails_50 (by decide) ?_
        exact ih6 (x4_28 ^^^ (v28003 &&& t0_28)) (x5_28 + 1) _ _ _ hm hW hS (lv_sub hl [3, 4, 5, 6, 1, 0] rfl)
      intro x4_6 x5_6 H locs ls hm hW hS hl
      rw [X2_fails_b6] at hm
      refine lv_iload hx hb dX2_fails_6 (lv_at hl 5 rfl) ?_
      refine lv_iload_n hx hb dX2_fails_8 rfl (lv_at hl 3 rfl) ?_
      refine q_ifc hm (fun c6001 hm => ?_) (fun c6001 hm => ?_)
      · refine lv_icmp_gt (tgt := 53) hx hb dX2_fails_9 (by decide) (fun _ => ?_) (fun h => absurd c6001 h)
        refine lv_iload hx hb dX2_fails_53 (lv_at hl 4 rfl) ?_
        refine lv_iconst (v := 1) hx hb dX2_fails_55 (by decide) ?_
        refine q_ifc hm (fun c6002 hm => ?_) (fun c6002 hm => ?_)
        · refine lv_icmp_ne (tgt := 63) hx hb dX2_fails_56 (by decide) (fun h => absurd c6002 h) (fun _ => ?_)
          refine lv_iconst (v := 1) hx hb dX2_fails_59 (by decide) ?_
          refine lv_goto (tgt := 64) hx hb dX2_fails_60 (by decide) ?_
          exact e_zl C hW hS (Or.inr rfl) hm dX2_fails_64
        refine lv_icmp_ne (tgt := 63) hx hb dX2_fails_56 (by decide) (fun _ => ?_) (fun h => absurd h c6002)
        refine lv_iconst (v := 0) hx hb dX2_fails_63 (by decide) ?_
        exact e_zl C hW hS (Or.inl rfl) hm dX2_fails_64
      refine lv_icmp_gt (tgt := 53) hx hb dX2_fails_9 (by decide) (fun h => absurd h c6001) (fun _ => ?_)
      refine lv_aload_n hx hb dX2_fails_12 rfl (lv_at hl 1 rfl) ?_
      refine lv_iload_n hx hb dX2_fails_13 rfl (lv_at hl 2 rfl) ?_
      refine lv_iload hx hb dX2_fails_14 (lv_at hl 5 rfl) ?_
      refine lv_isub hx hb dX2_fails_16 ?_
      obtain ⟨v6004, hc6003, hm⟩ := q_b1i hm
      refine q_callV C hW hS (As := [.int (x2_6 - x5_6)]) (rest := []) (st1 := [.int v6004]) (c_X0_chipRoundAt l D al dt x1_6 (x2_6 - x5_6) kx1_6 v6004 hc6003) yl_X0_chipRoundAt vl_X0_chipRoundAt ml_RX2_97 (ci := 0) rfl kx1_6 (by decide) rfl ⟨Nat.le_of_ble_eq_true rfl, Nat.le_of_ble_eq_true rfl⟩ hl rfl (Nat.le_of_ble_eq_true rfl) dX2_fails_17 ⟨Nat.le_refl _, Nat.le_refl _⟩ rfl (fun H locs k6005 hW hS => ?_)
      refine q_ifc hm (fun c6006 hm => ?_) (fun c6006 hm => ?_)
      · refine lv_if_ge (tgt := 27) hx hb dX2_fails_20 (by decide) (fun _ => ?_) (fun h => absurd c6006 h)
        refine lv_iconst (v := 0) hx hb dX2_fails_27 (by decide) ?_
        exact hB28 x4_6 x5_6 0 _ _ _ hm hW hS (lv_sub hl [0, 1, 2, 3, 4, 5] rfl)
      refine lv_if_ge (tgt := 27) hx hb dX2_fails_20 (by decide) (fun h => absurd h c6006) (fun _ => ?_)
      refine lv_iconst (v := 1) hx hb dX2_fails_23 (by decide) ?_
      refine lv_goto (tgt := 28) hx hb dX2_fails_24 (by decide) ?_
      exact hB28 x4_6 x5_6 1 _ _ _ hm hW hS (lv_sub hl [0, 1, 2, 3, 4, 5] rfl)
  refine lv_iconst (v := 0) hx hb dX2_fails_0 (by decide) ?_
  refine lv_istore (i := 4) (lv' := [(4, .int 0), (0, .ref x0), (1, .ref x1), (2, .int x2), (3, .int x3)]) hx hb dX2_fails_1 hl (by decide) rfl (fun ls hl => ?_)
  refine lv_iconst (v := 0) hx hb dX2_fails_3 (by decide) ?_
  refine lv_istore (i := 5) (lv' := [(5, .int 0), (4, .int 0), (0, .ref x0), (1, .ref x1), (2, .int x2), (3, .int x3)]) hx hb dX2_fails_4 hl (by decide) rfl (fun ls hl => ?_)
  exact hB6 x0 x1 x2 x3 kx0 kx1 q_FU 0 0 _ _ _ hm hW hS (lv_sub hl [2, 3, 4, 5, 1, 0] rfl)
theorem dX2_mixOlder_0 : decode cX2_mixOlder 0 = .ok (.iload_n 1, 1) := by decide +kernel
theorem dX2_mixOlder_1 : decode cX2_mixOlder 1 = .ok (.istore_n 2, 1) := by decide +kernel
theorem dX2_mixOlder_2 : decode cX2_mixOlder 2 = .ok (.iload_n 2, 1) := by decide +kernel
theorem dX2_mixOlder_3 : decode cX2_mixOlder 3 = .ok (.bipush 127, 2) := by decide +kernel
theorem dX2_mixOlder_5 : decode cX2_mixOlder 5 = .ok (.if_icmp .gt 36, 3) := by decide +kernel
theorem dX2_mixOlder_8 : decode cX2_mixOlder 8 = .ok (.aload_n 0, 1) := by decide +kernel
theorem dX2_mixOlder_9 : decode cX2_mixOlder 9 = .ok (.getfield 20, 3) := by decide +kernel
theorem dX2_mixOlder_12 : decode cX2_mixOlder 12 = .ok (.iload_n 2, 1) := by decide +kernel
theorem dX2_mixOlder_13 : decode cX2_mixOlder 13 = .ok (.aload_n 0, 1) := by decide +kernel
theorem dX2_mixOlder_14 : decode cX2_mixOlder 14 = .ok (.getfield 20, 3) := by decide +kernel
theorem dX2_mixOlder_17 : decode cX2_mixOlder 17 = .ok (.iload_n 2, 1) := by decide +kernel
theorem dX2_mixOlder_18 : decode cX2_mixOlder 18 = .ok (.invokevirtual 72, 3) := by decide +kernel
theorem dX2_mixOlder_21 : decode cX2_mixOlder 21 = .ok (.aload_n 0, 1) := by decide +kernel
theorem dX2_mixOlder_22 : decode cX2_mixOlder 22 = .ok (.getfield 23, 3) := by decide +kernel
theorem dX2_mixOlder_25 : decode cX2_mixOlder 25 = .ok (.iload_n 2, 1) := by decide +kernel
theorem dX2_mixOlder_26 : decode cX2_mixOlder 26 = .ok (.iload_n 1, 1) := by decide +kernel
theorem dX2_mixOlder_27 : decode cX2_mixOlder 27 = .ok (.isub, 1) := by decide +kernel
theorem dX2_mixOlder_28 : decode cX2_mixOlder 28 = .ok (.invokevirtual 72, 3) := by decide +kernel
theorem dX2_mixOlder_31 : decode cX2_mixOlder 31 = .ok (.lxor, 1) := by decide +kernel
theorem dX2_mixOlder_32 : decode cX2_mixOlder 32 = .ok (.invokevirtual 76, 3) := by decide +kernel
theorem dX2_mixOlder_35 : decode cX2_mixOlder 35 = .ok (.iinc 2 1, 3) := by decide +kernel
theorem dX2_mixOlder_38 : decode cX2_mixOlder 38 = .ok (.goto (-36), 3) := by decide +kernel
theorem dX2_mixOlder_41 : decode cX2_mixOlder 41 = .ok (.return_, 1) := by decide +kernel
set_option maxRecDepth 100000 in
theorem c_X2_mixOlder (l : Launch) (D : q_D) (al : q_Al) (dt : q_Dt) (x0 : Nat) (x1 : Int32) (kx0 : al.1 x0 = 3) (dt0 : q_Dt) (hm : X2_mixOlder al dt x0 x1 = some dt0) : q_Mt l yX2_mixOlder cX2_mixOlder 3 (none) 1 23 D al [.ref x0, .int x1] dt 0 none dt0 := by
  refine q_Mt.of (by decide) (Nat.le_of_ble_eq_true rfl) ?_
  intro p e s m args below meth c ls C hargs hW hl
  have hx := C.1
  have hb := C.2.1
  have hown := C.2.2.2.2.2.1
  have hts := C.2.2.2.2.2.2.1
  have hS : va_S (q_A al) s.heap s.heap [] := va_S.rf
  have hl : lv_has ls 3 [(0, .ref x0), (1, .int x1)] := hl
  unfold X2_mixOlder at hm
  have hB2 : ∀ (x0_2 : Nat) (x1_2 : Int32) (kx0_2 : al.1 x0_2 = 3) (n_2 : Nat) (x2_2 : Int32) (dt : q_Dt) (H : Heap) (locs : List Loc) (ls : Array Slot) (hm : X2_mixOlder_b2 al x0_2 x1_2 n_2 x2_2 dt = some dt0) (hW : q_W D al dt H) (hS : va_S (q_A al) s.heap H locs) (hl : lv_has ls 3 [(0, .ref x0_2), (1, .int x1_2), (2, .int x2_2)]), W p l e { frames := 1, cells := 0, slots := 0, locals := 23 } s m args below meth c H locs 0 0 (MQ below (q_Q none (fun H => q_W D al dt0 H ∧ q_Rk al 0 none) (q_A al)) args s 0 0 (q_A al)) (F0 m 2 ls []) := by
    intro x0_2 x1_2 kx0_2
    intro n_2
    induction n_2 with
    | zero => intro x2_2 dt H locs ls hm hW hS hl; cases hm
    | succ n_2 ih2 =>
      intro x2_2 dt H locs ls hm hW hS hl
      rw [X2_mixOlder_b2] at hm
      refine lv_iload_n hx hb dX2_mixOlder_2 rfl (lv_at hl 2 rfl) ?_
      refine lv_bipush (v := 127) hx hb dX2_mixOlder_3 (by decide) ?_
      refine q_ifc hm (fun c2001 hm => ?_) (fun c2001 hm => ?_)
      · refine lv_icmp_gt (tgt := 41) hx hb dX2_mixOlder_5 (by decide) (fun _ => ?_) (fun h => absurd c2001 h)
        exact e_vD C hW hS hm dX2_mixOlder_41
      refine lv_icmp_gt (tgt := 41) hx hb dX2_mixOlder_5 (by decide) (fun h => absurd h c2001) (fun _ => ?_)
      refine lv_aload_n hx hb dX2_mixOlder_8 rfl (lv_at hl 0 rfl) ?_
      refine r_getF C hW (ci := 2) kx0_2 ff_2_1 cl_2 fl_RX2_20 dX2_mixOlder_9 (fun k2002 => ?_)
      refine lv_iload_n hx hb dX2_mixOlder_12 rfl (lv_at hl 2 rfl) ?_
      refine lv_aload_n hx hb dX2_mixOlder_13 rfl (lv_at hl 0 rfl) ?_
      refine r_getF C hW (ci := 2) kx0_2 ff_2_1 cl_2 fl_RX2_20 dX2_mixOlder_14 (fun k2003 => ?_)
      refine lv_iload_n hx hb dX2_mixOlder_17 rfl (lv_at hl 2 rfl) ?_
      obtain ⟨v2005, hc2004, hm⟩ := q_b1i hm
      refine q_callV C hW hS (As := [.int x2_2]) (rest := [.int x2_2, .ref (al.2.2 x0_2 1)]) (st1 := [.long v2005, .int x2_2, .ref (al.2.2 x0_2 1)]) (c_X5_at l D al dt (al.2.2 x0_2 1) x2_2 k2003 v2005 hc2004) yl_X5_at vl_X5_at ml_RX2_72 (ci := 5) rfl k2003 (by decide) rfl ⟨Nat.le_of_ble_eq_true rfl, Nat.le_of_ble_eq_true rfl⟩ hl rfl (Nat.le_of_ble_eq_true rfl) dX2_mixOlder_18 ⟨Nat.le_refl _, Nat.le_refl _⟩ rfl (fun H locs k2006 hW hS => ?_)
      refine lv_aload_n hx hb dX2_mixOlder_21 rfl (lv_at hl 0 rfl) ?_
      refine r_getF C hW (ci := 2) kx0_2 ff_2_2 cl_2 fl_RX2_23 dX2_mixOlder_22 (fun k2007 => ?_)
      refine lv_iload_n hx hb dX2_mixOlder_25 rfl (lv_at hl 2 rfl) ?_
      refine lv_iload_n hx hb dX2_mixOlder_26 rfl (lv_at hl 1 rfl) ?_
      refine lv_isub hx hb dX2_mixOlder_27 ?_
      obtain ⟨v2009, hc2008, hm⟩ := q_b1i hm
      refine q_callV C hW hS (As := [.int (x2_2 - x1_2)]) (rest := [.long v2005, .int x2_2, .ref (al.2.2 x0_2 1)]) (st1 := [.long v2009, .long v2005, .int x2_2, .ref (al.2.2 x0_2 1)]) (c_X5_at l D al dt (al.2.2 x0_2 2) (x2_2 - x1_2) k2007 v2009 hc2008) yl_X5_at vl_X5_at ml_RX2_72 (ci := 5) rfl k2007 (by decide) rfl ⟨Nat.le_of_ble_eq_true rfl, Nat.le_of_ble_eq_true rfl⟩ hl rfl (Nat.le_of_ble_eq_true rfl) dX2_mixOlder_28 ⟨Nat.le_refl _, Nat.le_refl _⟩ rfl (fun H locs k2010 hW hS => ?_)
      refine lv_lxor hx hb dX2_mixOlder_31 ?_
      obtain ⟨dt2012, hc2011, hm⟩ := q_b1i hm
      refine q_callV C hW hS (As := [.int x2_2, .long (v2005 ^^^ v2009)]) (rest := []) (st1 := []) (c_X5_put l D al dt (al.2.2 x0_2 1) x2_2 (v2005 ^^^ v2009) k2002 dt2012 hc2011) yl_X5_put vl_X5_put ml_RX2_76 (ci := 5) rfl k2002 (by decide) rfl ⟨Nat.le_of_ble_eq_true rfl, Nat.le_of_ble_eq_true rfl⟩ hl rfl (Nat.le_of_ble_eq_true rfl) dX2_mixOlder_32 ⟨Nat.le_refl _, Nat.le_refl _⟩ rfl (fun H locs k2013 hW hS => ?_)
      refine lv_iinc (v := (x2_2 + 1)) (lv' := [(2, .int (x2_2 + 1)), (0, .ref x0_2), (1, .int x1_2)]) hx hb dX2_mixOlder_35 hl (k := 2) rfl rfl (by decide) rfl (fun ls hl => ?_)
      refine lv_goto (tgt := 2) hx hb dX2_mixOlder_38 (by decide) ?_
      exact ih2 (x2_2 + 1) dt2012 _ _ _ hm hW hS (lv_sub hl [1, 2, 0] rfl)
  refine lv_iload_n hx hb dX2_mixOlder_0 rfl (lv_at hl 1 rfl) ?_
  refine lv_istore_n (i := 2) (lv' := [(2, .int x1), (0, .ref x0), (1, .int x1)]) hx hb dX2_mixOlder_1 rfl hl (by decide) rfl (fun ls hl => ?_)
  exact hB2 x0 x1 kx0 q_FU x1 dt _ _ _ hm hW hS (lv_sub hl [1, 2, 0] rfl)
theorem dX2_depthOf_0 : decode cX2_depthOf 0 = .ok (.aload_n 0, 1) := by decide +kernel
theorem dX2_depthOf_1 : decode cX2_depthOf 1 = .ok (.getfield 20, 3) := by decide +kernel
theorem dX2_depthOf_4 : decode cX2_depthOf 4 = .ok (.invokevirtual 29, 3) := by decide +kernel
theorem dX2_depthOf_7 : decode cX2_depthOf 7 = .ok (.aload_n 0, 1) := by decide +kernel
theorem dX2_depthOf_8 : decode cX2_depthOf 8 = .ok (.getfield 20, 3) := by decide +kernel
theorem dX2_depthOf_11 : decode cX2_depthOf 11 = .ok (.iconst 0, 1) := by decide +kernel
theorem dX2_depthOf_12 : decode cX2_depthOf 12 = .ok (.lconst 1, 1) := by decide +kernel
theorem dX2_depthOf_13 : decode cX2_depthOf 13 = .ok (.invokevirtual 76, 3) := by decide +kernel
theorem dX2_depthOf_16 : decode cX2_depthOf 16 = .ok (.aload_n 0, 1) := by decide +kernel
theorem dX2_depthOf_17 : decode cX2_depthOf 17 = .ok (.getfield 23, 3) := by decide +kernel
theorem dX2_depthOf_20 : decode cX2_depthOf 20 = .ok (.aload_n 0, 1) := by decide +kernel
theorem dX2_depthOf_21 : decode cX2_depthOf 21 = .ok (.getfield 20, 3) := by decide +kernel
theorem dX2_depthOf_24 : decode cX2_depthOf 24 = .ok (.invokevirtual 83, 3) := by decide +kernel
theorem dX2_depthOf_27 : decode cX2_depthOf 27 = .ok (.iconst 0, 1) := by decide +kernel
theorem dX2_depthOf_28 : decode cX2_depthOf 28 = .ok (.istore_n 2, 1) := by decide +kernel
theorem dX2_depthOf_29 : decode cX2_depthOf 29 = .ok (.iconst 1, 1) := by decide +kernel
theorem dX2_depthOf_30 : decode cX2_depthOf 30 = .ok (.istore_n 3, 1) := by decide +kernel
theorem dX2_depthOf_31 : decode cX2_depthOf 31 = .ok (.iconst 0, 1) := by decide +kernel
theorem dX2_depthOf_32 : decode cX2_depthOf 32 = .ok (.istore 4, 2) := by decide +kernel
theorem dX2_depthOf_34 : decode cX2_depthOf 34 = .ok (.iload 4, 2) := by decide +kernel
theorem dX2_depthOf_36 : decode cX2_depthOf 36 = .ok (.iconst 2, 1) := by decide +kernel
theorem dX2_depthOf_37 : decode cX2_depthOf 37 = .ok (.aload_n 1, 1) := by decide +kernel
theorem dX2_depthOf_38 : decode cX2_depthOf 38 = .ok (.getfield 87, 3) := by decide +kernel
theorem dX2_depthOf_41 : decode cX2_depthOf 41 = .ok (.imul, 1) := by decide +kernel
theorem dX2_depthOf_42 : decode cX2_depthOf 42 = .ok (.if_icmp .ge 79, 3) := by decide +kernel
theorem dX2_depthOf_45 : decode cX2_depthOf 45 = .ok (.aload_n 0, 1) := by decide +kernel
theorem dX2_depthOf_46 : decode cX2_depthOf 46 = .ok (.aload_n 1, 1) := by decide +kernel
theorem dX2_depthOf_47 : decode cX2_depthOf 47 = .ok (.iload 4, 2) := by decide +kernel
theorem dX2_depthOf_49 : decode cX2_depthOf 49 = .ok (.iload_n 2, 1) := by decide +kernel
theorem dX2_depthOf_50 : decode cX2_depthOf 50 = .ok (.invokevirtual 90, 3) := by decide +kernel
theorem dX2_depthOf_53 : decode cX2_depthOf 53 = .ok (.ifCond .eq 59, 3) := by decide +kernel
theorem dX2_depthOf_56 : decode cX2_depthOf 56 = .ok (.iconst 2, 1) := by decide +kernel
theorem dX2_depthOf_57 : decode cX2_depthOf 57 = .ok (.iload_n 2, 1) := by decide +kernel
theorem dX2_depthOf_58 : decode cX2_depthOf 58 = .ok (.imul, 1) := by decide +kernel
theorem dX2_depthOf_59 : decode cX2_depthOf 59 = .ok (.iload 4, 2) := by decide +kernel
theorem dX2_depthOf_61 : decode cX2_depthOf 61 = .ok (.if_icmp .gt 7, 3) := by decide +kernel
theorem dX2_depthOf_64 : decode cX2_depthOf 64 = .ok (.iconst 1, 1) := by decide +kernel
theorem dX2_depthOf_65 : decode cX2_depthOf 65 = .ok (.goto 4, 3) := by decide +kernel
theorem dX2_depthOf_68 : decode cX2_depthOf 68 = .ok (.iconst 0, 1) := by decide +kernel
theorem dX2_depthOf_69 : decode cX2_depthOf 69 = .ok (.istore 5, 2) := by decide +kernel
theorem dX2_depthOf_71 : decode cX2_depthOf 71 = .ok (.aload_n 0, 1) := by decide +kernel
theorem dX2_depthOf_72 : decode cX2_depthOf 72 = .ok (.getfield 26, 3) := by decide +kernel
theorem dX2_depthOf_75 : decode cX2_depthOf 75 = .ok (.aload_n 0, 1) := by decide +kernel
theorem dX2_depthOf_76 : decode cX2_depthOf 76 = .ok (.getfield 20, 3) := by decide +kernel
theorem dX2_depthOf_79 : decode cX2_depthOf 79 = .ok (.invokevirtual 83, 3) := by decide +kernel
theorem dX2_depthOf_82 : decode cX2_depthOf 82 = .ok (.aload_n 0, 1) := by decide +kernel
theorem dX2_depthOf_83 : decode cX2_depthOf 83 = .ok (.iload_n 3, 1) := by decide +kernel
theorem dX2_depthOf_84 : decode cX2_depthOf 84 = .ok (.invokevirtual 94, 3) := by decide +kernel
theorem dX2_depthOf_87 : decode cX2_depthOf 87 = .ok (.iload 5, 2) := by decide +kernel
theorem dX2_depthOf_89 : decode cX2_depthOf 89 = .ok (.ifCond .eq 23, 3) := by decide +kernel
theorem dX2_depthOf_92 : decode cX2_depthOf 92 = .ok (.aload_n 0, 1) := by decide +kernel
theorem dX2_depthOf_93 : decode cX2_depthOf 93 = .ok (.getfield 23, 3) := by decide +kernel
theorem dX2_depthOf_96 : decode cX2_depthOf 96 = .ok (.aload_n 0, 1) := by decide +kernel
theorem dX2_depthOf_97 : decode cX2_depthOf 97 = .ok (.getfield 26, 3) := by decide +kernel
theorem dX2_depthOf_100 : decode cX2_depthOf 100 = .ok (.invokevirtual 83, 3) := by decide +kernel
theorem dX2_depthOf_103 : decode cX2_depthOf 103 = .ok (.iload 4, 2) := by decide +kernel
theorem dX2_depthOf_105 : decode cX2_depthOf 105 = .ok (.iconst 1, 1) := by decide +kernel
theorem dX2_depthOf_106 : decode cX2_depthOf 106 = .ok (.iadd, 1) := by decide +kernel
theorem dX2_depthOf_107 : decode cX2_depthOf 107 = .ok (.iload_n 2, 1) := by decide +kernel
theorem dX2_depthOf_108 : decode cX2_depthOf 108 = .ok (.isub, 1) := by decide +kernel
theorem dX2_depthOf_109 : decode cX2_depthOf 109 = .ok (.istore_n 2, 1) := by decide +kernel
theorem dX2_depthOf_110 : decode cX2_depthOf 110 = .ok (.iconst 0, 1) := by decide +kernel
theorem dX2_depthOf_111 : decode cX2_depthOf 111 = .ok (.istore_n 3, 1) := by decide +kernel
theorem dX2_depthOf_112 : decode cX2_depthOf 112 = .ok (.iinc 3 1, 3) := by decide +kernel
theorem dX2_depthOf_115 : decode cX2_depthOf 115 = .ok (.iinc 4 1, 3) := by decide +kernel
theorem dX2_depthOf_118 : decode cX2_depthOf 118 = .ok (.goto (-84), 3) := by decide +kernel
theorem dX2_depthOf_121 : decode cX2_depthOf 121 = .ok (.iload_n 2, 1) := by decide +kernel
theorem dX2_depthOf_122 : decode cX2_depthOf 122 = .ok (.ireturn, 1) := by decide +kernel
set_option maxRecDepth 100000 in
theorem c_X2_depthOf (l : Launch) (D : q_D) (al : q_Al) (dt : q_Dt) (x0 : Nat) (x1 : Nat) (kx0 : al.1 x0 = 3) (kx1 : al.1 x1 = 1) (r0 : Int32) (dt0 : q_Dt) (hm : X2_depthOf al dt x0 x1 = some (r0, dt0)) : q_Mt l yX2_depthOf cX2_depthOf 6 (some FieldType.int) 3 72 D al [.ref x0, .ref x1] dt 0 (some (.int r0)) dt0 := by
  refine q_Mt.of (by decide) (Nat.le_of_ble_eq_true rfl) ?_
  intro p e s m args below meth c ls C hargs hW hl
  have hx := C.1
  have hb := C.2.1
  have hown := C.2.2.2.2.2.1
  have hts := C.2.2.2.2.2.2.1
  have hS : va_S (q_A al) s.heap s.heap [] := va_S.rf
  have hl : lv_has ls 6 [(0, .ref x0), (1, .ref x1)] := hl
  unfold X2_depthOf at hm
  have hB34 : ∀ (x0_34 : Nat) (x1_34 : Nat) (kx0_34 : al.1 x0_34 = 3) (kx1_34 : al.1 x1_34 = 1) (n_34 : Nat) (x2_34 : Int32) (x3_34 : Int32) (x4_34 : Int32) (dt : q_Dt) (H : Heap) (locs : List Loc) (ls : Array Slot) (hm : X2_depthOf_b34 al x0_34 x1_34 n_34 x2_34 x3_34 x4_34 dt = some (r0, dt0)) (hW : q_W D al dt H) (hS : va_S (q_A al) s.heap H locs) (hl : lv_has ls 6 [(0, .ref x0_34), (1, .ref x1_34), (2, .int x2_34), (3, .int x3_34), (4, .int x4_34)]), W p l e { frames := 3, cells := 0, slots := 0, locals := 72 } s m args below meth c H locs 0 0 (MQ below (q_Q (some (.int r0)) (fun H => q_W D al dt0 H ∧ q_Rk al 0 (some (.int r0))) (q_A al)) args s 0 0 (q_A al)) (F0 m 34 ls []) := by
    intro x0_34 x1_34 kx0_34 kx1_34
    intro n_34
    induction n_34 with
    | zero => intro x2_34 x3_34 x4_34 dt H locs ls hm hW hS hl; cases hm
    | succ n_34 ih34 =>
      have hB112 : ∀ (x2_112 : Int32) (x3_112 : Int32) (x4_112 : Int32) (dt : q_Dt) (H : Heap) (locs : List Loc) (ls : Array Slot) (hm : X2_depthOf_b112 al (X2_depthOf_b34 al x0_34 x1_34 n_34) x0_34 x1_34 x2_112 x3_112 x4_112 dt = some (r0, dt0)) (hW : q_W D al dt H) (hS : va_S (q_A al) s.heap H locs) (hl : lv_has ls 6 [(0, .ref x0_34), (1, .ref x1_34), (2, .int x2_112), (3, .int x3_112), (4, .int x4_112)]), W p l e { frames := 3, cells := 0, slots := 0, locals := 72 } s m args below meth c H locs 0 0 (MQ below (q_Q (some (.int r0)) (fun H => q_W D al dt0 H ∧ q_Rk al 0 (some (.int r0))) (q_A al)) args s 0 0 (q_A al)) (F0 m 112 ls []) := by
        intro x2_112 x3_112 x4_112 dt H locs ls hm hW hS hl
        unfold X2_depthOf_b112 at hm
        refine lv_iinc (v := (x3_112 + 1)) (lv' := [(3, .int (x3_112 + 1)), (0, .ref x0_34), (1, .ref x1_34), (2, .int x2_112), (4, .int x4_112)]) hx hb dX2_depthOf_112 hl (k := 3) rfl rfl (by decide) rfl (fun ls hl => ?_)
        refine lv_iinc (v := (x4_112 + 1)) (lv' := [(4, .int (x4_112 + 1)), (3, .int (x3_112 + 1)), (0, .ref x0_34), (1, .ref x1_34), (2, .int x2_112)]) hx hb dX2_depthOf_115 hl (k := 4) rfl rfl (by decide) rfl (fun ls hl => ?_)
        refine lv_goto (tgt := 34) hx hb dX2_depthOf_118 (by decide) ?_
        exact ih34 x2_112 (x3_112 + 1) (x4_112 + 1) dt _ _ _ hm hW hS (lv_sub hl [2, 3, 4, 1, 0] rfl)
      have hB69 : ∀ (x2_69 : Int32) (x3_69 : Int32) (x4_69 : Int32) (t0_69 : Int32) (dt : q_Dt) (H : Heap) (locs : List Loc) (ls : Array Slot) (hm : X2_depthOf_b69 al (X2_depthOf_b34 al x0_34 x1_34 n_34) x0_34 x1_34 x2_69 x3_69 x4_69 t0_69 dt = some (r0, dt0)) (hW : q_W D al dt H) (hS : va_S (q_A al) s.heap H locs) (hl : lv_has ls 6 [(0, .ref x0_34), (1, .ref x1_34), (2, .int x2_69), (3, .int x3_69), (4, .int x4_69)]), W p l e { frames := 3, cells := 0, slots := 0, locals := 72 } s m args below meth c H locs 0 0 (MQ below (q_Q (some (.int r0)) (fun H => q_W D al dt0 H ∧ q_Rk al 0 (some (.int r0))) (q_A al)) args s 0 0 (q_A al)) (F0 m 69 ls [.int t0_69]) := by
        intro x2_69 x3_69 x4_69 t0_69 dt H locs ls hm hW hS hl
        unfold X2_depthOf_b69 at hm
        refine lv_istore (i := 5) (lv' := [(5, .int t0_69), (0, .ref x0_34), (1, .ref x1_34), (2, .int x2_69), (3, .int x3_69), (4, .int x4_69)]) hx hb dX2_depthOf_69 hl (by decide) rfl (fun ls hl => ?_)
        refine lv_aload_n hx hb dX2_depthOf_71 rfl (lv_at hl 1 rfl) ?_
        refine r_getF C hW (ci := 2) kx0_34 ff_2_3 cl_2 fl_RX2_26 dX2_depthOf_72 (fun k69001 => ?_)
        refine lv_aload_n hx hb dX2_depthOf_75 rfl (lv_at hl 1 rfl) ?_
        refine r_getF C hW (ci := 2) kx0_34 ff_2_1 cl_2 fl_RX2_20 dX2_depthOf_76 (fun k69002 => ?_)
        obtain ⟨dt69004, hc69003, hm⟩ := q_b1i hm
        refine q_callV C hW hS (As := [.ref (al.2.2 x0_34 1)]) (rest := []) (st1 := []) (c_X5_takeOver l D al dt (al.2.2 x0_34 3) (al.2.2 x0_34 1) k69001 k69002 dt69004 hc69003) yl_X5_takeOver vl_X5_takeOver ml_RX2_83 (ci := 5) rfl k69001 (by decide) rfl ⟨Nat.le_of_ble_eq_true rfl, Nat.le_of_ble_eq_true rfl⟩ hl rfl (Nat.le_of_ble_eq_true rfl) dX2_depthOf_79 ⟨Nat.le_refl _, Nat.le_refl _⟩ rfl (fun H locs k69005 hW hS => ?_)
        refine lv_aload_n hx hb dX2_depthOf_82 rfl (lv_at hl 1 rfl) ?_
        refine lv_iload_n hx hb dX2_depthOf_83 rfl (lv_at hl 4 rfl) ?_
        obtain ⟨dt69007, hc69006, hm⟩ := q_b1i hm
        refine q_callV C hW hS (As := [.int x3_69]) (rest := []) (st1 := []) (c_X2_mixOlder l D al dt69004 x0_34 x3_69 kx0_34 dt69007 hc69006) yl_X2_mixOlder vl_X2_mixOlder ml_RX2_94 (ci := 2) rfl kx0_34 (by decide) rfl ⟨Nat.le_of_ble_eq_true rfl, Nat.le_of_ble_eq_true rfl⟩ hl rfl (Nat.le_of_ble_eq_true rfl) dX2_depthOf_84 ⟨Nat.le_refl _, Nat.le_refl _⟩ rfl (fun H locs k69008 hW hS => ?_)
        refine lv_iload hx hb dX2_depthOf_87 (lv_at hl 0 rfl) ?_
        refine q_ifc hm (fun c69009 hm => ?_) (fun c69009 hm => ?_)
        · refine lv_if_eq (tgt := 112) hx hb dX2_depthOf_89 (by decide) (fun _ => ?_) (fun h => absurd c69009 h)
          exact hB112 x2_69 x3_69 x4_69 dt69007 _ _ _ hm hW hS (lv_sub hl [1, 2, 3, 4, 5] rfl)
        refine lv_if_eq (tgt := 112) hx hb dX2_depthOf_89 (by decide) (fun h => absurd h c69009) (fun _ => ?_)
        refine lv_aload_n hx hb dX2_depthOf_92 rfl (lv_at hl 1 rfl) ?_
        refine r_getF C hW (ci := 2) kx0_34 ff_2_2 cl_2 fl_RX2_23 dX2_depthOf_93 (fun k69010 => ?_)
        refine lv_aload_n hx hb dX2_depthOf_96 rfl (lv_at hl 1 rfl) ?_
        refine r_getF C hW (ci := 2) kx0_34 ff_2_3 cl_2 fl_RX2_26 dX2_depthOf_97 (fun k69011 => ?_)
        obtain ⟨dt69013, hc69012, hm⟩ := q_b1i hm
        refine q_callV C hW hS (As := [.ref (al.2.2 x0_34 3)]) (rest := []) (st1 := []) (c_X5_takeOver l D al dt69007 (al.2.2 x0_34 2) (al.2.2 x0_34 3) k69010 k69011 dt69013 hc69012) yl_X5_takeOver vl_X5_takeOver ml_RX2_83 (ci := 5) rfl k69010 (by decide) rfl ⟨Nat.le_of_ble_eq_true rfl, Nat.le_of_ble_eq_true rfl⟩ hl rfl (Nat.le_of_ble_eq_true rfl) dX2_depthOf_100 ⟨Nat.le_refl _, Nat.le_refl _⟩ rfl (fun H locs k69014 hW hS => ?_)
        refine lv_iload hx hb dX2_depthOf_103 (lv_at hl 5 rfl) ?_
        refine lv_iconst (v := 1) hx hb dX2_depthOf_105 (by decide) ?_
        refine lv_iadd hx hb dX2_depthOf_106 ?_
        refine lv_iload_n hx hb dX2_depthOf_107 rfl (lv_at hl 3 rfl) ?_
        refine lv_isub hx hb dX2_depthOf_108 ?_
        refine lv_istore_n (i := 2) (lv' := [(2, .int ((x4_69 + 1) - x2_69)), (5, .int t0_69), (0, .ref x0_34), (1, .ref x1_34), (3, .int x3_69), (4, .int x4_69)]) hx hb dX2_depthOf_109 rfl hl (by decide) rfl (fun ls hl => ?_)
        refine lv_iconst (v := 0) hx hb dX2_depthOf_110 (by decide) ?_
        refine lv_istore_n (i := 3) (lv' := [(3, .int 0), (2, .int ((x4_69 + 1) - x2_69)), (5, .int t0_69), (0, .ref x0_34), (1, .ref x1_34), (4, .int x4_69)]) hx hb dX2_depthOf_111 rfl hl (by decide) rfl (fun ls hl => ?_)
        exact hB112 ((x4_69 + 1) - x2_69) 0 x4_69 dt69013 _ _ _ hm hW hS (lv_sub hl [3, 4, 1, 0, 5] rfl)
      intro x2_34 x3_34 x4_34 dt H locs ls hm hW hS hl
      rw [X2_depthOf_b34] at hm
      refine lv_iload hx hb dX2_depthOf_34 (lv_at hl 4 rfl) ?_
      refine lv_iconst (v := 2) hx hb dX2_depthOf_36 (by decide) ?_
      refine lv_aload_n hx hb dX2_depthOf_37 rfl (lv_at hl 1 rfl) ?_
      refine r_getI C hW (ci := 0) kx1_34 ff_0_1 cl_0 fl_RX2_87 dX2_depthOf_38 ?_
      refine lv_imul hx hb dX2_depthOf_41 ?_
      refine q_ifc hm (fun c34001 hm => ?_) (fun c34001 hm => ?_)
      · refine lv_icmp_ge (tgt := 121) hx hb dX2_depthOf_42 (by decide) (fun _ => ?_) (fun h => absurd c34001 h)
        refine lv_iload_n hx hb dX2_depthOf_121 rfl (lv_at hl 2 rfl) ?_
        exact e_iD C hW hS hm dX2_depthOf_122
      refine lv_icmp_ge (tgt := 121) hx hb dX2_depthOf_42 (by decide) (fun h => absurd h c34001) (fun _ => ?_)
      refine lv_aload_n hx hb dX2_depthOf_45 rfl (lv_at hl 0 rfl) ?_
      refine lv_aload_n hx hb dX2_depthOf_46 rfl (lv_at hl 1 rfl) ?_
      refine lv_iload hx hb dX2_depthOf_47 (lv_at hl 4 rfl) ?_
      refine lv_iload_n hx hb dX2_depthOf_49 rfl (lv_at hl 2 rfl) ?_
      obtain ⟨v34003, hc34002, hm⟩ := q_b1i hm
      refine q_callV C hW hS (As := [.ref x1_34, .int x4_34, .int x2_34]) (rest := []) (st1 := [.int v34003]) (c_X2_fails l D al dt x0_34 x1_34 x4_34 x2_34 kx0_34 kx1_34 v34003 hc34002) yl_X2_fails vl_X2_fails ml_RX2_90 (ci := 2) rfl kx0_34 (by decide) rfl ⟨Nat.le_of_ble_eq_true rfl, Nat.le_of_ble_eq_true rfl⟩ hl rfl (Nat.le_of_ble_eq_true rfl) dX2_depthOf_50 ⟨Nat.le_refl _, Nat.le_refl _⟩ rfl (fun H locs k34004 hW hS => ?_)
      refine q_ifc hm (fun c34005 hm => ?_) (fun c34005 hm => ?_)
      · refine lv_if_eq (tgt := 112) hx hb dX2_depthOf_53 (by decide) (fun _ => ?_) (fun h => absurd c34005 h)
        exact hB112 x2_34 x3_34 x4_34 dt _ _ _ hm hW hS (lv_sub hl [0, 1, 2, 3, 4] rfl)
      refine lv_if_eq (tgt := 112) hx hb dX2_depthOf_53 (by decide) (fun h => absurd h c34005) (fun _ => ?_)
      refine lv_iconst (v := 2) hx hb dX2_depthOf_56 (by decide) ?_
      refine lv_iload_n hx hb dX2_depthOf_57 rfl (lv_at hl 2 rfl) ?_
      refine lv_imul hx hb dX2_depthOf_58 ?_
      refine lv_iload hx hb dX2_depthOf_59 (lv_at hl 4 rfl) ?_
      refine q_ifc hm (fun c34006 hm => ?_) (fun c34006 hm => ?_)
      · refine lv_icmp_gt (tgt := 68) hx hb dX2_depthOf_61 (by decide) (fun _ => ?_) (fun h => absurd c34006 h)
        refine lv_iconst (v := 0) hx hb dX2_depthOf_68 (by decide) ?_
        exact hB69 x2_34 x3_34 x4_34 0 dt _ _ _ hm hW hS (lv_sub hl [0, 1, 2, 3, 4] rfl)
      refine lv_icmp_gt (tgt := 68) hx hb dX2_depthOf_61 (by decide) (fun h => absurd h c34006) (fun _ => ?_)
      refine lv_iconst (v := 1) hx hb dX2_depthOf_64 (by decide) ?_
      refine lv_goto (tgt := 69) hx hb dX2_depthOf_65 (by decide) ?_
      exact hB69 x2_34 x3_34 x4_34 1 dt _ _ _ hm hW hS (lv_sub hl [0, 1, 2, 3, 4] rfl)
  refine lv_aload_n hx hb dX2_depthOf_0 rfl (lv_at hl 0 rfl) ?_
  refine r_getF C hW (ci := 2) kx0 ff_2_1 cl_2 fl_RX2_20 dX2_depthOf_1 (fun k1000001 => ?_)
  obtain ⟨dt1000003, hc1000002, hm⟩ := q_b1i hm
  refine q_callV C hW hS (As := []) (rest := []) (st1 := []) (c_X5_clear l D al dt (al.2.2 x0 1) k1000001 dt1000003 hc1000002) yl_X5_clear vl_X5_clear ml_RX2_29 (ci := 5) rfl k1000001 (by decide) rfl ⟨Nat.le_of_ble_eq_true rfl, Nat.le_of_ble_eq_true rfl⟩ hl rfl (Nat.le_of_ble_eq_true rfl) dX2_depthOf_4 ⟨Nat.le_refl _, Nat.le_refl _⟩ rfl (fun H locs k1000004 hW hS => ?_)
  refine lv_aload_n hx hb dX2_depthOf_7 rfl (lv_at hl 0 rfl) ?_
  refine r_getF C hW (ci := 2) kx0 ff_2_1 cl_2 fl_RX2_20 dX2_depthOf_8 (fun k1000005 => ?_)
  refine lv_iconst (v := 0) hx hb dX2_depthOf_11 (by decide) ?_
  refine lv_lconst (v := 1) hx hb dX2_depthOf_12 rfl ?_
  obtain ⟨dt1000007, hc1000006, hm⟩ := q_b1i hm
  refine q_callV C hW hS (As := [.int 0, .long 1]) (rest := []) (st1 := []) (c_X5_put l D al dt1000003 (al.2.2 x0 1) 0 1 k1000005 dt1000007 hc1000006) yl_X5_put vl_X5_put ml_RX2_76 (ci := 5) rfl k1000005 (by decide) rfl ⟨Nat.le_of_ble_eq_true rfl, Nat.le_of_ble_eq_true rfl⟩ hl rfl (Nat.le_of_ble_eq_true rfl) dX2_depthOf_13 ⟨Nat.le_refl _, Nat.le_refl _⟩ rfl (fun H locs k1000008 hW hS => ?_)
  refine lv_aload_n hx hb dX2_depthOf_16 rfl (lv_at hl 0 rfl) ?_
  refine r_getF C hW (ci := 2) kx0 ff_2_2 cl_2 fl_RX2_23 dX2_depthOf_17 (fun k1000009 => ?_)
  refine lv_aload_n hx hb dX2_depthOf_20 rfl (lv_at hl 0 rfl) ?_
  refine r_getF C hW (ci := 2) kx0 ff_2_1 cl_2 fl_RX2_20 dX2_depthOf_21 (fun k1000010 => ?_)
  obtain ⟨dt1000012, hc1000011, hm⟩ := q_b1i hm
  refine q_callV C hW hS (As := [.ref (al.2.2 x0 1)]) (rest := []) (st1 := []) (c_X5_takeOver l D al dt1000007 (al.2.2 x0 2) (al.2.2 x0 1) k1000009 k1000010 dt1000012 hc1000011) yl_X5_takeOver vl_X5_takeOver ml_RX2_83 (ci := 5) rfl k1000009 (by decide) rfl ⟨Nat.le_of_ble_eq_true rfl, Nat.le_of_ble_eq_true rfl⟩ hl rfl (Nat.le_of_ble_eq_true rfl) dX2_depthOf_24 ⟨Nat.le_refl _, Nat.le_refl _⟩ rfl (fun H locs k1000013 hW hS => ?_)
  refine lv_iconst (v := 0) hx hb dX2_depthOf_27 (by decide) ?_
  refine lv_istore_n (i := 2) (lv' := [(2, .int 0), (0, .ref x0), (1, .ref x1)]) hx hb dX2_depthOf_28 rfl hl (by decide) rfl (fun ls hl => ?_)
  refine lv_iconst (v := 1) hx hb dX2_depthOf_29 (by decide) ?_
  refine lv_istore_n (i := 3) (lv' := [(3, .int 1), (2, .int 0), (0, .ref x0), (1, .ref x1)]) hx hb dX2_depthOf_30 rfl hl (by decide) rfl (fun ls hl => ?_)
  refine lv_iconst (v := 0) hx hb dX2_depthOf_31 (by decide) ?_
  refine lv_istore (i := 4) (lv' := [(4, .int 0), (3, .int 1), (2, .int 0), (0, .ref x0), (1, .ref x1)]) hx hb dX2_depthOf_32 hl (by decide) rfl (fun ls hl => ?_)
  exact hB34 x0 x1 kx0 kx1 q_FU 0 1 0 dt1000012 _ _ _ hm hW hS (lv_sub hl [3, 4, 2, 1, 0] rfl)
theorem dX10_clear_0 : decode cX10_clear 0 = .ok (.aload_n 0, 1) := by decide +kernel
theorem dX10_clear_1 : decode cX10_clear 1 = .ok (.iconst 0, 1) := by decide +kernel
theorem dX10_clear_2 : decode cX10_clear 2 = .ok (.putfield 47, 3) := by decide +kernel
theorem dX10_clear_5 : decode cX10_clear 5 = .ok (.aload_n 0, 1) := by decide +kernel
theorem dX10_clear_6 : decode cX10_clear 6 = .ok (.iconst 0, 1) := by decide +kernel
theorem dX10_clear_7 : decode cX10_clear 7 = .ok (.putfield 51, 3) := by decide +kernel
theorem dX10_clear_10 : decode cX10_clear 10 = .ok (.aload_n 0, 1) := by decide +kernel
theorem dX10_clear_11 : decode cX10_clear 11 = .ok (.iconst 0, 1) := by decide +kernel
theorem dX10_clear_12 : decode cX10_clear 12 = .ok (.putfield 54, 3) := by decide +kernel
theorem dX10_clear_15 : decode cX10_clear 15 = .ok (.aload_n 0, 1) := by decide +kernel
theorem dX10_clear_16 : decode cX10_clear 16 = .ok (.iconst 0, 1) := by decide +kernel
theorem dX10_clear_17 : decode cX10_clear 17 = .ok (.putfield 57, 3) := by decide +kernel
theorem dX10_clear_20 : decode cX10_clear 20 = .ok (.aload_n 0, 1) := by decide +kernel
theorem dX10_clear_21 : decode cX10_clear 21 = .ok (.iconst 0, 1) := by decide +kernel
theorem dX10_clear_22 : decode cX10_clear 22 = .ok (.putfield 60, 3) := by decide +kernel
theorem dX10_clear_25 : decode cX10_clear 25 = .ok (.aload_n 0, 1) := by decide +kernel
theorem dX10_clear_26 : decode cX10_clear 26 = .ok (.sipush 256, 3) := by decide +kernel
theorem dX10_clear_29 : decode cX10_clear 29 = .ok (.putfield 63, 3) := by decide +kernel
theorem dX10_clear_32 : decode cX10_clear 32 = .ok (.aload_n 0, 1) := by decide +kernel
theorem dX10_clear_33 : decode cX10_clear 33 = .ok (.iconst 0, 1) := by decide +kernel
theorem dX10_clear_34 : decode cX10_clear 34 = .ok (.putfield 66, 3) := by decide +kernel
theorem dX10_clear_37 : decode cX10_clear 37 = .ok (.aload_n 0, 1) := by decide +kernel
theorem dX10_clear_38 : decode cX10_clear 38 = .ok (.iconst 0, 1) := by decide +kernel
theorem dX10_clear_39 : decode cX10_clear 39 = .ok (.putfield 69, 3) := by decide +kernel
theorem dX10_clear_42 : decode cX10_clear 42 = .ok (.return_, 1) := by decide +kernel
set_option maxRecDepth 100000 in
theorem c_X10_clear (l : Launch) (D : q_D) (al : q_Al) (dt : q_Dt) (x0 : Nat) (kx0 : al.1 x0 = 11) (dt0 : q_Dt) (hm : X10_clear al dt x0 = some dt0) : q_Mt l yX10_clear cX10_clear 1 (none) 0 0 D al [.ref x0] dt 0 none dt0 := by
  refine q_Mt.of (by decide) (Nat.le_of_ble_eq_true rfl) ?_
  intro p e s m args below meth c ls C hargs hW hl
  have hx := C.1
  have hb := C.2.1
  have hown := C.2.2.2.2.2.1
  have hts := C.2.2.2.2.2.2.1
  have hS : va_S (q_A al) s.heap s.heap [] := va_S.rf
  have hl : lv_has ls 1 [(0, .ref x0)] := hl
  unfold X10_clear at hm
  refine lv_aload_n hx hb dX10_clear_0 rfl (lv_at hl 0 rfl) ?_
  refine lv_iconst (v := 0) hx hb dX10_clear_1 (by decide) ?_
  refine r_putI C hW hS hm (ci := 10) kx0 ff_10_7 cl_10 fl_RX10_47 (nf_10_7) rfl dX10_clear_2 (fun dt1000001 H locs hm hW hS => ?_)
  refine lv_aload_n hx hb dX10_clear_5 rfl (lv_at hl 0 rfl) ?_
  refine lv_iconst (v := 0) hx hb dX10_clear_6 (by decide) ?_
  refine r_putI C hW hS hm (ci := 10) kx0 ff_10_8 cl_10 fl_RX10_51 (nf_10_8) rfl dX10_clear_7 (fun dt1000002 H locs hm hW hS => ?_)
  refine lv_aload_n hx hb dX10_clear_10 rfl (lv_at hl 0 rfl) ?_
  refine lv_iconst (v := 0) hx hb dX10_clear_11 (by decide) ?_
  refine r_putI C hW hS hm (ci := 10) kx0 ff_10_9 cl_10 fl_RX10_54 (nf_10_9) rfl dX10_clear_12 (fun dt1000003 H locs hm hW hS => ?_)
  refine lv_aload_n hx hb dX10_clear_15 rfl (lv_at hl 0 rfl) ?_
  refine lv_iconst (v := 0) hx hb dX10_clear_16 (by decide) ?_
  refine r_putI C hW hS hm (ci := 10) kx0 ff_10_10 cl_10 fl_RX10_57 (nf_10_10) rfl dX10_clear_17 (fun dt1000004 H locs hm hW hS => ?_)
  refine lv_aload_n hx hb dX10_clear_20 rfl (lv_at hl 0 rfl) ?_
  refine lv_iconst (v := 0) hx hb dX10_clear_21 (by decide) ?_
  refine r_putI C hW hS hm (ci := 10) kx0 ff_10_11 cl_10 fl_RX10_60 (nf_10_11) rfl dX10_clear_22 (fun dt1000005 H locs hm hW hS => ?_)
  refine lv_aload_n hx hb dX10_clear_25 rfl (lv_at hl 0 rfl) ?_
  refine lv_sipush (v := 256) hx hb dX10_clear_26 (by decide) ?_
  refine r_putI C hW hS hm (ci := 10) kx0 ff_10_12 cl_10 fl_RX10_63 (nf_10_12) rfl dX10_clear_29 (fun dt1000006 H locs hm hW hS => ?_)
  refine lv_aload_n hx hb dX10_clear_32 rfl (lv_at hl 0 rfl) ?_
  refine lv_iconst (v := 0) hx hb dX10_clear_33 (by decide) ?_
  refine r_putI C hW hS hm (ci := 10) kx0 ff_10_13 cl_10 fl_RX10_66 (nf_10_13) rfl dX10_clear_34 (fun dt1000007 H locs hm hW hS => ?_)
  refine lv_aload_n hx hb dX10_clear_37 rfl (lv_at hl 0 rfl) ?_
  refine lv_iconst (v := 0) hx hb dX10_clear_38 (by decide) ?_
  refine r_putI C hW hS hm (ci := 10) kx0 ff_10_14 cl_10 fl_RX10_69 (nf_10_14) rfl dX10_clear_39 (fun dt1000008 H locs hm hW hS => ?_)
  exact e_vD C hW hS hm dX10_clear_42
theorem dX9_behindBlanks_0 : decode cX9_behindBlanks 0 = .ok (.iload_n 1, 1) := by decide +kernel
theorem dX9_behindBlanks_1 : decode cX9_behindBlanks 1 = .ok (.istore_n 2, 1) := by decide +kernel
theorem dX9_behindBlanks_2 : decode cX9_behindBlanks 2 = .ok (.iload_n 2, 1) := by decide +kernel
theorem dX9_behindBlanks_3 : decode cX9_behindBlanks 3 = .ok (.aload_n 0, 1) := by decide +kernel
theorem dX9_behindBlanks_4 : decode cX9_behindBlanks 4 = .ok (.getfield 35, 3) := by decide +kernel
theorem dX9_behindBlanks_7 : decode cX9_behindBlanks 7 = .ok (.if_icmp .ge 44, 3) := by decide +kernel
theorem dX9_behindBlanks_10 : decode cX9_behindBlanks 10 = .ok (.aload_n 0, 1) := by decide +kernel
theorem dX9_behindBlanks_11 : decode cX9_behindBlanks 11 = .ok (.getfield 14, 3) := by decide +kernel
theorem dX9_behindBlanks_14 : decode cX9_behindBlanks 14 = .ok (.iload_n 2, 1) := by decide +kernel
theorem dX9_behindBlanks_15 : decode cX9_behindBlanks 15 = .ok (.invokevirtual 83, 3) := by decide +kernel
theorem dX9_behindBlanks_18 : decode cX9_behindBlanks 18 = .ok (.istore_n 3, 1) := by decide +kernel
theorem dX9_behindBlanks_19 : decode cX9_behindBlanks 19 = .ok (.iload_n 3, 1) := by decide +kernel
theorem dX9_behindBlanks_20 : decode cX9_behindBlanks 20 = .ok (.bipush 9, 2) := by decide +kernel
theorem dX9_behindBlanks_22 : decode cX9_behindBlanks 22 = .ok (.if_icmp .eq 23, 3) := by decide +kernel
theorem dX9_behindBlanks_25 : decode cX9_behindBlanks 25 = .ok (.iload_n 3, 1) := by decide +kernel
theorem dX9_behindBlanks_26 : decode cX9_behindBlanks 26 = .ok (.bipush 10, 2) := by decide +kernel
theorem dX9_behindBlanks_28 : decode cX9_behindBlanks 28 = .ok (.if_icmp .eq 17, 3) := by decide +kernel
theorem dX9_behindBlanks_31 : decode cX9_behindBlanks 31 = .ok (.iload_n 3, 1) := by decide +kernel
theorem dX9_behindBlanks_32 : decode cX9_behindBlanks 32 = .ok (.bipush 13, 2) := by decide +kernel
theorem dX9_behindBlanks_34 : decode cX9_behindBlanks 34 = .ok (.if_icmp .eq 11, 3) := by decide +kernel
theorem dX9_behindBlanks_37 : decode cX9_behindBlanks 37 = .ok (.iload_n 3, 1) := by decide +kernel
theorem dX9_behindBlanks_38 : decode cX9_behindBlanks 38 = .ok (.bipush 32, 2) := by decide +kernel
theorem dX9_behindBlanks_40 : decode cX9_behindBlanks 40 = .ok (.if_icmp .eq 5, 3) := by decide +kernel
theorem dX9_behindBlanks_43 : decode cX9_behindBlanks 43 = .ok (.iload_n 2, 1) := by decide +kernel
theorem dX9_behindBlanks_44 : decode cX9_behindBlanks 44 = .ok (.ireturn, 1) := by decide +kernel
theorem dX9_behindBlanks_45 : decode cX9_behindBlanks 45 = .ok (.iinc 2 1, 3) := by decide +kernel
theorem dX9_behindBlanks_48 : decode cX9_behindBlanks 48 = .ok (.goto (-46), 3) := by decide +kernel
theorem dX9_behindBlanks_51 : decode cX9_behindBlanks 51 = .ok (.aload_n 0, 1) := by decide +kernel
theorem dX9_behindBlanks_52 : decode cX9_behindBlanks 52 = .ok (.getfield 35, 3) := by decide +kernel
theorem dX9_behindBlanks_55 : decode cX9_behindBlanks 55 = .ok (.ireturn, 1) := by decide +kernel
set_option maxRecDepth 100000 in
theorem c_X9_behindBlanks (l : Launch) (D : q_D) (al : q_Al) (dt : q_Dt) (x0 : Nat) (x1 : Int32) (kx0 : al.1 x0 = 10) (r0 : Int32) (hm : X9_behindBlanks al dt x0 x1 = some r0) : q_Mt l yX9_behindBlanks cX9_behindBlanks 4 (some FieldType.int) 1 21 D al [.ref x0, .int x1] dt 0 (some (.int r0)) dt := by
  refine q_Mt.of (by decide) (Nat.le_of_ble_eq_true rfl) ?_
  intro p e s m args below meth c ls C hargs hW hl
  have hx := C.1
  have hb := C.2.1
  have hown := C.2.2.2.2.2.1
  have hts := C.2.2.2.2.2.2.1
  have hS : va_S (q_A al) s.heap s.heap [] := va_S.rf
  have hl : lv_has ls 4 [(0, .ref x0), (1, .int x1)] := hl
  unfold X9_behindBlanks at hm
  have hB2 : ∀ (x0_2 : Nat) (kx0_2 : al.1 x0_2 = 10) (n_2 : Nat) (x2_2 : Int32) (H : Heap) (locs : List Loc) (ls : Array Slot) (hm : X9_behindBlanks_b2 al dt x0_2 n_2 x2_2 = some r0) (hW : q_W D al dt H) (hS : va_S (q_A al) s.heap H locs) (hl : lv_has ls 4 [(0, .ref x0_2), (2, .int x2_2)]), W p l e { frames := 1, cells := 0, slots := 0, locals := 21 } s m args below meth c H locs 0 0 (MQ below (q_Q (some (.int r0)) (fun H => q_W D al dt H ∧ q_Rk al 0 (some (.int r0))) (q_A al)) args s 0 0 (q_A al)) (F0 m 2 ls []) := by
    intro x0_2 kx0_2
    intro n_2
    induction n_2 with
    | zero => intro x2_2 H locs ls hm hW hS hl; cases hm
    | succ n_2 ih2 =>
      have hB45 : ∀ (x2_45 : Int32) (H : Heap) (locs : List Loc) (ls : Array Slot) (hm : X9_behindBlanks_b45 al dt (X9_behindBlanks_b2 al dt x0_2 n_2) x0_2 x2_45 = some r0) (hW : q_W D al dt H) (hS : va_S (q_A al) s.heap H locs) (hl : lv_has ls 4 [(0, .ref x0_2), (2, .int x2_45)]), W p l e { frames := 1, cells := 0, slots := 0, locals := 21 } s m args below meth c H locs 0 0 (MQ below (q_Q (some (.int r0)) (fun H => q_W D al dt H ∧ q_Rk al 0 (some (.int r0))) (q_A al)) args s 0 0 (q_A al)) (F0 m 45 ls []) := by
        intro x2_45 H locs ls hm hW hS hl
        unfold X9_behindBlanks_b45 at hm
        refine lv_iinc (v := (x2_45 + 1)) (lv' := [(2, .int (x2_45 + 1)), (0, .ref x0_2)]) hx hb dX9_behindBlanks_45 hl (k := 1) rfl rfl (by decide) rfl (fun ls hl => ?_)
        refine lv_goto (tgt := 2) hx hb dX9_behindBlanks_48 (by decide) ?_
        exact ih2 (x2_45 + 1) _ _ _ hm hW hS (lv_sub hl [1, 0] rfl)
      intro x2_2 H locs ls hm hW hS hl
      rw [X9_behindBlanks_b2] at hm
      refine lv_iload_n hx hb dX9_behindBlanks_2 rfl (lv_at hl 1 rfl) ?_
      refine lv_aload_n hx hb dX9_behindBlanks_3 rfl (lv_at hl 0 rfl) ?_
      refine r_getI C hW (ci := 9) kx0_2 ff_9_6 cl_9 fl_RX9_35 dX9_behindBlanks_4 ?_
      refine q_ifc hm (fun c2001 hm => ?_) (fun c2001 hm => ?_)
      · refine lv_icmp_ge (tgt := 51) hx hb dX9_behindBlanks_7 (by decide) (fun _ => ?_) (fun h => absurd c2001 h)
        refine lv_aload_n hx hb dX9_behindBlanks_51 rfl (lv_at hl 0 rfl) ?_
        refine r_getI C hW (ci := 9) kx0_2 ff_9_6 cl_9 fl_RX9_35 dX9_behindBlanks_52 ?_
        exact e_i C hW hS hm dX9_behindBlanks_55
      refine lv_icmp_ge (tgt := 51) hx hb dX9_behindBlanks_7 (by decide) (fun h => absurd h c2001) (fun _ => ?_)
      refine lv_aload_n hx hb dX9_behindBlanks_10 rfl (lv_at hl 0 rfl) ?_
      refine r_getF C hW (ci := 9) kx0_2 ff_9_0 cl_9 fl_RX9_14 dX9_behindBlanks_11 (fun k2002 => ?_)
      refine lv_iload_n hx hb dX9_behindBlanks_14 rfl (lv_at hl 1 rfl) ?_
      obtain ⟨v2004, hc2003, hm⟩ := q_b1i hm
      refine q_callV C hW hS (As := [.int x2_2]) (rest := []) (st1 := [.int v2004]) (c_X5_small l D al dt (al.2.2 x0_2 0) x2_2 k2002 v2004 hc2003) yl_X5_small vl_X5_small ml_RX9_83 (ci := 5) rfl k2002 (by decide) rfl ⟨Nat.le_of_ble_eq_true rfl, Nat.le_of_ble_eq_true rfl⟩ hl rfl (Nat.le_of_ble_eq_true rfl) dX9_behindBlanks_15 ⟨Nat.le_refl _, Nat.le_refl _⟩ rfl (fun H locs k2005 hW hS => ?_)
      refine lv_istore_n (i := 3) (lv' := [(3, .int v2004), (0, .ref x0_2), (2, .int x2_2)]) hx hb dX9_behindBlanks_18 rfl hl (by decide) rfl (fun ls hl => ?_)
      refine lv_iload_n hx hb dX9_behindBlanks_19 rfl (lv_at hl 0 rfl) ?_
      refine lv_bipush (v := 9) hx hb dX9_behindBlanks_20 (by decide) ?_
      refine q_ifc hm (fun c2006 hm => ?_) (fun c2006 hm => ?_)
      · refine lv_icmp_eq (tgt := 45) hx hb dX9_behindBlanks_22 (by decide) (fun _ => ?_) (fun h => absurd c2006 h)
        exact hB45 x2_2 _ _ _ hm hW hS (lv_sub hl [1, 2] rfl)
      refine lv_icmp_eq (tgt := 45) hx hb dX9_behindBlanks_22 (by decide) (fun h => absurd h c2006) (fun _ => ?_)
      refine lv_iload_n hx hb dX9_behindBlanks_25 rfl (lv_at hl 0 rfl) ?_
      refine lv_bipush (v := 10) hx hb dX9_behindBlanks_26 (by decide) ?_
      refine q_ifc hm (fun c2007 hm => ?_) (fun c2007 hm => ?_)
      · refine lv_icmp_eq (tgt := 45) hx hb dX9_behindBlanks_28 (by decide) (fun _ => ?_) (fun h => absurd c2007 h)
        exact hB45 x2_2 _ _ _ hm hW hS (lv_sub hl [1, 2] rfl)
      refine lv_icmp_eq (tgt := 45) hx hb dX9_behindBlanks_28 (by decide) (fun h => absurd h c2007) (fun _ => ?_)
      refine lv_iload_n hx hb dX9_behindBlanks_31 rfl (lv_at hl 0 rfl) ?_
      refine lv_bipush (v := 13) hx hb dX9_behindBlanks_32 (by decide) ?_
      refine q_ifc hm (fun c2008 hm => ?_) (fun c2008 hm => ?_)
      · refine lv_icmp_eq (tgt := 45) hx hb dX9_behindBlanks_34 (by decide) (fun _ => ?_) (fun h => absurd c2008 h)
        exact hB45 x2_2 _ _ _ hm hW hS (lv_sub hl [1, 2] rfl)
      refine lv_icmp_eq (tgt := 45) hx hb dX9_behindBlanks_34 (by decide) (fun h => absurd h c2008) (fun _ => ?_)
      refine lv_iload_n hx hb dX9_behindBlanks_37 rfl (lv_at hl 0 rfl) ?_
      refine lv_bipush (v := 32) hx hb dX9_behindBlanks_38 (by decide) ?_
      refine q_ifc hm (fun c2009 hm => ?_) (fun c2009 hm => ?_)
      · refine lv_icmp_eq (tgt := 45) hx hb dX9_behindBlanks_40 (by decide) (fun _ => ?_) (fun h => absurd c2009 h)
        exact hB45 x2_2 _ _ _ hm hW hS (lv_sub hl [1, 2] rfl)
      refine lv_icmp_eq (tgt := 45) hx hb dX9_behindBlanks_40 (by decide) (fun h => absurd h c2009) (fun _ => ?_)
      refine lv_iload_n hx hb dX9_behindBlanks_43 rfl (lv_at hl 2 rfl) ?_
      exact e_i C hW hS hm dX9_behindBlanks_44
  refine lv_iload_n hx hb dX9_behindBlanks_0 rfl (lv_at hl 1 rfl) ?_
  refine lv_istore_n (i := 2) (lv' := [(2, .int x1), (0, .ref x0), (1, .int x1)]) hx hb dX9_behindBlanks_1 rfl hl (by decide) rfl (fun ls hl => ?_)
  exact hB2 x0 kx0 q_FU x1 _ _ _ hm hW hS (lv_sub hl [1, 0] rfl)
theorem dX9_isLetter_0 : decode cX9_isLetter 0 = .ok (.iload_n 0, 1) := by decide +kernel
theorem dX9_isLetter_1 : decode cX9_isLetter 1 = .ok (.bipush 97, 2) := by decide +kernel
theorem dX9_isLetter_3 : decode cX9_isLetter 3 = .ok (.if_icmp .lt 13, 3) := by decide +kernel
theorem dX9_isLetter_6 : decode cX9_isLetter 6 = .ok (.iload_n 0, 1) := by decide +kernel
theorem dX9_isLetter_7 : decode cX9_isLetter 7 = .ok (.bipush 122, 2) := by decide +kernel
theorem dX9_isLetter_9 : decode cX9_isLetter 9 = .ok (.if_icmp .gt 7, 3) := by decide +kernel
theorem dX9_isLetter_12 : decode cX9_isLetter 12 = .ok (.iconst 1, 1) := by decide +kernel
theorem dX9_isLetter_13 : decode cX9_isLetter 13 = .ok (.goto 4, 3) := by decide +kernel
theorem dX9_isLetter_16 : decode cX9_isLetter 16 = .ok (.iconst 0, 1) := by decide +kernel
theorem dX9_isLetter_17 : decode cX9_isLetter 17 = .ok (.ireturn, 1) := by decide +kernel
set_option maxRecDepth 100000 in
theorem c_X9_isLetter (l : Launch) (D : q_D) (al : q_Al) (dt : q_Dt) (x0 : Int32) (r0 : Int32) (hm : X9_isLetter x0 = some r0) : q_Mt l yX9_isLetter cX9_isLetter 1 (some FieldType.boolean) 0 0 D al [.int x0] dt 0 (some (.int r0)) dt := by
  refine q_Mt.of (by decide) (Nat.le_of_ble_eq_true rfl) ?_
  intro p e s m args below meth c ls C hargs hW hl
  have hx := C.1
  have hb := C.2.1
  have hown := C.2.2.2.2.2.1
  have hts := C.2.2.2.2.2.2.1
  have hS : va_S (q_A al) s.heap s.heap [] := va_S.rf
  have hl : lv_has ls 1 [(0, .int x0)] := hl
  unfold X9_isLetter at hm
  refine lv_iload_n hx hb dX9_isLetter_0 rfl (lv_at hl 0 rfl) ?_
  refine lv_bipush (v := 97) hx hb dX9_isLetter_1 (by decide) ?_
  refine q_ifc hm (fun c1000001 hm => ?_) (fun c1000001 hm => ?_)
  · refine lv_icmp_lt (tgt := 16) hx hb dX9_isLetter_3 (by decide) (fun _ => ?_) (fun h => absurd c1000001 h)
    refine lv_iconst (v := 0) hx hb dX9_isLetter_16 (by decide) ?_
    exact e_zl C hW hS (Or.inl rfl) hm dX9_isLetter_17
  refine lv_icmp_lt (tgt := 16) hx hb dX9_isLetter_3 (by decide) (fun h => absurd h c1000001) (fun _ => ?_)
  refine lv_iload_n hx hb dX9_isLetter_6 rfl (lv_at hl 0 rfl) ?_
  refine lv_bipush (v := 122) hx hb dX9_isLetter_7 (by decide) ?_
  refine q_ifc hm (fun c1000002 hm => ?_) (fun c1000002 hm => ?_)
  · refine lv_icmp_gt (tgt := 16) hx hb dX9_isLetter_9 (by decide) (fun _ => ?_) (fun h => absurd c1000002 h)
    refine lv_iconst (v := 0) hx hb dX9_isLetter_16 (by decide) ?_
    exact e_zl C hW hS (Or.inl rfl) hm dX9_isLetter_17
  refine lv_icmp_gt (tgt := 16) hx hb dX9_isLetter_9 (by decide) (fun h => absurd h c1000002) (fun _ => ?_)
  refine lv_iconst (v := 1) hx hb dX9_isLetter_12 (by decide) ?_
  refine lv_goto (tgt := 17) hx hb dX9_isLetter_13 (by decide) ?_
  exact e_zl C hW hS (Or.inr rfl) hm dX9_isLetter_17
theorem dX9_isDigit_0 : decode cX9_isDigit 0 = .ok (.iload_n 0, 1) := by decide +kernel
theorem dX9_isDigit_1 : decode cX9_isDigit 1 = .ok (.bipush 48, 2) := by decide +kernel
theorem dX9_isDigit_3 : decode cX9_isDigit 3 = .ok (.if_icmp .lt 13, 3) := by decide +kernel
theorem dX9_isDigit_6 : decode cX9_isDigit 6 = .ok (.iload_n 0, 1) := by decide +kernel
theorem dX9_isDigit_7 : decode cX9_isDigit 7 = .ok (.bipush 57, 2) := by decide +kernel
theorem dX9_isDigit_9 : decode cX9_isDigit 9 = .ok (.if_icmp .gt 7, 3) := by decide +kernel
theorem dX9_isDigit_12 : decode cX9_isDigit 12 = .ok (.iconst 1, 1) := by decide +kernel
theorem dX9_isDigit_13 : decode cX9_isDigit 13 = .ok (.goto 4, 3) := by decide +kernel
theorem dX9_isDigit_16 : decode cX9_isDigit 16 = .ok (.iconst 0, 1) := by decide +kernel
theorem dX9_isDigit_17 : decode cX9_isDigit 17 = .ok (.ireturn, 1) := by decide +kernel
set_option maxRecDepth 100000 in
theorem c_X9_isDigit (l : Launch) (D : q_D) (al : q_Al) (dt : q_Dt) (x0 : Int32) (r0 : Int32) (hm : X9_isDigit x0 = some r0) : q_Mt l yX9_isDigit cX9_isDigit 1 (some FieldType.boolean) 0 0 D al [.int x0] dt 0 (some (.int r0)) dt := by
  refine q_Mt.of (by decide) (Nat.le_of_ble_eq_true rfl) ?_
  intro p e s m args below meth c ls C hargs hW hl
  have hx := C.1
  have hb := C.2.1
  have hown := C.2.2.2.2.2.1
  have hts := C.2.2.2.2.2.2.1
  have hS : va_S (q_A al) s.heap s.heap [] := va_S.rf
  have hl : lv_has ls 1 [(0, .int x0)] := hl
  unfold X9_isDigit at hm
  refine lv_iload_n hx hb dX9_isDigit_0 rfl (lv_at hl 0 rfl) ?_
  refine lv_bipush (v := 48) hx hb dX9_isDigit_1 (by decide) ?_
  refine q_ifc hm (fun c1000001 hm => ?_) (fun c1000001 hm => ?_)
  · refine lv_icmp_lt (tgt := 16) hx hb dX9_isDigit_3 (by decide) (fun _ => ?_) (fun h => absurd c1000001 h)
    refine lv_iconst (v := 0) hx hb dX9_isDigit_16 (by decide) ?_
    exact e_zl C hW hS (Or.inl rfl) hm dX9_isDigit_17
  refine lv_icmp_lt (tgt := 16) hx hb dX9_isDigit_3 (by decide) (fun h => absurd h c1000001) (fun _ => ?_)
  refine lv_iload_n hx hb dX9_isDigit_6 rfl (lv_at hl 0 rfl) ?_
  refine lv_bipush (v := 57) hx hb dX9_isDigit_7 (by decide) ?_
  refine q_ifc hm (fun c1000002 hm => ?_) (fun c1000002 hm => ?_)
  · refine lv_icmp_gt (tgt := 16) hx hb dX9_isDigit_9 (by decide) (fun _ => ?_) (fun h => absurd c1000002 h)
    refine lv_iconst (v := 0) hx hb dX9_isDigit_16 (by decide) ?_
    exact e_zl C hW hS (Or.inl rfl) hm dX9_isDigit_17
  refine lv_icmp_gt (tgt := 16) hx hb dX9_isDigit_9 (by decide) (fun h => absurd h c1000002) (fun _ => ?_)
  refine lv_iconst (v := 1) hx hb dX9_isDigit_12 (by decide) ?_
  refine lv_goto (tgt := 17) hx hb dX9_isDigit_13 (by decide) ?_
  exact e_zl C hW hS (Or.inr rfl) hm dX9_isDigit_17
