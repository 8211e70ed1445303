theorem dX12_bitBy_0 : decode cX12_bitBy 0 = .ok (.aload_n 0, 1) := by decide +kernel
theorem dX12_bitBy_1 : decode cX12_bitBy 1 = .ok (.iload_n 1, 1) := by decide +kernel
theorem dX12_bitBy_2 : decode cX12_bitBy 2 = .ok (.invokevirtual 415, 3) := by decide +kernel
theorem dX12_bitBy_5 : decode cX12_bitBy 5 = .ok (.ifCond .eq 7, 3) := by decide +kernel
theorem dX12_bitBy_8 : decode cX12_bitBy 8 = .ok (.iload_n 2, 1) := by decide +kernel
theorem dX12_bitBy_9 : decode cX12_bitBy 9 = .ok (.ifCond .ge 5, 3) := by decide +kernel
theorem dX12_bitBy_12 : decode cX12_bitBy 12 = .ok (.iconst (-1), 1) := by decide +kernel
theorem dX12_bitBy_13 : decode cX12_bitBy 13 = .ok (.ireturn, 1) := by decide +kernel
theorem dX12_bitBy_14 : decode cX12_bitBy 14 = .ok (.iload_n 2, 1) := by decide +kernel
theorem dX12_bitBy_15 : decode cX12_bitBy 15 = .ok (.sipush 511, 3) := by decide +kernel
theorem dX12_bitBy_18 : decode cX12_bitBy 18 = .ok (.if_icmp .le 6, 3) := by decide +kernel
theorem dX12_bitBy_21 : decode cX12_bitBy 21 = .ok (.bipush (-2), 2) := by decide +kernel
theorem dX12_bitBy_23 : decode cX12_bitBy 23 = .ok (.ireturn, 1) := by decide +kernel
theorem dX12_bitBy_24 : decode cX12_bitBy 24 = .ok (.aload_n 0, 1) := by decide +kernel
theorem dX12_bitBy_25 : decode cX12_bitBy 25 = .ok (.aload_n 0, 1) := by decide +kernel
theorem dX12_bitBy_26 : decode cX12_bitBy 26 = .ok (.getfield 133, 3) := by decide +kernel
theorem dX12_bitBy_29 : decode cX12_bitBy 29 = .ok (.iload_n 1, 1) := by decide +kernel
theorem dX12_bitBy_30 : decode cX12_bitBy 30 = .ok (.iload_n 3, 1) := by decide +kernel
theorem dX12_bitBy_31 : decode cX12_bitBy 31 = .ok (.invokevirtual 450, 3) := by decide +kernel
theorem dX12_bitBy_34 : decode cX12_bitBy 34 = .ok (.aload_n 0, 1) := by decide +kernel
theorem dX12_bitBy_35 : decode cX12_bitBy 35 = .ok (.iload_n 2, 1) := by decide +kernel
theorem dX12_bitBy_36 : decode cX12_bitBy 36 = .ok (.invokevirtual 454, 3) := by decide +kernel
theorem dX12_bitBy_39 : decode cX12_bitBy 39 = .ok (.ireturn, 1) := by decide +kernel
set_option maxRecDepth 100000 in
theorem c_X12_bitBy (l : Launch) (D : q_D) (al : q_Al) (dt : q_Dt) (x0 : Nat) (x1 : Int32) (x2 : Int32) (x3 : Int32) (kx0 : al.1 x0 = 13) (r0 : Int32) (dt0 : q_Dt) (hm : X12_bitBy al dt x0 x1 x2 x3 = some (r0, dt0)) : q_Mt l yX12_bitBy cX12_bitBy 4 (some FieldType.int) 4 99 D al [.ref x0, .int x1, .int x2, .int x3] dt 0 (some (.int r0)) dt0 := by
  refine q_Mt.of (by decide) (Nat.le_of_ble_eq_true rfl) ?_
  intro p e s m args below meth c ls C hargs hW hl
  have hx := C.1
  have hb := C.2.1
  have hown := C.2.2.2.2.2.1
  have hts := C.2.2.2.2.2.2.1
  have hS : va_S (q_A al) s.heap s.heap [] := va_S.rf
  have hl : lv_has ls 4 [(0, .ref x0), (1, .int x1), (2, .int x2), (3, .int x3)] := hl
  unfold X12_bitBy at hm
  refine lv_aload_n hx hb dX12_bitBy_0 rfl (lv_at hl 0 rfl) ?_
  refine lv_iload_n hx hb dX12_bitBy_1 rfl (lv_at hl 1 rfl) ?_
  obtain ⟨v1000002, hc1000001, hm⟩ := q_b1i hm
  refine q_callV C hW hS (As := [.int x1]) (rest := []) (st1 := [.int v1000002]) (c_X12_isSender l D al dt x0 x1 kx0 v1000002 hc1000001) yl_X12_isSender vl_X12_isSender ml_RX12_415 (ci := 12) rfl kx0 (by decide) rfl ⟨Nat.le_of_ble_eq_true rfl, Nat.le_of_ble_eq_true rfl⟩ hl rfl (Nat.le_of_ble_eq_true rfl) dX12_bitBy_2 ⟨Nat.le_refl _, Nat.le_refl _⟩ rfl (fun H locs k1000003 hW hS => ?_)
  refine q_ifc hm (fun c1000004 hm => ?_) (fun c1000004 hm => ?_)
  · refine lv_if_eq (tgt := 12) hx hb dX12_bitBy_5 (by decide) (fun _ => ?_) (fun h => absurd c1000004 h)
    refine lv_iconst (v := (-1)) hx hb dX12_bitBy_12 (by decide) ?_
    exact e_iD C hW hS hm dX12_bitBy_13
  refine lv_if_eq (tgt := 12) hx hb dX12_bitBy_5 (by decide) (fun h => absurd h c1000004) (fun _ => ?_)
  refine lv_iload_n hx hb dX12_bitBy_8 rfl (lv_at hl 2 rfl) ?_
  refine q_ifc hm (fun c1000005 hm => ?_) (fun c1000005 hm => ?_)
  · refine lv_if_ge (tgt := 14) hx hb dX12_bitBy_9 (by decide) (fun _ => ?_) (fun h => absurd c1000005 h)
    refine lv_iload_n hx hb dX12_bitBy_14 rfl (lv_at hl 2 rfl) ?_
    refine lv_sipush (v := 511) hx hb dX12_bitBy_15 (by decide) ?_
    refine q_ifc hm (fun c1000006 hm => ?_) (fun c1000006 hm => ?_)
    · refine lv_icmp_le (tgt := 24) hx hb dX12_bitBy_18 (by decide) (fun _ => ?_) (fun h => absurd c1000006 h)
      refine lv_aload_n hx hb dX12_bitBy_24 rfl (lv_at hl 0 rfl) ?_
      refine lv_aload_n hx hb dX12_bitBy_25 rfl (lv_at hl 0 rfl) ?_
      refine r_getF C hW (ci := 12) kx0 ff_12_53 cl_12 fl_RX12_133 dX12_bitBy_26 (fun k1000007 => ?_)
      refine lv_iload_n hx hb dX12_bitBy_29 rfl (lv_at hl 1 rfl) ?_
      refine lv_iload_n hx hb dX12_bitBy_30 rfl (lv_at hl 3 rfl) ?_
      obtain ⟨dt1000009, hc1000008, hm⟩ := q_b1i hm
      refine q_callV C hW hS (As := [.ref (al.2.2 x0 53), .int x1, .int x3]) (rest := []) (st1 := []) (c_X12_sumsUp l D al dt x0 (al.2.2 x0 53) x1 x3 kx0 k1000007 dt1000009 hc1000008) yl_X12_sumsUp vl_X12_sumsUp ml_RX12_450 (ci := 12) rfl kx0 (by decide) rfl ⟨Nat.le_of_ble_eq_true rfl, Nat.le_of_ble_eq_true rfl⟩ hl rfl (Nat.le_of_ble_eq_true rfl) dX12_bitBy_31 ⟨Nat.le_refl _, Nat.le_refl _⟩ rfl (fun H locs k1000010 hW hS => ?_)
      refine lv_aload_n hx hb dX12_bitBy_34 rfl (lv_at hl 0 rfl) ?_
      refine lv_iload_n hx hb dX12_bitBy_35 rfl (lv_at hl 2 rfl) ?_
      obtain ⟨v1000012, hc1000011, hm⟩ := q_b1i hm
      refine q_callV C hW hS (As := [.int x2]) (rest := []) (st1 := [.int v1000012]) (c_X12_bitOf l D al dt1000009 x0 x2 kx0 v1000012 hc1000011) yl_X12_bitOf vl_X12_bitOf ml_RX12_454 (ci := 12) rfl kx0 (by decide) rfl ⟨Nat.le_of_ble_eq_true rfl, Nat.le_of_ble_eq_true rfl⟩ hl rfl (Nat.le_of_ble_eq_true rfl) dX12_bitBy_36 ⟨Nat.le_refl _, Nat.le_refl _⟩ rfl (fun H locs k1000013 hW hS => ?_)
      exact e_iD C hW hS hm dX12_bitBy_39
    refine lv_icmp_le (tgt := 24) hx hb dX12_bitBy_18 (by decide) (fun h => absurd h c1000006) (fun _ => ?_)
    refine lv_bipush (v := (-2)) hx hb dX12_bitBy_21 (by decide) ?_
    exact e_iD C hW hS hm dX12_bitBy_23
  refine lv_if_ge (tgt := 14) hx hb dX12_bitBy_9 (by decide) (fun h => absurd h c1000005) (fun _ => ?_)
  refine lv_iconst (v := (-1)) hx hb dX12_bitBy_12 (by decide) ?_
  exact e_iD C hW hS hm dX12_bitBy_13
theorem dX12_bit_0 : decode cX12_bit 0 = .ok (.aload_n 0, 1) := by decide +kernel
theorem dX12_bit_1 : decode cX12_bit 1 = .ok (.iload_n 1, 1) := by decide +kernel
theorem dX12_bit_2 : decode cX12_bit 2 = .ok (.iload_n 2, 1) := by decide +kernel
theorem dX12_bit_3 : decode cX12_bit 3 = .ok (.iconst 0, 1) := by decide +kernel
theorem dX12_bit_4 : decode cX12_bit 4 = .ok (.invokevirtual 457, 3) := by decide +kernel
theorem dX12_bit_7 : decode cX12_bit 7 = .ok (.ireturn, 1) := by decide +kernel
set_option maxRecDepth 100000 in
theorem c_X12_bit (l : Launch) (D : q_D) (al : q_Al) (dt : q_Dt) (x0 : Nat) (x1 : Int32) (x2 : Int32) (kx0 : al.1 x0 = 13) (r0 : Int32) (dt0 : q_Dt) (hm : X12_bit al dt x0 x1 x2 = some (r0, dt0)) : q_Mt l yX12_bit cX12_bit 3 (some FieldType.int) 5 122 D al [.ref x0, .int x1, .int x2] dt 0 (some (.int r0)) dt0 := by
  refine q_Mt.of (by decide) (Nat.le_of_ble_eq_true rfl) ?_
  intro p e s m args below meth c ls C hargs hW hl
  have hx := C.1
  have hb := C.2.1
  have hown := C.2.2.2.2.2.1
  have hts := C.2.2.2.2.2.2.1
  have hS : va_S (q_A al) s.heap s.heap [] := va_S.rf
  have hl : lv_has ls 3 [(0, .ref x0), (1, .int x1), (2, .int x2)] := hl
  unfold X12_bit at hm
  refine lv_aload_n hx hb dX12_bit_0 rfl (lv_at hl 0 rfl) ?_
  refine lv_iload_n hx hb dX12_bit_1 rfl (lv_at hl 1 rfl) ?_
  refine lv_iload_n hx hb dX12_bit_2 rfl (lv_at hl 2 rfl) ?_
  refine lv_iconst (v := 0) hx hb dX12_bit_3 (by decide) ?_
  obtain ⟨v1000002, dt1000003, hc1000001, hm⟩ := q_b2i hm
  refine q_callV C hW hS (As := [.int x1, .int x2, .int 0]) (rest := []) (st1 := [.int v1000002]) (c_X12_bitBy l D al dt x0 x1 x2 0 kx0 v1000002 dt1000003 hc1000001) yl_X12_bitBy vl_X12_bitBy ml_RX12_457 (ci := 12) rfl kx0 (by decide) rfl ⟨Nat.le_of_ble_eq_true rfl, Nat.le_of_ble_eq_true rfl⟩ hl rfl (Nat.le_of_ble_eq_true rfl) dX12_bit_4 ⟨Nat.le_refl _, Nat.le_refl _⟩ rfl (fun H locs k1000004 hW hS => ?_)
  exact e_iD C hW hS hm dX12_bit_7
theorem dX12_joined_0 : decode cX12_joined 0 = .ok (.aload_n 0, 1) := by decide +kernel
theorem dX12_joined_1 : decode cX12_joined 1 = .ok (.iload_n 1, 1) := by decide +kernel
theorem dX12_joined_2 : decode cX12_joined 2 = .ok (.iload_n 2, 1) := by decide +kernel
theorem dX12_joined_3 : decode cX12_joined 3 = .ok (.iconst 1, 1) := by decide +kernel
theorem dX12_joined_4 : decode cX12_joined 4 = .ok (.invokevirtual 457, 3) := by decide +kernel
theorem dX12_joined_7 : decode cX12_joined 7 = .ok (.ireturn, 1) := by decide +kernel
set_option maxRecDepth 100000 in
theorem c_X12_joined (l : Launch) (D : q_D) (al : q_Al) (dt : q_Dt) (x0 : Nat) (x1 : Int32) (x2 : Int32) (kx0 : al.1 x0 = 13) (r0 : Int32) (dt0 : q_Dt) (hm : X12_joined al dt x0 x1 x2 = some (r0, dt0)) : q_Mt l yX12_joined cX12_joined 3 (some FieldType.int) 5 122 D al [.ref x0, .int x1, .int x2] dt 0 (some (.int r0)) dt0 := by
  refine q_Mt.of (by decide) (Nat.le_of_ble_eq_true rfl) ?_
  intro p e s m args below meth c ls C hargs hW hl
  have hx := C.1
  have hb := C.2.1
  have hown := C.2.2.2.2.2.1
  have hts := C.2.2.2.2.2.2.1
  have hS : va_S (q_A al) s.heap s.heap [] := va_S.rf
  have hl : lv_has ls 3 [(0, .ref x0), (1, .int x1), (2, .int x2)] := hl
  unfold X12_joined at hm
  refine lv_aload_n hx hb dX12_joined_0 rfl (lv_at hl 0 rfl) ?_
  refine lv_iload_n hx hb dX12_joined_1 rfl (lv_at hl 1 rfl) ?_
  refine lv_iload_n hx hb dX12_joined_2 rfl (lv_at hl 2 rfl) ?_
  refine lv_iconst (v := 1) hx hb dX12_joined_3 (by decide) ?_
  obtain ⟨v1000002, dt1000003, hc1000001, hm⟩ := q_b2i hm
  refine q_callV C hW hS (As := [.int x1, .int x2, .int 1]) (rest := []) (st1 := [.int v1000002]) (c_X12_bitBy l D al dt x0 x1 x2 1 kx0 v1000002 dt1000003 hc1000001) yl_X12_bitBy vl_X12_bitBy ml_RX12_457 (ci := 12) rfl kx0 (by decide) rfl ⟨Nat.le_of_ble_eq_true rfl, Nat.le_of_ble_eq_true rfl⟩ hl rfl (Nat.le_of_ble_eq_true rfl) dX12_joined_4 ⟨Nat.le_refl _, Nat.le_refl _⟩ rfl (fun H locs k1000004 hW hS => ?_)
  exact e_iD C hW hS hm dX12_joined_7
theorem dX12_wrongOf_0 : decode cX12_wrongOf 0 = .ok (.aload_n 0, 1) := by decide +kernel
theorem dX12_wrongOf_1 : decode cX12_wrongOf 1 = .ok (.aload_n 1, 1) := by decide +kernel
theorem dX12_wrongOf_2 : decode cX12_wrongOf 2 = .ok (.iload_n 2, 1) := by decide +kernel
theorem dX12_wrongOf_3 : decode cX12_wrongOf 3 = .ok (.iconst 0, 1) := by decide +kernel
theorem dX12_wrongOf_4 : decode cX12_wrongOf 4 = .ok (.invokevirtual 450, 3) := by decide +kernel
theorem dX12_wrongOf_7 : decode cX12_wrongOf 7 = .ok (.iconst 0, 1) := by decide +kernel
theorem dX12_wrongOf_8 : decode cX12_wrongOf 8 = .ok (.istore_n 3, 1) := by decide +kernel
theorem dX12_wrongOf_9 : decode cX12_wrongOf 9 = .ok (.iconst 0, 1) := by decide +kernel
theorem dX12_wrongOf_10 : decode cX12_wrongOf 10 = .ok (.istore 4, 2) := by decide +kernel
theorem dX12_wrongOf_12 : decode cX12_wrongOf 12 = .ok (.iload 4, 2) := by decide +kernel
theorem dX12_wrongOf_14 : decode cX12_wrongOf 14 = .ok (.sipush 512, 3) := by decide +kernel
theorem dX12_wrongOf_17 : decode cX12_wrongOf 17 = .ok (.if_icmp .ge 38, 3) := by decide +kernel
theorem dX12_wrongOf_20 : decode cX12_wrongOf 20 = .ok (.aload_n 0, 1) := by decide +kernel
theorem dX12_wrongOf_21 : decode cX12_wrongOf 21 = .ok (.getfield 161, 3) := by decide +kernel
theorem dX12_wrongOf_24 : decode cX12_wrongOf 24 = .ok (.iload 4, 2) := by decide +kernel
theorem dX12_wrongOf_26 : decode cX12_wrongOf 26 = .ok (.baload, 1) := by decide +kernel
theorem dX12_wrongOf_27 : decode cX12_wrongOf 27 = .ok (.ifCond .eq 22, 3) := by decide +kernel
theorem dX12_wrongOf_30 : decode cX12_wrongOf 30 = .ok (.aload_n 0, 1) := by decide +kernel
theorem dX12_wrongOf_31 : decode cX12_wrongOf 31 = .ok (.iload 4, 2) := by decide +kernel
theorem dX12_wrongOf_33 : decode cX12_wrongOf 33 = .ok (.invokevirtual 454, 3) := by decide +kernel
theorem dX12_wrongOf_36 : decode cX12_wrongOf 36 = .ok (.aload_n 0, 1) := by decide +kernel
theorem dX12_wrongOf_37 : decode cX12_wrongOf 37 = .ok (.iload_n 2, 1) := by decide +kernel
theorem dX12_wrongOf_38 : decode cX12_wrongOf 38 = .ok (.iload 4, 2) := by decide +kernel
theorem dX12_wrongOf_40 : decode cX12_wrongOf 40 = .ok (.invokevirtual 339, 3) := by decide +kernel
theorem dX12_wrongOf_43 : decode cX12_wrongOf 43 = .ok (.if_icmp .eq 6, 3) := by decide +kernel
theorem dX12_wrongOf_46 : decode cX12_wrongOf 46 = .ok (.iinc 3 1, 3) := by decide +kernel
theorem dX12_wrongOf_49 : decode cX12_wrongOf 49 = .ok (.iinc 4 1, 3) := by decide +kernel
theorem dX12_wrongOf_52 : decode cX12_wrongOf 52 = .ok (.goto (-40), 3) := by decide +kernel
theorem dX12_wrongOf_55 : decode cX12_wrongOf 55 = .ok (.iload_n 3, 1) := by decide +kernel
theorem dX12_wrongOf_56 : decode cX12_wrongOf 56 = .ok (.ireturn, 1) := by decide +kernel
set_option maxRecDepth 100000 in
theorem c_X12_wrongOf (l : Launch) (D : q_D) (al : q_Al) (dt : q_Dt) (x0 : Nat) (x1 : Nat) (x2 : Int32) (kx0 : al.1 x0 = 13) (kx1 : al.1 x1 = 21) (r0 : Int32) (dt0 : q_Dt) (hm : X12_wrongOf al dt x0 x1 x2 = some (r0, dt0)) : q_Mt l yX12_wrongOf cX12_wrongOf 5 (some FieldType.int) 4 99 D al [.ref x0, .ref x1, .int x2] dt 0 (some (.int r0)) dt0 := by
  refine q_Mt.of (by decide) (Nat.le_of_ble_eq_true rfl) ?_
  intro p e s m args below meth c ls C hargs hW hl
  have hx := C.1
  have hb := C.2.1
  have hown := C.2.2.2.2.2.1
  have hts := C.2.2.2.2.2.2.1
  have hS : va_S (q_A al) s.heap s.heap [] := va_S.rf
  have hl : lv_has ls 5 [(0, .ref x0), (1, .ref x1), (2, .int x2)] := hl
  unfold X12_wrongOf at hm
  have hB12 : ∀ (x0_12 : Nat) (x2_12 : Int32) (kx0_12 : al.1 x0_12 = 13) (n_12 : Nat) (x3_12 : Int32) (x4_12 : Int32) (dt : q_Dt) (H : Heap) (locs : List Loc) (ls : Array Slot) (hm : X12_wrongOf_b12 al x0_12 x2_12 n_12 x3_12 x4_12 dt = some (r0, dt0)) (hW : q_W D al dt H) (hS : va_S (q_A al) s.heap H locs) (hl : lv_has ls 5 [(0, .ref x0_12), (2, .int x2_12), (3, .int x3_12), (4, .int x4_12)]), W p l e { frames := 4, cells := 0, slots := 0, locals := 99 } s m args below meth c H locs 0 0 (MQ below (q_Q (some (.int r0)) (fun H => q_W D al dt0 H ∧ q_Rk al 0 (some (.int r0))) (q_A al)) args s 0 0 (q_A al)) (F0 m 12 ls []) := by
    intro x0_12 x2_12 kx0_12
    intro n_12
    induction n_12 with
    | zero => intro x3_12 x4_12 dt H locs ls hm hW hS hl; cases hm
    | succ n_12 ih12 =>
      have hB49 : ∀ (x3_49 : Int32) (x4_49 : Int32) (dt : q_Dt) (H : Heap) (locs : List Loc) (ls : Array Slot) (hm : X12_wrongOf_b49 al (X12_wrongOf_b12 al x0_12 x2_12 n_12) x0_12 x2_12 x3_49 x4_49 dt = some (r0, dt0)) (hW : q_W D al dt H) (hS : va_S (q_A al) s.heap H locs) (hl : lv_has ls 5 [(0, .ref x0_12), (2, .int x2_12), (3, .int x3_49), (4, .int x4_49)]), W p l e { frames := 4, cells := 0, slots := 0, locals := 99 } s m args below meth c H locs 0 0 (MQ below (q_Q (some (.int r0)) (fun H => q_W D al dt0 H ∧ q_Rk al 0 (some (.int r0))) (q_A al)) args s 0 0 (q_A al)) (F0 m 49 ls []) := by
        intro x3_49 x4_49 dt H locs ls hm hW hS hl
        unfold X12_wrongOf_b49 at hm
        refine lv_iinc (v := (x4_49 + 1)) (lv' := [(4, .int (x4_49 + 1)), (0, .ref x0_12), (2, .int x2_12), (3, .int x3_49)]) hx hb dX12_wrongOf_49 hl (k := 3) rfl rfl (by decide) rfl (fun ls hl => ?_)
        refine lv_goto (tgt := 12) hx hb dX12_wrongOf_52 (by decide) ?_
        exact ih12 x3_49 (x4_49 + 1) dt _ _ _ hm hW hS (lv_sub hl [1, 2, 3, 0] rfl)
      intro x3_12 x4_12 dt H locs ls hm hW hS hl
      rw [X12_wrongOf_b12] at hm
      refine lv_iload hx hb dX12_wrongOf_12 (lv_at hl 3 rfl) ?_
      refine lv_sipush (v := 512) hx hb dX12_wrongOf_14 (by decide) ?_
      refine q_ifc hm (fun c12001 hm => ?_) (fun c12001 hm => ?_)
      · refine lv_icmp_ge (tgt := 55) hx hb dX12_wrongOf_17 (by decide) (fun _ => ?_) (fun h => absurd c12001 h)
        refine lv_iload_n hx hb dX12_wrongOf_55 rfl (lv_at hl 2 rfl) ?_
        exact e_iD C hW hS hm dX12_wrongOf_56
      refine lv_icmp_ge (tgt := 55) hx hb dX12_wrongOf_17 (by decide) (fun h => absurd h c12001) (fun _ => ?_)
      refine lv_aload_n hx hb dX12_wrongOf_20 rfl (lv_at hl 0 rfl) ?_
      refine r_getF C hW (ci := 12) kx0_12 ff_12_64 cl_12 fl_RX12_161 dX12_wrongOf_21 (fun k12002 => ?_)
      refine lv_iload hx hb dX12_wrongOf_24 (lv_at hl 3 rfl) ?_
      refine r_zald C hW hm k12002 dX12_wrongOf_26 (fun hm => ?_)
      refine q_ifc hm (fun c12003 hm => ?_) (fun c12003 hm => ?_)
      · refine lv_if_eq (tgt := 49) hx hb dX12_wrongOf_27 (by decide) (fun _ => ?_) (fun h => absurd c12003 h)
        exact hB49 x3_12 x4_12 dt _ _ _ hm hW hS (lv_sub hl [0, 1, 2, 3] rfl)
      refine lv_if_eq (tgt := 49) hx hb dX12_wrongOf_27 (by decide) (fun h => absurd h c12003) (fun _ => ?_)
      refine lv_aload_n hx hb dX12_wrongOf_30 rfl (lv_at hl 0 rfl) ?_
      refine lv_iload hx hb dX12_wrongOf_31 (lv_at hl 3 rfl) ?_
      obtain ⟨v12005, hc12004, hm⟩ := q_b1i hm
      refine q_callV C hW hS (As := [.int x4_12]) (rest := []) (st1 := [.int v12005]) (c_X12_bitOf l D al dt x0_12 x4_12 kx0_12 v12005 hc12004) yl_X12_bitOf vl_X12_bitOf ml_RX12_454 (ci := 12) rfl kx0_12 (by decide) rfl ⟨Nat.le_of_ble_eq_true rfl, Nat.le_of_ble_eq_true rfl⟩ hl rfl (Nat.le_of_ble_eq_true rfl) dX12_wrongOf_33 ⟨Nat.le_refl _, Nat.le_refl _⟩ rfl (fun H locs k12006 hW hS => ?_)
      refine lv_aload_n hx hb dX12_wrongOf_36 rfl (lv_at hl 0 rfl) ?_
      refine lv_iload_n hx hb dX12_wrongOf_37 rfl (lv_at hl 1 rfl) ?_
      refine lv_iload hx hb dX12_wrongOf_38 (lv_at hl 3 rfl) ?_
      obtain ⟨v12008, hc12007, hm⟩ := q_b1i hm
      refine q_callV C hW hS (As := [.int x2_12, .int x4_12]) (rest := [.int v12005]) (st1 := [.int v12008, .int v12005]) (c_X12_dataBit l D al dt x0_12 x2_12 x4_12 kx0_12 v12008 hc12007) yl_X12_dataBit vl_X12_dataBit ml_RX12_339 (ci := 12) rfl kx0_12 (by decide) rfl ⟨Nat.le_of_ble_eq_true rfl, Nat.le_of_ble_eq_true rfl⟩ hl rfl (Nat.le_of_ble_eq_true rfl) dX12_wrongOf_40 ⟨Nat.le_refl _, Nat.le_refl _⟩ rfl (fun H locs k12009 hW hS => ?_)
      refine q_ifc hm (fun c12010 hm => ?_) (fun c12010 hm => ?_)
      · refine lv_icmp_eq (tgt := 49) hx hb dX12_wrongOf_43 (by decide) (fun _ => ?_) (fun h => absurd c12010 h)
        exact hB49 x3_12 x4_12 dt _ _ _ hm hW hS (lv_sub hl [0, 1, 2, 3] rfl)
      refine lv_icmp_eq (tgt := 49) hx hb dX12_wrongOf_43 (by decide) (fun h => absurd h c12010) (fun _ => ?_)
      refine lv_iinc (v := (x3_12 + 1)) (lv' := [(3, .int (x3_12 + 1)), (0, .ref x0_12), (2, .int x2_12), (4, .int x4_12)]) hx hb dX12_wrongOf_46 hl (k := 2) rfl rfl (by decide) rfl (fun ls hl => ?_)
      exact hB49 (x3_12 + 1) x4_12 dt _ _ _ hm hW hS (lv_sub hl [1, 2, 0, 3] rfl)
  refine lv_aload_n hx hb dX12_wrongOf_0 rfl (lv_at hl 0 rfl) ?_
  refine lv_aload_n hx hb dX12_wrongOf_1 rfl (lv_at hl 1 rfl) ?_
  refine lv_iload_n hx hb dX12_wrongOf_2 rfl (lv_at hl 2 rfl) ?_
  refine lv_iconst (v := 0) hx hb dX12_wrongOf_3 (by decide) ?_
  obtain ⟨dt1000002, hc1000001, hm⟩ := q_b1i hm
  refine q_callV C hW hS (As := [.ref x1, .int x2, .int 0]) (rest := []) (st1 := []) (c_X12_sumsUp l D al dt x0 x1 x2 0 kx0 kx1 dt1000002 hc1000001) yl_X12_sumsUp vl_X12_sumsUp ml_RX12_450 (ci := 12) rfl kx0 (by decide) rfl ⟨Nat.le_of_ble_eq_true rfl, Nat.le_of_ble_eq_true rfl⟩ hl rfl (Nat.le_of_ble_eq_true rfl) dX12_wrongOf_4 ⟨Nat.le_refl _, Nat.le_refl _⟩ rfl (fun H locs k1000003 hW hS => ?_)
  refine lv_iconst (v := 0) hx hb dX12_wrongOf_7 (by decide) ?_
  refine lv_istore_n (i := 3) (lv' := [(3, .int 0), (0, .ref x0), (1, .ref x1), (2, .int x2)]) hx hb dX12_wrongOf_8 rfl hl (by decide) rfl (fun ls hl => ?_)
  refine lv_iconst (v := 0) hx hb dX12_wrongOf_9 (by decide) ?_
  refine lv_istore (i := 4) (lv' := [(4, .int 0), (3, .int 0), (0, .ref x0), (1, .ref x1), (2, .int x2)]) hx hb dX12_wrongOf_10 hl (by decide) rfl (fun ls hl => ?_)
  exact hB12 x0 x2 kx0 q_FU 0 0 dt1000002 _ _ _ hm hW hS (lv_sub hl [2, 4, 1, 0] rfl)
theorem dX12_wrong_0 : decode cX12_wrong 0 = .ok (.aload_n 0, 1) := by decide +kernel
theorem dX12_wrong_1 : decode cX12_wrong 1 = .ok (.iload_n 1, 1) := by decide +kernel
theorem dX12_wrong_2 : decode cX12_wrong 2 = .ok (.invokevirtual 415, 3) := by decide +kernel
theorem dX12_wrong_5 : decode cX12_wrong 5 = .ok (.ifCond .eq 15, 3) := by decide +kernel
theorem dX12_wrong_8 : decode cX12_wrong 8 = .ok (.aload_n 0, 1) := by decide +kernel
theorem dX12_wrong_9 : decode cX12_wrong 9 = .ok (.aload_n 0, 1) := by decide +kernel
theorem dX12_wrong_10 : decode cX12_wrong 10 = .ok (.getfield 133, 3) := by decide +kernel
theorem dX12_wrong_13 : decode cX12_wrong 13 = .ok (.iload_n 1, 1) := by decide +kernel
theorem dX12_wrong_14 : decode cX12_wrong 14 = .ok (.invokevirtual 461, 3) := by decide +kernel
theorem dX12_wrong_17 : decode cX12_wrong 17 = .ok (.goto 4, 3) := by decide +kernel
theorem dX12_wrong_20 : decode cX12_wrong 20 = .ok (.iconst (-1), 1) := by decide +kernel
theorem dX12_wrong_21 : decode cX12_wrong 21 = .ok (.ireturn, 1) := by decide +kernel
set_option maxRecDepth 100000 in
theorem c_X12_wrong (l : Launch) (D : q_D) (al : q_Al) (dt : q_Dt) (x0 : Nat) (x1 : Int32) (kx0 : al.1 x0 = 13) (r0 : Int32) (dt0 : q_Dt) (hm : X12_wrong al dt x0 x1 = some (r0, dt0)) : q_Mt l yX12_wrong cX12_wrong 2 (some FieldType.int) 5 123 D al [.ref x0, .int x1] dt 0 (some (.int r0)) dt0 := by
  refine q_Mt.of (by decide) (Nat.le_of_ble_eq_true rfl) ?_
  intro p e s m args below meth c ls C hargs hW hl
  have hx := C.1
  have hb := C.2.1
  have hown := C.2.2.2.2.2.1
  have hts := C.2.2.2.2.2.2.1
  have hS : va_S (q_A al) s.heap s.heap [] := va_S.rf
  have hl : lv_has ls 2 [(0, .ref x0), (1, .int x1)] := hl
  unfold X12_wrong at hm
  refine lv_aload_n hx hb dX12_wrong_0 rfl (lv_at hl 0 rfl) ?_
  refine lv_iload_n hx hb dX12_wrong_1 rfl (lv_at hl 1 rfl) ?_
  obtain ⟨v1000002, hc1000001, hm⟩ := q_b1i hm
  refine q_callV C hW hS (As := [.int x1]) (rest := []) (st1 := [.int v1000002]) (c_X12_isSender l D al dt x0 x1 kx0 v1000002 hc1000001) yl_X12_isSender vl_X12_isSender ml_RX12_415 (ci := 12) rfl kx0 (by decide) rfl ⟨Nat.le_of_ble_eq_true rfl, Nat.le_of_ble_eq_true rfl⟩ hl rfl (Nat.le_of_ble_eq_true rfl) dX12_wrong_2 ⟨Nat.le_refl _, Nat.le_refl _⟩ rfl (fun H locs k1000003 hW hS => ?_)
  refine q_ifc hm (fun c1000004 hm => ?_) (fun c1000004 hm => ?_)
  · refine lv_if_eq (tgt := 20) hx hb dX12_wrong_5 (by decide) (fun _ => ?_) (fun h => absurd c1000004 h)
    refine lv_iconst (v := (-1)) hx hb dX12_wrong_20 (by decide) ?_
    exact e_iD C hW hS hm dX12_wrong_21
  refine lv_if_eq (tgt := 20) hx hb dX12_wrong_5 (by decide) (fun h => absurd h c1000004) (fun _ => ?_)
  refine lv_aload_n hx hb dX12_wrong_8 rfl (lv_at hl 0 rfl) ?_
  refine lv_aload_n hx hb dX12_wrong_9 rfl (lv_at hl 0 rfl) ?_
  refine r_getF C hW (ci := 12) kx0 ff_12_53 cl_12 fl_RX12_133 dX12_wrong_10 (fun k1000005 => ?_)
  refine lv_iload_n hx hb dX12_wrong_13 rfl (lv_at hl 1 rfl) ?_
  obtain ⟨v1000007, dt1000008, hc1000006, hm⟩ := q_b2i hm
  refine q_callV C hW hS (As := [.ref (al.2.2 x0 53), .int x1]) (rest := []) (st1 := [.int v1000007]) (c_X12_wrongOf l D al dt x0 (al.2.2 x0 53) x1 kx0 k1000005 v1000007 dt1000008 hc1000006) yl_X12_wrongOf vl_X12_wrongOf ml_RX12_461 (ci := 12) rfl kx0 (by decide) rfl ⟨Nat.le_of_ble_eq_true rfl, Nat.le_of_ble_eq_true rfl⟩ hl rfl (Nat.le_of_ble_eq_true rfl) dX12_wrong_14 ⟨Nat.le_refl _, Nat.le_refl _⟩ rfl (fun H locs k1000009 hW hS => ?_)
  refine lv_goto (tgt := 21) hx hb dX12_wrong_17 (by decide) ?_
  exact e_iD C hW hS hm dX12_wrong_21
theorem dX12_frame_0 : decode cX12_frame 0 = .ok (.aload_n 0, 1) := by decide +kernel
theorem dX12_frame_1 : decode cX12_frame 1 = .ok (.iload_n 1, 1) := by decide +kernel
theorem dX12_frame_2 : decode cX12_frame 2 = .ok (.invokevirtual 415, 3) := by decide +kernel
theorem dX12_frame_5 : decode cX12_frame 5 = .ok (.ifCond .eq 26, 3) := by decide +kernel
theorem dX12_frame_8 : decode cX12_frame 8 = .ok (.iload_n 3, 1) := by decide +kernel
theorem dX12_frame_9 : decode cX12_frame 9 = .ok (.iconst 1, 1) := by decide +kernel
theorem dX12_frame_10 : decode cX12_frame 10 = .ok (.bipush 13, 2) := by decide +kernel
theorem dX12_frame_12 : decode cX12_frame 12 = .ok (.invokestatic 376, 3) := by decide +kernel
theorem dX12_frame_15 : decode cX12_frame 15 = .ok (.ifCond .eq 16, 3) := by decide +kernel
theorem dX12_frame_18 : decode cX12_frame 18 = .ok (.iload_n 2, 1) := by decide +kernel
theorem dX12_frame_19 : decode cX12_frame 19 = .ok (.iconst 0, 1) := by decide +kernel
theorem dX12_frame_20 : decode cX12_frame 20 = .ok (.iconst 1, 1) := by decide +kernel
theorem dX12_frame_21 : decode cX12_frame 21 = .ok (.iload_n 3, 1) := by decide +kernel
theorem dX12_frame_22 : decode cX12_frame 22 = .ok (.ishl, 1) := by decide +kernel
theorem dX12_frame_23 : decode cX12_frame 23 = .ok (.iconst 1, 1) := by decide +kernel
theorem dX12_frame_24 : decode cX12_frame 24 = .ok (.isub, 1) := by decide +kernel
theorem dX12_frame_25 : decode cX12_frame 25 = .ok (.invokestatic 376, 3) := by decide +kernel
theorem dX12_frame_28 : decode cX12_frame 28 = .ok (.ifCond .ne 5, 3) := by decide +kernel
theorem dX12_frame_31 : decode cX12_frame 31 = .ok (.iconst (-1), 1) := by decide +kernel
theorem dX12_frame_32 : decode cX12_frame 32 = .ok (.ireturn, 1) := by decide +kernel
theorem dX12_frame_33 : decode cX12_frame 33 = .ok (.aload_n 0, 1) := by decide +kernel
theorem dX12_frame_34 : decode cX12_frame 34 = .ok (.aload_n 0, 1) := by decide +kernel
theorem dX12_frame_35 : decode cX12_frame 35 = .ok (.getfield 133, 3) := by decide +kernel
theorem dX12_frame_38 : decode cX12_frame 38 = .ok (.iload_n 1, 1) := by decide +kernel
theorem dX12_frame_39 : decode cX12_frame 39 = .ok (.iconst 0, 1) := by decide +kernel
theorem dX12_frame_40 : decode cX12_frame 40 = .ok (.invokevirtual 450, 3) := by decide +kernel
theorem dX12_frame_43 : decode cX12_frame 43 = .ok (.iconst 0, 1) := by decide +kernel
theorem dX12_frame_44 : decode cX12_frame 44 = .ok (.istore 4, 2) := by decide +kernel
theorem dX12_frame_46 : decode cX12_frame 46 = .ok (.iload 4, 2) := by decide +kernel
theorem dX12_frame_48 : decode cX12_frame 48 = .ok (.iload_n 3, 1) := by decide +kernel
theorem dX12_frame_49 : decode cX12_frame 49 = .ok (.iadd, 1) := by decide +kernel
theorem dX12_frame_50 : decode cX12_frame 50 = .ok (.sipush 512, 3) := by decide +kernel
theorem dX12_frame_53 : decode cX12_frame 53 = .ok (.if_icmp .gt 65, 3) := by decide +kernel
theorem dX12_frame_56 : decode cX12_frame 56 = .ok (.iconst 1, 1) := by decide +kernel
theorem dX12_frame_57 : decode cX12_frame 57 = .ok (.istore 5, 2) := by decide +kernel
theorem dX12_frame_59 : decode cX12_frame 59 = .ok (.iconst 0, 1) := by decide +kernel
theorem dX12_frame_60 : decode cX12_frame 60 = .ok (.istore 6, 2) := by decide +kernel
theorem dX12_frame_62 : decode cX12_frame 62 = .ok (.iload 6, 2) := by decide +kernel
theorem dX12_frame_64 : decode cX12_frame 64 = .ok (.iload_n 3, 1) := by decide +kernel
theorem dX12_frame_65 : decode cX12_frame 65 = .ok (.if_icmp .ge 39, 3) := by decide +kernel
theorem dX12_frame_68 : decode cX12_frame 68 = .ok (.iload 5, 2) := by decide +kernel
theorem dX12_frame_70 : decode cX12_frame 70 = .ok (.ifCond .eq 25, 3) := by decide +kernel
theorem dX12_frame_73 : decode cX12_frame 73 = .ok (.aload_n 0, 1) := by decide +kernel
theorem dX12_frame_74 : decode cX12_frame 74 = .ok (.iload 4, 2) := by decide +kernel
theorem dX12_frame_76 : decode cX12_frame 76 = .ok (.iload 6, 2) := by decide +kernel
theorem dX12_frame_78 : decode cX12_frame 78 = .ok (.iadd, 1) := by decide +kernel
theorem dX12_frame_79 : decode cX12_frame 79 = .ok (.invokevirtual 454, 3) := by decide +kernel
theorem dX12_frame_82 : decode cX12_frame 82 = .ok (.iload_n 2, 1) := by decide +kernel
theorem dX12_frame_83 : decode cX12_frame 83 = .ok (.iload 6, 2) := by decide +kernel
theorem dX12_frame_85 : decode cX12_frame 85 = .ok (.ishr, 1) := by decide +kernel
theorem dX12_frame_86 : decode cX12_frame 86 = .ok (.iconst 1, 1) := by decide +kernel
theorem dX12_frame_87 : decode cX12_frame 87 = .ok (.iand, 1) := by decide +kernel
theorem dX12_frame_88 : decode cX12_frame 88 = .ok (.if_icmp .ne 7, 3) := by decide +kernel
theorem dX12_frame_91 : decode cX12_frame 91 = .ok (.iconst 1, 1) := by decide +kernel
theorem dX12_frame_92 : decode cX12_frame 92 = .ok (.goto 4, 3) := by decide +kernel
theorem dX12_frame_95 : decode cX12_frame 95 = .ok (.iconst 0, 1) := by decide +kernel
theorem dX12_frame_96 : decode cX12_frame 96 = .ok (.istore 5, 2) := by decide +kernel
theorem dX12_frame_98 : decode cX12_frame 98 = .ok (.iinc 6 1, 3) := by decide +kernel
theorem dX12_frame_101 : decode cX12_frame 101 = .ok (.goto (-39), 3) := by decide +kernel
theorem dX12_frame_104 : decode cX12_frame 104 = .ok (.iload 5, 2) := by decide +kernel
theorem dX12_frame_106 : decode cX12_frame 106 = .ok (.ifCond .eq 6, 3) := by decide +kernel
theorem dX12_frame_109 : decode cX12_frame 109 = .ok (.iload 4, 2) := by decide +kernel
theorem dX12_frame_111 : decode cX12_frame 111 = .ok (.ireturn, 1) := by decide +kernel
theorem dX12_frame_112 : decode cX12_frame 112 = .ok (.iinc 4 1, 3) := by decide +kernel
theorem dX12_frame_115 : decode cX12_frame 115 = .ok (.goto (-69), 3) := by decide +kernel
theorem dX12_frame_118 : decode cX12_frame 118 = .ok (.bipush (-2), 2) := by decide +kernel
theorem dX12_frame_120 : decode cX12_frame 120 = .ok (.ireturn, 1) := by decide +kernel
set_option maxRecDepth 100000 in
theorem c_X12_frame (l : Launch) (D : q_D) (al : q_Al) (dt : q_Dt) (x0 : Nat) (x1 : Int32) (x2 : Int32) (x3 : Int32) (kx0 : al.1 x0 = 13) (r0 : Int32) (dt0 : q_Dt) (hm : X12_frame al dt x0 x1 x2 x3 = some (r0, dt0)) : q_Mt l yX12_frame cX12_frame 7 (some FieldType.int) 4 99 D al [.ref x0, .int x1, .int x2, .int x3] dt 0 (some (.int r0)) dt0 := by
  refine q_Mt.of (by decide) (Nat.le_of_ble_eq_true rfl) ?_
  intro p e s m args below meth c ls C hargs hW hl
  have hx := C.1
  have hb := C.2.1
  have hown := C.2.2.2.2.2.1
  have hts := C.2.2.2.2.2.2.1
  have hS : va_S (q_A al) s.heap s.heap [] := va_S.rf
  have hl : lv_has ls 7 [(0, .ref x0), (1, .int x1), (2, .int x2), (3, .int x3)] := hl
  unfold X12_frame at hm
  have hB46 : ∀ (x0_46 : Nat) (x2_46 : Int32) (x3_46 : Int32) (kx0_46 : al.1 x0_46 = 13) (n_46 : Nat) (x4_46 : Int32) (dt : q_Dt) (H : Heap) (locs : List Loc) (ls : Array Slot) (hm : X12_frame_b46 al x0_46 x2_46 x3_46 n_46 x4_46 dt = some (r0, dt0)) (hW : q_W D al dt H) (hS : va_S (q_A al) s.heap H locs) (hl : lv_has ls 7 [(0, .ref x0_46), (2, .int x2_46), (3, .int x3_46), (4, .int x4_46)]), W p l e { frames := 4, cells := 0, slots := 0, locals := 99 } s m args below meth c H locs 0 0 (MQ below (q_Q (some (.int r0)) (fun H => q_W D al dt0 H ∧ q_Rk al 0 (some (.int r0))) (q_A al)) args s 0 0 (q_A al)) (F0 m 46 ls []) := by
    intro x0_46 x2_46 x3_46 kx0_46
    intro n_46
    induction n_46 with
    | zero => intro x4_46 dt H locs ls hm hW hS hl; cases hm
    | succ n_46 ih46 =>
      have hB62 : ∀ (x4_62 : Int32) (n_62 : Nat) (x5_62 : Int32) (x6_62 : Int32) (dt : q_Dt) (H : Heap) (locs : List Loc) (ls : Array Slot) (hm : X12_frame_b62 al (X12_frame_b46 al x0_46 x2_46 x3_46 n_46) x0_46 x2_46 x3_46 x4_62 n_62 x5_62 x6_62 dt = some (r0, dt0)) (hW : q_W D al dt H) (hS : va_S (q_A al) s.heap H locs) (hl : lv_has ls 7 [(0, .ref x0_46), (2, .int x2_46), (3, .int x3_46), (4, .int x4_62), (5, .int x5_62), (6, .int x6_62)]), W p l e { frames := 4, cells := 0, slots := 0, locals := 99 } s m args below meth c H locs 0 0 (MQ below (q_Q (some (.int r0)) (fun H => q_W D al dt0 H ∧ q_Rk al 0 (some (.int r0))) (q_A al)) args s 0 0 (q_A al)) (F0 m 62 ls []) := by
        intro x4_62
        intro n_62
        induction n_62 with
        | zero => intro x5_62 x6_62 dt H locs ls hm hW hS hl; cases hm
        | succ n_62 ih62 =>
          have hB96 : ∀ (x6_96 : Int32) (t0_96 : Int32) (dt : q_Dt) (H : Heap) (locs : List Loc) (ls : Array Slot) (hm : X12_frame_b96 al (X12_frame_b46 al x0_46 x2_46 x3_46 n_46) (X12_frame_b62 al (X12_frame_b46 al x0_46 x2_46 x3_46 n_46) x0_46 x2_46 x3_46 x4_62 n_62) x0_46 x2_46 x3_46 x4_62 x6_96 t0_96 dt = some (r0, dt0)) (hW : q_W D al dt H) (hS : va_S (q_A al) s.heap H locs) (hl : lv_has ls 7 [(0, .ref x0_46), (2, .int x2_46), (3, .int x3_46), (4, .int x4_62), (6, .int x6_96)]), W p l e { frames := 4, cells := 0, slots := 0, locals := 99 } s m args below meth c H locs 0 0 (MQ below (q_Q (some (.int r0)) (fun H => q_W D al dt0 H ∧ q_Rk al 0 (some (.int r0))) (q_A al)) args s 0 0 (q_A al)) (F0 m 96 ls [.int t0_96]) := by
            intro x6_96 t0_96 dt H locs ls hm hW hS hl
            unfold X12_frame_b96 at hm
            refine lv_istore (i := 5) (lv' := [(5, .int t0_96), (0, .ref x0_46), (2, .int x2_46), (3, .int x3_46), (4, .int x4_62), (6, .int x6_96)]) hx hb dX12_frame_96 hl (by decide) rfl (fun ls hl => ?_)
            refine lv_iinc (v := (x6_96 + 1)) (lv' := [(6, .int (x6_96 + 1)), (5, .int t0_96), (0, .ref x0_46), (2, .int x2_46), (3, .int x3_46), (4, .int x4_62)]) hx hb dX12_frame_98 hl (k := 5) rfl rfl (by decide) rfl (fun ls hl => ?_)
            refine lv_goto (tgt := 62) hx hb dX12_frame_101 (by decide) ?_
            exact ih62 t0_96 (x6_96 + 1) dt _ _ _ hm hW hS (lv_sub hl [2, 3, 4, 5, 1, 0] rfl)
          have hB95 : ∀ (x6_95 : Int32) (dt : q_Dt) (H : Heap) (locs : List Loc) (ls : Array Slot) (hm : X12_frame_b95 al (X12_frame_b46 al x0_46 x2_46 x3_46 n_46) (X12_frame_b62 al (X12_frame_b46 al x0_46 x2_46 x3_46 n_46) x0_46 x2_46 x3_46 x4_62 n_62) x0_46 x2_46 x3_46 x4_62 x6_95 dt = some (r0, dt0)) (hW : q_W D al dt H) (hS : va_S (q_A al) s.heap H locs) (hl : lv_has ls 7 [(0, .ref x0_46), (2, .int x2_46), (3, .int x3_46), (4, .int x4_62), (6, .int x6_95)]), W p l e { frames := 4, cells := 0, slots := 0, locals := 99 } s m args below meth c H locs 0 0 (MQ below (q_Q (some (.int r0)) (fun H => q_W D al dt0 H ∧ q_Rk al 0 (some (.int r0))) (q_A al)) args s 0 0 (q_A al)) (F0 m 95 ls []) := by
            intro x6_95 dt H locs ls hm hW hS hl
            unfold X12_frame_b95 at hm
            refine lv_iconst (v := 0) hx hb dX12_frame_95 (by decide) ?_
            exact hB96 x6_95 0 dt _ _ _ hm hW hS (lv_sub hl [0, 1, 2, 3, 4] rfl)
          intro x5_62 x6_62 dt H locs ls hm hW hS hl
          rw [X12_frame_b62] at hm
          refine lv_iload hx hb dX12_frame_62 (lv_at hl 5 rfl) ?_
          refine lv_iload_n hx hb dX12_frame_64 rfl (lv_at hl 2 rfl) ?_
          refine q_ifc hm (fun c62001 hm => ?_) (fun c62001 hm => ?_)
          · refine lv_icmp_ge (tgt := 104) hx hb dX12_frame_65 (by decide) (fun _ => ?_) (fun h => absurd c62001 h)
            refine lv_iload hx hb dX12_frame_104 (lv_at hl 4 rfl) ?_
            refine q_ifc hm (fun c62002 hm => ?_) (fun c62002 hm => ?_)
            · refine lv_if_eq (tgt := 112) hx hb dX12_frame_106 (by decide) (fun _ => ?_) (fun h => absurd c62002 h)
              refine lv_iinc (v := (x4_62 + 1)) (lv' := [(4, .int (x4_62 + 1)), (0, .ref x0_46), (2, .int x2_46), (3, .int x3_46), (5, .int x5_62), (6, .int x6_62)]) hx hb dX12_frame_112 hl (k := 3) rfl rfl (by decide) rfl (fun ls hl => ?_)
              refine lv_goto (tgt := 46) hx hb dX12_frame_115 (by decide) ?_
              exact ih46 (x4_62 + 1) dt _ _ _ hm hW hS (lv_sub hl [1, 2, 3, 0] rfl)
            refine lv_if_eq (tgt := 112) hx hb dX12_frame_106 (by decide) (fun h => absurd h c62002) (fun _ => ?_)
            refine lv_iload hx hb dX12_frame_109 (lv_at hl 3 rfl) ?_
            exact e_iD C hW hS hm dX12_frame_111
          refine lv_icmp_ge (tgt := 104) hx hb dX12_frame_65 (by decide) (fun h => absurd h c62001) (fun _ => ?_)
          refine lv_iload hx hb dX12_frame_68 (lv_at hl 4 rfl) ?_
          refine q_ifc hm (fun c62003 hm => ?_) (fun c62003 hm => ?_)
          · refine lv_if_eq (tgt := 95) hx hb dX12_frame_70 (by decide) (fun _ => ?_) (fun h => absurd c62003 h)
            exact hB95 x6_62 dt _ _ _ hm hW hS (lv_sub hl [0, 1, 2, 3, 5] rfl)
          refine lv_if_eq (tgt := 95) hx hb dX12_frame_70 (by decide) (fun h => absurd h c62003) (fun _ => ?_)
          refine lv_aload_n hx hb dX12_frame_73 rfl (lv_at hl 0 rfl) ?_
          refine lv_iload hx hb dX12_frame_74 (lv_at hl 3 rfl) ?_
          refine lv_iload hx hb dX12_frame_76 (lv_at hl 5 rfl) ?_
          refine lv_iadd hx hb dX12_frame_78 ?_
          obtain ⟨v62005, hc62004, hm⟩ := q_b1i hm
          refine q_callV C hW hS (As := [.int (x4_62 + x6_62)]) (rest := []) (st1 := [.int v62005]) (c_X12_bitOf l D al dt x0_46 (x4_62 + x6_62) kx0_46 v62005 hc62004) yl_X12_bitOf vl_X12_bitOf ml_RX12_454 (ci := 12) rfl kx0_46 (by decide) rfl ⟨Nat.le_of_ble_eq_true rfl, Nat.le_of_ble_eq_true rfl⟩ hl rfl (Nat.le_of_ble_eq_true rfl) dX12_frame_79 ⟨Nat.le_refl _, Nat.le_refl _⟩ rfl (fun H locs k62006 hW hS => ?_)
          refine lv_iload_n hx hb dX12_frame_82 rfl (lv_at hl 1 rfl) ?_
          refine lv_iload hx hb dX12_frame_83 (lv_at hl 5 rfl) ?_
          refine lv_ishr hx hb dX12_frame_85 ?_
          refine lv_iconst (v := 1) hx hb dX12_frame_86 (by decide) ?_
          refine lv_iand hx hb dX12_frame_87 ?_
          refine q_ifc hm (fun c62007 hm => ?_) (fun c62007 hm => ?_)
          · refine lv_icmp_ne (tgt := 95) hx hb dX12_frame_88 (by decide) (fun h => absurd c62007 h) (fun _ => ?_)
            refine lv_iconst (v := 1) hx hb dX12_frame_91 (by decide) ?_
            refine lv_goto (tgt := 96) hx hb dX12_frame_92 (by decide) ?_
            exact hB96 x6_62 1 dt _ _ _ hm hW hS (lv_sub hl [0, 1, 2, 3, 5] rfl)
          refine lv_icmp_ne (tgt := 95) hx hb dX12_frame_88 (by decide) (fun _ => ?_) (fun h => absurd h c62007)
          exact hB95 x6_62 dt _ _ _ hm hW hS (lv_sub hl [0, 1, 2, 3, 5] rfl)
      intro x4_46 dt H locs ls hm hW hS hl
      rw [X12_frame_b46] at hm
      refine lv_iload hx hb dX12_frame_46 (lv_at hl 3 rfl) ?_
      refine lv_iload_n hx hb dX12_frame_48 rfl (lv_at hl 2 rfl) ?_
      refine lv_iadd hx hb dX12_frame_49 ?_
      refine lv_sipush (v := 512) hx hb dX12_frame_50 (by decide) ?_
      refine q_ifc hm (fun c46001 hm => ?_) (fun c46001 hm => ?_)
      · refine lv_icmp_gt (tgt := 118) hx hb dX12_frame_53 (by decide) (fun _ => ?_) (fun h => absurd c46001 h)
        refine lv_bipush (v := (-2)) hx hb dX12_frame_118 (by decide) ?_
        exact e_iD C hW hS hm dX12_frame_120
      refine lv_icmp_gt (tgt := 118) hx hb dX12_frame_53 (by decide) (fun h => absurd h c46001) (fun _ => ?_)
      refine lv_iconst (v := 1) hx hb dX12_frame_56 (by decide) ?_
      refine lv_istore (i := 5) (lv' := [(5, .int 1), (0, .ref x0_46), (2, .int x2_46), (3, .int x3_46), (4, .int x4_46)]) hx hb dX12_frame_57 hl (by decide) rfl (fun ls hl => ?_)
      refine lv_iconst (v := 0) hx hb dX12_frame_59 (by decide) ?_
      refine lv_istore (i := 6) (lv' := [(6, .int 0), (5, .int 1), (0, .ref x0_46), (2, .int x2_46), (3, .int x3_46), (4, .int x4_46)]) hx hb dX12_frame_60 hl (by decide) rfl (fun ls hl => ?_)
      exact hB62 x4_46 q_FU 1 0 dt _ _ _ hm hW hS (lv_sub hl [2, 3, 4, 5, 1, 0] rfl)
  refine lv_aload_n hx hb dX12_frame_0 rfl (lv_at hl 0 rfl) ?_
  refine lv_iload_n hx hb dX12_frame_1 rfl (lv_at hl 1 rfl) ?_
  obtain ⟨v1000002, hc1000001, hm⟩ := q_b1i hm
  refine q_callV C hW hS (As := [.int x1]) (rest := []) (st1 := [.int v1000002]) (c_X12_isSender l D al dt x0 x1 kx0 v1000002 hc1000001) yl_X12_isSender vl_X12_isSender ml_RX12_415 (ci := 12) rfl kx0 (by decide) rfl ⟨Nat.le_of_ble_eq_true rfl, Nat.le_of_ble_eq_true rfl⟩ hl rfl (Nat.le_of_ble_eq_true rfl) dX12_frame_2 ⟨Nat.le_refl _, Nat.le_refl _⟩ rfl (fun H locs k1000003 hW hS => ?_)
  refine q_ifc hm (fun c1000004 hm => ?_) (fun c1000004 hm => ?_)
  · refine lv_if_eq (tgt := 31) hx hb dX12_frame_5 (by decide) (fun _ => ?_) (fun h => absurd c1000004 h)
    refine lv_iconst (v := (-1)) hx hb dX12_frame_31 (by decide) ?_
    exact e_iD C hW hS hm dX12_frame_32
  refine lv_if_eq (tgt := 31) hx hb dX12_frame_5 (by decide) (fun h => absurd h c1000004) (fun _ => ?_)
  refine lv_iload_n hx hb dX12_frame_8 rfl (lv_at hl 3 rfl) ?_
  refine lv_iconst (v := 1) hx hb dX12_frame_9 (by decide) ?_
  refine lv_bipush (v := 13) hx hb dX12_frame_10 (by decide) ?_
  obtain ⟨v1000006, hc1000005, hm⟩ := q_b1i hm
  refine q_callS C hW hS (As := [.int x3, .int 1, .int 13]) (rest := []) (st1 := [.int v1000006]) (c_X12_in l D al dt x3 1 13 v1000006 hc1000005) yl_X12_in sl_X12_in ml_RX12_376 rfl ⟨Nat.le_of_ble_eq_true rfl, Nat.le_of_ble_eq_true rfl⟩ hl rfl (Nat.le_of_ble_eq_true rfl) dX12_frame_12 ⟨Nat.le_refl _, Nat.le_refl _⟩ rfl (fun H locs k1000007 hW hS => ?_)
  refine q_ifc hm (fun c1000008 hm => ?_) (fun c1000008 hm => ?_)
  · refine lv_if_eq (tgt := 31) hx hb dX12_frame_15 (by decide) (fun _ => ?_) (fun h => absurd c1000008 h)
    refine lv_iconst (v := (-1)) hx hb dX12_frame_31 (by decide) ?_
    exact e_iD C hW hS hm dX12_frame_32
  refine lv_if_eq (tgt := 31) hx hb dX12_frame_15 (by decide) (fun h => absurd h c1000008) (fun _ => ?_)
  refine lv_iload_n hx hb dX12_frame_18 rfl (lv_at hl 2 rfl) ?_
  refine lv_iconst (v := 0) hx hb dX12_frame_19 (by decide) ?_
  refine lv_iconst (v := 1) hx hb dX12_frame_20 (by decide) ?_
  refine lv_iload_n hx hb dX12_frame_21 rfl (lv_at hl 3 rfl) ?_
  refine lv_ishl hx hb dX12_frame_22 ?_
  refine lv_iconst (v := 1) hx hb dX12_frame_23 (by decide) ?_
  refine lv_isub hx hb dX12_frame_24 ?_
  obtain ⟨v1000010, hc1000009, hm⟩ := q_b1i hm
  refine q_callS C hW hS (As := [.int x2, .int 0, .int ((1 <<< (x3 &&& 31)) - 1)]) (rest := []) (st1 := [.int v1000010]) (c_X12_in l D al dt x2 0 ((1 <<< (x3 &&& 31)) - 1) v1000010 hc1000009) yl_X12_in sl_X12_in ml_RX12_376 rfl ⟨Nat.le_of_ble_eq_true rfl, Nat.le_of_ble_eq_true rfl⟩ hl rfl (Nat.le_of_ble_eq_true rfl) dX12_frame_25 ⟨Nat.le_refl _, Nat.le_refl _⟩ rfl (fun H locs k1000011 hW hS => ?_)
  refine q_ifc hm (fun c1000012 hm => ?_) (fun c1000012 hm => ?_)
  · refine lv_if_ne (tgt := 33) hx hb dX12_frame_28 (by decide) (fun h => absurd c1000012 h) (fun _ => ?_)
    refine lv_iconst (v := (-1)) hx hb dX12_frame_31 (by decide) ?_
    exact e_iD C hW hS hm dX12_frame_32
  refine lv_if_ne (tgt := 33) hx hb dX12_frame_28 (by decide) (fun _ => ?_) (fun h => absurd h c1000012)
  refine lv_aload_n hx hb dX12_frame_33 rfl (lv_at hl 0 rfl) ?_
  refine lv_aload_n hx hb dX12_frame_34 rfl (lv_at hl 0 rfl) ?_
  refine r_getF C hW (ci := 12) kx0 ff_12_53 cl_12 fl_RX12_133 dX12_frame_35 (fun k1000013 => ?_)
  refine lv_iload_n hx hb dX12_frame_38 rfl (lv_at hl 1 rfl) ?_
  refine lv_iconst (v := 0) hx hb dX12_frame_39 (by decide) ?_
  obtain ⟨dt1000015, hc1000014, hm⟩ := q_b1i hm
  refine q_callV C hW hS (As := [.ref (al.2.2 x0 53), .int x1, .int 0]) (rest := []) (st1 := []) (c_X12_sumsUp l D al dt x0 (al.2.2 x0 53) x1 0 kx0 k1000013 dt1000015 hc1000014) yl_X12_sumsUp vl_X12_sumsUp ml_RX12_450 (ci := 12) rfl kx0 (by decide) rfl ⟨Nat.le_of_ble_eq_true rfl, Nat.le_of_ble_eq_true rfl⟩ hl rfl (Nat.le_of_ble_eq_true rfl) dX12_frame_40 ⟨Nat.le_refl _, Nat.le_refl _⟩ rfl (fun H locs k1000016 hW hS => ?_)
  refine lv_iconst (v := 0) hx hb dX12_frame_43 (by decide) ?_
  refine lv_istore (i := 4) (lv' := [(4, .int 0), (0, .ref x0), (1, .int x1), (2, .int x2), (3, .int x3)]) hx hb dX12_frame_44 hl (by decide) rfl (fun ls hl => ?_)
  exact hB46 x0 x2 x3 kx0 q_FU 0 dt1000015 _ _ _ hm hW hS (lv_sub hl [1, 3, 4, 0] rfl)
theorem dX12_hurt_0 : decode cX12_hurt 0 = .ok (.aload_n 0, 1) := by decide +kernel
theorem dX12_hurt_1 : decode cX12_hurt 1 = .ok (.iload_n 1, 1) := by decide +kernel
theorem dX12_hurt_2 : decode cX12_hurt 2 = .ok (.invokevirtual 415, 3) := by decide +kernel
theorem dX12_hurt_5 : decode cX12_hurt 5 = .ok (.ifCond .eq 33, 3) := by decide +kernel
theorem dX12_hurt_8 : decode cX12_hurt 8 = .ok (.iload_n 2, 1) := by decide +kernel
theorem dX12_hurt_9 : decode cX12_hurt 9 = .ok (.iconst 1, 1) := by decide +kernel
theorem dX12_hurt_10 : decode cX12_hurt 10 = .ok (.bipush 99, 2) := by decide +kernel
theorem dX12_hurt_12 : decode cX12_hurt 12 = .ok (.invokestatic 376, 3) := by decide +kernel
theorem dX12_hurt_15 : decode cX12_hurt 15 = .ok (.ifCond .eq 23, 3) := by decide +kernel
theorem dX12_hurt_18 : decode cX12_hurt 18 = .ok (.iload_n 3, 1) := by decide +kernel
theorem dX12_hurt_19 : decode cX12_hurt 19 = .ok (.iconst 1, 1) := by decide +kernel
theorem dX12_hurt_20 : decode cX12_hurt 20 = .ok (.bipush 99, 2) := by decide +kernel
theorem dX12_hurt_22 : decode cX12_hurt 22 = .ok (.invokestatic 376, 3) := by decide +kernel
theorem dX12_hurt_25 : decode cX12_hurt 25 = .ok (.ifCond .eq 13, 3) := by decide +kernel
theorem dX12_hurt_28 : decode cX12_hurt 28 = .ok (.iload 4, 2) := by decide +kernel
theorem dX12_hurt_30 : decode cX12_hurt 30 = .ok (.iconst 0, 1) := by decide +kernel
theorem dX12_hurt_31 : decode cX12_hurt 31 = .ok (.iconst 1, 1) := by decide +kernel
theorem dX12_hurt_32 : decode cX12_hurt 32 = .ok (.invokestatic 376, 3) := by decide +kernel
theorem dX12_hurt_35 : decode cX12_hurt 35 = .ok (.ifCond .ne 5, 3) := by decide +kernel
theorem dX12_hurt_38 : decode cX12_hurt 38 = .ok (.iconst (-1), 1) := by decide +kernel
theorem dX12_hurt_39 : decode cX12_hurt 39 = .ok (.ireturn, 1) := by decide +kernel
theorem dX12_hurt_40 : decode cX12_hurt 40 = .ok (.iconst 0, 1) := by decide +kernel
theorem dX12_hurt_41 : decode cX12_hurt 41 = .ok (.istore 5, 2) := by decide +kernel
theorem dX12_hurt_43 : decode cX12_hurt 43 = .ok (.iconst (-1), 1) := by decide +kernel
theorem dX12_hurt_44 : decode cX12_hurt 44 = .ok (.istore 6, 2) := by decide +kernel
theorem dX12_hurt_46 : decode cX12_hurt 46 = .ok (.iconst 0, 1) := by decide +kernel
theorem dX12_hurt_47 : decode cX12_hurt 47 = .ok (.istore 7, 2) := by decide +kernel
theorem dX12_hurt_49 : decode cX12_hurt 49 = .ok (.iload 7, 2) := by decide +kernel
theorem dX12_hurt_51 : decode cX12_hurt 51 = .ok (.aload_n 0, 1) := by decide +kernel
theorem dX12_hurt_52 : decode cX12_hurt 52 = .ok (.invokevirtual 342, 3) := by decide +kernel
theorem dX12_hurt_55 : decode cX12_hurt 55 = .ok (.if_icmp .ge 108, 3) := by decide +kernel
theorem dX12_hurt_58 : decode cX12_hurt 58 = .ok (.iconst 0, 1) := by decide +kernel
theorem dX12_hurt_59 : decode cX12_hurt 59 = .ok (.istore 8, 2) := by decide +kernel
theorem dX12_hurt_61 : decode cX12_hurt 61 = .ok (.iload 8, 2) := by decide +kernel
theorem dX12_hurt_63 : decode cX12_hurt 63 = .ok (.sipush 1024, 3) := by decide +kernel
theorem dX12_hurt_66 : decode cX12_hurt 66 = .ok (.if_icmp .ge 23, 3) := by decide +kernel
theorem dX12_hurt_69 : decode cX12_hurt 69 = .ok (.aload_n 0, 1) := by decide +kernel
theorem dX12_hurt_70 : decode cX12_hurt 70 = .ok (.getfield 136, 3) := by decide +kernel
theorem dX12_hurt_73 : decode cX12_hurt 73 = .ok (.iload 8, 2) := by decide +kernel
theorem dX12_hurt_75 : decode cX12_hurt 75 = .ok (.aload_n 0, 1) := by decide +kernel
theorem dX12_hurt_76 : decode cX12_hurt 76 = .ok (.getfield 133, 3) := by decide +kernel
theorem dX12_hurt_79 : decode cX12_hurt 79 = .ok (.iload 8, 2) := by decide +kernel
theorem dX12_hurt_81 : decode cX12_hurt 81 = .ok (.iaload, 1) := by decide +kernel
theorem dX12_hurt_82 : decode cX12_hurt 82 = .ok (.iastore, 1) := by decide +kernel
theorem dX12_hurt_83 : decode cX12_hurt 83 = .ok (.iinc 8 1, 3) := by decide +kernel
theorem dX12_hurt_86 : decode cX12_hurt 86 = .ok (.goto (-25), 3) := by decide +kernel
theorem dX12_hurt_89 : decode cX12_hurt 89 = .ok (.iload 7, 2) := by decide +kernel
theorem dX12_hurt_91 : decode cX12_hurt 91 = .ok (.istore 8, 2) := by decide +kernel
theorem dX12_hurt_93 : decode cX12_hurt 93 = .ok (.iload 8, 2) := by decide +kernel
theorem dX12_hurt_95 : decode cX12_hurt 95 = .ok (.iload 7, 2) := by decide +kernel
theorem dX12_hurt_97 : decode cX12_hurt 97 = .ok (.iload_n 2, 1) := by decide +kernel
theorem dX12_hurt_98 : decode cX12_hurt 98 = .ok (.iadd, 1) := by decide +kernel
theorem dX12_hurt_99 : decode cX12_hurt 99 = .ok (.if_icmp .ge 29, 3) := by decide +kernel
theorem dX12_hurt_102 : decode cX12_hurt 102 = .ok (.iload 8, 2) := by decide +kernel
theorem dX12_hurt_104 : decode cX12_hurt 104 = .ok (.aload_n 0, 1) := by decide +kernel
theorem dX12_hurt_105 : decode cX12_hurt 105 = .ok (.invokevirtual 342, 3) := by decide +kernel
theorem dX12_hurt_108 : decode cX12_hurt 108 = .ok (.if_icmp .ge 20, 3) := by decide +kernel
theorem dX12_hurt_111 : decode cX12_hurt 111 = .ok (.aload_n 0, 1) := by decide +kernel
theorem dX12_hurt_112 : decode cX12_hurt 112 = .ok (.getfield 136, 3) := by decide +kernel
theorem dX12_hurt_115 : decode cX12_hurt 115 = .ok (.iload 8, 2) := by decide +kernel
theorem dX12_hurt_117 : decode cX12_hurt 117 = .ok (.dup2, 1) := by decide +kernel
theorem dX12_hurt_118 : decode cX12_hurt 118 = .ok (.iaload, 1) := by decide +kernel
theorem dX12_hurt_119 : decode cX12_hurt 119 = .ok (.iload_n 3, 1) := by decide +kernel
theorem dX12_hurt_120 : decode cX12_hurt 120 = .ok (.iadd, 1) := by decide +kernel
theorem dX12_hurt_121 : decode cX12_hurt 121 = .ok (.iastore, 1) := by decide +kernel
theorem dX12_hurt_122 : decode cX12_hurt 122 = .ok (.iinc 8 1, 3) := by decide +kernel
theorem dX12_hurt_125 : decode cX12_hurt 125 = .ok (.goto (-32), 3) := by decide +kernel
theorem dX12_hurt_128 : decode cX12_hurt 128 = .ok (.aload_n 0, 1) := by decide +kernel
theorem dX12_hurt_129 : decode cX12_hurt 129 = .ok (.aload_n 0, 1) := by decide +kernel
theorem dX12_hurt_130 : decode cX12_hurt 130 = .ok (.getfield 136, 3) := by decide +kernel
theorem dX12_hurt_133 : decode cX12_hurt 133 = .ok (.iload_n 1, 1) := by decide +kernel
theorem dX12_hurt_134 : decode cX12_hurt 134 = .ok (.invokevirtual 461, 3) := by decide +kernel
theorem dX12_hurt_137 : decode cX12_hurt 137 = .ok (.istore 8, 2) := by decide +kernel
theorem dX12_hurt_139 : decode cX12_hurt 139 = .ok (.iload 8, 2) := by decide +kernel
theorem dX12_hurt_141 : decode cX12_hurt 141 = .ok (.iload 6, 2) := by decide +kernel
theorem dX12_hurt_143 : decode cX12_hurt 143 = .ok (.if_icmp .gt 6, 3) := by decide +kernel
theorem dX12_hurt_146 : decode cX12_hurt 146 = .ok (.goto 11, 3) := by decide +kernel
theorem dX12_hurt_149 : decode cX12_hurt 149 = .ok (.iload 7, 2) := by decide +kernel
theorem dX12_hurt_151 : decode cX12_hurt 151 = .ok (.istore 5, 2) := by decide +kernel
theorem dX12_hurt_153 : decode cX12_hurt 153 = .ok (.iload 8, 2) := by decide +kernel
theorem dX12_hurt_155 : decode cX12_hurt 155 = .ok (.istore 6, 2) := by decide +kernel
theorem dX12_hurt_157 : decode cX12_hurt 157 = .ok (.iinc 7 1, 3) := by decide +kernel
theorem dX12_hurt_160 : decode cX12_hurt 160 = .ok (.goto (-111), 3) := by decide +kernel
theorem dX12_hurt_163 : decode cX12_hurt 163 = .ok (.iload 4, 2) := by decide +kernel
theorem dX12_hurt_165 : decode cX12_hurt 165 = .ok (.ifCond .ne 8, 3) := by decide +kernel
theorem dX12_hurt_168 : decode cX12_hurt 168 = .ok (.iload 5, 2) := by decide +kernel
theorem dX12_hurt_170 : decode cX12_hurt 170 = .ok (.goto 5, 3) := by decide +kernel
theorem dX12_hurt_173 : decode cX12_hurt 173 = .ok (.iload 6, 2) := by decide +kernel
theorem dX12_hurt_175 : decode cX12_hurt 175 = .ok (.ireturn, 1) := by decide +kernel
set_option maxRecDepth 100000 in
theorem c_X12_hurt (l : Launch) (D : q_D) (al : q_Al) (dt : q_Dt) (x0 : Nat) (x1 : Int32) (x2 : Int32) (x3 : Int32) (x4 : Int32) (kx0 : al.1 x0 = 13) (r0 : Int32) (dt0 : q_Dt) (hm : X12_hurt al dt x0 x1 x2 x3 x4 = some (r0, dt0)) : q_Mt l yX12_hurt cX12_hurt 9 (some FieldType.int) 5 123 D al [.ref x0, .int x1, .int x2, .int x3, .int x4] dt 0 (some (.int r0)) dt0 := by
  refine q_Mt.of (by decide) (Nat.le_of_ble_eq_true rfl) ?_
  intro p e s m args below meth c ls C hargs hW hl
  have hx := C.1
  have hb := C.2.1
  have hown := C.2.2.2.2.2.1
  have hts := C.2.2.2.2.2.2.1
  have hS : va_S (q_A al) s.heap s.heap [] := va_S.rf
  have hl : lv_has ls 9 [(0, .ref x0), (1, .int x1), (2, .int x2), (3, .int x3), (4, .int x4)] := hl
  unfold X12_hurt at hm
  have hB49 : ∀ (x0_49 : Nat) (x1_49 : Int32) (x2_49 : Int32) (x3_49 : Int32) (x4_49 : Int32) (kx0_49 : al.1 x0_49 = 13) (n_49 : Nat) (x5_49 : Int32) (x6_49 : Int32) (x7_49 : Int32) (dt : q_Dt) (H : Heap) (locs : List Loc) (ls : Array Slot) (hm : X12_hurt_b49 al x0_49 x1_49 x2_49 x3_49 x4_49 n_49 x5_49 x6_49 x7_49 dt = some (r0, dt0)) (hW : q_W D al dt H) (hS : va_S (q_A al) s.heap H locs) (hl : lv_has ls 9 [(0, .ref x0_49), (1, .int x1_49), (2, .int x2_49), (3, .int x3_49), (4, .int x4_49), (5, .int x5_49), (6, .int x6_49), (7, .int x7_49)]), W p l e { frames := 5, cells := 0, slots := 0, locals := 123 } s m args below meth c H locs 0 0 (MQ below (q_Q (some (.int r0)) (fun H => q_W D al dt0 H ∧ q_Rk al 0 (some (.int r0))) (q_A al)) args s 0 0 (q_A al)) (F0 m 49 ls []) := by
    intro x0_49 x1_49 x2_49 x3_49 x4_49 kx0_49
    intro n_49
    induction n_49 with
    | zero => intro x5_49 x6_49 x7_49 dt H locs ls hm hW hS hl; cases hm
    | succ n_49 ih49 =>
      have hB157 : ∀ (x5_157 : Int32) (x6_157 : Int32) (x7_157 : Int32) (dt : q_Dt) (H : Heap) (locs : List Loc) (ls : Array Slot) (hm : X12_hurt_b157 al (X12_hurt_b49 al x0_49 x1_49 x2_49 x3_49 x4_49 n_49) x0_49 x1_49 x2_49 x3_49 x4_49 x5_157 x6_157 x7_157 dt = some (r0, dt0)) (hW : q_W D al dt H) (hS : va_S (q_A al) s.heap H locs) (hl : lv_has ls 9 [(0, .ref x0_49), (1, .int x1_49), (2, .int x2_49), (3, .int x3_49), (4, .int x4_49), (5, .int x5_157), (6, .int x6_157), (7, .int x7_157)]), W p l e { frames := 5, cells := 0, slots := 0, locals := 123 } s m args below meth c H locs 0 0 (MQ below (q_Q (some (.int r0)) (fun H => q_W D al dt0 H ∧ q_Rk al 0 (some (.int r0))) (q_A al)) args s 0 0 (q_A al)) (F0 m 157 ls []) := by
        intro x5_157 x6_157 x7_157 dt H locs ls hm hW hS hl
        unfold X12_hurt_b157 at hm
        refine lv_iinc (v := (x7_157 + 1)) (lv' := [(7, .int (x7_157 + 1)), (0, .ref x0_49), (1, .int x1_49), (2, .int x2_49), (3, .int x3_49), (4, .int x4_49), (5, .int x5_157), (6, .int x6_157)]) hx hb dX12_hurt_157 hl (k := 7) rfl rfl (by decide) rfl (fun ls hl => ?_)
        refine lv_goto (tgt := 49) hx hb dX12_hurt_160 (by decide) ?_
        exact ih49 x5_157 x6_157 (x7_157 + 1) dt _ _ _ hm hW hS (lv_sub hl [1, 2, 3, 4, 5, 6, 7, 0] rfl)
      have hB128 : ∀ (x5_128 : Int32) (x6_128 : Int32) (x7_128 : Int32) (dt : q_Dt) (H : Heap) (locs : List Loc) (ls : Array Slot) (hm : X12_hurt_b128 al (X12_hurt_b49 al x0_49 x1_49 x2_49 x3_49 x4_49 n_49) x0_49 x1_49 x2_49 x3_49 x4_49 x5_128 x6_128 x7_128 dt = some (r0, dt0)) (hW : q_W D al dt H) (hS : va_S (q_A al) s.heap H locs) (hl : lv_has ls 9 [(0, .ref x0_49), (1, .int x1_49), (2, .int x2_49), (3, .int x3_49), (4, .int x4_49), (5, .int x5_128), (6, .int x6_128), (7, .int x7_128)]), W p l e { frames := 5, cells := 0, slots := 0, locals := 123 } s m args below meth c H locs 0 0 (MQ below (q_Q (some (.int r0)) (fun H => q_W D al dt0 H ∧ q_Rk al 0 (some (.int r0))) (q_A al)) args s 0 0 (q_A al)) (F0 m 128 ls []) := by
        intro x5_128 x6_128 x7_128 dt H locs ls hm hW hS hl
        unfold X12_hurt_b128 at hm
        refine lv_aload_n hx hb dX12_hurt_128 rfl (lv_at hl 0 rfl) ?_
        refine lv_aload_n hx hb dX12_hurt_129 rfl (lv_at hl 0 rfl) ?_
        refine r_getF C hW (ci := 12) kx0_49 ff_12_54 cl_12 fl_RX12_136 dX12_hurt_130 (fun k128001 => ?_)
        refine lv_iload_n hx hb dX12_hurt_133 rfl (lv_at hl 1 rfl) ?_
        obtain ⟨v128003, dt128004, hc128002, hm⟩ := q_b2i hm
        refine q_callV C hW hS (As := [.ref (al.2.2 x0_49 54), .int x1_49]) (rest := []) (st1 := [.int v128003]) (c_X12_wrongOf l D al dt x0_49 (al.2.2 x0_49 54) x1_49 kx0_49 k128001 v128003 dt128004 hc128002) yl_X12_wrongOf vl_X12_wrongOf ml_RX12_461 (ci := 12) rfl kx0_49 (by decide) rfl ⟨Nat.le_of_ble_eq_true rfl, Nat.le_of_ble_eq_true rfl⟩ hl rfl (Nat.le_of_ble_eq_true rfl) dX12_hurt_134 ⟨Nat.le_refl _, Nat.le_refl _⟩ rfl (fun H locs k128005 hW hS => ?_)
        refine lv_istore (i := 8) (lv' := [(8, .int v128003), (0, .ref x0_49), (1, .int x1_49), (2, .int x2_49), (3, .int x3_49), (4, .int x4_49), (5, .int x5_128), (6, .int x6_128), (7, .int x7_128)]) hx hb dX12_hurt_137 hl (by decide) rfl (fun ls hl => ?_)
        refine lv_iload hx hb dX12_hurt_139 (lv_at hl 0 rfl) ?_
        refine lv_iload hx hb dX12_hurt_141 (lv_at hl 7 rfl) ?_
        refine q_ifc hm (fun c128006 hm => ?_) (fun c128006 hm => ?_)
        · refine lv_icmp_gt (tgt := 149) hx hb dX12_hurt_143 (by decide) (fun _ => ?_) (fun h => absurd c128006 h)
          refine lv_iload hx hb dX12_hurt_149 (lv_at hl 8 rfl) ?_
          refine lv_istore (i := 5) (lv' := [(5, .int x7_128), (8, .int v128003), (0, .ref x0_49), (1, .int x1_49), (2, .int x2_49), (3, .int x3_49), (4, .int x4_49), (6, .int x6_128), (7, .int x7_128)]) hx hb dX12_hurt_151 hl (by decide) rfl (fun ls hl => ?_)
          refine lv_iload hx hb dX12_hurt_153 (lv_at hl 1 rfl) ?_
          refine lv_istore (i := 6) (lv' := [(6, .int v128003), (5, .int x7_128), (8, .int v128003), (0, .ref x0_49), (1, .int x1_49), (2, .int x2_49), (3, .int x3_49), (4, .int x4_49), (7, .int x7_128)]) hx hb dX12_hurt_155 hl (by decide) rfl (fun ls hl => ?_)
          exact hB157 x7_128 v128003 x7_128 dt128004 _ _ _ hm hW hS (lv_sub hl [3, 4, 5, 6, 7, 1, 0, 8] rfl)
        refine lv_icmp_gt (tgt := 149) hx hb dX12_hurt_143 (by decide) (fun h => absurd h c128006) (fun _ => ?_)
        refine lv_goto (tgt := 157) hx hb dX12_hurt_146 (by decide) ?_
        exact hB157 x5_128 x6_128 x7_128 dt128004 _ _ _ hm hW hS (lv_sub hl [1, 2, 3, 4, 5, 6, 7, 8] rfl)
      have hB93 : ∀ (x5_93 : Int32) (x6_93 : Int32) (x7_93 : Int32) (n_93 : Nat) (x8_93 : Int32) (dt : q_Dt) (H : Heap) (locs : List Loc) (ls : Array Slot) (hm : X12_hurt_b93 al (X12_hurt_b49 al x0_49 x1_49 x2_49 x3_49 x4_49 n_49) x0_49 x1_49 x2_49 x3_49 x4_49 x5_93 x6_93 x7_93 n_93 x8_93 dt = some (r0, dt0)) (hW : q_W D al dt H) (hS : va_S (q_A al) s.heap H locs) (hl : lv_has ls 9 [(0, .ref x0_49), (1, .int x1_49), (2, .int x2_49), (3, .int x3_49), (4, .int x4_49), (5, .int x5_93), (6, .int x6_93), (7, .int x7_93), (8, .int x8_93)]), W p l e { frames := 5, cells := 0, slots := 0, locals := 123 } s m args below meth c H locs 0 0 (MQ below (q_Q (some (.int r0)) (fun H => q_W D al dt0 H ∧ q_Rk al 0 (some (.int r0))) (q_A al)) args s 0 0 (q_A al)) (F0 m 93 ls []) := by
        intro x5_93 x6_93 x7_93
        intro n_93
        induction n_93 with
        | zero => intro x8_93 dt H locs ls hm hW hS hl; cases hm
        | succ n_93 ih93 =>
          intro x8_93 dt H locs ls hm hW hS hl
          rw [X12_hurt_b93] at hm
          refine lv_iload hx hb dX12_hurt_93 (lv_at hl 8 rfl) ?_
          refine lv_iload hx hb dX12_hurt_95 (lv_at hl 7 rfl) ?_
          refine lv_iload_n hx hb dX12_hurt_97 rfl (lv_at hl 2 rfl) ?_
          refine lv_iadd hx hb dX12_hurt_98 ?_
          refine q_ifc hm (fun c93001 hm => ?_) (fun c93001 hm => ?_)
          · refine lv_icmp_ge (tgt := 128) hx hb dX12_hurt_99 (by decide) (fun _ => ?_) (fun h => absurd c93001 h)
            exact hB128 x5_93 x6_93 x7_93 dt _ _ _ hm hW hS (lv_sub hl [0, 1, 2, 3, 4, 5, 6, 7] rfl)
          refine lv_icmp_ge (tgt := 128) hx hb dX12_hurt_99 (by decide) (fun h => absurd h c93001) (fun _ => ?_)
          refine lv_iload hx hb dX12_hurt_102 (lv_at hl 8 rfl) ?_
          refine lv_aload_n hx hb dX12_hurt_104 rfl (lv_at hl 0 rfl) ?_
          obtain ⟨v93003, hc93002, hm⟩ := q_b1i hm
          refine q_callV C hW hS (As := []) (rest := [.int x8_93]) (st1 := [.int v93003, .int x8_93]) (c_X12_n l D al dt x0_49 kx0_49 v93003 hc93002) yl_X12_n vl_X12_n ml_RX12_342 (ci := 12) rfl kx0_49 (by decide) rfl ⟨Nat.le_of_ble_eq_true rfl, Nat.le_of_ble_eq_true rfl⟩ hl rfl (Nat.le_of_ble_eq_true rfl) dX12_hurt_105 ⟨Nat.le_refl _, Nat.le_refl _⟩ rfl (fun H locs k93004 hW hS => ?_)
          refine q_ifc hm (fun c93005 hm => ?_) (fun c93005 hm => ?_)
          · refine lv_icmp_ge (tgt := 128) hx hb dX12_hurt_108 (by decide) (fun _ => ?_) (fun h => absurd c93005 h)
            exact hB128 x5_93 x6_93 x7_93 dt _ _ _ hm hW hS (lv_sub hl [0, 1, 2, 3, 4, 5, 6, 7] rfl)
          refine lv_icmp_ge (tgt := 128) hx hb dX12_hurt_108 (by decide) (fun h => absurd h c93005) (fun _ => ?_)
          refine lv_aload_n hx hb dX12_hurt_111 rfl (lv_at hl 0 rfl) ?_
          refine r_getF C hW (ci := 12) kx0_49 ff_12_54 cl_12 fl_RX12_136 dX12_hurt_112 (fun k93006 => ?_)
          refine lv_iload hx hb dX12_hurt_115 (lv_at hl 8 rfl) ?_
          refine lv_dup2_11 hx hb dX12_hurt_117 rfl rfl ?_
          refine r_iald C hW hm k93006 dX12_hurt_118 (fun hm => ?_)
          refine lv_iload_n hx hb dX12_hurt_119 rfl (lv_at hl 3 rfl) ?_
          refine lv_iadd hx hb dX12_hurt_120 ?_
          refine r_iast C hW hS hm k93006 dX12_hurt_121 (fun dt93007 H locs hm hW hS => ?_)
          refine lv_iinc (v := (x8_93 + 1)) (lv' := [(8, .int (x8_93 + 1)), (0, .ref x0_49), (1, .int x1_49), (2, .int x2_49), (3, .int x3_49), (4, .int x4_49), (5, .int x5_93), (6, .int x6_93), (7, .int x7_93)]) hx hb dX12_hurt_122 hl (k := 8) rfl rfl (by decide) rfl (fun ls hl => ?_)
          refine lv_goto (tgt := 93) hx hb dX12_hurt_125 (by decide) ?_
          exact ih93 (x8_93 + 1) dt93007 _ _ _ hm hW hS (lv_sub hl [1, 2, 3, 4, 5, 6, 7, 8, 0] rfl)
      have hB61 : ∀ (x5_61 : Int32) (x6_61 : Int32) (x7_61 : Int32) (n_61 : Nat) (x8_61 : Int32) (dt : q_Dt) (H : Heap) (locs : List Loc) (ls : Array Slot) (hm : X12_hurt_b61 al (X12_hurt_b49 al x0_49 x1_49 x2_49 x3_49 x4_49 n_49) x0_49 x1_49 x2_49 x3_49 x4_49 x5_61 x6_61 x7_61 n_61 x8_61 dt = some (r0, dt0)) (hW : q_W D al dt H) (hS : va_S (q_A al) s.heap H locs) (hl : lv_has ls 9 [(0, .ref x0_49), (1, .int x1_49), (2, .int x2_49), (3, .int x3_49), (4, .int x4_49), (5, .int x5_61), (6, .int x6_61), (7, .int x7_61), (8, .int x8_61)]), W p l e { frames := 5, cells := 0, slots := 0, locals := 123 } s m args below meth c H locs 0 0 (MQ below (q_Q (some (.int r0)) (fun H => q_W D al dt0 H ∧ q_Rk al 0 (some (.int r0))) (q_A al)) args s 0 0 (q_A al)) (F0 m 61 ls []) := by
        intro x5_61 x6_61 x7_61
        intro n_61
        induction n_61 with
        | zero => intro x8_61 dt H locs ls hm hW hS hl; cases hm
        | succ n_61 ih61 =>
          intro x8_61 dt H locs ls hm hW hS hl
          rw [X12_hurt_b61] at hm
          refine lv_iload hx hb dX12_hurt_61 (lv_at hl 8 rfl) ?_
          refine lv_sipush (v := 1024) hx hb dX12_hurt_63 (by decide) ?_
          refine q_ifc hm (fun c61001 hm => ?_) (fun c61001 hm => ?_)
          · refine lv_icmp_ge (tgt := 89) hx hb dX12_hurt_66 (by decide) (fun _ => ?_) (fun h => absurd c61001 h)
            refine lv_iload hx hb dX12_hurt_89 (lv_at hl 7 rfl) ?_
            refine lv_istore (i := 8) (lv' := [(8, .int x7_61), (0, .ref x0_49), (1, .int x1_49), (2, .int x2_49), (3, .int x3_49), (4, .int x4_49), (5, .int x5_61), (6, .int x6_61), (7, .int x7_61)]) hx hb dX12_hurt_91 hl (by decide) rfl (fun ls hl => ?_)
            exact hB93 x5_61 x6_61 x7_61 q_FU x7_61 dt _ _ _ hm hW hS (lv_sub hl [1, 2, 3, 4, 5, 6, 7, 8, 0] rfl)
          refine lv_icmp_ge (tgt := 89) hx hb dX12_hurt_66 (by decide) (fun h => absurd h c61001) (fun _ => ?_)
          refine lv_aload_n hx hb dX12_hurt_69 rfl (lv_at hl 0 rfl) ?_
          refine r_getF C hW (ci := 12) kx0_49 ff_12_54 cl_12 fl_RX12_136 dX12_hurt_70 (fun k61002 => ?_)
          refine lv_iload hx hb dX12_hurt_73 (lv_at hl 8 rfl) ?_
          refine lv_aload_n hx hb dX12_hurt_75 rfl (lv_at hl 0 rfl) ?_
          refine r_getF C hW (ci := 12) kx0_49 ff_12_53 cl_12 fl_RX12_133 dX12_hurt_76 (fun k61003 => ?_)
          refine lv_iload hx hb dX12_hurt_79 (lv_at hl 8 rfl) ?_
          refine r_iald C hW hm k61003 dX12_hurt_81 (fun hm => ?_)
          refine r_iast C hW hS hm k61002 dX12_hurt_82 (fun dt61004 H locs hm hW hS => ?_)
          refine lv_iinc (v := (x8_61 + 1)) (lv' := [(8, .int (x8_61 + 1)), (0, .ref x0_49), (1, .int x1_49), (2, .int x2_49), (3, .int x3_49), (4, .int x4_49), (5, .int x5_61), (6, .int x6_61), (7, .int x7_61)]) hx hb dX12_hurt_83 hl (k := 8) rfl rfl (by decide) rfl (fun ls hl => ?_)
          refine lv_goto (tgt := 61) hx hb dX12_hurt_86 (by decide) ?_
          exact ih61 (x8_61 + 1) dt61004 _ _ _ hm hW hS (lv_sub hl [1, 2, 3, 4, 5, 6, 7, 8, 0] rfl)
      intro x5_49 x6_49 x7_49 dt H locs ls hm hW hS hl
      rw [X12_hurt_b49] at hm
      refine lv_iload hx hb dX12_hurt_49 (lv_at hl 7 rfl) ?_
      refine lv_aload_n hx hb dX12_hurt_51 rfl (lv_at hl 0 rfl) ?_
      obtain ⟨v49002, hc49001, hm⟩ := q_b1i hm
      refine q_callV C hW hS (As := []) (rest := [.int x7_49]) (st1 := [.int v49002, .int x7_49]) (c_X12_n l D al dt x0_49 kx0_49 v49002 hc49001) yl_X12_n vl_X12_n ml_RX12_342 (ci := 12) rfl kx0_49 (by decide) rfl ⟨Nat.le_of_ble_eq_true rfl, Nat.le_of_ble_eq_true rfl⟩ hl rfl (Nat.le_of_ble_eq_true rfl) dX12_hurt_52 ⟨Nat.le_refl _, Nat.le_refl _⟩ rfl (fun H locs k49003 hW hS => ?_)
      refine q_ifc hm (fun c49004 hm => ?_) (fun c49004 hm => ?_)
      · refine lv_icmp_ge (tgt := 163) hx hb dX12_hurt_55 (by decide) (fun _ => ?_) (fun h => absurd c49004 h)
        refine lv_iload hx hb dX12_hurt_163 (lv_at hl 4 rfl) ?_
        refine q_ifc hm (fun c49005 hm => ?_) (fun c49005 hm => ?_)
        · refine lv_if_ne (tgt := 173) hx hb dX12_hurt_165 (by decide) (fun h => absurd c49005 h) (fun _ => ?_)
          refine lv_iload hx hb dX12_hurt_168 (lv_at hl 5 rfl) ?_
          refine lv_goto (tgt := 175) hx hb dX12_hurt_170 (by decide) ?_
          exact e_iD C hW hS hm dX12_hurt_175
        refine lv_if_ne (tgt := 173) hx hb dX12_hurt_165 (by decide) (fun _ => ?_) (fun h => absurd h c49005)
        refine lv_iload hx hb dX12_hurt_173 (lv_at hl 6 rfl) ?_
        exact e_iD C hW hS hm dX12_hurt_175
      refine lv_icmp_ge (tgt := 163) hx hb dX12_hurt_55 (by decide) (fun h => absurd h c49004) (fun _ => ?_)
      refine lv_iconst (v := 0) hx hb dX12_hurt_58 (by decide) ?_
      refine lv_istore (i := 8) (lv' := [(8, .int 0), (0, .ref x0_49), (1, .int x1_49), (2, .int x2_49), (3, .int x3_49), (4, .int x4_49), (5, .int x5_49), (6, .int x6_49), (7, .int x7_49)]) hx hb dX12_hurt_59 hl (by decide) rfl (fun ls hl => ?_)
      exact hB61 x5_49 x6_49 x7_49 q_FU 0 dt _ _ _ hm hW hS (lv_sub hl [1, 2, 3, 4, 5, 6, 7, 8, 0] rfl)
  refine lv_aload_n hx hb dX12_hurt_0 rfl (lv_at hl 0 rfl) ?_
  refine lv_iload_n hx hb dX12_hurt_1 rfl (lv_at hl 1 rfl) ?_
  obtain ⟨v1000002, hc1000001, hm⟩ := q_b1i hm
  refine q_callV C hW hS (As := [.int x1]) (rest := []) (st1 := [.int v1000002]) (c_X12_isSender l D al dt x0 x1 kx0 v1000002 hc1000001) yl_X12_isSender vl_X12_isSender ml_RX12_415 (ci := 12) rfl kx0 (by decide) rfl ⟨Nat.le_of_ble_eq_true rfl, Nat.le_of_ble_eq_true rfl⟩ hl rfl (Nat.le_of_ble_eq_true rfl) dX12_hurt_2 ⟨Nat.le_refl _, Nat.le_refl _⟩ rfl (fun H locs k1000003 hW hS => ?_)
  refine q_ifc hm (fun c1000004 hm => ?_) (fun c1000004 hm => ?_)
  · refine lv_if_eq (tgt := 38) hx hb dX12_hurt_5 (by decide) (fun _ => ?_) (fun h => absurd c1000004 h)
    refine lv_iconst (v := (-1)) hx hb dX12_hurt_38 (by decide) ?_
    exact e_iD C hW hS hm dX12_hurt_39
  refine lv_if_eq (tgt := 38) hx hb dX12_hurt_5 (by decide) (fun h => absurd h c1000004) (fun _ => ?_)
  refine lv_iload_n hx hb dX12_hurt_8 rfl (lv_at hl 2 rfl) ?_
  refine lv_iconst (v := 1) hx hb dX12_hurt_9 (by decide) ?_
  refine lv_bipush (v := 99) hx hb dX12_hurt_10 (by decide) ?_
  obtain ⟨v1000006, hc1000005, hm⟩ := q_b1i hm
  refine q_callS C hW hS (As := [.int x2, .int 1, .int 99]) (rest := []) (st1 := [.int v1000006]) (c_X12_in l D al dt x2 1 99 v1000006 hc1000005) yl_X12_in sl_X12_in ml_RX12_376 rfl ⟨Nat.le_of_ble_eq_true rfl, Nat.le_of_ble_eq_true rfl⟩ hl rfl (Nat.le_of_ble_eq_true rfl) dX12_hurt_12 ⟨Nat.le_refl _, Nat.le_refl _⟩ rfl (fun H locs k1000007 hW hS => ?_)
  refine q_ifc hm (fun c1000008 hm => ?_) (fun c1000008 hm => ?_)
  · refine lv_if_eq (tgt := 38) hx hb dX12_hurt_15 (by decide) (fun _ => ?_) (fun h => absurd c1000008 h)
    refine lv_iconst (v := (-1)) hx hb dX12_hurt_38 (by decide) ?_
    exact e_iD C hW hS hm dX12_hurt_39
  refine lv_if_eq (tgt := 38) hx hb dX12_hurt_15 (by decide) (fun h => absurd h c1000008) (fun _ => ?_)
  refine lv_iload_n hx hb dX12_hurt_18 rfl (lv_at hl 3 rfl) ?_
  refine lv_iconst (v := 1) hx hb dX12_hurt_19 (by decide) ?_
  refine lv_bipush (v := 99) hx hb dX12_hurt_20 (by decide) ?_
  obtain ⟨v1000010, hc1000009, hm⟩ := q_b1i hm
  refine q_callS C hW hS (As := [.int x3, .int 1, .int 99]) (rest := []) (st1 := [.int v1000010]) (c_X12_in l D al dt x3 1 99 v1000010 hc1000009) yl_X12_in sl_X12_in ml_RX12_376 rfl ⟨Nat.le_of_ble_eq_true rfl, Nat.le_of_ble_eq_true rfl⟩ hl rfl (Nat.le_of_ble_eq_true rfl) dX12_hurt_22 ⟨Nat.le_refl _, Nat.le_refl _⟩ rfl (fun H locs k1000011 hW hS => ?_)
  refine q_ifc hm (fun c1000012 hm => ?_) (fun c1000012 hm => ?_)
  · refine lv_if_eq (tgt := 38) hx hb dX12_hurt_25 (by decide) (fun _ => ?_) (fun h => absurd c1000012 h)
    refine lv_iconst (v := (-1)) hx hb dX12_hurt_38 (by decide) ?_
    exact e_iD C hW hS hm dX12_hurt_39
  refine lv_if_eq (tgt := 38) hx hb dX12_hurt_25 (by decide) (fun h => absurd h c1000012) (fun _ => ?_)
  refine lv_iload hx hb dX12_hurt_28 (lv_at hl 4 rfl) ?_
  refine lv_iconst (v := 0) hx hb dX12_hurt_30 (by decide) ?_
  refine lv_iconst (v := 1) hx hb dX12_hurt_31 (by decide) ?_
  obtain ⟨v1000014, hc1000013, hm⟩ := q_b1i hm
  refine q_callS C hW hS (As := [.int x4, .int 0, .int 1]) (rest := []) (st1 := [.int v1000014]) (c_X12_in l D al dt x4 0 1 v1000014 hc1000013) yl_X12_in sl_X12_in ml_RX12_376 rfl ⟨Nat.le_of_ble_eq_true rfl, Nat.le_of_ble_eq_true rfl⟩ hl rfl (Nat.le_of_ble_eq_true rfl) dX12_hurt_32 ⟨Nat.le_refl _, Nat.le_refl _⟩ rfl (fun H locs k1000015 hW hS => ?_)
  refine q_ifc hm (fun c1000016 hm => ?_) (fun c1000016 hm => ?_)
  · refine lv_if_ne (tgt := 40) hx hb dX12_hurt_35 (by decide) (fun h => absurd c1000016 h) (fun _ => ?_)
    refine lv_iconst (v := (-1)) hx hb dX12_hurt_38 (by decide) ?_
    exact e_iD C hW hS hm dX12_hurt_39
  refine lv_if_ne (tgt := 40) hx hb dX12_hurt_35 (by decide) (fun _ => ?_) (fun h => absurd h c1000016)
  refine lv_iconst (v := 0) hx hb dX12_hurt_40 (by decide) ?_
  refine lv_istore (i := 5) (lv' := [(5, .int 0), (0, .ref x0), (1, .int x1), (2, .int x2), (3, .int x3), (4, .int x4)]) hx hb dX12_hurt_41 hl (by decide) rfl (fun ls hl => ?_)
  refine lv_iconst (v := (-1)) hx hb dX12_hurt_43 (by decide) ?_
  refine lv_istore (i := 6) (lv' := [(6, .int (-1)), (5, .int 0), (0, .ref x0), (1, .int x1), (2, .int x2), (3, .int x3), (4, .int x4)]) hx hb dX12_hurt_44 hl (by decide) rfl (fun ls hl => ?_)
  refine lv_iconst (v := 0) hx hb dX12_hurt_46 (by decide) ?_
  refine lv_istore (i := 7) (lv' := [(7, .int 0), (6, .int (-1)), (5, .int 0), (0, .ref x0), (1, .int x1), (2, .int x2), (3, .int x3), (4, .int x4)]) hx hb dX12_hurt_47 hl (by decide) rfl (fun ls hl => ?_)
  exact hB49 x0 x1 x2 x3 x4 kx0 q_FU 0 (-1) 0 dt _ _ _ hm hW hS (lv_sub hl [3, 4, 5, 6, 7, 2, 1, 0] rfl)
theorem dX12_byAmplitude_0 : decode cX12_byAmplitude 0 = .ok (.iconst 0, 1) := by decide +kernel
theorem dX12_byAmplitude_1 : decode cX12_byAmplitude 1 = .ok (.istore_n 2, 1) := by decide +kernel
theorem dX12_byAmplitude_2 : decode cX12_byAmplitude 2 = .ok (.iload_n 2, 1) := by decide +kernel
theorem dX12_byAmplitude_3 : decode cX12_byAmplitude 3 = .ok (.aload_n 0, 1) := by decide +kernel
theorem dX12_byAmplitude_4 : decode cX12_byAmplitude 4 = .ok (.getfield 70, 3) := by decide +kernel
theorem dX12_byAmplitude_7 : decode cX12_byAmplitude 7 = .ok (.aload_n 0, 1) := by decide +kernel
theorem dX12_byAmplitude_8 : decode cX12_byAmplitude 8 = .ok (.getfield 242, 3) := by decide +kernel
theorem dX12_byAmplitude_11 : decode cX12_byAmplitude 11 = .ok (.iaload, 1) := by decide +kernel
theorem dX12_byAmplitude_12 : decode cX12_byAmplitude 12 = .ok (.if_icmp .ge 97, 3) := by decide +kernel
theorem dX12_byAmplitude_15 : decode cX12_byAmplitude 15 = .ok (.iconst 0, 1) := by decide +kernel
theorem dX12_byAmplitude_16 : decode cX12_byAmplitude 16 = .ok (.istore_n 3, 1) := by decide +kernel
theorem dX12_byAmplitude_17 : decode cX12_byAmplitude 17 = .ok (.iconst 0, 1) := by decide +kernel
theorem dX12_byAmplitude_18 : decode cX12_byAmplitude 18 = .ok (.istore 4, 2) := by decide +kernel
theorem dX12_byAmplitude_20 : decode cX12_byAmplitude 20 = .ok (.iload 4, 2) := by decide +kernel
theorem dX12_byAmplitude_22 : decode cX12_byAmplitude 22 = .ok (.aload_n 0, 1) := by decide +kernel
theorem dX12_byAmplitude_23 : decode cX12_byAmplitude 23 = .ok (.getfield 70, 3) := by decide +kernel
theorem dX12_byAmplitude_26 : decode cX12_byAmplitude 26 = .ok (.aload_n 0, 1) := by decide +kernel
theorem dX12_byAmplitude_27 : decode cX12_byAmplitude 27 = .ok (.getfield 242, 3) := by decide +kernel
theorem dX12_byAmplitude_30 : decode cX12_byAmplitude 30 = .ok (.iaload, 1) := by decide +kernel
theorem dX12_byAmplitude_31 : decode cX12_byAmplitude 31 = .ok (.if_icmp .ge 65, 3) := by decide +kernel
theorem dX12_byAmplitude_34 : decode cX12_byAmplitude 34 = .ok (.aload_n 0, 1) := by decide +kernel
theorem dX12_byAmplitude_35 : decode cX12_byAmplitude 35 = .ok (.getfield 76, 3) := by decide +kernel
theorem dX12_byAmplitude_38 : decode cX12_byAmplitude 38 = .ok (.bipush 6, 2) := by decide +kernel
theorem dX12_byAmplitude_40 : decode cX12_byAmplitude 40 = .ok (.aload_n 0, 1) := by decide +kernel
theorem dX12_byAmplitude_41 : decode cX12_byAmplitude 41 = .ok (.getfield 242, 3) := by decide +kernel
theorem dX12_byAmplitude_44 : decode cX12_byAmplitude 44 = .ok (.imul, 1) := by decide +kernel
theorem dX12_byAmplitude_45 : decode cX12_byAmplitude 45 = .ok (.iload 4, 2) := by decide +kernel
theorem dX12_byAmplitude_47 : decode cX12_byAmplitude 47 = .ok (.iadd, 1) := by decide +kernel
theorem dX12_byAmplitude_48 : decode cX12_byAmplitude 48 = .ok (.iaload, 1) := by decide +kernel
theorem dX12_byAmplitude_49 : decode cX12_byAmplitude 49 = .ok (.istore 5, 2) := by decide +kernel
theorem dX12_byAmplitude_51 : decode cX12_byAmplitude 51 = .ok (.aload_n 0, 1) := by decide +kernel
theorem dX12_byAmplitude_52 : decode cX12_byAmplitude 52 = .ok (.getfield 76, 3) := by decide +kernel
theorem dX12_byAmplitude_55 : decode cX12_byAmplitude 55 = .ok (.bipush 6, 2) := by decide +kernel
theorem dX12_byAmplitude_57 : decode cX12_byAmplitude 57 = .ok (.aload_n 0, 1) := by decide +kernel
theorem dX12_byAmplitude_58 : decode cX12_byAmplitude 58 = .ok (.getfield 242, 3) := by decide +kernel
theorem dX12_byAmplitude_61 : decode cX12_byAmplitude 61 = .ok (.imul, 1) := by decide +kernel
theorem dX12_byAmplitude_62 : decode cX12_byAmplitude 62 = .ok (.iload_n 2, 1) := by decide +kernel
theorem dX12_byAmplitude_63 : decode cX12_byAmplitude 63 = .ok (.iadd, 1) := by decide +kernel
theorem dX12_byAmplitude_64 : decode cX12_byAmplitude 64 = .ok (.iaload, 1) := by decide +kernel
theorem dX12_byAmplitude_65 : decode cX12_byAmplitude 65 = .ok (.istore 6, 2) := by decide +kernel
theorem dX12_byAmplitude_67 : decode cX12_byAmplitude 67 = .ok (.iload 5, 2) := by decide +kernel
theorem dX12_byAmplitude_69 : decode cX12_byAmplitude 69 = .ok (.iload 6, 2) := by decide +kernel
theorem dX12_byAmplitude_71 : decode cX12_byAmplitude 71 = .ok (.if_icmp .gt 16, 3) := by decide +kernel
theorem dX12_byAmplitude_74 : decode cX12_byAmplitude 74 = .ok (.iload 5, 2) := by decide +kernel
theorem dX12_byAmplitude_76 : decode cX12_byAmplitude 76 = .ok (.iload 6, 2) := by decide +kernel
theorem dX12_byAmplitude_78 : decode cX12_byAmplitude 78 = .ok (.if_icmp .ne 12, 3) := by decide +kernel
theorem dX12_byAmplitude_81 : decode cX12_byAmplitude 81 = .ok (.iload 4, 2) := by decide +kernel
theorem dX12_byAmplitude_83 : decode cX12_byAmplitude 83 = .ok (.iload_n 2, 1) := by decide +kernel
theorem dX12_byAmplitude_84 : decode cX12_byAmplitude 84 = .ok (.if_icmp .ge 6, 3) := by decide +kernel
theorem dX12_byAmplitude_87 : decode cX12_byAmplitude 87 = .ok (.iinc 3 1, 3) := by decide +kernel
theorem dX12_byAmplitude_90 : decode cX12_byAmplitude 90 = .ok (.iinc 4 1, 3) := by decide +kernel
theorem dX12_byAmplitude_93 : decode cX12_byAmplitude 93 = .ok (.goto (-73), 3) := by decide +kernel
theorem dX12_byAmplitude_96 : decode cX12_byAmplitude 96 = .ok (.iload_n 3, 1) := by decide +kernel
theorem dX12_byAmplitude_97 : decode cX12_byAmplitude 97 = .ok (.iload_n 1, 1) := by decide +kernel
theorem dX12_byAmplitude_98 : decode cX12_byAmplitude 98 = .ok (.if_icmp .ne 5, 3) := by decide +kernel
theorem dX12_byAmplitude_101 : decode cX12_byAmplitude 101 = .ok (.iload_n 2, 1) := by decide +kernel
theorem dX12_byAmplitude_102 : decode cX12_byAmplitude 102 = .ok (.ireturn, 1) := by decide +kernel
theorem dX12_byAmplitude_103 : decode cX12_byAmplitude 103 = .ok (.iinc 2 1, 3) := by decide +kernel
theorem dX12_byAmplitude_106 : decode cX12_byAmplitude 106 = .ok (.goto (-104), 3) := by decide +kernel
theorem dX12_byAmplitude_109 : decode cX12_byAmplitude 109 = .ok (.iconst (-1), 1) := by decide +kernel
theorem dX12_byAmplitude_110 : decode cX12_byAmplitude 110 = .ok (.ireturn, 1) := by decide +kernel
set_option maxRecDepth 100000 in
theorem c_X12_byAmplitude (l : Launch) (D : q_D) (al : q_Al) (dt : q_Dt) (x0 : Nat) (x1 : Int32) (kx0 : al.1 x0 = 13) (r0 : Int32) (hm : X12_byAmplitude al dt x0 x1 = some r0) : q_Mt l yX12_byAmplitude cX12_byAmplitude 7 (some FieldType.int) 0 0 D al [.ref x0, .int x1] dt 0 (some (.int r0)) dt := by
  refine q_Mt.of (by decide) (Nat.le_of_ble_eq_true rfl) ?_
  intro p e s m args below meth c ls C hargs hW hl
  have hx := C.1
  have hb := C.2.1
  have hown := C.2.2.2.2.2.1
  have hts := C.2.2.2.2.2.2.1
  have hS : va_S (q_A al) s.heap s.heap [] := va_S.rf
  have hl : lv_has ls 7 [(0, .ref x0), (1, .int x1)] := hl
  unfold X12_byAmplitude at hm
  have hB2 : ∀ (x0_2 : Nat) (x1_2 : Int32) (kx0_2 : al.1 x0_2 = 13) (n_2 : Nat) (x2_2 : Int32) (H : Heap) (locs : List Loc) (ls : Array Slot) (hm : X12_byAmplitude_b2 al dt x0_2 x1_2 n_2 x2_2 = some r0) (hW : q_W D al dt H) (hS : va_S (q_A al) s.heap H locs) (hl : lv_has ls 7 [(0, .ref x0_2), (1, .int x1_2), (2, .int x2_2)]), W p l e { frames := 0, cells := 0, slots := 0, locals := 0 } s m args below meth c H locs 0 0 (MQ below (q_Q (some (.int r0)) (fun H => q_W D al dt H ∧ q_Rk al 0 (some (.int r0))) (q_A al)) args s 0 0 (q_A al)) (F0 m 2 ls []) := by
    intro x0_2 x1_2 kx0_2
    intro n_2
    induction n_2 with
    | zero => intro x2_2 H locs ls hm hW hS hl; cases hm
    | succ n_2 ih2 =>
      have hB20 : ∀ (x2_20 : Int32) (n_20 : Nat) (x3_20 : Int32) (x4_20 : Int32) (H : Heap) (locs : List Loc) (ls : Array Slot) (hm : X12_byAmplitude_b20 al dt (X12_byAmplitude_b2 al dt x0_2 x1_2 n_2) x0_2 x1_2 x2_20 n_20 x3_20 x4_20 = some r0) (hW : q_W D al dt H) (hS : va_S (q_A al) s.heap H locs) (hl : lv_has ls 7 [(0, .ref x0_2), (1, .int x1_2), (2, .int x2_20), (3, .int x3_20), (4, .int x4_20)]), W p l e { frames := 0, cells := 0, slots := 0, locals := 0 } s m args below meth c H locs 0 0 (MQ below (q_Q (some (.int r0)) (fun H => q_W D al dt H ∧ q_Rk al 0 (some (.int r0))) (q_A al)) args s 0 0 (q_A al)) (F0 m 20 ls []) := by
        intro x2_20
        intro n_20
        induction n_20 with
        | zero => intro x3_20 x4_20 H locs ls hm hW hS hl; cases hm
        | succ n_20 ih20 =>
          have hB90 : ∀ (x3_90 : Int32) (x4_90 : Int32) (H : Heap) (locs : List Loc) (ls : Array Slot) (hm : X12_byAmplitude_b90 al dt (X12_byAmplitude_b2 al dt x0_2 x1_2 n_2) (X12_byAmplitude_b20 al dt (X12_byAmplitude_b2 al dt x0_2 x1_2 n_2) x0_2 x1_2 x2_20 n_20) x0_2 x1_2 x2_20 x3_90 x4_90 = some r0) (hW : q_W D al dt H) (hS : va_S (q_A al) s.heap H locs) (hl : lv_has ls 7 [(0, .ref x0_2), (1, .int x1_2), (2, .int x2_20), (3, .int x3_90), (4, .int x4_90)]), W p l e { frames := 0, cells := 0, slots := 0, locals := 0 } s m args below meth c H locs 0 0 (MQ below (q_Q (some (.int r0)) (fun H => q_W D al dt H ∧ q_Rk al 0 (some (.int r0))) (q_A al)) args s 0 0 (q_A al)) (F0 m 90 ls []) := by
            intro x3_90 x4_90 H locs ls hm hW hS hl
            unfold X12_byAmplitude_b90 at hm
            refine lv_iinc (v := (x4_90 + 1)) (lv' := [(4, .int (x4_90 + 1)), (0, .ref x0_2), (1, .int x1_2), (2, .int x2_20), (3, .int x3_90)]) hx hb dX12_byAmplitude_90 hl (k := 4) rfl rfl (by decide) rfl (fun ls hl => ?_)
            refine lv_goto (tgt := 20) hx hb dX12_byAmplitude_93 (by decide) ?_
            exact ih20 x3_90 (x4_90 + 1) _ _ _ hm hW hS (lv_sub hl [1, 2, 3, 4, 0] rfl)
          have hB87 : ∀ (x3_87 : Int32) (x4_87 : Int32) (H : Heap) (locs : List Loc) (ls : Array Slot) (hm : X12_byAmplitude_b87 al dt (X12_byAmplitude_b2 al dt x0_2 x1_2 n_2) (X12_byAmplitude_b20 al dt (X12_byAmplitude_b2 al dt x0_2 x1_2 n_2) x0_2 x1_2 x2_20 n_20) x0_2 x1_2 x2_20 x3_87 x4_87 = some r0) (hW : q_W D al dt H) (hS : va_S (q_A al) s.heap H locs) (hl : lv_has ls 7 [(0, .ref x0_2), (1, .int x1_2), (2, .int x2_20), (3, .int x3_87), (4, .int x4_87)]), W p l e { frames := 0, cells := 0, slots := 0, locals := 0 } s m args below meth c H locs 0 0 (MQ below (q_Q (some (.int r0)) (fun H => q_W D al dt H ∧ q_Rk al 0 (some (.int r0))) (q_A al)) args s 0 0 (q_A al)) (F0 m 87 ls []) := by
            intro x3_87 x4_87 H locs ls hm hW hS hl
            unfold X12_byAmplitude_b87 at hm
            refine lv_iinc (v := (x3_87 + 1)) (lv' := [(3, .int (x3_87 + 1)), (0, .ref x0_2), (1, .int x1_2), (2, .int x2_20), (4, .int x4_87)]) hx hb dX12_byAmplitude_87 hl (k := 3) rfl rfl (by decide) rfl (fun ls hl => ?_)
            exact hB90 (x3_87 + 1) x4_87 _ _ _ hm hW hS (lv_sub hl [1, 2, 3, 0, 4] rfl)
          intro x3_20 x4_20 H locs ls hm hW hS hl
          rw [X12_byAmplitude_b20] at hm
          refine lv_iload hx hb dX12_byAmplitude_20 (lv_at hl 4 rfl) ?_
          refine lv_aload_n hx hb dX12_byAmplitude_22 rfl (lv_at hl 0 rfl) ?_
          refine r_getF C hW (ci := 12) kx0_2 ff_12_31 cl_12 fl_RX12_70 dX12_byAmplitude_23 (fun k20001 => ?_)
          refine lv_aload_n hx hb dX12_byAmplitude_26 rfl (lv_at hl 0 rfl) ?_
          refine r_getI C hW (ci := 12) kx0_2 ff_12_18 cl_12 fl_RX12_242 dX12_byAmplitude_27 ?_
          refine r_iald C hW hm k20001 dX12_byAmplitude_30 (fun hm => ?_)
          refine q_ifc hm (fun c20002 hm => ?_) (fun c20002 hm => ?_)
          · refine lv_icmp_ge (tgt := 96) hx hb dX12_byAmplitude_31 (by decide) (fun _ => ?_) (fun h => absurd c20002 h)
            refine lv_iload_n hx hb dX12_byAmplitude_96 rfl (lv_at hl 3 rfl) ?_
            refine lv_iload_n hx hb dX12_byAmplitude_97 rfl (lv_at hl 1 rfl) ?_
            refine q_ifc hm (fun c20003 hm => ?_) (fun c20003 hm => ?_)
            · refine lv_icmp_ne (tgt := 103) hx hb dX12_byAmplitude_98 (by decide) (fun h => absurd c20003 h) (fun _ => ?_)
              refine lv_iload_n hx hb dX12_byAmplitude_101 rfl (lv_at hl 2 rfl) ?_
              exact e_i C hW hS hm dX12_byAmplitude_102
            refine lv_icmp_ne (tgt := 103) hx hb dX12_byAmplitude_98 (by decide) (fun _ => ?_) (fun h => absurd h c20003)
            refine lv_iinc (v := (x2_20 + 1)) (lv' := [(2, .int (x2_20 + 1)), (0, .ref x0_2), (1, .int x1_2), (3, .int x3_20), (4, .int x4_20)]) hx hb dX12_byAmplitude_103 hl (k := 2) rfl rfl (by decide) rfl (fun ls hl => ?_)
            refine lv_goto (tgt := 2) hx hb dX12_byAmplitude_106 (by decide) ?_
            exact ih2 (x2_20 + 1) _ _ _ hm hW hS (lv_sub hl [1, 2, 0] rfl)
          refine lv_icmp_ge (tgt := 96) hx hb dX12_byAmplitude_31 (by decide) (fun h => absurd h c20002) (fun _ => ?_)
          refine lv_aload_n hx hb dX12_byAmplitude_34 rfl (lv_at hl 0 rfl) ?_
          refine r_getF C hW (ci := 12) kx0_2 ff_12_33 cl_12 fl_RX12_76 dX12_byAmplitude_35 (fun k20004 => ?_)
          refine lv_bipush (v := 6) hx hb dX12_byAmplitude_38 (by decide) ?_
          refine lv_aload_n hx hb dX12_byAmplitude_40 rfl (lv_at hl 0 rfl) ?_
          refine r_getI C hW (ci := 12) kx0_2 ff_12_18 cl_12 fl_RX12_242 dX12_byAmplitude_41 ?_
          refine lv_imul hx hb dX12_byAmplitude_44 ?_
          refine lv_iload hx hb dX12_byAmplitude_45 (lv_at hl 4 rfl) ?_
          refine lv_iadd hx hb dX12_byAmplitude_47 ?_
          refine r_iald C hW hm k20004 dX12_byAmplitude_48 (fun hm => ?_)
          refine q_nmI hm (fun v20005 ev20005 hm => ?_)
          refine lv_istore (i := 5) (lv' := [(5, .int v20005), (0, .ref x0_2), (1, .int x1_2), (2, .int x2_20), (3, .int x3_20), (4, .int x4_20)]) hx hb dX12_byAmplitude_49 hl (by decide) rfl (fun ls hl => ?_)
          refine lv_aload_n hx hb dX12_byAmplitude_51 rfl (lv_at hl 1 rfl) ?_
          refine r_getF C hW (ci := 12) kx0_2 ff_12_33 cl_12 fl_RX12_76 dX12_byAmplitude_52 (fun k20006 => ?_)
          refine lv_bipush (v := 6) hx hb dX12_byAmplitude_55 (by decide) ?_
          refine lv_aload_n hx hb dX12_byAmplitude_57 rfl (lv_at hl 1 rfl) ?_
          refine r_getI C hW (ci := 12) kx0_2 ff_12_18 cl_12 fl_RX12_242 dX12_byAmplitude_58 ?_
          refine lv_imul hx hb dX12_byAmplitude_61 ?_
          refine lv_iload_n hx hb dX12_byAmplitude_62 rfl (lv_at hl 3 rfl) ?_
          refine lv_iadd hx hb dX12_byAmplitude_63 ?_
          refine r_iald C hW hm k20006 dX12_byAmplitude_64 (fun hm => ?_)
          refine q_nmI hm (fun v20007 ev20007 hm => ?_)
          refine lv_istore (i := 6) (lv' := [(6, .int v20007), (5, .int v20005), (0, .ref x0_2), (1, .int x1_2), (2, .int x2_20), (3, .int x3_20), (4, .int x4_20)]) hx hb dX12_byAmplitude_65 hl (by decide) rfl (fun ls hl => ?_)
          refine lv_iload hx hb dX12_byAmplitude_67 (lv_at hl 1 rfl) ?_
          refine lv_iload hx hb dX12_byAmplitude_69 (lv_at hl 0 rfl) ?_
          refine q_ifc hm (fun c20008 hm => ?_) (fun c20008 hm => ?_)
          · refine lv_icmp_gt (tgt := 87) hx hb dX12_byAmplitude_71 (by decide) (fun _ => ?_) (fun h => absurd c20008 h)
            exact hB87 x3_20 x4_20 _ _ _ hm hW hS (lv_sub hl [2, 3, 4, 5, 6] rfl)
          refine lv_icmp_gt (tgt := 87) hx hb dX12_byAmplitude_71 (by decide) (fun h => absurd h c20008) (fun _ => ?_)
          refine lv_iload hx hb dX12_byAmplitude_74 (lv_at hl 1 rfl) ?_
          refine lv_iload hx hb dX12_byAmplitude_76 (lv_at hl 0 rfl) ?_
          refine q_ifc hm (fun c20009 hm => ?_) (fun c20009 hm => ?_)
          · refine lv_icmp_ne (tgt := 90) hx hb dX12_byAmplitude_78 (by decide) (fun h => absurd c20009 h) (fun _ => ?_)
            refine lv_iload hx hb dX12_byAmplitude_81 (lv_at hl 6 rfl) ?_
            refine lv_iload_n hx hb dX12_byAmplitude_83 rfl (lv_at hl 4 rfl) ?_
            refine q_ifc hm (fun c20010 hm => ?_) (fun c20010 hm => ?_)
            · refine lv_icmp_ge (tgt := 90) hx hb dX12_byAmplitude_84 (by decide) (fun _ => ?_) (fun h => absurd c20010 h)
              exact hB90 x3_20 x4_20 _ _ _ hm hW hS (lv_sub hl [2, 3, 4, 5, 6] rfl)
            refine lv_icmp_ge (tgt := 90) hx hb dX12_byAmplitude_84 (by decide) (fun h => absurd h c20010) (fun _ => ?_)
            exact hB87 x3_20 x4_20 _ _ _ hm hW hS (lv_sub hl [2, 3, 4, 5, 6] rfl)
          refine lv_icmp_ne (tgt := 90) hx hb dX12_byAmplitude_78 (by decide) (fun _ => ?_) (fun h => absurd h c20009)
          exact hB90 x3_20 x4_20 _ _ _ hm hW hS (lv_sub hl [2, 3, 4, 5, 6] rfl)
      intro x2_2 H locs ls hm hW hS hl
      rw [X12_byAmplitude_b2] at hm
      refine lv_iload_n hx hb dX12_byAmplitude_2 rfl (lv_at hl 2 rfl) ?_
      refine lv_aload_n hx hb dX12_byAmplitude_3 rfl (lv_at hl 0 rfl) ?_
      refine r_getF C hW (ci := 12) kx0_2 ff_12_31 cl_12 fl_RX12_70 dX12_byAmplitude_4 (fun k2001 => ?_)
      refine lv_aload_n hx hb dX12_byAmplitude_7 rfl (lv_at hl 0 rfl) ?_
      refine r_getI C hW (ci := 12) kx0_2 ff_12_18 cl_12 fl_RX12_242 dX12_byAmplitude_8 ?_
      refine r_iald C hW hm k2001 dX12_byAmplitude_11 (fun hm => ?_)
      refine q_ifc hm (fun c2002 hm => ?_) (fun c2002 hm => ?_)
      · refine lv_icmp_ge (tgt := 109) hx hb dX12_byAmplitude_12 (by decide) (fun _ => ?_) (fun h => absurd c2002 h)
        refine lv_iconst (v := (-1)) hx hb dX12_byAmplitude_109 (by decide) ?_
        exact e_i C hW hS hm dX12_byAmplitude_110
      refine lv_icmp_ge (tgt := 109) hx hb dX12_byAmplitude_12 (by decide) (fun h => absurd h c2002) (fun _ => ?_)
      refine lv_iconst (v := 0) hx hb dX12_byAmplitude_15 (by decide) ?_
      refine lv_istore_n (i := 3) (lv' := [(3, .int 0), (0, .ref x0_2), (1, .int x1_2), (2, .int x2_2)]) hx hb dX12_byAmplitude_16 rfl hl (by decide) rfl (fun ls hl => ?_)
      refine lv_iconst (v := 0) hx hb dX12_byAmplitude_17 (by decide) ?_
      refine lv_istore (i := 4) (lv' := [(4, .int 0), (3, .int 0), (0, .ref x0_2), (1, .int x1_2), (2, .int x2_2)]) hx hb dX12_byAmplitude_18 hl (by decide) rfl (fun ls hl => ?_)
      exact hB20 x2_2 q_FU 0 0 _ _ _ hm hW hS (lv_sub hl [2, 3, 4, 1, 0] rfl)
  refine lv_iconst (v := 0) hx hb dX12_byAmplitude_0 (by decide) ?_
  refine lv_istore_n (i := 2) (lv' := [(2, .int 0), (0, .ref x0), (1, .int x1)]) hx hb dX12_byAmplitude_1 rfl hl (by decide) rfl (fun ls hl => ?_)
  exact hB2 x0 x1 kx0 q_FU 0 _ _ _ hm hW hS (lv_sub hl [1, 2, 0] rfl)
theorem dX12_takesOut_0 : decode cX12_takesOut 0 = .ok (.iconst 0, 1) := by decide +kernel
theorem dX12_takesOut_1 : decode cX12_takesOut 1 = .ok (.istore_n 2, 1) := by decide +kernel
theorem dX12_takesOut_2 : decode cX12_takesOut 2 = .ok (.iload_n 2, 1) := by decide +kernel
theorem dX12_takesOut_3 : decode cX12_takesOut 3 = .ok (.sipush 1024, 3) := by decide +kernel
theorem dX12_takesOut_6 : decode cX12_takesOut 6 = .ok (.if_icmp .ge 21, 3) := by decide +kernel
theorem dX12_takesOut_9 : decode cX12_takesOut 9 = .ok (.aload_n 0, 1) := by decide +kernel
theorem dX12_takesOut_10 : decode cX12_takesOut 10 = .ok (.getfield 136, 3) := by decide +kernel
theorem dX12_takesOut_13 : decode cX12_takesOut 13 = .ok (.iload_n 2, 1) := by decide +kernel
theorem dX12_takesOut_14 : decode cX12_takesOut 14 = .ok (.aload_n 0, 1) := by decide +kernel
theorem dX12_takesOut_15 : decode cX12_takesOut 15 = .ok (.getfield 133, 3) := by decide +kernel
theorem dX12_takesOut_18 : decode cX12_takesOut 18 = .ok (.iload_n 2, 1) := by decide +kernel
theorem dX12_takesOut_19 : decode cX12_takesOut 19 = .ok (.iaload, 1) := by decide +kernel
theorem dX12_takesOut_20 : decode cX12_takesOut 20 = .ok (.iastore, 1) := by decide +kernel
theorem dX12_takesOut_21 : decode cX12_takesOut 21 = .ok (.iinc 2 1, 3) := by decide +kernel
theorem dX12_takesOut_24 : decode cX12_takesOut 24 = .ok (.goto (-22), 3) := by decide +kernel
theorem dX12_takesOut_27 : decode cX12_takesOut 27 = .ok (.iconst 0, 1) := by decide +kernel
theorem dX12_takesOut_28 : decode cX12_takesOut 28 = .ok (.istore_n 2, 1) := by decide +kernel
theorem dX12_takesOut_29 : decode cX12_takesOut 29 = .ok (.iconst 0, 1) := by decide +kernel
theorem dX12_takesOut_30 : decode cX12_takesOut 30 = .ok (.istore_n 3, 1) := by decide +kernel
theorem dX12_takesOut_31 : decode cX12_takesOut 31 = .ok (.iload_n 3, 1) := by decide +kernel
theorem dX12_takesOut_32 : decode cX12_takesOut 32 = .ok (.iload_n 1, 1) := by decide +kernel
theorem dX12_takesOut_33 : decode cX12_takesOut 33 = .ok (.if_icmp .ge 92, 3) := by decide +kernel
theorem dX12_takesOut_36 : decode cX12_takesOut 36 = .ok (.aload_n 0, 1) := by decide +kernel
theorem dX12_takesOut_37 : decode cX12_takesOut 37 = .ok (.iload_n 3, 1) := by decide +kernel
theorem dX12_takesOut_38 : decode cX12_takesOut 38 = .ok (.invokevirtual 465, 3) := by decide +kernel
theorem dX12_takesOut_41 : decode cX12_takesOut 41 = .ok (.istore 4, 2) := by decide +kernel
theorem dX12_takesOut_43 : decode cX12_takesOut 43 = .ok (.iload_n 2, 1) := by decide +kernel
theorem dX12_takesOut_44 : decode cX12_takesOut 44 = .ok (.aload_n 0, 1) := by decide +kernel
theorem dX12_takesOut_45 : decode cX12_takesOut 45 = .ok (.aload_n 0, 1) := by decide +kernel
theorem dX12_takesOut_46 : decode cX12_takesOut 46 = .ok (.getfield 136, 3) := by decide +kernel
theorem dX12_takesOut_49 : decode cX12_takesOut 49 = .ok (.iload 4, 2) := by decide +kernel
theorem dX12_takesOut_51 : decode cX12_takesOut 51 = .ok (.invokevirtual 461, 3) := by decide +kernel
theorem dX12_takesOut_54 : decode cX12_takesOut 54 = .ok (.iadd, 1) := by decide +kernel
theorem dX12_takesOut_55 : decode cX12_takesOut 55 = .ok (.istore_n 2, 1) := by decide +kernel
theorem dX12_takesOut_56 : decode cX12_takesOut 56 = .ok (.iconst 0, 1) := by decide +kernel
theorem dX12_takesOut_57 : decode cX12_takesOut 57 = .ok (.istore 5, 2) := by decide +kernel
theorem dX12_takesOut_59 : decode cX12_takesOut 59 = .ok (.iload 5, 2) := by decide +kernel
theorem dX12_takesOut_61 : decode cX12_takesOut 61 = .ok (.sipush 512, 3) := by decide +kernel
theorem dX12_takesOut_64 : decode cX12_takesOut 64 = .ok (.if_icmp .ge 44, 3) := by decide +kernel
theorem dX12_takesOut_67 : decode cX12_takesOut 67 = .ok (.aload_n 0, 1) := by decide +kernel
theorem dX12_takesOut_68 : decode cX12_takesOut 68 = .ok (.getfield 127, 3) := by decide +kernel
theorem dX12_takesOut_71 : decode cX12_takesOut 71 = .ok (.sipush 512, 3) := by decide +kernel
theorem dX12_takesOut_74 : decode cX12_takesOut 74 = .ok (.iload 4, 2) := by decide +kernel
theorem dX12_takesOut_76 : decode cX12_takesOut 76 = .ok (.imul, 1) := by decide +kernel
theorem dX12_takesOut_77 : decode cX12_takesOut 77 = .ok (.iload 5, 2) := by decide +kernel
theorem dX12_takesOut_79 : decode cX12_takesOut 79 = .ok (.iadd, 1) := by decide +kernel
theorem dX12_takesOut_80 : decode cX12_takesOut 80 = .ok (.aload_n 0, 1) := by decide +kernel
theorem dX12_takesOut_81 : decode cX12_takesOut 81 = .ok (.getfield 161, 3) := by decide +kernel
theorem dX12_takesOut_84 : decode cX12_takesOut 84 = .ok (.iload 5, 2) := by decide +kernel
theorem dX12_takesOut_86 : decode cX12_takesOut 86 = .ok (.baload, 1) := by decide +kernel
theorem dX12_takesOut_87 : decode cX12_takesOut 87 = .ok (.ifCond .eq 12, 3) := by decide +kernel
theorem dX12_takesOut_90 : decode cX12_takesOut 90 = .ok (.aload_n 0, 1) := by decide +kernel
theorem dX12_takesOut_91 : decode cX12_takesOut 91 = .ok (.iload 5, 2) := by decide +kernel
theorem dX12_takesOut_93 : decode cX12_takesOut 93 = .ok (.invokevirtual 454, 3) := by decide +kernel
theorem dX12_takesOut_96 : decode cX12_takesOut 96 = .ok (.goto 4, 3) := by decide +kernel
theorem dX12_takesOut_99 : decode cX12_takesOut 99 = .ok (.iconst 0, 1) := by decide +kernel
theorem dX12_takesOut_100 : decode cX12_takesOut 100 = .ok (.i2b, 1) := by decide +kernel
theorem dX12_takesOut_101 : decode cX12_takesOut 101 = .ok (.bastore, 1) := by decide +kernel
theorem dX12_takesOut_102 : decode cX12_takesOut 102 = .ok (.iinc 5 1, 3) := by decide +kernel
theorem dX12_takesOut_105 : decode cX12_takesOut 105 = .ok (.goto (-46), 3) := by decide +kernel
theorem dX12_takesOut_108 : decode cX12_takesOut 108 = .ok (.aload_n 0, 1) := by decide +kernel
theorem dX12_takesOut_109 : decode cX12_takesOut 109 = .ok (.aload_n 0, 1) := by decide +kernel
theorem dX12_takesOut_110 : decode cX12_takesOut 110 = .ok (.getfield 136, 3) := by decide +kernel
theorem dX12_takesOut_113 : decode cX12_takesOut 113 = .ok (.iload 4, 2) := by decide +kernel
theorem dX12_takesOut_115 : decode cX12_takesOut 115 = .ok (.iconst (-1), 1) := by decide +kernel
theorem dX12_takesOut_116 : decode cX12_takesOut 116 = .ok (.invokevirtual 369, 3) := by decide +kernel
theorem dX12_takesOut_119 : decode cX12_takesOut 119 = .ok (.iinc 3 1, 3) := by decide +kernel
theorem dX12_takesOut_122 : decode cX12_takesOut 122 = .ok (.goto (-91), 3) := by decide +kernel
theorem dX12_takesOut_125 : decode cX12_takesOut 125 = .ok (.iload_n 2, 1) := by decide +kernel
theorem dX12_takesOut_126 : decode cX12_takesOut 126 = .ok (.ireturn, 1) := by decide +kernel
set_option maxRecDepth 100000 in
theorem c_X12_takesOut (l : Launch) (D : q_D) (al : q_Al) (dt : q_Dt) (x0 : Nat) (x1 : Int32) (kx0 : al.1 x0 = 13) (r0 : Int32) (dt0 : q_Dt) (hm : X12_takesOut al dt x0 x1 = some (r0, dt0)) : q_Mt l yX12_takesOut cX12_takesOut 6 (some FieldType.int) 5 123 D al [.ref x0, .int x1] dt 0 (some (.int r0)) dt0 := by
  refine q_Mt.of (by decide) (Nat.le_of_ble_eq_true rfl) ?_
  intro p e s m args below meth c ls C hargs hW hl
  have hx := C.1
  have hb := C.2.1
  have hown := C.2.2.2.2.2.1
  have hts := C.2.2.2.2.2.2.1
  have hS : va_S (q_A al) s.heap s.heap [] := va_S.rf
  have hl : lv_has ls 6 [(0, .ref x0), (1, .int x1)] := hl
  unfold X12_takesOut at hm
  have hB31 : ∀ (x0_31 : Nat) (x1_31 : Int32) (kx0_31 : al.1 x0_31 = 13) (n_31 : Nat) (x2_31 : Int32) (x3_31 : Int32) (dt : q_Dt) (H : Heap) (locs : List Loc) (ls : Array Slot) (hm : X12_takesOut_b31 al x0_31 x1_31 n_31 x2_31 x3_31 dt = some (r0, dt0)) (hW : q_W D al dt H) (hS : va_S (q_A al) s.heap H locs) (hl : lv_has ls 6 [(0, .ref x0_31), (1, .int x1_31), (2, .int x2_31), (3, .int x3_31)]), W p l e { frames := 5, cells := 0, slots := 0, locals := 123 } s m args below meth c H locs 0 0 (MQ below (q_Q (some (.int r0)) (fun H => q_W D al dt0 H ∧ q_Rk al 0 (some (.int r0))) (q_A al)) args s 0 0 (q_A al)) (F0 m 31 ls []) := by
    intro x0_31 x1_31 kx0_31
    intro n_31
    induction n_31 with
    | zero => intro x2_31 x3_31 dt H locs ls hm hW hS hl; cases hm
    | succ n_31 ih31 =>
      have hB59 : ∀ (x2_59 : Int32) (x3_59 : Int32) (x4_59 : Int32) (n_59 : Nat) (x5_59 : Int32) (dt : q_Dt) (H : Heap) (locs : List Loc) (ls : Array Slot) (hm : X12_takesOut_b59 al (X12_takesOut_b31 al x0_31 x1_31 n_31) x0_31 x1_31 x2_59 x3_59 x4_59 n_59 x5_59 dt = some (r0, dt0)) (hW : q_W D al dt H) (hS : va_S (q_A al) s.heap H locs) (hl : lv_has ls 6 [(0, .ref x0_31), (1, .int x1_31), (2, .int x2_59), (3, .int x3_59), (4, .int x4_59), (5, .int x5_59)]), W p l e { frames := 5, cells := 0, slots := 0, locals := 123 } s m args below meth c H locs 0 0 (MQ below (q_Q (some (.int r0)) (fun H => q_W D al dt0 H ∧ q_Rk al 0 (some (.int r0))) (q_A al)) args s 0 0 (q_A al)) (F0 m 59 ls []) := by
        intro x2_59 x3_59 x4_59
        intro n_59
        induction n_59 with
        | zero => intro x5_59 dt H locs ls hm hW hS hl; cases hm
        | succ n_59 ih59 =>
          have hB100 : ∀ (x5_100 : Int32) (t0_100 : Nat) (t1_100 : Int32) (t2_100 : Int32) (kt0_100 : al.1 t0_100 = 20) (dt : q_Dt) (H : Heap) (locs : List Loc) (ls : Array Slot) (hm : X12_takesOut_b100 al (X12_takesOut_b31 al x0_31 x1_31 n_31) (X12_takesOut_b59 al (X12_takesOut_b31 al x0_31 x1_31 n_31) x0_31 x1_31 x2_59 x3_59 x4_59 n_59) x0_31 x1_31 x2_59 x3_59 x4_59 x5_100 t0_100 t1_100 t2_100 dt = some (r0, dt0)) (hW : q_W D al dt H) (hS : va_S (q_A al) s.heap H locs) (hl : lv_has ls 6 [(0, .ref x0_31), (1, .int x1_31), (2, .int x2_59), (3, .int x3_59), (4, .int x4_59), (5, .int x5_100)]), W p l e { frames := 5, cells := 0, slots := 0, locals := 123 } s m args below meth c H locs 0 0 (MQ below (q_Q (some (.int r0)) (fun H => q_W D al dt0 H ∧ q_Rk al 0 (some (.int r0))) (q_A al)) args s 0 0 (q_A al)) (F0 m 100 ls [.int t2_100, .int t1_100, .ref t0_100]) := by
            intro x5_100 t0_100 t1_100 t2_100 kt0_100 dt H locs ls hm hW hS hl
            unfold X12_takesOut_b100 at hm
            refine lv_i2b (v := (Int8.toInt32 (Int32.toInt8 t2_100))) hx hb dX12_takesOut_100 rfl ?_
            refine r_bast C hW hS hm kt0_100 dX12_takesOut_101 (fun dt100001 H locs hm hW hS => ?_)
            refine lv_iinc (v := (x5_100 + 1)) (lv' := [(5, .int (x5_100 + 1)), (0, .ref x0_31), (1, .int x1_31), (2, .int x2_59), (3, .int x3_59), (4, .int x4_59)]) hx hb dX12_takesOut_102 hl (k := 5) rfl rfl (by decide) rfl (fun ls hl => ?_)
            refine lv_goto (tgt := 59) hx hb dX12_takesOut_105 (by decide) ?_
            exact ih59 (x5_100 + 1) dt100001 _ _ _ hm hW hS (lv_sub hl [1, 2, 3, 4, 5, 0] rfl)
          intro x5_59 dt H locs ls hm hW hS hl
          rw [X12_takesOut_b59] at hm
          refine lv_iload hx hb dX12_takesOut_59 (lv_at hl 5 rfl) ?_
          refine lv_sipush (v := 512) hx hb dX12_takesOut_61 (by decide) ?_
          refine q_ifc hm (fun c59001 hm => ?_) (fun c59001 hm => ?_)
          · refine lv_icmp_ge (tgt := 108) hx hb dX12_takesOut_64 (by decide) (fun _ => ?_) (fun h => absurd c59001 h)
            refine lv_aload_n hx hb dX12_takesOut_108 rfl (lv_at hl 0 rfl) ?_
            refine lv_aload_n hx hb dX12_takesOut_109 rfl (lv_at hl 0 rfl) ?_
            refine r_getF C hW (ci := 12) kx0_31 ff_12_54 cl_12 fl_RX12_136 dX12_takesOut_110 (fun k59002 => ?_)
            refine lv_iload hx hb dX12_takesOut_113 (lv_at hl 4 rfl) ?_
            refine lv_iconst (v := (-1)) hx hb dX12_takesOut_115 (by decide) ?_
            obtain ⟨dt59004, hc59003, hm⟩ := q_b1i hm
            refine q_callV C hW hS (As := [.ref (al.2.2 x0_31 54), .int x4_59, .int (-1)]) (rest := []) (st1 := []) (c_X12_addsWave l D al dt x0_31 (al.2.2 x0_31 54) x4_59 (-1) kx0_31 k59002 dt59004 hc59003) yl_X12_addsWave vl_X12_addsWave ml_RX12_369 (ci := 12) rfl kx0_31 (by decide) rfl ⟨Nat.le_of_ble_eq_true rfl, Nat.le_of_ble_eq_true rfl⟩ hl rfl (Nat.le_of_ble_eq_true rfl) dX12_takesOut_116 ⟨Nat.le_refl _, Nat.le_refl _⟩ rfl (fun H locs k59005 hW hS => ?_)
            refine lv_iinc (v := (x3_59 + 1)) (lv' := [(3, .int (x3_59 + 1)), (0, .ref x0_31), (1, .int x1_31), (2, .int x2_59), (4, .int x4_59), (5, .int x5_59)]) hx hb dX12_takesOut_119 hl (k := 3) rfl rfl (by decide) rfl (fun ls hl => ?_)
            refine lv_goto (tgt := 31) hx hb dX12_takesOut_122 (by decide) ?_
            exact ih31 x2_59 (x3_59 + 1) dt59004 _ _ _ hm hW hS (lv_sub hl [1, 2, 3, 0] rfl)
          refine lv_icmp_ge (tgt := 108) hx hb dX12_takesOut_64 (by decide) (fun h => absurd h c59001) (fun _ => ?_)
          refine lv_aload_n hx hb dX12_takesOut_67 rfl (lv_at hl 0 rfl) ?_
          refine r_getF C hW (ci := 12) kx0_31 ff_12_51 cl_12 fl_RX12_127 dX12_takesOut_68 (fun k59006 => ?_)
          refine lv_sipush (v := 512) hx hb dX12_takesOut_71 (by decide) ?_
          refine lv_iload hx hb dX12_takesOut_74 (lv_at hl 4 rfl) ?_
          refine lv_imul hx hb dX12_takesOut_76 ?_
          refine lv_iload hx hb dX12_takesOut_77 (lv_at hl 5 rfl) ?_
          refine lv_iadd hx hb dX12_takesOut_79 ?_
          refine lv_aload_n hx hb dX12_takesOut_80 rfl (lv_at hl 0 rfl) ?_
          refine r_getF C hW (ci := 12) kx0_31 ff_12_64 cl_12 fl_RX12_161 dX12_takesOut_81 (fun k59007 => ?_)
          refine lv_iload hx hb dX12_takesOut_84 (lv_at hl 5 rfl) ?_
          refine r_zald C hW hm k59007 dX12_takesOut_86 (fun hm => ?_)
          refine q_ifc hm (fun c59008 hm => ?_) (fun c59008 hm => ?_)
          · refine lv_if_eq (tgt := 99) hx hb dX12_takesOut_87 (by decide) (fun _ => ?_) (fun h => absurd c59008 h)
            refine lv_iconst (v := 0) hx hb dX12_takesOut_99 (by decide) ?_
            exact hB100 x5_59 (al.2.2 x0_31 51) ((512 * x4_59) + x5_59) 0 k59006 dt _ _ _ hm hW hS (lv_sub hl [0, 1, 2, 3, 4, 5] rfl)
          refine lv_if_eq (tgt := 99) hx hb dX12_takesOut_87 (by decide) (fun h => absurd h c59008) (fun _ => ?_)
          refine lv_aload_n hx hb dX12_takesOut_90 rfl (lv_at hl 0 rfl) ?_
          refine lv_iload hx hb dX12_takesOut_91 (lv_at hl 5 rfl) ?_
          obtain ⟨v59010, hc59009, hm⟩ := q_b1i hm
          refine q_callV C hW hS (As := [.int x5_59]) (rest := [.int ((512 * x4_59) + x5_59), .ref (al.2.2 x0_31 51)]) (st1 := [.int v59010, .int ((512 * x4_59) + x5_59), .ref (al.2.2 x0_31 51)]) (c_X12_bitOf l D al dt x0_31 x5_59 kx0_31 v59010 hc59009) yl_X12_bitOf vl_X12_bitOf ml_RX12_454 (ci := 12) rfl kx0_31 (by decide) rfl ⟨Nat.le_of_ble_eq_true rfl, Nat.le_of_ble_eq_true rfl⟩ hl rfl (Nat.le_of_ble_eq_true rfl) dX12_takesOut_93 ⟨Nat.le_refl _, Nat.le_refl _⟩ rfl (fun H locs k59011 hW hS => ?_)
          refine lv_goto (tgt := 100) hx hb dX12_takesOut_96 (by decide) ?_
          exact hB100 x5_59 (al.2.2 x0_31 51) ((512 * x4_59) + x5_59) v59010 k59006 dt _ _ _ hm hW hS (lv_sub hl [0, 1, 2, 3, 4, 5] rfl)
      intro x2_31 x3_31 dt H locs ls hm hW hS hl
      rw [X12_takesOut_b31] at hm
      refine lv_iload_n hx hb dX12_takesOut_31 rfl (lv_at hl 3 rfl) ?_
      refine lv_iload_n hx hb dX12_takesOut_32 rfl (lv_at hl 1 rfl) ?_
      refine q_ifc hm (fun c31001 hm => ?_) (fun c31001 hm => ?_)
      · refine lv_icmp_ge (tgt := 125) hx hb dX12_takesOut_33 (by decide) (fun _ => ?_) (fun h => absurd c31001 h)
        refine lv_iload_n hx hb dX12_takesOut_125 rfl (lv_at hl 2 rfl) ?_
        exact e_iD C hW hS hm dX12_takesOut_126
      refine lv_icmp_ge (tgt := 125) hx hb dX12_takesOut_33 (by decide) (fun h => absurd h c31001) (fun _ => ?_)
      refine lv_aload_n hx hb dX12_takesOut_36 rfl (lv_at hl 0 rfl) ?_
      refine lv_iload_n hx hb dX12_takesOut_37 rfl (lv_at hl 3 rfl) ?_
      obtain ⟨v31003, hc31002, hm⟩ := q_b1i hm
      refine q_callV C hW hS (As := [.int x3_31]) (rest := []) (st1 := [.int v31003]) (c_X12_byAmplitude l D al dt x0_31 x3_31 kx0_31 v31003 hc31002) yl_X12_byAmplitude vl_X12_byAmplitude ml_RX12_465 (ci := 12) rfl kx0_31 (by decide) rfl ⟨Nat.le_of_ble_eq_true rfl, Nat.le_of_ble_eq_true rfl⟩ hl rfl (Nat.le_of_ble_eq_true rfl) dX12_takesOut_38 ⟨Nat.le_refl _, Nat.le_refl _⟩ rfl (fun H locs k31004 hW hS => ?_)
      refine lv_istore (i := 4) (lv' := [(4, .int v31003), (0, .ref x0_31), (1, .int x1_31), (2, .int x2_31), (3, .int x3_31)]) hx hb dX12_takesOut_41 hl (by decide) rfl (fun ls hl => ?_)
      refine lv_iload_n hx hb dX12_takesOut_43 rfl (lv_at hl 3 rfl) ?_
      refine lv_aload_n hx hb dX12_takesOut_44 rfl (lv_at hl 1 rfl) ?_
      refine lv_aload_n hx hb dX12_takesOut_45 rfl (lv_at hl 1 rfl) ?_
      refine r_getF C hW (ci := 12) kx0_31 ff_12_54 cl_12 fl_RX12_136 dX12_takesOut_46 (fun k31005 => ?_)
      refine lv_iload hx hb dX12_takesOut_49 (lv_at hl 0 rfl) ?_
      obtain ⟨v31007, dt31008, hc31006, hm⟩ := q_b2i hm
      refine q_callV C hW hS (As := [.ref (al.2.2 x0_31 54), .int v31003]) (rest := [.int x2_31]) (st1 := [.int v31007, .int x2_31]) (c_X12_wrongOf l D al dt x0_31 (al.2.2 x0_31 54) v31003 kx0_31 k31005 v31007 dt31008 hc31006) yl_X12_wrongOf vl_X12_wrongOf ml_RX12_461 (ci := 12) rfl kx0_31 (by decide) rfl ⟨Nat.le_of_ble_eq_true rfl, Nat.le_of_ble_eq_true rfl⟩ hl rfl (Nat.le_of_ble_eq_true rfl) dX12_takesOut_51 ⟨Nat.le_refl _, Nat.le_refl _⟩ rfl (fun H locs k31009 hW hS => ?_)
      refine lv_iadd hx hb dX12_takesOut_54 ?_
      refine lv_istore_n (i := 2) (lv' := [(2, .int (x2_31 + v31007)), (4, .int v31003), (0, .ref x0_31), (1, .int x1_31), (3, .int x3_31)]) hx hb dX12_takesOut_55 rfl hl (by decide) rfl (fun ls hl => ?_)
      refine lv_iconst (v := 0) hx hb dX12_takesOut_56 (by decide) ?_
      refine lv_istore (i := 5) (lv' := [(5, .int 0), (2, .int (x2_31 + v31007)), (4, .int v31003), (0, .ref x0_31), (1, .int x1_31), (3, .int x3_31)]) hx hb dX12_takesOut_57 hl (by decide) rfl (fun ls hl => ?_)
      exact hB59 (x2_31 + v31007) x3_31 v31003 q_FU 0 dt31008 _ _ _ hm hW hS (lv_sub hl [3, 4, 1, 5, 2, 0] rfl)
  have hB2 : ∀ (x0_2 : Nat) (x1_2 : Int32) (kx0_2 : al.1 x0_2 = 13) (n_2 : Nat) (x2_2 : Int32) (dt : q_Dt) (H : Heap) (locs : List Loc) (ls : Array Slot) (hm : X12_takesOut_b2 al x0_2 x1_2 n_2 x2_2 dt = some (r0, dt0)) (hW : q_W D al dt H) (hS : va_S (q_A al) s.heap H locs) (hl : lv_has ls 6 [(0, .ref x0_2), (1, .int x1_2), (2, .int x2_2)]), W p l e { frames := 5, cells := 0, slots := 0, locals := 123 } s m args below meth c H locs 0 0 (MQ below (q_Q (some (.int r0)) (fun H => q_W D al dt0 H ∧ q_Rk al 0 (some (.int r0))) (q_A al)) args s 0 0 (q_A al)) (F0 m 2 ls []) := by
    intro x0_2 x1_2 kx0_2
    intro n_2
    induction n_2 with
    | zero => intro x2_2 dt H locs ls hm hW hS hl; cases hm
    | succ n_2 ih2 =>
      intro x2_2 dt H locs ls hm hW hS hl
      rw [X12_takesOut_b2] at hm
      refine lv_iload_n hx hb dX12_takesOut_2 rfl (lv_at hl 2 rfl) ?_
      refine lv_sipush (v := 1024) hx hb dX12_takesOut_3 (by decide) ?_
      refine q_ifc hm (fun c2001 hm => ?_) (fun c2001 hm => ?_)
      · refine lv_icmp_ge (tgt := 27) hx hb dX12_takesOut_6 (by decide) (fun _ => ?_) (fun h => absurd c2001 h)
        refine lv_iconst (v := 0) hx hb dX12_takesOut_27 (by decide) ?_
        refine lv_istore_n (i := 2) (lv' := [(2, .int 0), (0, .ref x0_2), (1, .int x1_2)]) hx hb dX12_takesOut_28 rfl hl (by decide) rfl (fun ls hl => ?_)
        refine lv_iconst (v := 0) hx hb dX12_takesOut_29 (by decide) ?_
        refine lv_istore_n (i := 3) (lv' := [(3, .int 0), (2, .int 0), (0, .ref x0_2), (1, .int x1_2)]) hx hb dX12_takesOut_30 rfl hl (by decide) rfl (fun ls hl => ?_)
        exact hB31 x0_2 x1_2 kx0_2 q_FU 0 0 dt _ _ _ hm hW hS (lv_sub hl [2, 3, 1, 0] rfl)
      refine lv_icmp_ge (tgt := 27) hx hb dX12_takesOut_6 (by decide) (fun h => absurd h c2001) (fun _ => ?_)
      refine lv_aload_n hx hb dX12_takesOut_9 rfl (lv_at hl 0 rfl) ?_
      refine r_getF C hW (ci := 12) kx0_2 ff_12_54 cl_12 fl_RX12_136 dX12_takesOut_10 (fun k2002 => ?_)
      refine lv_iload_n hx hb dX12_takesOut_13 rfl (lv_at hl 2 rfl) ?_
      refine lv_aload_n hx hb dX12_takesOut_14 rfl (lv_at hl 0 rfl) ?_
      refine r_getF C hW (ci := 12) kx0_2 ff_12_53 cl_12 fl_RX12_133 dX12_takesOut_15 (fun k2003 => ?_)
      refine lv_iload_n hx hb dX12_takesOut_18 rfl (lv_at hl 2 rfl) ?_
      refine r_iald C hW hm k2003 dX12_takesOut_19 (fun hm => ?_)
      refine r_iast C hW hS hm k2002 dX12_takesOut_20 (fun dt2004 H locs hm hW hS => ?_)
      refine lv_iinc (v := (x2_2 + 1)) (lv' := [(2, .int (x2_2 + 1)), (0, .ref x0_2), (1, .int x1_2)]) hx hb dX12_takesOut_21 hl (k := 2) rfl rfl (by decide) rfl (fun ls hl => ?_)
      refine lv_goto (tgt := 2) hx hb dX12_takesOut_24 (by decide) ?_
      exact ih2 (x2_2 + 1) dt2004 _ _ _ hm hW hS (lv_sub hl [1, 2, 0] rfl)
  refine lv_iconst (v := 0) hx hb dX12_takesOut_0 (by decide) ?_
  refine lv_istore_n (i := 2) (lv' := [(2, .int 0), (0, .ref x0), (1, .int x1)]) hx hb dX12_takesOut_1 rfl hl (by decide) rfl (fun ls hl => ?_)
  exact hB2 x0 x1 kx0 q_FU 0 dt _ _ _ hm hW hS (lv_sub hl [1, 2, 0] rfl)
theorem dX12_taken_0 : decode cX12_taken 0 = .ok (.iload_n 1, 1) := by decide +kernel
theorem dX12_taken_1 : decode cX12_taken 1 = .ok (.ifCond .ne 17, 3) := by decide +kernel
theorem dX12_taken_4 : decode cX12_taken 4 = .ok (.aload_n 0, 1) := by decide +kernel
theorem dX12_taken_5 : decode cX12_taken 5 = .ok (.aload_n 0, 1) := by decide +kernel
theorem dX12_taken_6 : decode cX12_taken 6 = .ok (.getfield 70, 3) := by decide +kernel
theorem dX12_taken_9 : decode cX12_taken 9 = .ok (.aload_n 0, 1) := by decide +kernel
theorem dX12_taken_10 : decode cX12_taken 10 = .ok (.getfield 242, 3) := by decide +kernel
theorem dX12_taken_13 : decode cX12_taken 13 = .ok (.iaload, 1) := by decide +kernel
theorem dX12_taken_14 : decode cX12_taken 14 = .ok (.invokevirtual 468, 3) := by decide +kernel
theorem dX12_taken_17 : decode cX12_taken 17 = .ok (.ireturn, 1) := by decide +kernel
theorem dX12_taken_18 : decode cX12_taken 18 = .ok (.iload_n 1, 1) := by decide +kernel
theorem dX12_taken_19 : decode cX12_taken 19 = .ok (.iconst 1, 1) := by decide +kernel
theorem dX12_taken_20 : decode cX12_taken 20 = .ok (.if_icmp .ne 19, 3) := by decide +kernel
theorem dX12_taken_23 : decode cX12_taken 23 = .ok (.aload_n 0, 1) := by decide +kernel
theorem dX12_taken_24 : decode cX12_taken 24 = .ok (.iload_n 2, 1) := by decide +kernel
theorem dX12_taken_25 : decode cX12_taken 25 = .ok (.invokevirtual 415, 3) := by decide +kernel
theorem dX12_taken_28 : decode cX12_taken 28 = .ok (.ifCond .eq 11, 3) := by decide +kernel
theorem dX12_taken_31 : decode cX12_taken 31 = .ok (.aload_n 0, 1) := by decide +kernel
theorem dX12_taken_32 : decode cX12_taken 32 = .ok (.iload_n 2, 1) := by decide +kernel
theorem dX12_taken_33 : decode cX12_taken 33 = .ok (.invokevirtual 465, 3) := by decide +kernel
theorem dX12_taken_36 : decode cX12_taken 36 = .ok (.goto 4, 3) := by decide +kernel
theorem dX12_taken_39 : decode cX12_taken 39 = .ok (.iconst (-1), 1) := by decide +kernel
theorem dX12_taken_40 : decode cX12_taken 40 = .ok (.ireturn, 1) := by decide +kernel
set_option maxRecDepth 100000 in
theorem c_X12_taken (l : Launch) (D : q_D) (al : q_Al) (dt : q_Dt) (x0 : Nat) (x1 : Int32) (x2 : Int32) (kx0 : al.1 x0 = 13) (r0 : Int32) (dt0 : q_Dt) (hm : X12_taken al dt x0 x1 x2 = some (r0, dt0)) : q_Mt l yX12_taken cX12_taken 3 (some FieldType.int) 6 148 D al [.ref x0, .int x1, .int x2] dt 0 (some (.int r0)) dt0 := by
  refine q_Mt.of (by decide) (Nat.le_of_ble_eq_true rfl) ?_
  intro p e s m args below meth c ls C hargs hW hl
  have hx := C.1
  have hb := C.2.1
  have hown := C.2.2.2.2.2.1
  have hts := C.2.2.2.2.2.2.1
  have hS : va_S (q_A al) s.heap s.heap [] := va_S.rf
  have hl : lv_has ls 3 [(0, .ref x0), (1, .int x1), (2, .int x2)] := hl
  unfold X12_taken at hm
  refine lv_iload_n hx hb dX12_taken_0 rfl (lv_at hl 1 rfl) ?_
  refine q_ifc hm (fun c1000001 hm => ?_) (fun c1000001 hm => ?_)
  · refine lv_if_ne (tgt := 18) hx hb dX12_taken_1 (by decide) (fun h => absurd c1000001 h) (fun _ => ?_)
    refine lv_aload_n hx hb dX12_taken_4 rfl (lv_at hl 0 rfl) ?_
    refine lv_aload_n hx hb dX12_taken_5 rfl (lv_at hl 0 rfl) ?_
    refine r_getF C hW (ci := 12) kx0 ff_12_31 cl_12 fl_RX12_70 dX12_taken_6 (fun k1000002 => ?_)
    refine lv_aload_n hx hb dX12_taken_9 rfl (lv_at hl 0 rfl) ?_
    refine r_getI C hW (ci := 12) kx0 ff_12_18 cl_12 fl_RX12_242 dX12_taken_10 ?_
    refine r_iald C hW hm k1000002 dX12_taken_13 (fun hm => ?_)
    obtain ⟨v1000004, dt1000005, hc1000003, hm⟩ := q_b2i hm
    refine q_callV C hW hS (As := [.int (dt.1 (al.2.2 x0 31) (Int32.toNatClampNeg (dt.1 x0 18)))]) (rest := []) (st1 := [.int v1000004]) (c_X12_takesOut l D al dt x0 (dt.1 (al.2.2 x0 31) (Int32.toNatClampNeg (dt.1 x0 18))) kx0 v1000004 dt1000005 hc1000003) yl_X12_takesOut vl_X12_takesOut ml_RX12_468 (ci := 12) rfl kx0 (by decide) rfl ⟨Nat.le_of_ble_eq_true rfl, Nat.le_of_ble_eq_true rfl⟩ hl rfl (Nat.le_of_ble_eq_true rfl) dX12_taken_14 ⟨Nat.le_refl _, Nat.le_refl _⟩ rfl (fun H locs k1000006 hW hS => ?_)
    exact e_iD C hW hS hm dX12_taken_17
  refine lv_if_ne (tgt := 18) hx hb dX12_taken_1 (by decide) (fun _ => ?_) (fun h => absurd h c1000001)
  refine lv_iload_n hx hb dX12_taken_18 rfl (lv_at hl 1 rfl) ?_
  refine lv_iconst (v := 1) hx hb dX12_taken_19 (by decide) ?_
  refine q_ifc hm (fun c1000007 hm => ?_) (fun c1000007 hm => ?_)
  · refine lv_icmp_ne (tgt := 39) hx hb dX12_taken_20 (by decide) (fun h => absurd c1000007 h) (fun _ => ?_)
    refine lv_aload_n hx hb dX12_taken_23 rfl (lv_at hl 0 rfl) ?_
    refine lv_iload_n hx hb dX12_taken_24 rfl (lv_at hl 2 rfl) ?_
    obtain ⟨v1000009, hc1000008, hm⟩ := q_b1i hm
    refine q_callV C hW hS (As := [.int x2]) (rest := []) (st1 := [.int v1000009]) (c_X12_isSender l D al dt x0 x2 kx0 v1000009 hc1000008) yl_X12_isSender vl_X12_isSender ml_RX12_415 (ci := 12) rfl kx0 (by decide) rfl ⟨Nat.le_of_ble_eq_true rfl, Nat.le_of_ble_eq_true rfl⟩ hl rfl (Nat.le_of_ble_eq_true rfl) dX12_taken_25 ⟨Nat.le_refl _, Nat.le_refl _⟩ rfl (fun H locs k1000010 hW hS => ?_)
    refine q_ifc hm (fun c1000011 hm => ?_) (fun c1000011 hm => ?_)
    · refine lv_if_eq (tgt := 39) hx hb dX12_taken_28 (by decide) (fun _ => ?_) (fun h => absurd c1000011 h)
      refine lv_iconst (v := (-1)) hx hb dX12_taken_39 (by decide) ?_
      exact e_iD C hW hS hm dX12_taken_40
    refine lv_if_eq (tgt := 39) hx hb dX12_taken_28 (by decide) (fun h => absurd h c1000011) (fun _ => ?_)
    refine lv_aload_n hx hb dX12_taken_31 rfl (lv_at hl 0 rfl) ?_
    refine lv_iload_n hx hb dX12_taken_32 rfl (lv_at hl 2 rfl) ?_
    obtain ⟨v1000013, hc1000012, hm⟩ := q_b1i hm
    refine q_callV C hW hS (As := [.int x2]) (rest := []) (st1 := [.int v1000013]) (c_X12_byAmplitude l D al dt x0 x2 kx0 v1000013 hc1000012) yl_X12_byAmplitude vl_X12_byAmplitude ml_RX12_465 (ci := 12) rfl kx0 (by decide) rfl ⟨Nat.le_of_ble_eq_true rfl, Nat.le_of_ble_eq_true rfl⟩ hl rfl (Nat.le_of_ble_eq_true rfl) dX12_taken_33 ⟨Nat.le_refl _, Nat.le_refl _⟩ rfl (fun H locs k1000014 hW hS => ?_)
    refine lv_goto (tgt := 40) hx hb dX12_taken_36 (by decide) ?_
    exact e_iD C hW hS hm dX12_taken_40
  refine lv_icmp_ne (tgt := 39) hx hb dX12_taken_20 (by decide) (fun _ => ?_) (fun h => absurd h c1000007)
  refine lv_iconst (v := (-1)) hx hb dX12_taken_39 (by decide) ?_
  exact e_iD C hW hS hm dX12_taken_40
theorem dX12_rest_0 : decode cX12_rest 0 = .ok (.iload_n 1, 1) := by decide +kernel
theorem dX12_rest_1 : decode cX12_rest 1 = .ok (.iconst 0, 1) := by decide +kernel
theorem dX12_rest_2 : decode cX12_rest 2 = .ok (.aload_n 0, 1) := by decide +kernel
theorem dX12_rest_3 : decode cX12_rest 3 = .ok (.getfield 70, 3) := by decide +kernel
theorem dX12_rest_6 : decode cX12_rest 6 = .ok (.aload_n 0, 1) := by decide +kernel
theorem dX12_rest_7 : decode cX12_rest 7 = .ok (.getfield 242, 3) := by decide +kernel
theorem dX12_rest_10 : decode cX12_rest 10 = .ok (.iaload, 1) := by decide +kernel
theorem dX12_rest_11 : decode cX12_rest 11 = .ok (.invokestatic 376, 3) := by decide +kernel
theorem dX12_rest_14 : decode cX12_rest 14 = .ok (.ifCond .ne 7, 3) := by decide +kernel
theorem dX12_rest_17 : decode cX12_rest 17 = .ok (.ldc2_w 413, 3) := by decide +kernel
theorem dX12_rest_20 : decode cX12_rest 20 = .ok (.lreturn, 1) := by decide +kernel
theorem dX12_rest_21 : decode cX12_rest 21 = .ok (.aload_n 0, 1) := by decide +kernel
theorem dX12_rest_22 : decode cX12_rest 22 = .ok (.iload_n 1, 1) := by decide +kernel
theorem dX12_rest_23 : decode cX12_rest 23 = .ok (.invokevirtual 468, 3) := by decide +kernel
theorem dX12_rest_26 : decode cX12_rest 26 = .ok (.ifCond .ge 9, 3) := by decide +kernel
theorem dX12_rest_29 : decode cX12_rest 29 = .ok (.ldc2_w 413, 3) := by decide +kernel
theorem dX12_rest_32 : decode cX12_rest 32 = .ok (.goto 17, 3) := by decide +kernel
theorem dX12_rest_35 : decode cX12_rest 35 = .ok (.aload_n 0, 1) := by decide +kernel
theorem dX12_rest_36 : decode cX12_rest 36 = .ok (.getfield 136, 3) := by decide +kernel
theorem dX12_rest_39 : decode cX12_rest 39 = .ok (.iconst 0, 1) := by decide +kernel
theorem dX12_rest_40 : decode cX12_rest 40 = .ok (.aload_n 0, 1) := by decide +kernel
theorem dX12_rest_41 : decode cX12_rest 41 = .ok (.invokevirtual 342, 3) := by decide +kernel
theorem dX12_rest_44 : decode cX12_rest 44 = .ok (.iconst 1, 1) := by decide +kernel
theorem dX12_rest_45 : decode cX12_rest 45 = .ok (.isub, 1) := by decide +kernel
theorem dX12_rest_46 : decode cX12_rest 46 = .ok (.invokestatic 409, 3) := by decide +kernel
theorem dX12_rest_49 : decode cX12_rest 49 = .ok (.lreturn, 1) := by decide +kernel
set_option maxRecDepth 100000 in
theorem c_X12_rest (l : Launch) (D : q_D) (al : q_Al) (dt : q_Dt) (x0 : Nat) (x1 : Int32) (kx0 : al.1 x0 = 13) (r0 : Int64) (dt0 : q_Dt) (hm : X12_rest al dt x0 x1 = some (r0, dt0)) : q_Mt l yX12_rest cX12_rest 2 (some FieldType.long) 6 148 D al [.ref x0, .int x1] dt 0 (some (.long r0)) dt0 := by
  refine q_Mt.of (by decide) (Nat.le_of_ble_eq_true rfl) ?_
  intro p e s m args below meth c ls C hargs hW hl
  have hx := C.1
  have hb := C.2.1
  have hown := C.2.2.2.2.2.1
  have hts := C.2.2.2.2.2.2.1
  have hS : va_S (q_A al) s.heap s.heap [] := va_S.rf
  have hl : lv_has ls 2 [(0, .ref x0), (1, .int x1)] := hl
  unfold X12_rest at hm
  refine lv_iload_n hx hb dX12_rest_0 rfl (lv_at hl 1 rfl) ?_
  refine lv_iconst (v := 0) hx hb dX12_rest_1 (by decide) ?_
  refine lv_aload_n hx hb dX12_rest_2 rfl (lv_at hl 0 rfl) ?_
  refine r_getF C hW (ci := 12) kx0 ff_12_31 cl_12 fl_RX12_70 dX12_rest_3 (fun k1000001 => ?_)
  refine lv_aload_n hx hb dX12_rest_6 rfl (lv_at hl 0 rfl) ?_
  refine r_getI C hW (ci := 12) kx0 ff_12_18 cl_12 fl_RX12_242 dX12_rest_7 ?_
  refine r_iald C hW hm k1000001 dX12_rest_10 (fun hm => ?_)
  obtain ⟨v1000003, hc1000002, hm⟩ := q_b1i hm
  refine q_callS C hW hS (As := [.int x1, .int 0, .int (dt.1 (al.2.2 x0 31) (Int32.toNatClampNeg (dt.1 x0 18)))]) (rest := []) (st1 := [.int v1000003]) (c_X12_in l D al dt x1 0 (dt.1 (al.2.2 x0 31) (Int32.toNatClampNeg (dt.1 x0 18))) v1000003 hc1000002) yl_X12_in sl_X12_in ml_RX12_376 rfl ⟨Nat.le_of_ble_eq_true rfl, Nat.le_of_ble_eq_true rfl⟩ hl rfl (Nat.le_of_ble_eq_true rfl) dX12_rest_11 ⟨Nat.le_refl _, Nat.le_refl _⟩ rfl (fun H locs k1000004 hW hS => ?_)
  refine q_ifc hm (fun c1000005 hm => ?_) (fun c1000005 hm => ?_)
  · refine lv_if_ne (tgt := 21) hx hb dX12_rest_14 (by decide) (fun h => absurd c1000005 h) (fun _ => ?_)
    refine lv_ldc2 (own := RX12) (v := (-1)) hx hb hown (hts _ wc_RX12_413) dX12_rest_17 ?_
    exact e_lD C hW hS hm dX12_rest_20
  refine lv_if_ne (tgt := 21) hx hb dX12_rest_14 (by decide) (fun _ => ?_) (fun h => absurd h c1000005)
  refine lv_aload_n hx hb dX12_rest_21 rfl (lv_at hl 0 rfl) ?_
  refine lv_iload_n hx hb dX12_rest_22 rfl (lv_at hl 1 rfl) ?_
  obtain ⟨v1000007, dt1000008, hc1000006, hm⟩ := q_b2i hm
  refine q_callV C hW hS (As := [.int x1]) (rest := []) (st1 := [.int v1000007]) (c_X12_takesOut l D al dt x0 x1 kx0 v1000007 dt1000008 hc1000006) yl_X12_takesOut vl_X12_takesOut ml_RX12_468 (ci := 12) rfl kx0 (by decide) rfl ⟨Nat.le_of_ble_eq_true rfl, Nat.le_of_ble_eq_true rfl⟩ hl rfl (Nat.le_of_ble_eq_true rfl) dX12_rest_23 ⟨Nat.le_refl _, Nat.le_refl _⟩ rfl (fun H locs k1000009 hW hS => ?_)
  refine q_ifc hm (fun c1000010 hm => ?_) (fun c1000010 hm => ?_)
  · refine lv_if_ge (tgt := 35) hx hb dX12_rest_26 (by decide) (fun _ => ?_) (fun h => absurd c1000010 h)
    refine lv_aload_n hx hb dX12_rest_35 rfl (lv_at hl 0 rfl) ?_
    refine r_getF C hW (ci := 12) kx0 ff_12_54 cl_12 fl_RX12_136 dX12_rest_36 (fun k1000011 => ?_)
    refine lv_iconst (v := 0) hx hb dX12_rest_39 (by decide) ?_
    refine lv_aload_n hx hb dX12_rest_40 rfl (lv_at hl 0 rfl) ?_
    obtain ⟨v1000013, hc1000012, hm⟩ := q_b1i hm
    refine q_callV C hW hS (As := []) (rest := [.int 0, .ref (al.2.2 x0 54)]) (st1 := [.int v1000013, .int 0, .ref (al.2.2 x0 54)]) (c_X12_n l D al dt1000008 x0 kx0 v1000013 hc1000012) yl_X12_n vl_X12_n ml_RX12_342 (ci := 12) rfl kx0 (by decide) rfl ⟨Nat.le_of_ble_eq_true rfl, Nat.le_of_ble_eq_true rfl⟩ hl rfl (Nat.le_of_ble_eq_true rfl) dX12_rest_41 ⟨Nat.le_refl _, Nat.le_refl _⟩ rfl (fun H locs k1000014 hW hS => ?_)
    refine lv_iconst (v := 1) hx hb dX12_rest_44 (by decide) ?_
    refine lv_isub hx hb dX12_rest_45 ?_
    obtain ⟨v1000016, hc1000015, hm⟩ := q_b1i hm
    refine q_callS C hW hS (As := [.ref (al.2.2 x0 54), .int 0, .int (v1000013 - 1)]) (rest := []) (st1 := [.long v1000016]) (c_X12_powerOf l D al dt1000008 (al.2.2 x0 54) 0 (v1000013 - 1) k1000011 v1000016 hc1000015) yl_X12_powerOf sl_X12_powerOf ml_RX12_409 rfl ⟨Nat.le_of_ble_eq_true rfl, Nat.le_of_ble_eq_true rfl⟩ hl rfl (Nat.le_of_ble_eq_true rfl) dX12_rest_46 ⟨Nat.le_refl _, Nat.le_refl _⟩ rfl (fun H locs k1000017 hW hS => ?_)
    exact e_lD C hW hS hm dX12_rest_49
  refine lv_if_ge (tgt := 35) hx hb dX12_rest_26 (by decide) (fun h => absurd h c1000010) (fun _ => ?_)
  refine lv_ldc2 (own := RX12) (v := (-1)) hx hb hown (hts _ wc_RX12_413) dX12_rest_29 ?_
  refine lv_goto (tgt := 49) hx hb dX12_rest_32 (by decide) ?_
  exact e_lD C hW hS hm dX12_rest_49
theorem dX12_readsAll_0 : decode cX12_readsAll 0 = .ok (.aload_n 0, 1) := by decide +kernel
theorem dX12_readsAll_1 : decode cX12_readsAll 1 = .ok (.aload_n 0, 1) := by decide +kernel
theorem dX12_readsAll_2 : decode cX12_readsAll 2 = .ok (.getfield 136, 3) := by decide +kernel
theorem dX12_readsAll_5 : decode cX12_readsAll 5 = .ok (.iload_n 1, 1) := by decide +kernel
theorem dX12_readsAll_6 : decode cX12_readsAll 6 = .ok (.invokevirtual 461, 3) := by decide +kernel
theorem dX12_readsAll_9 : decode cX12_readsAll 9 = .ok (.istore_n 2, 1) := by decide +kernel
theorem dX12_readsAll_10 : decode cX12_readsAll 10 = .ok (.iconst 0, 1) := by decide +kernel
theorem dX12_readsAll_11 : decode cX12_readsAll 11 = .ok (.istore_n 3, 1) := by decide +kernel
theorem dX12_readsAll_12 : decode cX12_readsAll 12 = .ok (.iload_n 3, 1) := by decide +kernel
theorem dX12_readsAll_13 : decode cX12_readsAll 13 = .ok (.sipush 512, 3) := by decide +kernel
theorem dX12_readsAll_16 : decode cX12_readsAll 16 = .ok (.if_icmp .ge 40, 3) := by decide +kernel
theorem dX12_readsAll_19 : decode cX12_readsAll 19 = .ok (.aload_n 0, 1) := by decide +kernel
theorem dX12_readsAll_20 : decode cX12_readsAll 20 = .ok (.getfield 130, 3) := by decide +kernel
theorem dX12_readsAll_23 : decode cX12_readsAll 23 = .ok (.sipush 512, 3) := by decide +kernel
theorem dX12_readsAll_26 : decode cX12_readsAll 26 = .ok (.iload_n 1, 1) := by decide +kernel
theorem dX12_readsAll_27 : decode cX12_readsAll 27 = .ok (.imul, 1) := by decide +kernel
theorem dX12_readsAll_28 : decode cX12_readsAll 28 = .ok (.iload_n 3, 1) := by decide +kernel
theorem dX12_readsAll_29 : decode cX12_readsAll 29 = .ok (.iadd, 1) := by decide +kernel
theorem dX12_readsAll_30 : decode cX12_readsAll 30 = .ok (.aload_n 0, 1) := by decide +kernel
theorem dX12_readsAll_31 : decode cX12_readsAll 31 = .ok (.getfield 161, 3) := by decide +kernel
theorem dX12_readsAll_34 : decode cX12_readsAll 34 = .ok (.iload_n 3, 1) := by decide +kernel
theorem dX12_readsAll_35 : decode cX12_readsAll 35 = .ok (.baload, 1) := by decide +kernel
theorem dX12_readsAll_36 : decode cX12_readsAll 36 = .ok (.ifCond .eq 11, 3) := by decide +kernel
theorem dX12_readsAll_39 : decode cX12_readsAll 39 = .ok (.aload_n 0, 1) := by decide +kernel
theorem dX12_readsAll_40 : decode cX12_readsAll 40 = .ok (.iload_n 3, 1) := by decide +kernel
theorem dX12_readsAll_41 : decode cX12_readsAll 41 = .ok (.invokevirtual 454, 3) := by decide +kernel
theorem dX12_readsAll_44 : decode cX12_readsAll 44 = .ok (.goto 4, 3) := by decide +kernel
theorem dX12_readsAll_47 : decode cX12_readsAll 47 = .ok (.iconst 0, 1) := by decide +kernel
theorem dX12_readsAll_48 : decode cX12_readsAll 48 = .ok (.i2b, 1) := by decide +kernel
theorem dX12_readsAll_49 : decode cX12_readsAll 49 = .ok (.bastore, 1) := by decide +kernel
theorem dX12_readsAll_50 : decode cX12_readsAll 50 = .ok (.iinc 3 1, 3) := by decide +kernel
theorem dX12_readsAll_53 : decode cX12_readsAll 53 = .ok (.goto (-41), 3) := by decide +kernel
theorem dX12_readsAll_56 : decode cX12_readsAll 56 = .ok (.iload_n 2, 1) := by decide +kernel
theorem dX12_readsAll_57 : decode cX12_readsAll 57 = .ok (.ireturn, 1) := by decide +kernel
set_option maxRecDepth 100000 in
theorem c_X12_readsAll (l : Launch) (D : q_D) (al : q_Al) (dt : q_Dt) (x0 : Nat) (x1 : Int32) (kx0 : al.1 x0 = 13) (r0 : Int32) (dt0 : q_Dt) (hm : X12_readsAll al dt x0 x1 = some (r0, dt0)) : q_Mt l yX12_readsAll cX12_readsAll 4 (some FieldType.int) 5 123 D al [.ref x0, .int x1] dt 0 (some (.int r0)) dt0 := by
  refine q_Mt.of (by decide) (Nat.le_of_ble_eq_true rfl) ?_
  intro p e s m args below meth c ls C hargs hW hl
  have hx := C.1
  have hb := C.2.1
  have hown := C.2.2.2.2.2.1
  have hts := C.2.2.2.2.2.2.1
  have hS : va_S (q_A al) s.heap s.heap [] := va_S.rf
  have hl : lv_has ls 4 [(0, .ref x0), (1, .int x1)] := hl
  unfold X12_readsAll at hm
  have hB12 : ∀ (x0_12 : Nat) (x1_12 : Int32) (x2_12 : Int32) (kx0_12 : al.1 x0_12 = 13) (n_12 : Nat) (x3_12 : Int32) (dt : q_Dt) (H : Heap) (locs : List Loc) (ls : Array Slot) (hm : X12_readsAll_b12 al x0_12 x1_12 x2_12 n_12 x3_12 dt = some (r0, dt0)) (hW : q_W D al dt H) (hS : va_S (q_A al) s.heap H locs) (hl : lv_has ls 4 [(0, .ref x0_12), (1, .int x1_12), (2, .int x2_12), (3, .int x3_12)]), W p l e { frames := 5, cells := 0, slots := 0, locals := 123 } s m args below meth c H locs 0 0 (MQ below (q_Q (some (.int r0)) (fun H => q_W D al dt0 H ∧ q_Rk al 0 (some (.int r0))) (q_A al)) args s 0 0 (q_A al)) (F0 m 12 ls []) := by
    intro x0_12 x1_12 x2_12 kx0_12
    intro n_12
    induction n_12 with
    | zero => intro x3_12 dt H locs ls hm hW hS hl; cases hm
    | succ n_12 ih12 =>
      have hB48 : ∀ (x3_48 : Int32) (t0_48 : Nat) (t1_48 : Int32) (t2_48 : Int32) (kt0_48 : al.1 t0_48 = 20) (dt : q_Dt) (H : Heap) (locs : List Loc) (ls : Array Slot) (hm : X12_readsAll_b48 al (X12_readsAll_b12 al x0_12 x1_12 x2_12 n_12) x0_12 x1_12 x2_12 x3_48 t0_48 t1_48 t2_48 dt = some (r0, dt0)) (hW : q_W D al dt H) (hS : va_S (q_A al) s.heap H locs) (hl : lv_has ls 4 [(0, .ref x0_12), (1, .int x1_12), (2, .int x2_12), (3, .int x3_48)]), W p l e { frames := 5, cells := 0, slots := 0, locals := 123 } s m args below meth c H locs 0 0 (MQ below (q_Q (some (.int r0)) (fun H => q_W D al dt0 H ∧ q_Rk al 0 (some (.int r0))) (q_A al)) args s 0 0 (q_A al)) (F0 m 48 ls [.int t2_48, .int t1_48, .ref t0_48]) := by
        intro x3_48 t0_48 t1_48 t2_48 kt0_48 dt H locs ls hm hW hS hl
        unfold X12_readsAll_b48 at hm
        refine lv_i2b (v := (Int8.toInt32 (Int32.toInt8 t2_48))) hx hb dX12_readsAll_48 rfl ?_
        refine r_bast C hW hS hm kt0_48 dX12_readsAll_49 (fun dt48001 H locs hm hW hS => ?_)
        refine lv_iinc (v := (x3_48 + 1)) (lv' := [(3, .int (x3_48 + 1)), (0, .ref x0_12), (1, .int x1_12), (2, .int x2_12)]) hx hb dX12_readsAll_50 hl (k := 3) rfl rfl (by decide) rfl (fun ls hl => ?_)
        refine lv_goto (tgt := 12) hx hb dX12_readsAll_53 (by decide) ?_
        exact ih12 (x3_48 + 1) dt48001 _ _ _ hm hW hS (lv_sub hl [1, 2, 3, 0] rfl)
      intro x3_12 dt H locs ls hm hW hS hl
      rw [X12_readsAll_b12] at hm
      refine lv_iload_n hx hb dX12_readsAll_12 rfl (lv_at hl 3 rfl) ?_
      refine lv_sipush (v := 512) hx hb dX12_readsAll_13 (by decide) ?_
      refine q_ifc hm (fun c12001 hm => ?_) (fun c12001 hm => ?_)
      · refine lv_icmp_ge (tgt := 56) hx hb dX12_readsAll_16 (by decide) (fun _ => ?_) (fun h => absurd c12001 h)
        refine lv_iload_n hx hb dX12_readsAll_56 rfl (lv_at hl 2 rfl) ?_
        exact e_iD C hW hS hm dX12_readsAll_57
      refine lv_icmp_ge (tgt := 56) hx hb dX12_readsAll_16 (by decide) (fun h => absurd h c12001) (fun _ => ?_)
      refine lv_aload_n hx hb dX12_readsAll_19 rfl (lv_at hl 0 rfl) ?_
      refine r_getF C hW (ci := 12) kx0_12 ff_12_52 cl_12 fl_RX12_130 dX12_readsAll_20 (fun k12002 => ?_)
      refine lv_sipush (v := 512) hx hb dX12_readsAll_23 (by decide) ?_
      refine lv_iload_n hx hb dX12_readsAll_26 rfl (lv_at hl 1 rfl) ?_
      refine lv_imul hx hb dX12_readsAll_27 ?_
      refine lv_iload_n hx hb dX12_readsAll_28 rfl (lv_at hl 3 rfl) ?_
      refine lv_iadd hx hb dX12_readsAll_29 ?_
      refine lv_aload_n hx hb dX12_readsAll_30 rfl (lv_at hl 0 rfl) ?_
      refine r_getF C hW (ci := 12) kx0_12 ff_12_64 cl_12 fl_RX12_161 dX12_readsAll_31 (fun k12003 => ?_)
      refine lv_iload_n hx hb dX12_readsAll_34 rfl (lv_at hl 3 rfl) ?_
      refine r_zald C hW hm k12003 dX12_readsAll_35 (fun hm => ?_)
      refine q_ifc hm (fun c12004 hm => ?_) (fun c12004 hm => ?_)
      · refine lv_if_eq (tgt := 47) hx hb dX12_readsAll_36 (by decide) (fun _ => ?_) (fun h => absurd c12004 h)
        refine lv_iconst (v := 0) hx hb dX12_readsAll_47 (by decide) ?_
        exact hB48 x3_12 (al.2.2 x0_12 52) ((512 * x1_12) + x3_12) 0 k12002 dt _ _ _ hm hW hS (lv_sub hl [0, 1, 2, 3] rfl)
      refine lv_if_eq (tgt := 47) hx hb dX12_readsAll_36 (by decide) (fun h => absurd h c12004) (fun _ => ?_)
      refine lv_aload_n hx hb dX12_readsAll_39 rfl (lv_at hl 0 rfl) ?_
      refine lv_iload_n hx hb dX12_readsAll_40 rfl (lv_at hl 3 rfl) ?_
      obtain ⟨v12006, hc12005, hm⟩ := q_b1i hm
      refine q_callV C hW hS (As := [.int x3_12]) (rest := [.int ((512 * x1_12) + x3_12), .ref (al.2.2 x0_12 52)]) (st1 := [.int v12006, .int ((512 * x1_12) + x3_12), .ref (al.2.2 x0_12 52)]) (c_X12_bitOf l D al dt x0_12 x3_12 kx0_12 v12006 hc12005) yl_X12_bitOf vl_X12_bitOf ml_RX12_454 (ci := 12) rfl kx0_12 (by decide) rfl ⟨Nat.le_of_ble_eq_true rfl, Nat.le_of_ble_eq_true rfl⟩ hl rfl (Nat.le_of_ble_eq_true rfl) dX12_readsAll_41 ⟨Nat.le_refl _, Nat.le_refl _⟩ rfl (fun H locs k12007 hW hS => ?_)
      refine lv_goto (tgt := 48) hx hb dX12_readsAll_44 (by decide) ?_
      exact hB48 x3_12 (al.2.2 x0_12 52) ((512 * x1_12) + x3_12) v12006 k12002 dt _ _ _ hm hW hS (lv_sub hl [0, 1, 2, 3] rfl)
  refine lv_aload_n hx hb dX12_readsAll_0 rfl (lv_at hl 0 rfl) ?_
  refine lv_aload_n hx hb dX12_readsAll_1 rfl (lv_at hl 0 rfl) ?_
  refine r_getF C hW (ci := 12) kx0 ff_12_54 cl_12 fl_RX12_136 dX12_readsAll_2 (fun k1000001 => ?_)
  refine lv_iload_n hx hb dX12_readsAll_5 rfl (lv_at hl 1 rfl) ?_
  obtain ⟨v1000003, dt1000004, hc1000002, hm⟩ := q_b2i hm
  refine q_callV C hW hS (As := [.ref (al.2.2 x0 54), .int x1]) (rest := []) (st1 := [.int v1000003]) (c_X12_wrongOf l D al dt x0 (al.2.2 x0 54) x1 kx0 k1000001 v1000003 dt1000004 hc1000002) yl_X12_wrongOf vl_X12_wrongOf ml_RX12_461 (ci := 12) rfl kx0 (by decide) rfl ⟨Nat.le_of_ble_eq_true rfl, Nat.le_of_ble_eq_true rfl⟩ hl rfl (Nat.le_of_ble_eq_true rfl) dX12_readsAll_6 ⟨Nat.le_refl _, Nat.le_refl _⟩ rfl (fun H locs k1000005 hW hS => ?_)
  refine lv_istore_n (i := 2) (lv' := [(2, .int v1000003), (0, .ref x0), (1, .int x1)]) hx hb dX12_readsAll_9 rfl hl (by decide) rfl (fun ls hl => ?_)
  refine lv_iconst (v := 0) hx hb dX12_readsAll_10 (by decide) ?_
  refine lv_istore_n (i := 3) (lv' := [(3, .int 0), (2, .int v1000003), (0, .ref x0), (1, .int x1)]) hx hb dX12_readsAll_11 rfl hl (by decide) rfl (fun ls hl => ?_)
  exact hB12 x0 x1 v1000003 kx0 q_FU 0 dt1000004 _ _ _ hm hW hS (lv_sub hl [2, 3, 1, 0] rfl)
