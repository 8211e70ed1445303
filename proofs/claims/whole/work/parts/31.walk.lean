theorem dX12_hop_0 : decode cX12_hop 0 = .ok (.aload_n 0, 1) := by decide +kernel
theorem dX12_hop_1 : decode cX12_hop 1 = .ok (.iload_n 1, 1) := by decide +kernel
theorem dX12_hop_2 : decode cX12_hop 2 = .ok (.invokevirtual 491, 3) := by decide +kernel
theorem dX12_hop_5 : decode cX12_hop 5 = .ok (.ifCond .eq 16, 3) := by decide +kernel
theorem dX12_hop_8 : decode cX12_hop 8 = .ok (.iload_n 2, 1) := by decide +kernel
theorem dX12_hop_9 : decode cX12_hop 9 = .ok (.ifCond .lt 12, 3) := by decide +kernel
theorem dX12_hop_12 : decode cX12_hop 12 = .ok (.aload_n 0, 1) := by decide +kernel
theorem dX12_hop_13 : decode cX12_hop 13 = .ok (.iload_n 1, 1) := by decide +kernel
theorem dX12_hop_14 : decode cX12_hop 14 = .ok (.iload_n 2, 1) := by decide +kernel
theorem dX12_hop_15 : decode cX12_hop 15 = .ok (.invokevirtual 494, 3) := by decide +kernel
theorem dX12_hop_18 : decode cX12_hop 18 = .ok (.goto 4, 3) := by decide +kernel
theorem dX12_hop_21 : decode cX12_hop 21 = .ok (.iconst (-1), 1) := by decide +kernel
theorem dX12_hop_22 : decode cX12_hop 22 = .ok (.ireturn, 1) := by decide +kernel
set_option maxRecDepth 100000 in
theorem c_X12_hop (l : Launch) (D : q_D) (al : q_Al) (dt : q_Dt) (x0 : Nat) (x1 : Int32) (x2 : Int32) (kx0 : al.1 x0 = 13) (r0 : Int32) (hm : X12_hop al dt x0 x1 x2 = some r0) : q_Mt l yX12_hop cX12_hop 3 (some FieldType.int) 2 44 D al [.ref x0, .int x1, .int x2] dt 0 (some (.int r0)) dt := by
  refine q_Mt.of (by decide) (Nat.le_of_ble_eq_true rfl) ?_
  intro p e s m args below meth c ls C hargs hW hl
  have hx := C.1
  have hb := C.2.1
  have hown := C.2.2.2.2.2.1
  have hts := C.2.2.2.2.2.2.1
  have hS : va_S (q_A al) s.heap s.heap [] := va_S.rf
  have hl : lv_has ls 3 [(0, .ref x0), (1, .int x1), (2, .int x2)] := hl
  unfold X12_hop at hm
  refine lv_aload_n hx hb dX12_hop_0 rfl (lv_at hl 0 rfl) ?_
  refine lv_iload_n hx hb dX12_hop_1 rfl (lv_at hl 1 rfl) ?_
  obtain ⟨v1000002, hc1000001, hm⟩ := q_b1i hm
  refine q_callV C hW hS (As := [.int x1]) (rest := []) (st1 := [.int v1000002]) (c_X12_isHop l D al dt x0 x1 kx0 v1000002 hc1000001) yl_X12_isHop vl_X12_isHop ml_RX12_491 (ci := 12) rfl kx0 (by decide) rfl ⟨Nat.le_of_ble_eq_true rfl, Nat.le_of_ble_eq_true rfl⟩ hl rfl (Nat.le_of_ble_eq_true rfl) dX12_hop_2 ⟨Nat.le_refl _, Nat.le_refl _⟩ rfl (fun H locs k1000003 hW hS => ?_)
  refine q_ifc hm (fun c1000004 hm => ?_) (fun c1000004 hm => ?_)
  · refine lv_if_eq (tgt := 21) hx hb dX12_hop_5 (by decide) (fun _ => ?_) (fun h => absurd c1000004 h)
    refine lv_iconst (v := (-1)) hx hb dX12_hop_21 (by decide) ?_
    exact e_i C hW hS hm dX12_hop_22
  refine lv_if_eq (tgt := 21) hx hb dX12_hop_5 (by decide) (fun h => absurd h c1000004) (fun _ => ?_)
  refine lv_iload_n hx hb dX12_hop_8 rfl (lv_at hl 2 rfl) ?_
  refine q_ifc hm (fun c1000005 hm => ?_) (fun c1000005 hm => ?_)
  · refine lv_if_lt (tgt := 21) hx hb dX12_hop_9 (by decide) (fun _ => ?_) (fun h => absurd c1000005 h)
    refine lv_iconst (v := (-1)) hx hb dX12_hop_21 (by decide) ?_
    exact e_i C hW hS hm dX12_hop_22
  refine lv_if_lt (tgt := 21) hx hb dX12_hop_9 (by decide) (fun h => absurd h c1000005) (fun _ => ?_)
  refine lv_aload_n hx hb dX12_hop_12 rfl (lv_at hl 0 rfl) ?_
  refine lv_iload_n hx hb dX12_hop_13 rfl (lv_at hl 1 rfl) ?_
  refine lv_iload_n hx hb dX12_hop_14 rfl (lv_at hl 2 rfl) ?_
  obtain ⟨v1000007, hc1000006, hm⟩ := q_b1i hm
  refine q_callV C hW hS (As := [.int x1, .int x2]) (rest := []) (st1 := [.int v1000007]) (c_X12_channel l D al dt x0 x1 x2 kx0 v1000007 hc1000006) yl_X12_channel vl_X12_channel ml_RX12_494 (ci := 12) rfl kx0 (by decide) rfl ⟨Nat.le_of_ble_eq_true rfl, Nat.le_of_ble_eq_true rfl⟩ hl rfl (Nat.le_of_ble_eq_true rfl) dX12_hop_15 ⟨Nat.le_refl _, Nat.le_refl _⟩ rfl (fun H locs k1000008 hW hS => ?_)
  refine lv_goto (tgt := 22) hx hb dX12_hop_18 (by decide) ?_
  exact e_i C hW hS hm dX12_hop_22
theorem dX12_hitsAt_0 : decode cX12_hitsAt 0 = .ok (.iconst 0, 1) := by decide +kernel
theorem dX12_hitsAt_1 : decode cX12_hitsAt 1 = .ok (.istore 4, 2) := by decide +kernel
theorem dX12_hitsAt_3 : decode cX12_hitsAt 3 = .ok (.iconst 0, 1) := by decide +kernel
theorem dX12_hitsAt_4 : decode cX12_hitsAt 4 = .ok (.istore 5, 2) := by decide +kernel
theorem dX12_hitsAt_6 : decode cX12_hitsAt 6 = .ok (.iload 5, 2) := by decide +kernel
theorem dX12_hitsAt_8 : decode cX12_hitsAt 8 = .ok (.aload_n 0, 1) := by decide +kernel
theorem dX12_hitsAt_9 : decode cX12_hitsAt 9 = .ok (.iload_n 1, 1) := by decide +kernel
theorem dX12_hitsAt_10 : decode cX12_hitsAt 10 = .ok (.invokevirtual 488, 3) := by decide +kernel
theorem dX12_hitsAt_13 : decode cX12_hitsAt 13 = .ok (.if_icmp .ge 31, 3) := by decide +kernel
theorem dX12_hitsAt_16 : decode cX12_hitsAt 16 = .ok (.aload_n 0, 1) := by decide +kernel
theorem dX12_hitsAt_17 : decode cX12_hitsAt 17 = .ok (.iload_n 1, 1) := by decide +kernel
theorem dX12_hitsAt_18 : decode cX12_hitsAt 18 = .ok (.iload 5, 2) := by decide +kernel
theorem dX12_hitsAt_20 : decode cX12_hitsAt 20 = .ok (.invokevirtual 494, 3) := by decide +kernel
theorem dX12_hitsAt_23 : decode cX12_hitsAt 23 = .ok (.aload_n 0, 1) := by decide +kernel
theorem dX12_hitsAt_24 : decode cX12_hitsAt 24 = .ok (.iload_n 2, 1) := by decide +kernel
theorem dX12_hitsAt_25 : decode cX12_hitsAt 25 = .ok (.iload 5, 2) := by decide +kernel
theorem dX12_hitsAt_27 : decode cX12_hitsAt 27 = .ok (.iload_n 3, 1) := by decide +kernel
theorem dX12_hitsAt_28 : decode cX12_hitsAt 28 = .ok (.iadd, 1) := by decide +kernel
theorem dX12_hitsAt_29 : decode cX12_hitsAt 29 = .ok (.invokevirtual 494, 3) := by decide +kernel
theorem dX12_hitsAt_32 : decode cX12_hitsAt 32 = .ok (.if_icmp .ne 6, 3) := by decide +kernel
theorem dX12_hitsAt_35 : decode cX12_hitsAt 35 = .ok (.iinc 4 1, 3) := by decide +kernel
theorem dX12_hitsAt_38 : decode cX12_hitsAt 38 = .ok (.iinc 5 1, 3) := by decide +kernel
theorem dX12_hitsAt_41 : decode cX12_hitsAt 41 = .ok (.goto (-35), 3) := by decide +kernel
theorem dX12_hitsAt_44 : decode cX12_hitsAt 44 = .ok (.iload 4, 2) := by decide +kernel
theorem dX12_hitsAt_46 : decode cX12_hitsAt 46 = .ok (.ireturn, 1) := by decide +kernel
set_option maxRecDepth 100000 in
theorem c_X12_hitsAt (l : Launch) (D : q_D) (al : q_Al) (dt : q_Dt) (x0 : Nat) (x1 : Int32) (x2 : Int32) (x3 : Int32) (kx0 : al.1 x0 = 13) (r0 : Int32) (hm : X12_hitsAt al dt x0 x1 x2 x3 = some r0) : q_Mt l yX12_hitsAt cX12_hitsAt 6 (some FieldType.int) 2 44 D al [.ref x0, .int x1, .int x2, .int x3] dt 0 (some (.int r0)) dt := by
  refine q_Mt.of (by decide) (Nat.le_of_ble_eq_true rfl) ?_
  intro p e s m args below meth c ls C hargs hW hl
  have hx := C.1
  have hb := C.2.1
  have hown := C.2.2.2.2.2.1
  have hts := C.2.2.2.2.2.2.1
  have hS : va_S (q_A al) s.heap s.heap [] := va_S.rf
  have hl : lv_has ls 6 [(0, .ref x0), (1, .int x1), (2, .int x2), (3, .int x3)] := hl
  unfold X12_hitsAt at hm
  have hB6 : ∀ (x0_6 : Nat) (x1_6 : Int32) (x2_6 : Int32) (x3_6 : Int32) (kx0_6 : al.1 x0_6 = 13) (n_6 : Nat) (x4_6 : Int32) (x5_6 : Int32) (H : Heap) (locs : List Loc) (ls : Array Slot) (hm : X12_hitsAt_b6 al dt x0_6 x1_6 x2_6 x3_6 n_6 x4_6 x5_6 = some r0) (hW : q_W D al dt H) (hS : va_S (q_A al) s.heap H locs) (hl : lv_has ls 6 [(0, .ref x0_6), (1, .int x1_6), (2, .int x2_6), (3, .int x3_6), (4, .int x4_6), (5, .int x5_6)]), W p l e { frames := 2, cells := 0, slots := 0, locals := 44 } s m args below meth c H locs 0 0 (MQ below (q_Q (some (.int r0)) (fun H => q_W D al dt H ∧ q_Rk al 0 (some (.int r0))) (q_A al)) args s 0 0 (q_A al)) (F0 m 6 ls []) := by
    intro x0_6 x1_6 x2_6 x3_6 kx0_6
    intro n_6
    induction n_6 with
    | zero => intro x4_6 x5_6 H locs ls hm hW hS hl; cases hm
    | succ n_6 ih6 =>
      have hB38 : ∀ (x4_38 : Int32) (x5_38 : Int32) (H : Heap) (locs : List Loc) (ls : Array Slot) (hm : X12_hitsAt_b38 al dt (X12_hitsAt_b6 al dt x0_6 x1_6 x2_6 x3_6 n_6) x0_6 x1_6 x2_6 x3_6 x4_38 x5_38 = some r0) (hW : q_W D al dt H) (hS : va_S (q_A al) s.heap H locs) (hl : lv_has ls 6 [(0, .ref x0_6), (1, .int x1_6), (2, .int x2_6), (3, .int x3_6), (4, .int x4_38), (5, .int x5_38)]), W p l e { frames := 2, cells := 0, slots := 0, locals := 44 } s m args below meth c H locs 0 0 (MQ below (q_Q (some (.int r0)) (fun H => q_W D al dt H ∧ q_Rk al 0 (some (.int r0))) (q_A al)) args s 0 0 (q_A al)) (F0 m 38 ls []) := by
        intro x4_38 x5_38 H locs ls hm hW hS hl
        unfold X12_hitsAt_b38 at hm
        refine lv_iinc (v := (x5_38 + 1)) (lv' := [(5, .int (x5_38 + 1)), (0, .ref x0_6), (1, .int x1_6), (2, .int x2_6), (3, .int x3_6), (4, .int x4_38)]) hx hb dX12_hitsAt_38 hl (k := 5) rfl rfl (by decide) rfl (fun ls hl => ?_)
        refine lv_goto (tgt := 6) hx hb dX12_hitsAt_41 (by decide) ?_
        exact ih6 x4_38 (x5_38 + 1) _ _ _ hm hW hS (lv_sub hl [1, 2, 3, 4, 5, 0] rfl)
      intro x4_6 x5_6 H locs ls hm hW hS hl
      rw [X12_hitsAt_b6] at hm
      refine lv_iload hx hb dX12_hitsAt_6 (lv_at hl 5 rfl) ?_
      refine lv_aload_n hx hb dX12_hitsAt_8 rfl (lv_at hl 0 rfl) ?_
      refine lv_iload_n hx hb dX12_hitsAt_9 rfl (lv_at hl 1 rfl) ?_
      obtain ⟨v6002, hc6001, hm⟩ := q_b1i hm
      refine q_callV C hW hS (As := [.int x1_6]) (rest := [.int x5_6]) (st1 := [.int v6002, .int x5_6]) (c_X12_p l D al dt x0_6 x1_6 kx0_6 v6002 hc6001) yl_X12_p vl_X12_p ml_RX12_488 (ci := 12) rfl kx0_6 (by decide) rfl ⟨Nat.le_of_ble_eq_true rfl, Nat.le_of_ble_eq_true rfl⟩ hl rfl (Nat.le_of_ble_eq_true rfl) dX12_hitsAt_10 ⟨Nat.le_refl _, Nat.le_refl _⟩ rfl (fun H locs k6003 hW hS => ?_)
      refine q_ifc hm (fun c6004 hm => ?_) (fun c6004 hm => ?_)
      · refine lv_icmp_ge (tgt := 44) hx hb dX12_hitsAt_13 (by decide) (fun _ => ?_) (fun h => absurd c6004 h)
        refine lv_iload hx hb dX12_hitsAt_44 (lv_at hl 4 rfl) ?_
        exact e_i C hW hS hm dX12_hitsAt_46
      refine lv_icmp_ge (tgt := 44) hx hb dX12_hitsAt_13 (by decide) (fun h => absurd h c6004) (fun _ => ?_)
      refine lv_aload_n hx hb dX12_hitsAt_16 rfl (lv_at hl 0 rfl) ?_
      refine lv_iload_n hx hb dX12_hitsAt_17 rfl (lv_at hl 1 rfl) ?_
      refine lv_iload hx hb dX12_hitsAt_18 (lv_at hl 5 rfl) ?_
      obtain ⟨v6006, hc6005, hm⟩ := q_b1i hm
      refine q_callV C hW hS (As := [.int x1_6, .int x5_6]) (rest := []) (st1 := [.int v6006]) (c_X12_channel l D al dt x0_6 x1_6 x5_6 kx0_6 v6006 hc6005) yl_X12_channel vl_X12_channel ml_RX12_494 (ci := 12) rfl kx0_6 (by decide) rfl ⟨Nat.le_of_ble_eq_true rfl, Nat.le_of_ble_eq_true rfl⟩ hl rfl (Nat.le_of_ble_eq_true rfl) dX12_hitsAt_20 ⟨Nat.le_refl _, Nat.le_refl _⟩ rfl (fun H locs k6007 hW hS => ?_)
      refine lv_aload_n hx hb dX12_hitsAt_23 rfl (lv_at hl 0 rfl) ?_
      refine lv_iload_n hx hb dX12_hitsAt_24 rfl (lv_at hl 2 rfl) ?_
      refine lv_iload hx hb dX12_hitsAt_25 (lv_at hl 5 rfl) ?_
      refine lv_iload_n hx hb dX12_hitsAt_27 rfl (lv_at hl 3 rfl) ?_
      refine lv_iadd hx hb dX12_hitsAt_28 ?_
      obtain ⟨v6009, hc6008, hm⟩ := q_b1i hm
      refine q_callV C hW hS (As := [.int x2_6, .int (x5_6 + x3_6)]) (rest := [.int v6006]) (st1 := [.int v6009, .int v6006]) (c_X12_channel l D al dt x0_6 x2_6 (x5_6 + x3_6) kx0_6 v6009 hc6008) yl_X12_channel vl_X12_channel ml_RX12_494 (ci := 12) rfl kx0_6 (by decide) rfl ⟨Nat.le_of_ble_eq_true rfl, Nat.le_of_ble_eq_true rfl⟩ hl rfl (Nat.le_of_ble_eq_true rfl) dX12_hitsAt_29 ⟨Nat.le_refl _, Nat.le_refl _⟩ rfl (fun H locs k6010 hW hS => ?_)
      refine q_ifc hm (fun c6011 hm => ?_) (fun c6011 hm => ?_)
      · refine lv_icmp_ne (tgt := 38) hx hb dX12_hitsAt_32 (by decide) (fun h => absurd c6011 h) (fun _ => ?_)
        refine lv_iinc (v := (x4_6 + 1)) (lv' := [(4, .int (x4_6 + 1)), (0, .ref x0_6), (1, .int x1_6), (2, .int x2_6), (3, .int x3_6), (5, .int x5_6)]) hx hb dX12_hitsAt_35 hl (k := 4) rfl rfl (by decide) rfl (fun ls hl => ?_)
        exact hB38 (x4_6 + 1) x5_6 _ _ _ hm hW hS (lv_sub hl [1, 2, 3, 4, 0, 5] rfl)
      refine lv_icmp_ne (tgt := 38) hx hb dX12_hitsAt_32 (by decide) (fun _ => ?_) (fun h => absurd h c6011)
      exact hB38 x4_6 x5_6 _ _ _ hm hW hS (lv_sub hl [0, 1, 2, 3, 4, 5] rfl)
  refine lv_iconst (v := 0) hx hb dX12_hitsAt_0 (by decide) ?_
  refine lv_istore (i := 4) (lv' := [(4, .int 0), (0, .ref x0), (1, .int x1), (2, .int x2), (3, .int x3)]) hx hb dX12_hitsAt_1 hl (by decide) rfl (fun ls hl => ?_)
  refine lv_iconst (v := 0) hx hb dX12_hitsAt_3 (by decide) ?_
  refine lv_istore (i := 5) (lv' := [(5, .int 0), (4, .int 0), (0, .ref x0), (1, .int x1), (2, .int x2), (3, .int x3)]) hx hb dX12_hitsAt_4 hl (by decide) rfl (fun ls hl => ?_)
  exact hB6 x0 x1 x2 x3 kx0 q_FU 0 0 _ _ _ hm hW hS (lv_sub hl [2, 3, 4, 5, 1, 0] rfl)
theorem dX12_areHops_0 : decode cX12_areHops 0 = .ok (.aload_n 0, 1) := by decide +kernel
theorem dX12_areHops_1 : decode cX12_areHops 1 = .ok (.iload_n 1, 1) := by decide +kernel
theorem dX12_areHops_2 : decode cX12_areHops 2 = .ok (.invokevirtual 491, 3) := by decide +kernel
theorem dX12_areHops_5 : decode cX12_areHops 5 = .ok (.ifCond .eq 28, 3) := by decide +kernel
theorem dX12_areHops_8 : decode cX12_areHops 8 = .ok (.aload_n 0, 1) := by decide +kernel
theorem dX12_areHops_9 : decode cX12_areHops 9 = .ok (.iload_n 2, 1) := by decide +kernel
theorem dX12_areHops_10 : decode cX12_areHops 10 = .ok (.invokevirtual 491, 3) := by decide +kernel
theorem dX12_areHops_13 : decode cX12_areHops 13 = .ok (.ifCond .eq 20, 3) := by decide +kernel
theorem dX12_areHops_16 : decode cX12_areHops 16 = .ok (.aload_n 0, 1) := by decide +kernel
theorem dX12_areHops_17 : decode cX12_areHops 17 = .ok (.iload_n 1, 1) := by decide +kernel
theorem dX12_areHops_18 : decode cX12_areHops 18 = .ok (.invokevirtual 488, 3) := by decide +kernel
theorem dX12_areHops_21 : decode cX12_areHops 21 = .ok (.aload_n 0, 1) := by decide +kernel
theorem dX12_areHops_22 : decode cX12_areHops 22 = .ok (.iload_n 2, 1) := by decide +kernel
theorem dX12_areHops_23 : decode cX12_areHops 23 = .ok (.invokevirtual 488, 3) := by decide +kernel
theorem dX12_areHops_26 : decode cX12_areHops 26 = .ok (.if_icmp .ne 7, 3) := by decide +kernel
theorem dX12_areHops_29 : decode cX12_areHops 29 = .ok (.iconst 1, 1) := by decide +kernel
theorem dX12_areHops_30 : decode cX12_areHops 30 = .ok (.goto 4, 3) := by decide +kernel
theorem dX12_areHops_33 : decode cX12_areHops 33 = .ok (.iconst 0, 1) := by decide +kernel
theorem dX12_areHops_34 : decode cX12_areHops 34 = .ok (.ireturn, 1) := by decide +kernel
set_option maxRecDepth 100000 in
theorem c_X12_areHops (l : Launch) (D : q_D) (al : q_Al) (dt : q_Dt) (x0 : Nat) (x1 : Int32) (x2 : Int32) (kx0 : al.1 x0 = 13) (r0 : Int32) (hm : X12_areHops al dt x0 x1 x2 = some r0) : q_Mt l yX12_areHops cX12_areHops 3 (some FieldType.boolean) 2 43 D al [.ref x0, .int x1, .int x2] dt 0 (some (.int r0)) dt := by
  refine q_Mt.of (by decide) (Nat.le_of_ble_eq_true rfl) ?_
  intro p e s m args below meth c ls C hargs hW hl
  have hx := C.1
  have hb := C.2.1
  have hown := C.2.2.2.2.2.1
  have hts := C.2.2.2.2.2.2.1
  have hS : va_S (q_A al) s.heap s.heap [] := va_S.rf
  have hl : lv_has ls 3 [(0, .ref x0), (1, .int x1), (2, .int x2)] := hl
  unfold X12_areHops at hm
  refine lv_aload_n hx hb dX12_areHops_0 rfl (lv_at hl 0 rfl) ?_
  refine lv_iload_n hx hb dX12_areHops_1 rfl (lv_at hl 1 rfl) ?_
  obtain ⟨v1000002, hc1000001, hm⟩ := q_b1i hm
  refine q_callV C hW hS (As := [.int x1]) (rest := []) (st1 := [.int v1000002]) (c_X12_isHop l D al dt x0 x1 kx0 v1000002 hc1000001) yl_X12_isHop vl_X12_isHop ml_RX12_491 (ci := 12) rfl kx0 (by decide) rfl ⟨Nat.le_of_ble_eq_true rfl, Nat.le_of_ble_eq_true rfl⟩ hl rfl (Nat.le_of_ble_eq_true rfl) dX12_areHops_2 ⟨Nat.le_refl _, Nat.le_refl _⟩ rfl (fun H locs k1000003 hW hS => ?_)
  refine q_ifc hm (fun c1000004 hm => ?_) (fun c1000004 hm => ?_)
  · refine lv_if_eq (tgt := 33) hx hb dX12_areHops_5 (by decide) (fun _ => ?_) (fun h => absurd c1000004 h)
    refine lv_iconst (v := 0) hx hb dX12_areHops_33 (by decide) ?_
    exact e_zl C hW hS (Or.inl rfl) hm dX12_areHops_34
  refine lv_if_eq (tgt := 33) hx hb dX12_areHops_5 (by decide) (fun h => absurd h c1000004) (fun _ => ?_)
  refine lv_aload_n hx hb dX12_areHops_8 rfl (lv_at hl 0 rfl) ?_
  refine lv_iload_n hx hb dX12_areHops_9 rfl (lv_at hl 2 rfl) ?_
  obtain ⟨v1000006, hc1000005, hm⟩ := q_b1i hm
  refine q_callV C hW hS (As := [.int x2]) (rest := []) (st1 := [.int v1000006]) (c_X12_isHop l D al dt x0 x2 kx0 v1000006 hc1000005) yl_X12_isHop vl_X12_isHop ml_RX12_491 (ci := 12) rfl kx0 (by decide) rfl ⟨Nat.le_of_ble_eq_true rfl, Nat.le_of_ble_eq_true rfl⟩ hl rfl (Nat.le_of_ble_eq_true rfl) dX12_areHops_10 ⟨Nat.le_refl _, Nat.le_refl _⟩ rfl (fun H locs k1000007 hW hS => ?_)
  refine q_ifc hm (fun c1000008 hm => ?_) (fun c1000008 hm => ?_)
  · refine lv_if_eq (tgt := 33) hx hb dX12_areHops_13 (by decide) (fun _ => ?_) (fun h => absurd c1000008 h)
    refine lv_iconst (v := 0) hx hb dX12_areHops_33 (by decide) ?_
    exact e_zl C hW hS (Or.inl rfl) hm dX12_areHops_34
  refine lv_if_eq (tgt := 33) hx hb dX12_areHops_13 (by decide) (fun h => absurd h c1000008) (fun _ => ?_)
  refine lv_aload_n hx hb dX12_areHops_16 rfl (lv_at hl 0 rfl) ?_
  refine lv_iload_n hx hb dX12_areHops_17 rfl (lv_at hl 1 rfl) ?_
  obtain ⟨v1000010, hc1000009, hm⟩ := q_b1i hm
  refine q_callV C hW hS (As := [.int x1]) (rest := []) (st1 := [.int v1000010]) (c_X12_p l D al dt x0 x1 kx0 v1000010 hc1000009) yl_X12_p vl_X12_p ml_RX12_488 (ci := 12) rfl kx0 (by decide) rfl ⟨Nat.le_of_ble_eq_true rfl, Nat.le_of_ble_eq_true rfl⟩ hl rfl (Nat.le_of_ble_eq_true rfl) dX12_areHops_18 ⟨Nat.le_refl _, Nat.le_refl _⟩ rfl (fun H locs k1000011 hW hS => ?_)
  refine lv_aload_n hx hb dX12_areHops_21 rfl (lv_at hl 0 rfl) ?_
  refine lv_iload_n hx hb dX12_areHops_22 rfl (lv_at hl 2 rfl) ?_
  obtain ⟨v1000013, hc1000012, hm⟩ := q_b1i hm
  refine q_callV C hW hS (As := [.int x2]) (rest := [.int v1000010]) (st1 := [.int v1000013, .int v1000010]) (c_X12_p l D al dt x0 x2 kx0 v1000013 hc1000012) yl_X12_p vl_X12_p ml_RX12_488 (ci := 12) rfl kx0 (by decide) rfl ⟨Nat.le_of_ble_eq_true rfl, Nat.le_of_ble_eq_true rfl⟩ hl rfl (Nat.le_of_ble_eq_true rfl) dX12_areHops_23 ⟨Nat.le_refl _, Nat.le_refl _⟩ rfl (fun H locs k1000014 hW hS => ?_)
  refine q_ifc hm (fun c1000015 hm => ?_) (fun c1000015 hm => ?_)
  · refine lv_icmp_ne (tgt := 33) hx hb dX12_areHops_26 (by decide) (fun h => absurd c1000015 h) (fun _ => ?_)
    refine lv_iconst (v := 1) hx hb dX12_areHops_29 (by decide) ?_
    refine lv_goto (tgt := 34) hx hb dX12_areHops_30 (by decide) ?_
    exact e_zl C hW hS (Or.inr rfl) hm dX12_areHops_34
  refine lv_icmp_ne (tgt := 33) hx hb dX12_areHops_26 (by decide) (fun _ => ?_) (fun h => absurd h c1000015)
  refine lv_iconst (v := 0) hx hb dX12_areHops_33 (by decide) ?_
  exact e_zl C hW hS (Or.inl rfl) hm dX12_areHops_34
theorem dX12_hits_0 : decode cX12_hits 0 = .ok (.aload_n 0, 1) := by decide +kernel
theorem dX12_hits_1 : decode cX12_hits 1 = .ok (.iload_n 1, 1) := by decide +kernel
theorem dX12_hits_2 : decode cX12_hits 2 = .ok (.iload_n 2, 1) := by decide +kernel
theorem dX12_hits_3 : decode cX12_hits 3 = .ok (.invokevirtual 497, 3) := by decide +kernel
theorem dX12_hits_6 : decode cX12_hits 6 = .ok (.ifCond .eq 28, 3) := by decide +kernel
theorem dX12_hits_9 : decode cX12_hits 9 = .ok (.iload_n 3, 1) := by decide +kernel
theorem dX12_hits_10 : decode cX12_hits 10 = .ok (.iconst 0, 1) := by decide +kernel
theorem dX12_hits_11 : decode cX12_hits 11 = .ok (.aload_n 0, 1) := by decide +kernel
theorem dX12_hits_12 : decode cX12_hits 12 = .ok (.iload_n 1, 1) := by decide +kernel
theorem dX12_hits_13 : decode cX12_hits 13 = .ok (.invokevirtual 488, 3) := by decide +kernel
theorem dX12_hits_16 : decode cX12_hits 16 = .ok (.iconst 1, 1) := by decide +kernel
theorem dX12_hits_17 : decode cX12_hits 17 = .ok (.isub, 1) := by decide +kernel
theorem dX12_hits_18 : decode cX12_hits 18 = .ok (.invokestatic 376, 3) := by decide +kernel
theorem dX12_hits_21 : decode cX12_hits 21 = .ok (.ifCond .eq 13, 3) := by decide +kernel
theorem dX12_hits_24 : decode cX12_hits 24 = .ok (.aload_n 0, 1) := by decide +kernel
theorem dX12_hits_25 : decode cX12_hits 25 = .ok (.iload_n 1, 1) := by decide +kernel
theorem dX12_hits_26 : decode cX12_hits 26 = .ok (.iload_n 2, 1) := by decide +kernel
theorem dX12_hits_27 : decode cX12_hits 27 = .ok (.iload_n 3, 1) := by decide +kernel
theorem dX12_hits_28 : decode cX12_hits 28 = .ok (.invokevirtual 500, 3) := by decide +kernel
theorem dX12_hits_31 : decode cX12_hits 31 = .ok (.goto 4, 3) := by decide +kernel
theorem dX12_hits_34 : decode cX12_hits 34 = .ok (.iconst (-1), 1) := by decide +kernel
theorem dX12_hits_35 : decode cX12_hits 35 = .ok (.ireturn, 1) := by decide +kernel
set_option maxRecDepth 100000 in
theorem c_X12_hits (l : Launch) (D : q_D) (al : q_Al) (dt : q_Dt) (x0 : Nat) (x1 : Int32) (x2 : Int32) (x3 : Int32) (kx0 : al.1 x0 = 13) (r0 : Int32) (hm : X12_hits al dt x0 x1 x2 x3 = some r0) : q_Mt l yX12_hits cX12_hits 4 (some FieldType.int) 3 69 D al [.ref x0, .int x1, .int x2, .int x3] dt 0 (some (.int r0)) dt := by
  refine q_Mt.of (by decide) (Nat.le_of_ble_eq_true rfl) ?_
  intro p e s m args below meth c ls C hargs hW hl
  have hx := C.1
  have hb := C.2.1
  have hown := C.2.2.2.2.2.1
  have hts := C.2.2.2.2.2.2.1
  have hS : va_S (q_A al) s.heap s.heap [] := va_S.rf
  have hl : lv_has ls 4 [(0, .ref x0), (1, .int x1), (2, .int x2), (3, .int x3)] := hl
  unfold X12_hits at hm
  refine lv_aload_n hx hb dX12_hits_0 rfl (lv_at hl 0 rfl) ?_
  refine lv_iload_n hx hb dX12_hits_1 rfl (lv_at hl 1 rfl) ?_
  refine lv_iload_n hx hb dX12_hits_2 rfl (lv_at hl 2 rfl) ?_
  obtain ⟨v1000002, hc1000001, hm⟩ := q_b1i hm
  refine q_callV C hW hS (As := [.int x1, .int x2]) (rest := []) (st1 := [.int v1000002]) (c_X12_areHops l D al dt x0 x1 x2 kx0 v1000002 hc1000001) yl_X12_areHops vl_X12_areHops ml_RX12_497 (ci := 12) rfl kx0 (by decide) rfl ⟨Nat.le_of_ble_eq_true rfl, Nat.le_of_ble_eq_true rfl⟩ hl rfl (Nat.le_of_ble_eq_true rfl) dX12_hits_3 ⟨Nat.le_refl _, Nat.le_refl _⟩ rfl (fun H locs k1000003 hW hS => ?_)
  refine q_ifc hm (fun c1000004 hm => ?_) (fun c1000004 hm => ?_)
  · refine lv_if_eq (tgt := 34) hx hb dX12_hits_6 (by decide) (fun _ => ?_) (fun h => absurd c1000004 h)
    refine lv_iconst (v := (-1)) hx hb dX12_hits_34 (by decide) ?_
    exact e_i C hW hS hm dX12_hits_35
  refine lv_if_eq (tgt := 34) hx hb dX12_hits_6 (by decide) (fun h => absurd h c1000004) (fun _ => ?_)
  refine lv_iload_n hx hb dX12_hits_9 rfl (lv_at hl 3 rfl) ?_
  refine lv_iconst (v := 0) hx hb dX12_hits_10 (by decide) ?_
  refine lv_aload_n hx hb dX12_hits_11 rfl (lv_at hl 0 rfl) ?_
  refine lv_iload_n hx hb dX12_hits_12 rfl (lv_at hl 1 rfl) ?_
  obtain ⟨v1000006, hc1000005, hm⟩ := q_b1i hm
  refine q_callV C hW hS (As := [.int x1]) (rest := [.int 0, .int x3]) (st1 := [.int v1000006, .int 0, .int x3]) (c_X12_p l D al dt x0 x1 kx0 v1000006 hc1000005) yl_X12_p vl_X12_p ml_RX12_488 (ci := 12) rfl kx0 (by decide) rfl ⟨Nat.le_of_ble_eq_true rfl, Nat.le_of_ble_eq_true rfl⟩ hl rfl (Nat.le_of_ble_eq_true rfl) dX12_hits_13 ⟨Nat.le_refl _, Nat.le_refl _⟩ rfl (fun H locs k1000007 hW hS => ?_)
  refine lv_iconst (v := 1) hx hb dX12_hits_16 (by decide) ?_
  refine lv_isub hx hb dX12_hits_17 ?_
  obtain ⟨v1000009, hc1000008, hm⟩ := q_b1i hm
  refine q_callS C hW hS (As := [.int x3, .int 0, .int (v1000006 - 1)]) (rest := []) (st1 := [.int v1000009]) (c_X12_in l D al dt x3 0 (v1000006 - 1) v1000009 hc1000008) yl_X12_in sl_X12_in ml_RX12_376 rfl ⟨Nat.le_of_ble_eq_true rfl, Nat.le_of_ble_eq_true rfl⟩ hl rfl (Nat.le_of_ble_eq_true rfl) dX12_hits_18 ⟨Nat.le_refl _, Nat.le_refl _⟩ rfl (fun H locs k1000010 hW hS => ?_)
  refine q_ifc hm (fun c1000011 hm => ?_) (fun c1000011 hm => ?_)
  · refine lv_if_eq (tgt := 34) hx hb dX12_hits_21 (by decide) (fun _ => ?_) (fun h => absurd c1000011 h)
    refine lv_iconst (v := (-1)) hx hb dX12_hits_34 (by decide) ?_
    exact e_i C hW hS hm dX12_hits_35
  refine lv_if_eq (tgt := 34) hx hb dX12_hits_21 (by decide) (fun h => absurd h c1000011) (fun _ => ?_)
  refine lv_aload_n hx hb dX12_hits_24 rfl (lv_at hl 0 rfl) ?_
  refine lv_iload_n hx hb dX12_hits_25 rfl (lv_at hl 1 rfl) ?_
  refine lv_iload_n hx hb dX12_hits_26 rfl (lv_at hl 2 rfl) ?_
  refine lv_iload_n hx hb dX12_hits_27 rfl (lv_at hl 3 rfl) ?_
  obtain ⟨v1000013, hc1000012, hm⟩ := q_b1i hm
  refine q_callV C hW hS (As := [.int x1, .int x2, .int x3]) (rest := []) (st1 := [.int v1000013]) (c_X12_hitsAt l D al dt x0 x1 x2 x3 kx0 v1000013 hc1000012) yl_X12_hitsAt vl_X12_hitsAt ml_RX12_500 (ci := 12) rfl kx0 (by decide) rfl ⟨Nat.le_of_ble_eq_true rfl, Nat.le_of_ble_eq_true rfl⟩ hl rfl (Nat.le_of_ble_eq_true rfl) dX12_hits_28 ⟨Nat.le_refl _, Nat.le_refl _⟩ rfl (fun H locs k1000014 hW hS => ?_)
  refine lv_goto (tgt := 35) hx hb dX12_hits_31 (by decide) ?_
  exact e_i C hW hS hm dX12_hits_35
theorem dX12_worstHits_0 : decode cX12_worstHits 0 = .ok (.aload_n 0, 1) := by decide +kernel
theorem dX12_worstHits_1 : decode cX12_worstHits 1 = .ok (.iload_n 1, 1) := by decide +kernel
theorem dX12_worstHits_2 : decode cX12_worstHits 2 = .ok (.iload_n 2, 1) := by decide +kernel
theorem dX12_worstHits_3 : decode cX12_worstHits 3 = .ok (.invokevirtual 497, 3) := by decide +kernel
theorem dX12_worstHits_6 : decode cX12_worstHits 6 = .ok (.ifCond .ne 5, 3) := by decide +kernel
theorem dX12_worstHits_9 : decode cX12_worstHits 9 = .ok (.iconst (-1), 1) := by decide +kernel
theorem dX12_worstHits_10 : decode cX12_worstHits 10 = .ok (.ireturn, 1) := by decide +kernel
theorem dX12_worstHits_11 : decode cX12_worstHits 11 = .ok (.iconst 0, 1) := by decide +kernel
theorem dX12_worstHits_12 : decode cX12_worstHits 12 = .ok (.istore_n 3, 1) := by decide +kernel
theorem dX12_worstHits_13 : decode cX12_worstHits 13 = .ok (.iload_n 1, 1) := by decide +kernel
theorem dX12_worstHits_14 : decode cX12_worstHits 14 = .ok (.iload_n 2, 1) := by decide +kernel
theorem dX12_worstHits_15 : decode cX12_worstHits 15 = .ok (.if_icmp .ne 7, 3) := by decide +kernel
theorem dX12_worstHits_18 : decode cX12_worstHits 18 = .ok (.iconst 1, 1) := by decide +kernel
theorem dX12_worstHits_19 : decode cX12_worstHits 19 = .ok (.goto 4, 3) := by decide +kernel
theorem dX12_worstHits_22 : decode cX12_worstHits 22 = .ok (.iconst 0, 1) := by decide +kernel
theorem dX12_worstHits_23 : decode cX12_worstHits 23 = .ok (.istore 4, 2) := by decide +kernel
theorem dX12_worstHits_25 : decode cX12_worstHits 25 = .ok (.iload 4, 2) := by decide +kernel
theorem dX12_worstHits_27 : decode cX12_worstHits 27 = .ok (.aload_n 0, 1) := by decide +kernel
theorem dX12_worstHits_28 : decode cX12_worstHits 28 = .ok (.iload_n 1, 1) := by decide +kernel
theorem dX12_worstHits_29 : decode cX12_worstHits 29 = .ok (.invokevirtual 488, 3) := by decide +kernel
theorem dX12_worstHits_32 : decode cX12_worstHits 32 = .ok (.if_icmp .ge 30, 3) := by decide +kernel
theorem dX12_worstHits_35 : decode cX12_worstHits 35 = .ok (.aload_n 0, 1) := by decide +kernel
theorem dX12_worstHits_36 : decode cX12_worstHits 36 = .ok (.iload_n 1, 1) := by decide +kernel
theorem dX12_worstHits_37 : decode cX12_worstHits 37 = .ok (.iload_n 2, 1) := by decide +kernel
theorem dX12_worstHits_38 : decode cX12_worstHits 38 = .ok (.iload 4, 2) := by decide +kernel
theorem dX12_worstHits_40 : decode cX12_worstHits 40 = .ok (.invokevirtual 500, 3) := by decide +kernel
theorem dX12_worstHits_43 : decode cX12_worstHits 43 = .ok (.iload_n 3, 1) := by decide +kernel
theorem dX12_worstHits_44 : decode cX12_worstHits 44 = .ok (.if_icmp .le 12, 3) := by decide +kernel
theorem dX12_worstHits_47 : decode cX12_worstHits 47 = .ok (.aload_n 0, 1) := by decide +kernel
theorem dX12_worstHits_48 : decode cX12_worstHits 48 = .ok (.iload_n 1, 1) := by decide +kernel
theorem dX12_worstHits_49 : decode cX12_worstHits 49 = .ok (.iload_n 2, 1) := by decide +kernel
theorem dX12_worstHits_50 : decode cX12_worstHits 50 = .ok (.iload 4, 2) := by decide +kernel
theorem dX12_worstHits_52 : decode cX12_worstHits 52 = .ok (.invokevirtual 500, 3) := by decide +kernel
theorem dX12_worstHits_55 : decode cX12_worstHits 55 = .ok (.istore_n 3, 1) := by decide +kernel
theorem dX12_worstHits_56 : decode cX12_worstHits 56 = .ok (.iinc 4 1, 3) := by decide +kernel
theorem dX12_worstHits_59 : decode cX12_worstHits 59 = .ok (.goto (-34), 3) := by decide +kernel
theorem dX12_worstHits_62 : decode cX12_worstHits 62 = .ok (.iload_n 3, 1) := by decide +kernel
theorem dX12_worstHits_63 : decode cX12_worstHits 63 = .ok (.ireturn, 1) := by decide +kernel
set_option maxRecDepth 100000 in
theorem c_X12_worstHits (l : Launch) (D : q_D) (al : q_Al) (dt : q_Dt) (x0 : Nat) (x1 : Int32) (x2 : Int32) (kx0 : al.1 x0 = 13) (r0 : Int32) (hm : X12_worstHits al dt x0 x1 x2 = some r0) : q_Mt l yX12_worstHits cX12_worstHits 5 (some FieldType.int) 3 69 D al [.ref x0, .int x1, .int x2] dt 0 (some (.int r0)) dt := by
  refine q_Mt.of (by decide) (Nat.le_of_ble_eq_true rfl) ?_
  intro p e s m args below meth c ls C hargs hW hl
  have hx := C.1
  have hb := C.2.1
  have hown := C.2.2.2.2.2.1
  have hts := C.2.2.2.2.2.2.1
  have hS : va_S (q_A al) s.heap s.heap [] := va_S.rf
  have hl : lv_has ls 5 [(0, .ref x0), (1, .int x1), (2, .int x2)] := hl
  unfold X12_worstHits at hm
  have hB25 : ∀ (x0_25 : Nat) (x1_25 : Int32) (x2_25 : Int32) (kx0_25 : al.1 x0_25 = 13) (n_25 : Nat) (x3_25 : Int32) (x4_25 : Int32) (H : Heap) (locs : List Loc) (ls : Array Slot) (hm : X12_worstHits_b25 al dt x0_25 x1_25 x2_25 n_25 x3_25 x4_25 = some r0) (hW : q_W D al dt H) (hS : va_S (q_A al) s.heap H locs) (hl : lv_has ls 5 [(0, .ref x0_25), (1, .int x1_25), (2, .int x2_25), (3, .int x3_25), (4, .int x4_25)]), W p l e { frames := 3, cells := 0, slots := 0, locals := 69 } s m args below meth c H locs 0 0 (MQ below (q_Q (some (.int r0)) (fun H => q_W D al dt H ∧ q_Rk al 0 (some (.int r0))) (q_A al)) args s 0 0 (q_A al)) (F0 m 25 ls []) := by
    intro x0_25 x1_25 x2_25 kx0_25
    intro n_25
    induction n_25 with
    | zero => intro x3_25 x4_25 H locs ls hm hW hS hl; cases hm
    | succ n_25 ih25 =>
      have hB56 : ∀ (x3_56 : Int32) (x4_56 : Int32) (H : Heap) (locs : List Loc) (ls : Array Slot) (hm : X12_worstHits_b56 al dt (X12_worstHits_b25 al dt x0_25 x1_25 x2_25 n_25) x0_25 x1_25 x2_25 x3_56 x4_56 = some r0) (hW : q_W D al dt H) (hS : va_S (q_A al) s.heap H locs) (hl : lv_has ls 5 [(0, .ref x0_25), (1, .int x1_25), (2, .int x2_25), (3, .int x3_56), (4, .int x4_56)]), W p l e { frames := 3, cells := 0, slots := 0, locals := 69 } s m args below meth c H locs 0 0 (MQ below (q_Q (some (.int r0)) (fun H => q_W D al dt H ∧ q_Rk al 0 (some (.int r0))) (q_A al)) args s 0 0 (q_A al)) (F0 m 56 ls []) := by
        intro x3_56 x4_56 H locs ls hm hW hS hl
        unfold X12_worstHits_b56 at hm
        refine lv_iinc (v := (x4_56 + 1)) (lv' := [(4, .int (x4_56 + 1)), (0, .ref x0_25), (1, .int x1_25), (2, .int x2_25), (3, .int x3_56)]) hx hb dX12_worstHits_56 hl (k := 4) rfl rfl (by decide) rfl (fun ls hl => ?_)
        refine lv_goto (tgt := 25) hx hb dX12_worstHits_59 (by decide) ?_
        exact ih25 x3_56 (x4_56 + 1) _ _ _ hm hW hS (lv_sub hl [1, 2, 3, 4, 0] rfl)
      intro x3_25 x4_25 H locs ls hm hW hS hl
      rw [X12_worstHits_b25] at hm
      refine lv_iload hx hb dX12_worstHits_25 (lv_at hl 4 rfl) ?_
      refine lv_aload_n hx hb dX12_worstHits_27 rfl (lv_at hl 0 rfl) ?_
      refine lv_iload_n hx hb dX12_worstHits_28 rfl (lv_at hl 1 rfl) ?_
      obtain ⟨v25002, hc25001, hm⟩ := q_b1i hm
      refine q_callV C hW hS (As := [.int x1_25]) (rest := [.int x4_25]) (st1 := [.int v25002, .int x4_25]) (c_X12_p l D al dt x0_25 x1_25 kx0_25 v25002 hc25001) yl_X12_p vl_X12_p ml_RX12_488 (ci := 12) rfl kx0_25 (by decide) rfl ⟨Nat.le_of_ble_eq_true rfl, Nat.le_of_ble_eq_true rfl⟩ hl rfl (Nat.le_of_ble_eq_true rfl) dX12_worstHits_29 ⟨Nat.le_refl _, Nat.le_refl _⟩ rfl (fun H locs k25003 hW hS => ?_)
      refine q_ifc hm (fun c25004 hm => ?_) (fun c25004 hm => ?_)
      · refine lv_icmp_ge (tgt := 62) hx hb dX12_worstHits_32 (by decide) (fun _ => ?_) (fun h => absurd c25004 h)
        refine lv_iload_n hx hb dX12_worstHits_62 rfl (lv_at hl 3 rfl) ?_
        exact e_i C hW hS hm dX12_worstHits_63
      refine lv_icmp_ge (tgt := 62) hx hb dX12_worstHits_32 (by decide) (fun h => absurd h c25004) (fun _ => ?_)
      refine lv_aload_n hx hb dX12_worstHits_35 rfl (lv_at hl 0 rfl) ?_
      refine lv_iload_n hx hb dX12_worstHits_36 rfl (lv_at hl 1 rfl) ?_
      refine lv_iload_n hx hb dX12_worstHits_37 rfl (lv_at hl 2 rfl) ?_
      refine lv_iload hx hb dX12_worstHits_38 (lv_at hl 4 rfl) ?_
      obtain ⟨v25006, hc25005, hm⟩ := q_b1i hm
      refine q_callV C hW hS (As := [.int x1_25, .int x2_25, .int x4_25]) (rest := []) (st1 := [.int v25006]) (c_X12_hitsAt l D al dt x0_25 x1_25 x2_25 x4_25 kx0_25 v25006 hc25005) yl_X12_hitsAt vl_X12_hitsAt ml_RX12_500 (ci := 12) rfl kx0_25 (by decide) rfl ⟨Nat.le_of_ble_eq_true rfl, Nat.le_of_ble_eq_true rfl⟩ hl rfl (Nat.le_of_ble_eq_true rfl) dX12_worstHits_40 ⟨Nat.le_refl _, Nat.le_refl _⟩ rfl (fun H locs k25007 hW hS => ?_)
      refine lv_iload_n hx hb dX12_worstHits_43 rfl (lv_at hl 3 rfl) ?_
      refine q_ifc hm (fun c25008 hm => ?_) (fun c25008 hm => ?_)
      · refine lv_icmp_le (tgt := 56) hx hb dX12_worstHits_44 (by decide) (fun _ => ?_) (fun h => absurd c25008 h)
        exact hB56 x3_25 x4_25 _ _ _ hm hW hS (lv_sub hl [0, 1, 2, 3, 4] rfl)
      refine lv_icmp_le (tgt := 56) hx hb dX12_worstHits_44 (by decide) (fun h => absurd h c25008) (fun _ => ?_)
      refine lv_aload_n hx hb dX12_worstHits_47 rfl (lv_at hl 0 rfl) ?_
      refine lv_iload_n hx hb dX12_worstHits_48 rfl (lv_at hl 1 rfl) ?_
      refine lv_iload_n hx hb dX12_worstHits_49 rfl (lv_at hl 2 rfl) ?_
      refine lv_iload hx hb dX12_worstHits_50 (lv_at hl 4 rfl) ?_
      obtain ⟨v25010, hc25009, hm⟩ := q_b1i hm
      refine q_callV C hW hS (As := [.int x1_25, .int x2_25, .int x4_25]) (rest := []) (st1 := [.int v25010]) (c_X12_hitsAt l D al dt x0_25 x1_25 x2_25 x4_25 kx0_25 v25010 hc25009) yl_X12_hitsAt vl_X12_hitsAt ml_RX12_500 (ci := 12) rfl kx0_25 (by decide) rfl ⟨Nat.le_of_ble_eq_true rfl, Nat.le_of_ble_eq_true rfl⟩ hl rfl (Nat.le_of_ble_eq_true rfl) dX12_worstHits_52 ⟨Nat.le_refl _, Nat.le_refl _⟩ rfl (fun H locs k25011 hW hS => ?_)
      refine lv_istore_n (i := 3) (lv' := [(3, .int v25010), (0, .ref x0_25), (1, .int x1_25), (2, .int x2_25), (4, .int x4_25)]) hx hb dX12_worstHits_55 rfl hl (by decide) rfl (fun ls hl => ?_)
      exact hB56 v25010 x4_25 _ _ _ hm hW hS (lv_sub hl [1, 2, 3, 0, 4] rfl)
  have hB23 : ∀ (x0_23 : Nat) (x1_23 : Int32) (x2_23 : Int32) (x3_23 : Int32) (t0_23 : Int32) (kx0_23 : al.1 x0_23 = 13) (H : Heap) (locs : List Loc) (ls : Array Slot) (hm : X12_worstHits_b23 al dt x0_23 x1_23 x2_23 x3_23 t0_23 = some r0) (hW : q_W D al dt H) (hS : va_S (q_A al) s.heap H locs) (hl : lv_has ls 5 [(0, .ref x0_23), (1, .int x1_23), (2, .int x2_23), (3, .int x3_23)]), W p l e { frames := 3, cells := 0, slots := 0, locals := 69 } s m args below meth c H locs 0 0 (MQ below (q_Q (some (.int r0)) (fun H => q_W D al dt H ∧ q_Rk al 0 (some (.int r0))) (q_A al)) args s 0 0 (q_A al)) (F0 m 23 ls [.int t0_23]) := by
    intro x0_23 x1_23 x2_23 x3_23 t0_23 kx0_23 H locs ls hm hW hS hl
    unfold X12_worstHits_b23 at hm
    refine lv_istore (i := 4) (lv' := [(4, .int t0_23), (0, .ref x0_23), (1, .int x1_23), (2, .int x2_23), (3, .int x3_23)]) hx hb dX12_worstHits_23 hl (by decide) rfl (fun ls hl => ?_)
    exact hB25 x0_23 x1_23 x2_23 kx0_23 q_FU x3_23 t0_23 _ _ _ hm hW hS (lv_sub hl [1, 2, 3, 4, 0] rfl)
  refine lv_aload_n hx hb dX12_worstHits_0 rfl (lv_at hl 0 rfl) ?_
  refine lv_iload_n hx hb dX12_worstHits_1 rfl (lv_at hl 1 rfl) ?_
  refine lv_iload_n hx hb dX12_worstHits_2 rfl (lv_at hl 2 rfl) ?_
  obtain ⟨v1000002, hc1000001, hm⟩ := q_b1i hm
  refine q_callV C hW hS (As := [.int x1, .int x2]) (rest := []) (st1 := [.int v1000002]) (c_X12_areHops l D al dt x0 x1 x2 kx0 v1000002 hc1000001) yl_X12_areHops vl_X12_areHops ml_RX12_497 (ci := 12) rfl kx0 (by decide) rfl ⟨Nat.le_of_ble_eq_true rfl, Nat.le_of_ble_eq_true rfl⟩ hl rfl (Nat.le_of_ble_eq_true rfl) dX12_worstHits_3 ⟨Nat.le_refl _, Nat.le_refl _⟩ rfl (fun H locs k1000003 hW hS => ?_)
  refine q_ifc hm (fun c1000004 hm => ?_) (fun c1000004 hm => ?_)
  · refine lv_if_ne (tgt := 11) hx hb dX12_worstHits_6 (by decide) (fun h => absurd c1000004 h) (fun _ => ?_)
    refine lv_iconst (v := (-1)) hx hb dX12_worstHits_9 (by decide) ?_
    exact e_i C hW hS hm dX12_worstHits_10
  refine lv_if_ne (tgt := 11) hx hb dX12_worstHits_6 (by decide) (fun _ => ?_) (fun h => absurd h c1000004)
  refine lv_iconst (v := 0) hx hb dX12_worstHits_11 (by decide) ?_
  refine lv_istore_n (i := 3) (lv' := [(3, .int 0), (0, .ref x0), (1, .int x1), (2, .int x2)]) hx hb dX12_worstHits_12 rfl hl (by decide) rfl (fun ls hl => ?_)
  refine lv_iload_n hx hb dX12_worstHits_13 rfl (lv_at hl 2 rfl) ?_
  refine lv_iload_n hx hb dX12_worstHits_14 rfl (lv_at hl 3 rfl) ?_
  refine q_ifc hm (fun c1000005 hm => ?_) (fun c1000005 hm => ?_)
  · refine lv_icmp_ne (tgt := 22) hx hb dX12_worstHits_15 (by decide) (fun h => absurd c1000005 h) (fun _ => ?_)
    refine lv_iconst (v := 1) hx hb dX12_worstHits_18 (by decide) ?_
    refine lv_goto (tgt := 23) hx hb dX12_worstHits_19 (by decide) ?_
    exact hB23 x0 x1 x2 0 1 kx0 _ _ _ hm hW hS (lv_sub hl [1, 2, 3, 0] rfl)
  refine lv_icmp_ne (tgt := 22) hx hb dX12_worstHits_15 (by decide) (fun _ => ?_) (fun h => absurd h c1000005)
  refine lv_iconst (v := 0) hx hb dX12_worstHits_22 (by decide) ?_
  exact hB23 x0 x1 x2 0 0 kx0 _ _ _ hm hW hS (lv_sub hl [1, 2, 3, 0] rfl)
theorem dX12_isCrowded_0 : decode cX12_isCrowded 0 = .ok (.iconst 0, 1) := by decide +kernel
theorem dX12_isCrowded_1 : decode cX12_isCrowded 1 = .ok (.istore_n 3, 1) := by decide +kernel
theorem dX12_isCrowded_2 : decode cX12_isCrowded 2 = .ok (.iload_n 3, 1) := by decide +kernel
theorem dX12_isCrowded_3 : decode cX12_isCrowded 3 = .ok (.aload_n 0, 1) := by decide +kernel
theorem dX12_isCrowded_4 : decode cX12_isCrowded 4 = .ok (.getfield 58, 3) := by decide +kernel
theorem dX12_isCrowded_7 : decode cX12_isCrowded 7 = .ok (.aload_n 0, 1) := by decide +kernel
theorem dX12_isCrowded_8 : decode cX12_isCrowded 8 = .ok (.getfield 242, 3) := by decide +kernel
theorem dX12_isCrowded_11 : decode cX12_isCrowded 11 = .ok (.iaload, 1) := by decide +kernel
theorem dX12_isCrowded_12 : decode cX12_isCrowded 12 = .ok (.if_icmp .ge 61, 3) := by decide +kernel
theorem dX12_isCrowded_15 : decode cX12_isCrowded 15 = .ok (.iconst 0, 1) := by decide +kernel
theorem dX12_isCrowded_16 : decode cX12_isCrowded 16 = .ok (.istore 4, 2) := by decide +kernel
theorem dX12_isCrowded_18 : decode cX12_isCrowded 18 = .ok (.iload 4, 2) := by decide +kernel
theorem dX12_isCrowded_20 : decode cX12_isCrowded 20 = .ok (.iload_n 3, 1) := by decide +kernel
theorem dX12_isCrowded_21 : decode cX12_isCrowded 21 = .ok (.if_icmp .ge 46, 3) := by decide +kernel
theorem dX12_isCrowded_24 : decode cX12_isCrowded 24 = .ok (.iload_n 1, 1) := by decide +kernel
theorem dX12_isCrowded_25 : decode cX12_isCrowded 25 = .ok (.iload_n 3, 1) := by decide +kernel
theorem dX12_isCrowded_26 : decode cX12_isCrowded 26 = .ok (.ishr, 1) := by decide +kernel
theorem dX12_isCrowded_27 : decode cX12_isCrowded 27 = .ok (.iconst 1, 1) := by decide +kernel
theorem dX12_isCrowded_28 : decode cX12_isCrowded 28 = .ok (.iand, 1) := by decide +kernel
theorem dX12_isCrowded_29 : decode cX12_isCrowded 29 = .ok (.iconst 1, 1) := by decide +kernel
theorem dX12_isCrowded_30 : decode cX12_isCrowded 30 = .ok (.if_icmp .ne 31, 3) := by decide +kernel
theorem dX12_isCrowded_33 : decode cX12_isCrowded 33 = .ok (.iload_n 1, 1) := by decide +kernel
theorem dX12_isCrowded_34 : decode cX12_isCrowded 34 = .ok (.iload 4, 2) := by decide +kernel
theorem dX12_isCrowded_36 : decode cX12_isCrowded 36 = .ok (.ishr, 1) := by decide +kernel
theorem dX12_isCrowded_37 : decode cX12_isCrowded 37 = .ok (.iconst 1, 1) := by decide +kernel
theorem dX12_isCrowded_38 : decode cX12_isCrowded 38 = .ok (.iand, 1) := by decide +kernel
theorem dX12_isCrowded_39 : decode cX12_isCrowded 39 = .ok (.iconst 1, 1) := by decide +kernel
theorem dX12_isCrowded_40 : decode cX12_isCrowded 40 = .ok (.if_icmp .ne 21, 3) := by decide +kernel
theorem dX12_isCrowded_43 : decode cX12_isCrowded 43 = .ok (.aload_n 0, 1) := by decide +kernel
theorem dX12_isCrowded_44 : decode cX12_isCrowded 44 = .ok (.iload_n 3, 1) := by decide +kernel
theorem dX12_isCrowded_45 : decode cX12_isCrowded 45 = .ok (.iload_n 2, 1) := by decide +kernel
theorem dX12_isCrowded_46 : decode cX12_isCrowded 46 = .ok (.invokevirtual 494, 3) := by decide +kernel
theorem dX12_isCrowded_49 : decode cX12_isCrowded 49 = .ok (.aload_n 0, 1) := by decide +kernel
theorem dX12_isCrowded_50 : decode cX12_isCrowded 50 = .ok (.iload 4, 2) := by decide +kernel
theorem dX12_isCrowded_52 : decode cX12_isCrowded 52 = .ok (.iload_n 2, 1) := by decide +kernel
theorem dX12_isCrowded_53 : decode cX12_isCrowded 53 = .ok (.invokevirtual 494, 3) := by decide +kernel
theorem dX12_isCrowded_56 : decode cX12_isCrowded 56 = .ok (.if_icmp .ne 5, 3) := by decide +kernel
theorem dX12_isCrowded_59 : decode cX12_isCrowded 59 = .ok (.iconst 1, 1) := by decide +kernel
theorem dX12_isCrowded_60 : decode cX12_isCrowded 60 = .ok (.ireturn, 1) := by decide +kernel
theorem dX12_isCrowded_61 : decode cX12_isCrowded 61 = .ok (.iinc 4 1, 3) := by decide +kernel
theorem dX12_isCrowded_64 : decode cX12_isCrowded 64 = .ok (.goto (-46), 3) := by decide +kernel
theorem dX12_isCrowded_67 : decode cX12_isCrowded 67 = .ok (.iinc 3 1, 3) := by decide +kernel
theorem dX12_isCrowded_70 : decode cX12_isCrowded 70 = .ok (.goto (-68), 3) := by decide +kernel
theorem dX12_isCrowded_73 : decode cX12_isCrowded 73 = .ok (.iconst 0, 1) := by decide +kernel
theorem dX12_isCrowded_74 : decode cX12_isCrowded 74 = .ok (.ireturn, 1) := by decide +kernel
set_option maxRecDepth 100000 in
theorem c_X12_isCrowded (l : Launch) (D : q_D) (al : q_Al) (dt : q_Dt) (x0 : Nat) (x1 : Int32) (x2 : Int32) (kx0 : al.1 x0 = 13) (r0 : Int32) (hm : X12_isCrowded al dt x0 x1 x2 = some r0) : q_Mt l yX12_isCrowded cX12_isCrowded 5 (some FieldType.boolean) 2 44 D al [.ref x0, .int x1, .int x2] dt 0 (some (.int r0)) dt := by
  refine q_Mt.of (by decide) (Nat.le_of_ble_eq_true rfl) ?_
  intro p e s m args below meth c ls C hargs hW hl
  have hx := C.1
  have hb := C.2.1
  have hown := C.2.2.2.2.2.1
  have hts := C.2.2.2.2.2.2.1
  have hS : va_S (q_A al) s.heap s.heap [] := va_S.rf
  have hl : lv_has ls 5 [(0, .ref x0), (1, .int x1), (2, .int x2)] := hl
  unfold X12_isCrowded at hm
  have hB2 : ∀ (x0_2 : Nat) (x1_2 : Int32) (x2_2 : Int32) (kx0_2 : al.1 x0_2 = 13) (n_2 : Nat) (x3_2 : Int32) (H : Heap) (locs : List Loc) (ls : Array Slot) (hm : X12_isCrowded_b2 al dt x0_2 x1_2 x2_2 n_2 x3_2 = some r0) (hW : q_W D al dt H) (hS : va_S (q_A al) s.heap H locs) (hl : lv_has ls 5 [(0, .ref x0_2), (1, .int x1_2), (2, .int x2_2), (3, .int x3_2)]), W p l e { frames := 2, cells := 0, slots := 0, locals := 44 } s m args below meth c H locs 0 0 (MQ below (q_Q (some (.int r0)) (fun H => q_W D al dt H ∧ q_Rk al 0 (some (.int r0))) (q_A al)) args s 0 0 (q_A al)) (F0 m 2 ls []) := by
    intro x0_2 x1_2 x2_2 kx0_2
    intro n_2
    induction n_2 with
    | zero => intro x3_2 H locs ls hm hW hS hl; cases hm
    | succ n_2 ih2 =>
      have hB18 : ∀ (x3_18 : Int32) (n_18 : Nat) (x4_18 : Int32) (H : Heap) (locs : List Loc) (ls : Array Slot) (hm : X12_isCrowded_b18 al dt (X12_isCrowded_b2 al dt x0_2 x1_2 x2_2 n_2) x0_2 x1_2 x2_2 x3_18 n_18 x4_18 = some r0) (hW : q_W D al dt H) (hS : va_S (q_A al) s.heap H locs) (hl : lv_has ls 5 [(0, .ref x0_2), (1, .int x1_2), (2, .int x2_2), (3, .int x3_18), (4, .int x4_18)]), W p l e { frames := 2, cells := 0, slots := 0, locals := 44 } s m args below meth c H locs 0 0 (MQ below (q_Q (some (.int r0)) (fun H => q_W D al dt H ∧ q_Rk al 0 (some (.int r0))) (q_A al)) args s 0 0 (q_A al)) (F0 m 18 ls []) := by
        intro x3_18
        intro n_18
        induction n_18 with
        | zero => intro x4_18 H locs ls hm hW hS hl; cases hm
        | succ n_18 ih18 =>
          have hB61 : ∀ (x4_61 : Int32) (H : Heap) (locs : List Loc) (ls : Array Slot) (hm : X12_isCrowded_b61 al dt (X12_isCrowded_b2 al dt x0_2 x1_2 x2_2 n_2) (X12_isCrowded_b18 al dt (X12_isCrowded_b2 al dt x0_2 x1_2 x2_2 n_2) x0_2 x1_2 x2_2 x3_18 n_18) x0_2 x1_2 x2_2 x3_18 x4_61 = some r0) (hW : q_W D al dt H) (hS : va_S (q_A al) s.heap H locs) (hl : lv_has ls 5 [(0, .ref x0_2), (1, .int x1_2), (2, .int x2_2), (3, .int x3_18), (4, .int x4_61)]), W p l e { frames := 2, cells := 0, slots := 0, locals := 44 } s m args below meth c H locs 0 0 (MQ below (q_Q (some (.int r0)) (fun H => q_W D al dt H ∧ q_Rk al 0 (some (.int r0))) (q_A al)) args s 0 0 (q_A al)) (F0 m 61 ls []) := by
            intro x4_61 H locs ls hm hW hS hl
            unfold X12_isCrowded_b61 at hm
            refine lv_iinc (v := (x4_61 + 1)) (lv' := [(4, .int (x4_61 + 1)), (0, .ref x0_2), (1, .int x1_2), (2, .int x2_2), (3, .int x3_18)]) hx hb dX12_isCrowded_61 hl (k := 4) rfl rfl (by decide) rfl (fun ls hl => ?_)
            refine lv_goto (tgt := 18) hx hb dX12_isCrowded_64 (by decide) ?_
            exact ih18 (x4_61 + 1) _ _ _ hm hW hS (lv_sub hl [1, 2, 3, 4, 0] rfl)
          intro x4_18 H locs ls hm hW hS hl
          rw [X12_isCrowded_b18] at hm
          refine lv_iload hx hb dX12_isCrowded_18 (lv_at hl 4 rfl) ?_
          refine lv_iload_n hx hb dX12_isCrowded_20 rfl (lv_at hl 3 rfl) ?_
          refine q_ifc hm (fun c18001 hm => ?_) (fun c18001 hm => ?_)
          · refine lv_icmp_ge (tgt := 67) hx hb dX12_isCrowded_21 (by decide) (fun _ => ?_) (fun h => absurd c18001 h)
            refine lv_iinc (v := (x3_18 + 1)) (lv' := [(3, .int (x3_18 + 1)), (0, .ref x0_2), (1, .int x1_2), (2, .int x2_2), (4, .int x4_18)]) hx hb dX12_isCrowded_67 hl (k := 3) rfl rfl (by decide) rfl (fun ls hl => ?_)
            refine lv_goto (tgt := 2) hx hb dX12_isCrowded_70 (by decide) ?_
            exact ih2 (x3_18 + 1) _ _ _ hm hW hS (lv_sub hl [1, 2, 3, 0] rfl)
          refine lv_icmp_ge (tgt := 67) hx hb dX12_isCrowded_21 (by decide) (fun h => absurd h c18001) (fun _ => ?_)
          refine lv_iload_n hx hb dX12_isCrowded_24 rfl (lv_at hl 1 rfl) ?_
          refine lv_iload_n hx hb dX12_isCrowded_25 rfl (lv_at hl 3 rfl) ?_
          refine lv_ishr hx hb dX12_isCrowded_26 ?_
          refine lv_iconst (v := 1) hx hb dX12_isCrowded_27 (by decide) ?_
          refine lv_iand hx hb dX12_isCrowded_28 ?_
          refine lv_iconst (v := 1) hx hb dX12_isCrowded_29 (by decide) ?_
          refine q_ifc hm (fun c18002 hm => ?_) (fun c18002 hm => ?_)
          · refine lv_icmp_ne (tgt := 61) hx hb dX12_isCrowded_30 (by decide) (fun h => absurd c18002 h) (fun _ => ?_)
            refine lv_iload_n hx hb dX12_isCrowded_33 rfl (lv_at hl 1 rfl) ?_
            refine lv_iload hx hb dX12_isCrowded_34 (lv_at hl 4 rfl) ?_
            refine lv_ishr hx hb dX12_isCrowded_36 ?_
            refine lv_iconst (v := 1) hx hb dX12_isCrowded_37 (by decide) ?_
            refine lv_iand hx hb dX12_isCrowded_38 ?_
            refine lv_iconst (v := 1) hx hb dX12_isCrowded_39 (by decide) ?_
            refine q_ifc hm (fun c18003 hm => ?_) (fun c18003 hm => ?_)
            · refine lv_icmp_ne (tgt := 61) hx hb dX12_isCrowded_40 (by decide) (fun h => absurd c18003 h) (fun _ => ?_)
              refine lv_aload_n hx hb dX12_isCrowded_43 rfl (lv_at hl 0 rfl) ?_
              refine lv_iload_n hx hb dX12_isCrowded_44 rfl (lv_at hl 3 rfl) ?_
              refine lv_iload_n hx hb dX12_isCrowded_45 rfl (lv_at hl 2 rfl) ?_
              obtain ⟨v18005, hc18004, hm⟩ := q_b1i hm
              refine q_callV C hW hS (As := [.int x3_18, .int x2_2]) (rest := []) (st1 := [.int v18005]) (c_X12_channel l D al dt x0_2 x3_18 x2_2 kx0_2 v18005 hc18004) yl_X12_channel vl_X12_channel ml_RX12_494 (ci := 12) rfl kx0_2 (by decide) rfl ⟨Nat.le_of_ble_eq_true rfl, Nat.le_of_ble_eq_true rfl⟩ hl rfl (Nat.le_of_ble_eq_true rfl) dX12_isCrowded_46 ⟨Nat.le_refl _, Nat.le_refl _⟩ rfl (fun H locs k18006 hW hS => ?_)
              refine lv_aload_n hx hb dX12_isCrowded_49 rfl (lv_at hl 0 rfl) ?_
              refine lv_iload hx hb dX12_isCrowded_50 (lv_at hl 4 rfl) ?_
              refine lv_iload_n hx hb dX12_isCrowded_52 rfl (lv_at hl 2 rfl) ?_
              obtain ⟨v18008, hc18007, hm⟩ := q_b1i hm
              refine q_callV C hW hS (As := [.int x4_18, .int x2_2]) (rest := [.int v18005]) (st1 := [.int v18008, .int v18005]) (c_X12_channel l D al dt x0_2 x4_18 x2_2 kx0_2 v18008 hc18007) yl_X12_channel vl_X12_channel ml_RX12_494 (ci := 12) rfl kx0_2 (by decide) rfl ⟨Nat.le_of_ble_eq_true rfl, Nat.le_of_ble_eq_true rfl⟩ hl rfl (Nat.le_of_ble_eq_true rfl) dX12_isCrowded_53 ⟨Nat.le_refl _, Nat.le_refl _⟩ rfl (fun H locs k18009 hW hS => ?_)
              refine q_ifc hm (fun c18010 hm => ?_) (fun c18010 hm => ?_)
              · refine lv_icmp_ne (tgt := 61) hx hb dX12_isCrowded_56 (by decide) (fun h => absurd c18010 h) (fun _ => ?_)
                refine lv_iconst (v := 1) hx hb dX12_isCrowded_59 (by decide) ?_
                exact e_zl C hW hS (Or.inr rfl) hm dX12_isCrowded_60
              refine lv_icmp_ne (tgt := 61) hx hb dX12_isCrowded_56 (by decide) (fun _ => ?_) (fun h => absurd h c18010)
              exact hB61 x4_18 _ _ _ hm hW hS (lv_sub hl [0, 1, 2, 3, 4] rfl)
            refine lv_icmp_ne (tgt := 61) hx hb dX12_isCrowded_40 (by decide) (fun _ => ?_) (fun h => absurd h c18003)
            exact hB61 x4_18 _ _ _ hm hW hS (lv_sub hl [0, 1, 2, 3, 4] rfl)
          refine lv_icmp_ne (tgt := 61) hx hb dX12_isCrowded_30 (by decide) (fun _ => ?_) (fun h => absurd h c18002)
          exact hB61 x4_18 _ _ _ hm hW hS (lv_sub hl [0, 1, 2, 3, 4] rfl)
      intro x3_2 H locs ls hm hW hS hl
      rw [X12_isCrowded_b2] at hm
      refine lv_iload_n hx hb dX12_isCrowded_2 rfl (lv_at hl 3 rfl) ?_
      refine lv_aload_n hx hb dX12_isCrowded_3 rfl (lv_at hl 0 rfl) ?_
      refine r_getF C hW (ci := 12) kx0_2 ff_12_27 cl_12 fl_RX12_58 dX12_isCrowded_4 (fun k2001 => ?_)
      refine lv_aload_n hx hb dX12_isCrowded_7 rfl (lv_at hl 0 rfl) ?_
      refine r_getI C hW (ci := 12) kx0_2 ff_12_18 cl_12 fl_RX12_242 dX12_isCrowded_8 ?_
      refine r_iald C hW hm k2001 dX12_isCrowded_11 (fun hm => ?_)
      refine q_ifc hm (fun c2002 hm => ?_) (fun c2002 hm => ?_)
      · refine lv_icmp_ge (tgt := 73) hx hb dX12_isCrowded_12 (by decide) (fun _ => ?_) (fun h => absurd c2002 h)
        refine lv_iconst (v := 0) hx hb dX12_isCrowded_73 (by decide) ?_
        exact e_zl C hW hS (Or.inl rfl) hm dX12_isCrowded_74
      refine lv_icmp_ge (tgt := 73) hx hb dX12_isCrowded_12 (by decide) (fun h => absurd h c2002) (fun _ => ?_)
      refine lv_iconst (v := 0) hx hb dX12_isCrowded_15 (by decide) ?_
      refine lv_istore (i := 4) (lv' := [(4, .int 0), (0, .ref x0_2), (1, .int x1_2), (2, .int x2_2), (3, .int x3_2)]) hx hb dX12_isCrowded_16 hl (by decide) rfl (fun ls hl => ?_)
      exact hB18 x3_2 q_FU 0 _ _ _ hm hW hS (lv_sub hl [1, 2, 3, 4, 0] rfl)
  refine lv_iconst (v := 0) hx hb dX12_isCrowded_0 (by decide) ?_
  refine lv_istore_n (i := 3) (lv' := [(3, .int 0), (0, .ref x0), (1, .int x1), (2, .int x2)]) hx hb dX12_isCrowded_1 rfl hl (by decide) rfl (fun ls hl => ?_)
  exact hB2 x0 x1 x2 kx0 q_FU 0 _ _ _ hm hW hS (lv_sub hl [1, 2, 3, 0] rfl)
theorem dX12_crowded_0 : decode cX12_crowded 0 = .ok (.iload_n 1, 1) := by decide +kernel
theorem dX12_crowded_1 : decode cX12_crowded 1 = .ok (.iconst 0, 1) := by decide +kernel
theorem dX12_crowded_2 : decode cX12_crowded 2 = .ok (.iconst 1, 1) := by decide +kernel
theorem dX12_crowded_3 : decode cX12_crowded 3 = .ok (.aload_n 0, 1) := by decide +kernel
theorem dX12_crowded_4 : decode cX12_crowded 4 = .ok (.getfield 58, 3) := by decide +kernel
theorem dX12_crowded_7 : decode cX12_crowded 7 = .ok (.aload_n 0, 1) := by decide +kernel
theorem dX12_crowded_8 : decode cX12_crowded 8 = .ok (.getfield 242, 3) := by decide +kernel
theorem dX12_crowded_11 : decode cX12_crowded 11 = .ok (.iaload, 1) := by decide +kernel
theorem dX12_crowded_12 : decode cX12_crowded 12 = .ok (.ishl, 1) := by decide +kernel
theorem dX12_crowded_13 : decode cX12_crowded 13 = .ok (.iconst 1, 1) := by decide +kernel
theorem dX12_crowded_14 : decode cX12_crowded 14 = .ok (.isub, 1) := by decide +kernel
theorem dX12_crowded_15 : decode cX12_crowded 15 = .ok (.invokestatic 376, 3) := by decide +kernel
theorem dX12_crowded_18 : decode cX12_crowded 18 = .ok (.ifCond .eq 25, 3) := by decide +kernel
theorem dX12_crowded_21 : decode cX12_crowded 21 = .ok (.iload_n 2, 1) := by decide +kernel
theorem dX12_crowded_22 : decode cX12_crowded 22 = .ok (.iconst 0, 1) := by decide +kernel
theorem dX12_crowded_23 : decode cX12_crowded 23 = .ok (.sipush 999, 3) := by decide +kernel
theorem dX12_crowded_26 : decode cX12_crowded 26 = .ok (.invokestatic 376, 3) := by decide +kernel
theorem dX12_crowded_29 : decode cX12_crowded 29 = .ok (.ifCond .eq 14, 3) := by decide +kernel
theorem dX12_crowded_32 : decode cX12_crowded 32 = .ok (.iload_n 3, 1) := by decide +kernel
theorem dX12_crowded_33 : decode cX12_crowded 33 = .ok (.iload_n 2, 1) := by decide +kernel
theorem dX12_crowded_34 : decode cX12_crowded 34 = .ok (.sipush 999, 3) := by decide +kernel
theorem dX12_crowded_37 : decode cX12_crowded 37 = .ok (.invokestatic 376, 3) := by decide +kernel
theorem dX12_crowded_40 : decode cX12_crowded 40 = .ok (.ifCond .ne 5, 3) := by decide +kernel
theorem dX12_crowded_43 : decode cX12_crowded 43 = .ok (.iconst (-1), 1) := by decide +kernel
theorem dX12_crowded_44 : decode cX12_crowded 44 = .ok (.ireturn, 1) := by decide +kernel
theorem dX12_crowded_45 : decode cX12_crowded 45 = .ok (.iconst 0, 1) := by decide +kernel
theorem dX12_crowded_46 : decode cX12_crowded 46 = .ok (.istore 4, 2) := by decide +kernel
theorem dX12_crowded_48 : decode cX12_crowded 48 = .ok (.iload_n 2, 1) := by decide +kernel
theorem dX12_crowded_49 : decode cX12_crowded 49 = .ok (.istore 5, 2) := by decide +kernel
theorem dX12_crowded_51 : decode cX12_crowded 51 = .ok (.iload 5, 2) := by decide +kernel
theorem dX12_crowded_53 : decode cX12_crowded 53 = .ok (.iload_n 3, 1) := by decide +kernel
theorem dX12_crowded_54 : decode cX12_crowded 54 = .ok (.if_icmp .gt 22, 3) := by decide +kernel
theorem dX12_crowded_57 : decode cX12_crowded 57 = .ok (.aload_n 0, 1) := by decide +kernel
theorem dX12_crowded_58 : decode cX12_crowded 58 = .ok (.iload_n 1, 1) := by decide +kernel
theorem dX12_crowded_59 : decode cX12_crowded 59 = .ok (.iload 5, 2) := by decide +kernel
theorem dX12_crowded_61 : decode cX12_crowded 61 = .ok (.invokevirtual 503, 3) := by decide +kernel
theorem dX12_crowded_64 : decode cX12_crowded 64 = .ok (.ifCond .eq 6, 3) := by decide +kernel
theorem dX12_crowded_67 : decode cX12_crowded 67 = .ok (.iinc 4 1, 3) := by decide +kernel
theorem dX12_crowded_70 : decode cX12_crowded 70 = .ok (.iinc 5 1, 3) := by decide +kernel
theorem dX12_crowded_73 : decode cX12_crowded 73 = .ok (.goto (-22), 3) := by decide +kernel
theorem dX12_crowded_76 : decode cX12_crowded 76 = .ok (.iload 4, 2) := by decide +kernel
theorem dX12_crowded_78 : decode cX12_crowded 78 = .ok (.ireturn, 1) := by decide +kernel
set_option maxRecDepth 100000 in
theorem c_X12_crowded (l : Launch) (D : q_D) (al : q_Al) (dt : q_Dt) (x0 : Nat) (x1 : Int32) (x2 : Int32) (x3 : Int32) (kx0 : al.1 x0 = 13) (r0 : Int32) (hm : X12_crowded al dt x0 x1 x2 x3 = some r0) : q_Mt l yX12_crowded cX12_crowded 6 (some FieldType.int) 3 68 D al [.ref x0, .int x1, .int x2, .int x3] dt 0 (some (.int r0)) dt := by
  refine q_Mt.of (by decide) (Nat.le_of_ble_eq_true rfl) ?_
  intro p e s m args below meth c ls C hargs hW hl
  have hx := C.1
  have hb := C.2.1
  have hown := C.2.2.2.2.2.1
  have hts := C.2.2.2.2.2.2.1
  have hS : va_S (q_A al) s.heap s.heap [] := va_S.rf
  have hl : lv_has ls 6 [(0, .ref x0), (1, .int x1), (2, .int x2), (3, .int x3)] := hl
  unfold X12_crowded at hm
  have hB51 : ∀ (x0_51 : Nat) (x1_51 : Int32) (x3_51 : Int32) (kx0_51 : al.1 x0_51 = 13) (n_51 : Nat) (x4_51 : Int32) (x5_51 : Int32) (H : Heap) (locs : List Loc) (ls : Array Slot) (hm : X12_crowded_b51 al dt x0_51 x1_51 x3_51 n_51 x4_51 x5_51 = some r0) (hW : q_W D al dt H) (hS : va_S (q_A al) s.heap H locs) (hl : lv_has ls 6 [(0, .ref x0_51), (1, .int x1_51), (3, .int x3_51), (4, .int x4_51), (5, .int x5_51)]), W p l e { frames := 3, cells := 0, slots := 0, locals := 68 } s m args below meth c H locs 0 0 (MQ below (q_Q (some (.int r0)) (fun H => q_W D al dt H ∧ q_Rk al 0 (some (.int r0))) (q_A al)) args s 0 0 (q_A al)) (F0 m 51 ls []) := by
    intro x0_51 x1_51 x3_51 kx0_51
    intro n_51
    induction n_51 with
    | zero => intro x4_51 x5_51 H locs ls hm hW hS hl; cases hm
    | succ n_51 ih51 =>
      have hB70 : ∀ (x4_70 : Int32) (x5_70 : Int32) (H : Heap) (locs : List Loc) (ls : Array Slot) (hm : X12_crowded_b70 al dt (X12_crowded_b51 al dt x0_51 x1_51 x3_51 n_51) x0_51 x1_51 x3_51 x4_70 x5_70 = some r0) (hW : q_W D al dt H) (hS : va_S (q_A al) s.heap H locs) (hl : lv_has ls 6 [(0, .ref x0_51), (1, .int x1_51), (3, .int x3_51), (4, .int x4_70), (5, .int x5_70)]), W p l e { frames := 3, cells := 0, slots := 0, locals := 68 } s m args below meth c H locs 0 0 (MQ below (q_Q (some (.int r0)) (fun H => q_W D al dt H ∧ q_Rk al 0 (some (.int r0))) (q_A al)) args s 0 0 (q_A al)) (F0 m 70 ls []) := by
        intro x4_70 x5_70 H locs ls hm hW hS hl
        unfold X12_crowded_b70 at hm
        refine lv_iinc (v := (x5_70 + 1)) (lv' := [(5, .int (x5_70 + 1)), (0, .ref x0_51), (1, .int x1_51), (3, .int x3_51), (4, .int x4_70)]) hx hb dX12_crowded_70 hl (k := 4) rfl rfl (by decide) rfl (fun ls hl => ?_)
        refine lv_goto (tgt := 51) hx hb dX12_crowded_73 (by decide) ?_
        exact ih51 x4_70 (x5_70 + 1) _ _ _ hm hW hS (lv_sub hl [1, 2, 3, 4, 0] rfl)
      intro x4_51 x5_51 H locs ls hm hW hS hl
      rw [X12_crowded_b51] at hm
      refine lv_iload hx hb dX12_crowded_51 (lv_at hl 4 rfl) ?_
      refine lv_iload_n hx hb dX12_crowded_53 rfl (lv_at hl 2 rfl) ?_
      refine q_ifc hm (fun c51001 hm => ?_) (fun c51001 hm => ?_)
      · refine lv_icmp_gt (tgt := 76) hx hb dX12_crowded_54 (by decide) (fun _ => ?_) (fun h => absurd c51001 h)
        refine lv_iload hx hb dX12_crowded_76 (lv_at hl 3 rfl) ?_
        exact e_i C hW hS hm dX12_crowded_78
      refine lv_icmp_gt (tgt := 76) hx hb dX12_crowded_54 (by decide) (fun h => absurd h c51001) (fun _ => ?_)
      refine lv_aload_n hx hb dX12_crowded_57 rfl (lv_at hl 0 rfl) ?_
      refine lv_iload_n hx hb dX12_crowded_58 rfl (lv_at hl 1 rfl) ?_
      refine lv_iload hx hb dX12_crowded_59 (lv_at hl 4 rfl) ?_
      obtain ⟨v51003, hc51002, hm⟩ := q_b1i hm
      refine q_callV C hW hS (As := [.int x1_51, .int x5_51]) (rest := []) (st1 := [.int v51003]) (c_X12_isCrowded l D al dt x0_51 x1_51 x5_51 kx0_51 v51003 hc51002) yl_X12_isCrowded vl_X12_isCrowded ml_RX12_503 (ci := 12) rfl kx0_51 (by decide) rfl ⟨Nat.le_of_ble_eq_true rfl, Nat.le_of_ble_eq_true rfl⟩ hl rfl (Nat.le_of_ble_eq_true rfl) dX12_crowded_61 ⟨Nat.le_refl _, Nat.le_refl _⟩ rfl (fun H locs k51004 hW hS => ?_)
      refine q_ifc hm (fun c51005 hm => ?_) (fun c51005 hm => ?_)
      · refine lv_if_eq (tgt := 70) hx hb dX12_crowded_64 (by decide) (fun _ => ?_) (fun h => absurd c51005 h)
        exact hB70 x4_51 x5_51 _ _ _ hm hW hS (lv_sub hl [0, 1, 2, 3, 4] rfl)
      refine lv_if_eq (tgt := 70) hx hb dX12_crowded_64 (by decide) (fun h => absurd h c51005) (fun _ => ?_)
      refine lv_iinc (v := (x4_51 + 1)) (lv' := [(4, .int (x4_51 + 1)), (0, .ref x0_51), (1, .int x1_51), (3, .int x3_51), (5, .int x5_51)]) hx hb dX12_crowded_67 hl (k := 3) rfl rfl (by decide) rfl (fun ls hl => ?_)
      exact hB70 (x4_51 + 1) x5_51 _ _ _ hm hW hS (lv_sub hl [1, 2, 3, 0, 4] rfl)
  refine lv_iload_n hx hb dX12_crowded_0 rfl (lv_at hl 1 rfl) ?_
  refine lv_iconst (v := 0) hx hb dX12_crowded_1 (by decide) ?_
  refine lv_iconst (v := 1) hx hb dX12_crowded_2 (by decide) ?_
  refine lv_aload_n hx hb dX12_crowded_3 rfl (lv_at hl 0 rfl) ?_
  refine r_getF C hW (ci := 12) kx0 ff_12_27 cl_12 fl_RX12_58 dX12_crowded_4 (fun k1000001 => ?_)
  refine lv_aload_n hx hb dX12_crowded_7 rfl (lv_at hl 0 rfl) ?_
  refine r_getI C hW (ci := 12) kx0 ff_12_18 cl_12 fl_RX12_242 dX12_crowded_8 ?_
  refine r_iald C hW hm k1000001 dX12_crowded_11 (fun hm => ?_)
  refine lv_ishl hx hb dX12_crowded_12 ?_
  refine lv_iconst (v := 1) hx hb dX12_crowded_13 (by decide) ?_
  refine lv_isub hx hb dX12_crowded_14 ?_
  obtain ⟨v1000003, hc1000002, hm⟩ := q_b1i hm
  refine q_callS C hW hS (As := [.int x1, .int 0, .int ((1 <<< ((dt.1 (al.2.2 x0 27) (Int32.toNatClampNeg (dt.1 x0 18))) &&& 31)) - 1)]) (rest := []) (st1 := [.int v1000003]) (c_X12_in l D al dt x1 0 ((1 <<< ((dt.1 (al.2.2 x0 27) (Int32.toNatClampNeg (dt.1 x0 18))) &&& 31)) - 1) v1000003 hc1000002) yl_X12_in sl_X12_in ml_RX12_376 rfl ⟨Nat.le_of_ble_eq_true rfl, Nat.le_of_ble_eq_true rfl⟩ hl rfl (Nat.le_of_ble_eq_true rfl) dX12_crowded_15 ⟨Nat.le_refl _, Nat.le_refl _⟩ rfl (fun H locs k1000004 hW hS => ?_)
  refine q_ifc hm (fun c1000005 hm => ?_) (fun c1000005 hm => ?_)
  · refine lv_if_eq (tgt := 43) hx hb dX12_crowded_18 (by decide) (fun _ => ?_) (fun h => absurd c1000005 h)
    refine lv_iconst (v := (-1)) hx hb dX12_crowded_43 (by decide) ?_
    exact e_i C hW hS hm dX12_crowded_44
  refine lv_if_eq (tgt := 43) hx hb dX12_crowded_18 (by decide) (fun h => absurd h c1000005) (fun _ => ?_)
  refine lv_iload_n hx hb dX12_crowded_21 rfl (lv_at hl 2 rfl) ?_
  refine lv_iconst (v := 0) hx hb dX12_crowded_22 (by decide) ?_
  refine lv_sipush (v := 999) hx hb dX12_crowded_23 (by decide) ?_
  obtain ⟨v1000007, hc1000006, hm⟩ := q_b1i hm
  refine q_callS C hW hS (As := [.int x2, .int 0, .int 999]) (rest := []) (st1 := [.int v1000007]) (c_X12_in l D al dt x2 0 999 v1000007 hc1000006) yl_X12_in sl_X12_in ml_RX12_376 rfl ⟨Nat.le_of_ble_eq_true rfl, Nat.le_of_ble_eq_true rfl⟩ hl rfl (Nat.le_of_ble_eq_true rfl) dX12_crowded_26 ⟨Nat.le_refl _, Nat.le_refl _⟩ rfl (fun H locs k1000008 hW hS => ?_)
  refine q_ifc hm (fun c1000009 hm => ?_) (fun c1000009 hm => ?_)
  · refine lv_if_eq (tgt := 43) hx hb dX12_crowded_29 (by decide) (fun _ => ?_) (fun h => absurd c1000009 h)
    refine lv_iconst (v := (-1)) hx hb dX12_crowded_43 (by decide) ?_
    exact e_i C hW hS hm dX12_crowded_44
  refine lv_if_eq (tgt := 43) hx hb dX12_crowded_29 (by decide) (fun h => absurd h c1000009) (fun _ => ?_)
  refine lv_iload_n hx hb dX12_crowded_32 rfl (lv_at hl 3 rfl) ?_
  refine lv_iload_n hx hb dX12_crowded_33 rfl (lv_at hl 2 rfl) ?_
  refine lv_sipush (v := 999) hx hb dX12_crowded_34 (by decide) ?_
  obtain ⟨v1000011, hc1000010, hm⟩ := q_b1i hm
  refine q_callS C hW hS (As := [.int x3, .int x2, .int 999]) (rest := []) (st1 := [.int v1000011]) (c_X12_in l D al dt x3 x2 999 v1000011 hc1000010) yl_X12_in sl_X12_in ml_RX12_376 rfl ⟨Nat.le_of_ble_eq_true rfl, Nat.le_of_ble_eq_true rfl⟩ hl rfl (Nat.le_of_ble_eq_true rfl) dX12_crowded_37 ⟨Nat.le_refl _, Nat.le_refl _⟩ rfl (fun H locs k1000012 hW hS => ?_)
  refine q_ifc hm (fun c1000013 hm => ?_) (fun c1000013 hm => ?_)
  · refine lv_if_ne (tgt := 45) hx hb dX12_crowded_40 (by decide) (fun h => absurd c1000013 h) (fun _ => ?_)
    refine lv_iconst (v := (-1)) hx hb dX12_crowded_43 (by decide) ?_
    exact e_i C hW hS hm dX12_crowded_44
  refine lv_if_ne (tgt := 45) hx hb dX12_crowded_40 (by decide) (fun _ => ?_) (fun h => absurd h c1000013)
  refine lv_iconst (v := 0) hx hb dX12_crowded_45 (by decide) ?_
  refine lv_istore (i := 4) (lv' := [(4, .int 0), (0, .ref x0), (1, .int x1), (2, .int x2), (3, .int x3)]) hx hb dX12_crowded_46 hl (by decide) rfl (fun ls hl => ?_)
  refine lv_iload_n hx hb dX12_crowded_48 rfl (lv_at hl 3 rfl) ?_
  refine lv_istore (i := 5) (lv' := [(5, .int x2), (4, .int 0), (0, .ref x0), (1, .int x1), (2, .int x2), (3, .int x3)]) hx hb dX12_crowded_49 hl (by decide) rfl (fun ls hl => ?_)
  exact hB51 x0 x1 x3 kx0 q_FU 0 x2 _ _ _ hm hW hS (lv_sub hl [2, 3, 5, 1, 0] rfl)
theorem dX12_jammed_0 : decode cX12_jammed 0 = .ok (.aload_n 0, 1) := by decide +kernel
theorem dX12_jammed_1 : decode cX12_jammed 1 = .ok (.iload_n 1, 1) := by decide +kernel
theorem dX12_jammed_2 : decode cX12_jammed 2 = .ok (.invokevirtual 491, 3) := by decide +kernel
theorem dX12_jammed_5 : decode cX12_jammed 5 = .ok (.ifCond .ne 5, 3) := by decide +kernel
theorem dX12_jammed_8 : decode cX12_jammed 8 = .ok (.iconst (-1), 1) := by decide +kernel
theorem dX12_jammed_9 : decode cX12_jammed 9 = .ok (.ireturn, 1) := by decide +kernel
theorem dX12_jammed_10 : decode cX12_jammed 10 = .ok (.iconst 0, 1) := by decide +kernel
theorem dX12_jammed_11 : decode cX12_jammed 11 = .ok (.istore_n 3, 1) := by decide +kernel
theorem dX12_jammed_12 : decode cX12_jammed 12 = .ok (.iconst 0, 1) := by decide +kernel
theorem dX12_jammed_13 : decode cX12_jammed 13 = .ok (.istore 4, 2) := by decide +kernel
theorem dX12_jammed_15 : decode cX12_jammed 15 = .ok (.iload 4, 2) := by decide +kernel
theorem dX12_jammed_17 : decode cX12_jammed 17 = .ok (.aload_n 0, 1) := by decide +kernel
theorem dX12_jammed_18 : decode cX12_jammed 18 = .ok (.iload_n 1, 1) := by decide +kernel
theorem dX12_jammed_19 : decode cX12_jammed 19 = .ok (.invokevirtual 488, 3) := by decide +kernel
theorem dX12_jammed_22 : decode cX12_jammed 22 = .ok (.if_icmp .ge 23, 3) := by decide +kernel
theorem dX12_jammed_25 : decode cX12_jammed 25 = .ok (.iload_n 3, 1) := by decide +kernel
theorem dX12_jammed_26 : decode cX12_jammed 26 = .ok (.iload_n 2, 1) := by decide +kernel
theorem dX12_jammed_27 : decode cX12_jammed 27 = .ok (.aload_n 0, 1) := by decide +kernel
theorem dX12_jammed_28 : decode cX12_jammed 28 = .ok (.iload_n 1, 1) := by decide +kernel
theorem dX12_jammed_29 : decode cX12_jammed 29 = .ok (.iload 4, 2) := by decide +kernel
theorem dX12_jammed_31 : decode cX12_jammed 31 = .ok (.invokevirtual 494, 3) := by decide +kernel
theorem dX12_jammed_34 : decode cX12_jammed 34 = .ok (.ishr, 1) := by decide +kernel
theorem dX12_jammed_35 : decode cX12_jammed 35 = .ok (.iconst 1, 1) := by decide +kernel
theorem dX12_jammed_36 : decode cX12_jammed 36 = .ok (.iand, 1) := by decide +kernel
theorem dX12_jammed_37 : decode cX12_jammed 37 = .ok (.iadd, 1) := by decide +kernel
theorem dX12_jammed_38 : decode cX12_jammed 38 = .ok (.istore_n 3, 1) := by decide +kernel
theorem dX12_jammed_39 : decode cX12_jammed 39 = .ok (.iinc 4 1, 3) := by decide +kernel
theorem dX12_jammed_42 : decode cX12_jammed 42 = .ok (.goto (-27), 3) := by decide +kernel
theorem dX12_jammed_45 : decode cX12_jammed 45 = .ok (.iload_n 3, 1) := by decide +kernel
theorem dX12_jammed_46 : decode cX12_jammed 46 = .ok (.ireturn, 1) := by decide +kernel
set_option maxRecDepth 100000 in
theorem c_X12_jammed (l : Launch) (D : q_D) (al : q_Al) (dt : q_Dt) (x0 : Nat) (x1 : Int32) (x2 : Int32) (kx0 : al.1 x0 = 13) (r0 : Int32) (hm : X12_jammed al dt x0 x1 x2 = some r0) : q_Mt l yX12_jammed cX12_jammed 5 (some FieldType.int) 2 44 D al [.ref x0, .int x1, .int x2] dt 0 (some (.int r0)) dt := by
  refine q_Mt.of (by decide) (Nat.le_of_ble_eq_true rfl) ?_
  intro p e s m args below meth c ls C hargs hW hl
  have hx := C.1
  have hb := C.2.1
  have hown := C.2.2.2.2.2.1
  have hts := C.2.2.2.2.2.2.1
  have hS : va_S (q_A al) s.heap s.heap [] := va_S.rf
  have hl : lv_has ls 5 [(0, .ref x0), (1, .int x1), (2, .int x2)] := hl
  unfold X12_jammed at hm
  have hB15 : ∀ (x0_15 : Nat) (x1_15 : Int32) (x2_15 : Int32) (kx0_15 : al.1 x0_15 = 13) (n_15 : Nat) (x3_15 : Int32) (x4_15 : Int32) (H : Heap) (locs : List Loc) (ls : Array Slot) (hm : X12_jammed_b15 al dt x0_15 x1_15 x2_15 n_15 x3_15 x4_15 = some r0) (hW : q_W D al dt H) (hS : va_S (q_A al) s.heap H locs) (hl : lv_has ls 5 [(0, .ref x0_15), (1, .int x1_15), (2, .int x2_15), (3, .int x3_15), (4, .int x4_15)]), W p l e { frames := 2, cells := 0, slots := 0, locals := 44 } s m args below meth c H locs 0 0 (MQ below (q_Q (some (.int r0)) (fun H => q_W D al dt H ∧ q_Rk al 0 (some (.int r0))) (q_A al)) args s 0 0 (q_A al)) (F0 m 15 ls []) := by
    intro x0_15 x1_15 x2_15 kx0_15
    intro n_15
    induction n_15 with
    | zero => intro x3_15 x4_15 H locs ls hm hW hS hl; cases hm
    | succ n_15 ih15 =>
      intro x3_15 x4_15 H locs ls hm hW hS hl
      rw [X12_jammed_b15] at hm
      refine lv_iload hx hb dX12_jammed_15 (lv_at hl 4 rfl) ?_
      refine lv_aload_n hx hb dX12_jammed_17 rfl (lv_at hl 0 rfl) ?_
      refine lv_iload_n hx hb dX12_jammed_18 rfl (lv_at hl 1 rfl) ?_
      obtain ⟨v15002, hc15001, hm⟩ := q_b1i hm
      refine q_callV C hW hS (As := [.int x1_15]) (rest := [.int x4_15]) (st1 := [.int v15002, .int x4_15]) (c_X12_p l D al dt x0_15 x1_15 kx0_15 v15002 hc15001) yl_X12_p vl_X12_p ml_RX12_488 (ci := 12) rfl kx0_15 (by decide) rfl ⟨Nat.le_of_ble_eq_true rfl, Nat.le_of_ble_eq_true rfl⟩ hl rfl (Nat.le_of_ble_eq_true rfl) dX12_jammed_19 ⟨Nat.le_refl _, Nat.le_refl _⟩ rfl (fun H locs k15003 hW hS => ?_)
      refine q_ifc hm (fun c15004 hm => ?_) (fun c15004 hm => ?_)
      · refine lv_icmp_ge (tgt := 45) hx hb dX12_jammed_22 (by decide) (fun _ => ?_) (fun h => absurd c15004 h)
        refine lv_iload_n hx hb dX12_jammed_45 rfl (lv_at hl 3 rfl) ?_
        exact e_i C hW hS hm dX12_jammed_46
      refine lv_icmp_ge (tgt := 45) hx hb dX12_jammed_22 (by decide) (fun h => absurd h c15004) (fun _ => ?_)
      refine lv_iload_n hx hb dX12_jammed_25 rfl (lv_at hl 3 rfl) ?_
      refine lv_iload_n hx hb dX12_jammed_26 rfl (lv_at hl 2 rfl) ?_
      refine lv_aload_n hx hb dX12_jammed_27 rfl (lv_at hl 0 rfl) ?_
      refine lv_iload_n hx hb dX12_jammed_28 rfl (lv_at hl 1 rfl) ?_
      refine lv_iload hx hb dX12_jammed_29 (lv_at hl 4 rfl) ?_
      obtain ⟨v15006, hc15005, hm⟩ := q_b1i hm
      refine q_callV C hW hS (As := [.int x1_15, .int x4_15]) (rest := [.int x2_15, .int x3_15]) (st1 := [.int v15006, .int x2_15, .int x3_15]) (c_X12_channel l D al dt x0_15 x1_15 x4_15 kx0_15 v15006 hc15005) yl_X12_channel vl_X12_channel ml_RX12_494 (ci := 12) rfl kx0_15 (by decide) rfl ⟨Nat.le_of_ble_eq_true rfl, Nat.le_of_ble_eq_true rfl⟩ hl rfl (Nat.le_of_ble_eq_true rfl) dX12_jammed_31 ⟨Nat.le_refl _, Nat.le_refl _⟩ rfl (fun H locs k15007 hW hS => ?_)
      refine lv_ishr hx hb dX12_jammed_34 ?_
      refine lv_iconst (v := 1) hx hb dX12_jammed_35 (by decide) ?_
      refine lv_iand hx hb dX12_jammed_36 ?_
      refine lv_iadd hx hb dX12_jammed_37 ?_
      refine q_nmI hm (fun v15008 ev15008 hm => ?_)
      refine lv_istore_n (i := 3) (lv' := [(3, .int v15008), (0, .ref x0_15), (1, .int x1_15), (2, .int x2_15), (4, .int x4_15)]) hx hb dX12_jammed_38 rfl hl (by decide) rfl (fun ls hl => ?_)
      refine lv_iinc (v := (x4_15 + 1)) (lv' := [(4, .int (x4_15 + 1)), (3, .int v15008), (0, .ref x0_15), (1, .int x1_15), (2, .int x2_15)]) hx hb dX12_jammed_39 hl (k := 4) rfl rfl (by decide) rfl (fun ls hl => ?_)
      refine lv_goto (tgt := 15) hx hb dX12_jammed_42 (by decide) ?_
      exact ih15 v15008 (x4_15 + 1) _ _ _ hm hW hS (lv_sub hl [2, 3, 4, 1, 0] rfl)
  refine lv_aload_n hx hb dX12_jammed_0 rfl (lv_at hl 0 rfl) ?_
  refine lv_iload_n hx hb dX12_jammed_1 rfl (lv_at hl 1 rfl) ?_
  obtain ⟨v1000002, hc1000001, hm⟩ := q_b1i hm
  refine q_callV C hW hS (As := [.int x1]) (rest := []) (st1 := [.int v1000002]) (c_X12_isHop l D al dt x0 x1 kx0 v1000002 hc1000001) yl_X12_isHop vl_X12_isHop ml_RX12_491 (ci := 12) rfl kx0 (by decide) rfl ⟨Nat.le_of_ble_eq_true rfl, Nat.le_of_ble_eq_true rfl⟩ hl rfl (Nat.le_of_ble_eq_true rfl) dX12_jammed_2 ⟨Nat.le_refl _, Nat.le_refl _⟩ rfl (fun H locs k1000003 hW hS => ?_)
  refine q_ifc hm (fun c1000004 hm => ?_) (fun c1000004 hm => ?_)
  · refine lv_if_ne (tgt := 10) hx hb dX12_jammed_5 (by decide) (fun h => absurd c1000004 h) (fun _ => ?_)
    refine lv_iconst (v := (-1)) hx hb dX12_jammed_8 (by decide) ?_
    exact e_i C hW hS hm dX12_jammed_9
  refine lv_if_ne (tgt := 10) hx hb dX12_jammed_5 (by decide) (fun _ => ?_) (fun h => absurd h c1000004)
  refine lv_iconst (v := 0) hx hb dX12_jammed_10 (by decide) ?_
  refine lv_istore_n (i := 3) (lv' := [(3, .int 0), (0, .ref x0), (1, .int x1), (2, .int x2)]) hx hb dX12_jammed_11 rfl hl (by decide) rfl (fun ls hl => ?_)
  refine lv_iconst (v := 0) hx hb dX12_jammed_12 (by decide) ?_
  refine lv_istore (i := 4) (lv' := [(4, .int 0), (3, .int 0), (0, .ref x0), (1, .int x1), (2, .int x2)]) hx hb dX12_jammed_13 hl (by decide) rfl (fun ls hl => ?_)
  exact hB15 x0 x1 x2 kx0 q_FU 0 0 _ _ _ hm hW hS (lv_sub hl [2, 3, 4, 1, 0] rfl)
theorem dX12_slotsOn_0 : decode cX12_slotsOn 0 = .ok (.iconst 0, 1) := by decide +kernel
theorem dX12_slotsOn_1 : decode cX12_slotsOn 1 = .ok (.istore_n 3, 1) := by decide +kernel
theorem dX12_slotsOn_2 : decode cX12_slotsOn 2 = .ok (.iconst 0, 1) := by decide +kernel
theorem dX12_slotsOn_3 : decode cX12_slotsOn 3 = .ok (.istore 4, 2) := by decide +kernel
theorem dX12_slotsOn_5 : decode cX12_slotsOn 5 = .ok (.iload 4, 2) := by decide +kernel
theorem dX12_slotsOn_7 : decode cX12_slotsOn 7 = .ok (.aload_n 0, 1) := by decide +kernel
theorem dX12_slotsOn_8 : decode cX12_slotsOn 8 = .ok (.iload_n 1, 1) := by decide +kernel
theorem dX12_slotsOn_9 : decode cX12_slotsOn 9 = .ok (.invokevirtual 488, 3) := by decide +kernel
theorem dX12_slotsOn_12 : decode cX12_slotsOn 12 = .ok (.if_icmp .ge 23, 3) := by decide +kernel
theorem dX12_slotsOn_15 : decode cX12_slotsOn 15 = .ok (.aload_n 0, 1) := by decide +kernel
theorem dX12_slotsOn_16 : decode cX12_slotsOn 16 = .ok (.iload_n 1, 1) := by decide +kernel
theorem dX12_slotsOn_17 : decode cX12_slotsOn 17 = .ok (.iload 4, 2) := by decide +kernel
theorem dX12_slotsOn_19 : decode cX12_slotsOn 19 = .ok (.invokevirtual 494, 3) := by decide +kernel
theorem dX12_slotsOn_22 : decode cX12_slotsOn 22 = .ok (.iload_n 2, 1) := by decide +kernel
theorem dX12_slotsOn_23 : decode cX12_slotsOn 23 = .ok (.if_icmp .ne 6, 3) := by decide +kernel
theorem dX12_slotsOn_26 : decode cX12_slotsOn 26 = .ok (.iinc 3 1, 3) := by decide +kernel
theorem dX12_slotsOn_29 : decode cX12_slotsOn 29 = .ok (.iinc 4 1, 3) := by decide +kernel
theorem dX12_slotsOn_32 : decode cX12_slotsOn 32 = .ok (.goto (-27), 3) := by decide +kernel
theorem dX12_slotsOn_35 : decode cX12_slotsOn 35 = .ok (.iload_n 3, 1) := by decide +kernel
theorem dX12_slotsOn_36 : decode cX12_slotsOn 36 = .ok (.ireturn, 1) := by decide +kernel
set_option maxRecDepth 100000 in
theorem c_X12_slotsOn (l : Launch) (D : q_D) (al : q_Al) (dt : q_Dt) (x0 : Nat) (x1 : Int32) (x2 : Int32) (kx0 : al.1 x0 = 13) (r0 : Int32) (hm : X12_slotsOn al dt x0 x1 x2 = some r0) : q_Mt l yX12_slotsOn cX12_slotsOn 5 (some FieldType.int) 2 44 D al [.ref x0, .int x1, .int x2] dt 0 (some (.int r0)) dt := by
  refine q_Mt.of (by decide) (Nat.le_of_ble_eq_true rfl) ?_
  intro p e s m args below meth c ls C hargs hW hl
  have hx := C.1
  have hb := C.2.1
  have hown := C.2.2.2.2.2.1
  have hts := C.2.2.2.2.2.2.1
  have hS : va_S (q_A al) s.heap s.heap [] := va_S.rf
  have hl : lv_has ls 5 [(0, .ref x0), (1, .int x1), (2, .int x2)] := hl
  unfold X12_slotsOn at hm
  have hB5 : ∀ (x0_5 : Nat) (x1_5 : Int32) (x2_5 : Int32) (kx0_5 : al.1 x0_5 = 13) (n_5 : Nat) (x3_5 : Int32) (x4_5 : Int32) (H : Heap) (locs : List Loc) (ls : Array Slot) (hm : X12_slotsOn_b5 al dt x0_5 x1_5 x2_5 n_5 x3_5 x4_5 = some r0) (hW : q_W D al dt H) (hS : va_S (q_A al) s.heap H locs) (hl : lv_has ls 5 [(0, .ref x0_5), (1, .int x1_5), (2, .int x2_5), (3, .int x3_5), (4, .int x4_5)]), W p l e { frames := 2, cells := 0, slots := 0, locals := 44 } s m args below meth c H locs 0 0 (MQ below (q_Q (some (.int r0)) (fun H => q_W D al dt H ∧ q_Rk al 0 (some (.int r0))) (q_A al)) args s 0 0 (q_A al)) (F0 m 5 ls []) := by
    intro x0_5 x1_5 x2_5 kx0_5
    intro n_5
    induction n_5 with
    | zero => intro x3_5 x4_5 H locs ls hm hW hS hl; cases hm
    | succ n_5 ih5 =>
      have hB29 : ∀ (x3_29 : Int32) (x4_29 : Int32) (H : Heap) (locs : List Loc) (ls : Array Slot) (hm : X12_slotsOn_b29 al dt (X12_slotsOn_b5 al dt x0_5 x1_5 x2_5 n_5) x0_5 x1_5 x2_5 x3_29 x4_29 = some r0) (hW : q_W D al dt H) (hS : va_S (q_A al) s.heap H locs) (hl : lv_has ls 5 [(0, .ref x0_5), (1, .int x1_5), (2, .int x2_5), (3, .int x3_29), (4, .int x4_29)]), W p l e { frames := 2, cells := 0, slots := 0, locals := 44 } s m args below meth c H locs 0 0 (MQ below (q_Q (some (.int r0)) (fun H => q_W D al dt H ∧ q_Rk al 0 (some (.int r0))) (q_A al)) args s 0 0 (q_A al)) (F0 m 29 ls []) := by
        intro x3_29 x4_29 H locs ls hm hW hS hl
        unfold X12_slotsOn_b29 at hm
        refine lv_iinc (v := (x4_29 + 1)) (lv' := [(4, .int (x4_29 + 1)), (0, .ref x0_5), (1, .int x1_5), (2, .int x2_5), (3, .int x3_29)]) hx hb dX12_slotsOn_29 hl (k := 4) rfl rfl (by decide) rfl (fun ls hl => ?_)
        refine lv_goto (tgt := 5) hx hb dX12_slotsOn_32 (by decide) ?_
        exact ih5 x3_29 (x4_29 + 1) _ _ _ hm hW hS (lv_sub hl [1, 2, 3, 4, 0] rfl)
      intro x3_5 x4_5 H locs ls hm hW hS hl
      rw [X12_slotsOn_b5] at hm
      refine lv_iload hx hb dX12_slotsOn_5 (lv_at hl 4 rfl) ?_
      refine lv_aload_n hx hb dX12_slotsOn_7 rfl (lv_at hl 0 rfl) ?_
      refine lv_iload_n hx hb dX12_slotsOn_8 rfl (lv_at hl 1 rfl) ?_
      obtain ⟨v5002, hc5001, hm⟩ := q_b1i hm
      refine q_callV C hW hS (As := [.int x1_5]) (rest := [.int x4_5]) (st1 := [.int v5002, .int x4_5]) (c_X12_p l D al dt x0_5 x1_5 kx0_5 v5002 hc5001) yl_X12_p vl_X12_p ml_RX12_488 (ci := 12) rfl kx0_5 (by decide) rfl ⟨Nat.le_of_ble_eq_true rfl, Nat.le_of_ble_eq_true rfl⟩ hl rfl (Nat.le_of_ble_eq_true rfl) dX12_slotsOn_9 ⟨Nat.le_refl _, Nat.le_refl _⟩ rfl (fun H locs k5003 hW hS => ?_)
      refine q_ifc hm (fun c5004 hm => ?_) (fun c5004 hm => ?_)
      · refine lv_icmp_ge (tgt := 35) hx hb dX12_slotsOn_12 (by decide) (fun _ => ?_) (fun h => absurd c5004 h)
        refine lv_iload_n hx hb dX12_slotsOn_35 rfl (lv_at hl 3 rfl) ?_
        exact e_i C hW hS hm dX12_slotsOn_36
      refine lv_icmp_ge (tgt := 35) hx hb dX12_slotsOn_12 (by decide) (fun h => absurd h c5004) (fun _ => ?_)
      refine lv_aload_n hx hb dX12_slotsOn_15 rfl (lv_at hl 0 rfl) ?_
      refine lv_iload_n hx hb dX12_slotsOn_16 rfl (lv_at hl 1 rfl) ?_
      refine lv_iload hx hb dX12_slotsOn_17 (lv_at hl 4 rfl) ?_
      obtain ⟨v5006, hc5005, hm⟩ := q_b1i hm
      refine q_callV C hW hS (As := [.int x1_5, .int x4_5]) (rest := []) (st1 := [.int v5006]) (c_X12_channel l D al dt x0_5 x1_5 x4_5 kx0_5 v5006 hc5005) yl_X12_channel vl_X12_channel ml_RX12_494 (ci := 12) rfl kx0_5 (by decide) rfl ⟨Nat.le_of_ble_eq_true rfl, Nat.le_of_ble_eq_true rfl⟩ hl rfl (Nat.le_of_ble_eq_true rfl) dX12_slotsOn_19 ⟨Nat.le_refl _, Nat.le_refl _⟩ rfl (fun H locs k5007 hW hS => ?_)
      refine lv_iload_n hx hb dX12_slotsOn_22 rfl (lv_at hl 2 rfl) ?_
      refine q_ifc hm (fun c5008 hm => ?_) (fun c5008 hm => ?_)
      · refine lv_icmp_ne (tgt := 29) hx hb dX12_slotsOn_23 (by decide) (fun h => absurd c5008 h) (fun _ => ?_)
        refine lv_iinc (v := (x3_5 + 1)) (lv' := [(3, .int (x3_5 + 1)), (0, .ref x0_5), (1, .int x1_5), (2, .int x2_5), (4, .int x4_5)]) hx hb dX12_slotsOn_26 hl (k := 3) rfl rfl (by decide) rfl (fun ls hl => ?_)
        exact hB29 (x3_5 + 1) x4_5 _ _ _ hm hW hS (lv_sub hl [1, 2, 3, 0, 4] rfl)
      refine lv_icmp_ne (tgt := 29) hx hb dX12_slotsOn_23 (by decide) (fun _ => ?_) (fun h => absurd h c5008)
      exact hB29 x3_5 x4_5 _ _ _ hm hW hS (lv_sub hl [0, 1, 2, 3, 4] rfl)
  refine lv_iconst (v := 0) hx hb dX12_slotsOn_0 (by decide) ?_
  refine lv_istore_n (i := 3) (lv' := [(3, .int 0), (0, .ref x0), (1, .int x1), (2, .int x2)]) hx hb dX12_slotsOn_1 rfl hl (by decide) rfl (fun ls hl => ?_)
  refine lv_iconst (v := 0) hx hb dX12_slotsOn_2 (by decide) ?_
  refine lv_istore (i := 4) (lv' := [(4, .int 0), (3, .int 0), (0, .ref x0), (1, .int x1), (2, .int x2)]) hx hb dX12_slotsOn_3 hl (by decide) rfl (fun ls hl => ?_)
  exact hB5 x0 x1 x2 kx0 q_FU 0 0 _ _ _ hm hW hS (lv_sub hl [2, 3, 4, 1, 0] rfl)
theorem dX12_strongest_0 : decode cX12_strongest 0 = .ok (.aload_n 0, 1) := by decide +kernel
theorem dX12_strongest_1 : decode cX12_strongest 1 = .ok (.iload_n 1, 1) := by decide +kernel
theorem dX12_strongest_2 : decode cX12_strongest 2 = .ok (.invokevirtual 491, 3) := by decide +kernel
theorem dX12_strongest_5 : decode cX12_strongest 5 = .ok (.ifCond .eq 16, 3) := by decide +kernel
theorem dX12_strongest_8 : decode cX12_strongest 8 = .ok (.iload_n 2, 1) := by decide +kernel
theorem dX12_strongest_9 : decode cX12_strongest 9 = .ok (.iconst 0, 1) := by decide +kernel
theorem dX12_strongest_10 : decode cX12_strongest 10 = .ok (.aload_n 0, 1) := by decide +kernel
theorem dX12_strongest_11 : decode cX12_strongest 11 = .ok (.iload_n 1, 1) := by decide +kernel
theorem dX12_strongest_12 : decode cX12_strongest 12 = .ok (.invokevirtual 488, 3) := by decide +kernel
theorem dX12_strongest_15 : decode cX12_strongest 15 = .ok (.invokestatic 376, 3) := by decide +kernel
theorem dX12_strongest_18 : decode cX12_strongest 18 = .ok (.ifCond .ne 5, 3) := by decide +kernel
theorem dX12_strongest_21 : decode cX12_strongest 21 = .ok (.iconst (-1), 1) := by decide +kernel
theorem dX12_strongest_22 : decode cX12_strongest 22 = .ok (.ireturn, 1) := by decide +kernel
theorem dX12_strongest_23 : decode cX12_strongest 23 = .ok (.iconst 0, 1) := by decide +kernel
theorem dX12_strongest_24 : decode cX12_strongest 24 = .ok (.istore_n 3, 1) := by decide +kernel
theorem dX12_strongest_25 : decode cX12_strongest 25 = .ok (.iconst 0, 1) := by decide +kernel
theorem dX12_strongest_26 : decode cX12_strongest 26 = .ok (.istore 4, 2) := by decide +kernel
theorem dX12_strongest_28 : decode cX12_strongest 28 = .ok (.iload 4, 2) := by decide +kernel
theorem dX12_strongest_30 : decode cX12_strongest 30 = .ok (.iload_n 2, 1) := by decide +kernel
theorem dX12_strongest_31 : decode cX12_strongest 31 = .ok (.if_icmp .ge 78, 3) := by decide +kernel
theorem dX12_strongest_34 : decode cX12_strongest 34 = .ok (.iconst (-1), 1) := by decide +kernel
theorem dX12_strongest_35 : decode cX12_strongest 35 = .ok (.istore 5, 2) := by decide +kernel
theorem dX12_strongest_37 : decode cX12_strongest 37 = .ok (.iconst 0, 1) := by decide +kernel
theorem dX12_strongest_38 : decode cX12_strongest 38 = .ok (.istore 6, 2) := by decide +kernel
theorem dX12_strongest_40 : decode cX12_strongest 40 = .ok (.iload 6, 2) := by decide +kernel
theorem dX12_strongest_42 : decode cX12_strongest 42 = .ok (.aload_n 0, 1) := by decide +kernel
theorem dX12_strongest_43 : decode cX12_strongest 43 = .ok (.iload_n 1, 1) := by decide +kernel
theorem dX12_strongest_44 : decode cX12_strongest 44 = .ok (.invokevirtual 488, 3) := by decide +kernel
theorem dX12_strongest_47 : decode cX12_strongest 47 = .ok (.if_icmp .ge 49, 3) := by decide +kernel
theorem dX12_strongest_50 : decode cX12_strongest 50 = .ok (.iload_n 3, 1) := by decide +kernel
theorem dX12_strongest_51 : decode cX12_strongest 51 = .ok (.iload 6, 2) := by decide +kernel
theorem dX12_strongest_53 : decode cX12_strongest 53 = .ok (.ishr, 1) := by decide +kernel
theorem dX12_strongest_54 : decode cX12_strongest 54 = .ok (.iconst 1, 1) := by decide +kernel
theorem dX12_strongest_55 : decode cX12_strongest 55 = .ok (.iand, 1) := by decide +kernel
theorem dX12_strongest_56 : decode cX12_strongest 56 = .ok (.iconst 1, 1) := by decide +kernel
theorem dX12_strongest_57 : decode cX12_strongest 57 = .ok (.if_icmp .ne 6, 3) := by decide +kernel
theorem dX12_strongest_60 : decode cX12_strongest 60 = .ok (.goto 30, 3) := by decide +kernel
theorem dX12_strongest_63 : decode cX12_strongest 63 = .ok (.iload 5, 2) := by decide +kernel
theorem dX12_strongest_65 : decode cX12_strongest 65 = .ok (.iconst (-1), 1) := by decide +kernel
theorem dX12_strongest_66 : decode cX12_strongest 66 = .ok (.if_icmp .eq 20, 3) := by decide +kernel
theorem dX12_strongest_69 : decode cX12_strongest 69 = .ok (.aload_n 0, 1) := by decide +kernel
theorem dX12_strongest_70 : decode cX12_strongest 70 = .ok (.iload_n 1, 1) := by decide +kernel
theorem dX12_strongest_71 : decode cX12_strongest 71 = .ok (.iload 6, 2) := by decide +kernel
theorem dX12_strongest_73 : decode cX12_strongest 73 = .ok (.invokevirtual 506, 3) := by decide +kernel
theorem dX12_strongest_76 : decode cX12_strongest 76 = .ok (.aload_n 0, 1) := by decide +kernel
theorem dX12_strongest_77 : decode cX12_strongest 77 = .ok (.iload_n 1, 1) := by decide +kernel
theorem dX12_strongest_78 : decode cX12_strongest 78 = .ok (.iload 5, 2) := by decide +kernel
theorem dX12_strongest_80 : decode cX12_strongest 80 = .ok (.invokevirtual 506, 3) := by decide +kernel
theorem dX12_strongest_83 : decode cX12_strongest 83 = .ok (.if_icmp .le 7, 3) := by decide +kernel
theorem dX12_strongest_86 : decode cX12_strongest 86 = .ok (.iload 6, 2) := by decide +kernel
theorem dX12_strongest_88 : decode cX12_strongest 88 = .ok (.istore 5, 2) := by decide +kernel
theorem dX12_strongest_90 : decode cX12_strongest 90 = .ok (.iinc 6 1, 3) := by decide +kernel
theorem dX12_strongest_93 : decode cX12_strongest 93 = .ok (.goto (-53), 3) := by decide +kernel
theorem dX12_strongest_96 : decode cX12_strongest 96 = .ok (.iload_n 3, 1) := by decide +kernel
theorem dX12_strongest_97 : decode cX12_strongest 97 = .ok (.iconst 1, 1) := by decide +kernel
theorem dX12_strongest_98 : decode cX12_strongest 98 = .ok (.iload 5, 2) := by decide +kernel
theorem dX12_strongest_100 : decode cX12_strongest 100 = .ok (.ishl, 1) := by decide +kernel
theorem dX12_strongest_101 : decode cX12_strongest 101 = .ok (.ior, 1) := by decide +kernel
theorem dX12_strongest_102 : decode cX12_strongest 102 = .ok (.istore_n 3, 1) := by decide +kernel
theorem dX12_strongest_103 : decode cX12_strongest 103 = .ok (.iinc 4 1, 3) := by decide +kernel
theorem dX12_strongest_106 : decode cX12_strongest 106 = .ok (.goto (-78), 3) := by decide +kernel
theorem dX12_strongest_109 : decode cX12_strongest 109 = .ok (.iload_n 3, 1) := by decide +kernel
theorem dX12_strongest_110 : decode cX12_strongest 110 = .ok (.ireturn, 1) := by decide +kernel
set_option maxRecDepth 100000 in
theorem c_X12_strongest (l : Launch) (D : q_D) (al : q_Al) (dt : q_Dt) (x0 : Nat) (x1 : Int32) (x2 : Int32) (kx0 : al.1 x0 = 13) (r0 : Int32) (hm : X12_strongest al dt x0 x1 x2 = some r0) : q_Mt l yX12_strongest cX12_strongest 7 (some FieldType.int) 3 68 D al [.ref x0, .int x1, .int x2] dt 0 (some (.int r0)) dt := by
  refine q_Mt.of (by decide) (Nat.le_of_ble_eq_true rfl) ?_
  intro p e s m args below meth c ls C hargs hW hl
  have hx := C.1
  have hb := C.2.1
  have hown := C.2.2.2.2.2.1
  have hts := C.2.2.2.2.2.2.1
  have hS : va_S (q_A al) s.heap s.heap [] := va_S.rf
  have hl : lv_has ls 7 [(0, .ref x0), (1, .int x1), (2, .int x2)] := hl
  unfold X12_strongest at hm
  have hB28 : ∀ (x0_28 : Nat) (x1_28 : Int32) (x2_28 : Int32) (kx0_28 : al.1 x0_28 = 13) (n_28 : Nat) (x3_28 : Int32) (x4_28 : Int32) (H : Heap) (locs : List Loc) (ls : Array Slot) (hm : X12_strongest_b28 al dt x0_28 x1_28 x2_28 n_28 x3_28 x4_28 = some r0) (hW : q_W D al dt H) (hS : va_S (q_A al) s.heap H locs) (hl : lv_has ls 7 [(0, .ref x0_28), (1, .int x1_28), (2, .int x2_28), (3, .int x3_28), (4, .int x4_28)]), W p l e { frames := 3, cells := 0, slots := 0, locals := 68 } s m args below meth c H locs 0 0 (MQ below (q_Q (some (.int r0)) (fun H => q_W D al dt H ∧ q_Rk al 0 (some (.int r0))) (q_A al)) args s 0 0 (q_A al)) (F0 m 28 ls []) := by
    intro x0_28 x1_28 x2_28 kx0_28
    intro n_28
    induction n_28 with
    | zero => intro x3_28 x4_28 H locs ls hm hW hS hl; cases hm
    | succ n_28 ih28 =>
      have hB40 : ∀ (x3_40 : Int32) (x4_40 : Int32) (n_40 : Nat) (x5_40 : Int32) (x6_40 : Int32) (H : Heap) (locs : List Loc) (ls : Array Slot) (hm : X12_strongest_b40 al dt (X12_strongest_b28 al dt x0_28 x1_28 x2_28 n_28) x0_28 x1_28 x2_28 x3_40 x4_40 n_40 x5_40 x6_40 = some r0) (hW : q_W D al dt H) (hS : va_S (q_A al) s.heap H locs) (hl : lv_has ls 7 [(0, .ref x0_28), (1, .int x1_28), (2, .int x2_28), (3, .int x3_40), (4, .int x4_40), (5, .int x5_40), (6, .int x6_40)]), W p l e { frames := 3, cells := 0, slots := 0, locals := 68 } s m args below meth c H locs 0 0 (MQ below (q_Q (some (.int r0)) (fun H => q_W D al dt H ∧ q_Rk al 0 (some (.int r0))) (q_A al)) args s 0 0 (q_A al)) (F0 m 40 ls []) := by
        intro x3_40 x4_40
        intro n_40
        induction n_40 with
        | zero => intro x5_40 x6_40 H locs ls hm hW hS hl; cases hm
        | succ n_40 ih40 =>
          have hB90 : ∀ (x5_90 : Int32) (x6_90 : Int32) (H : Heap) (locs : List Loc) (ls : Array Slot) (hm : X12_strongest_b90 al dt (X12_strongest_b28 al dt x0_28 x1_28 x2_28 n_28) (X12_strongest_b40 al dt (X12_strongest_b28 al dt x0_28 x1_28 x2_28 n_28) x0_28 x1_28 x2_28 x3_40 x4_40 n_40) x0_28 x1_28 x2_28 x3_40 x4_40 x5_90 x6_90 = some r0) (hW : q_W D al dt H) (hS : va_S (q_A al) s.heap H locs) (hl : lv_has ls 7 [(0, .ref x0_28), (1, .int x1_28), (2, .int x2_28), (3, .int x3_40), (4, .int x4_40), (5, .int x5_90), (6, .int x6_90)]), W p l e { frames := 3, cells := 0, slots := 0, locals := 68 } s m args below meth c H locs 0 0 (MQ below (q_Q (some (.int r0)) (fun H => q_W D al dt H ∧ q_Rk al 0 (some (.int r0))) (q_A al)) args s 0 0 (q_A al)) (F0 m 90 ls []) := by
            intro x5_90 x6_90 H locs ls hm hW hS hl
            unfold X12_strongest_b90 at hm
            refine lv_iinc (v := (x6_90 + 1)) (lv' := [(6, .int (x6_90 + 1)), (0, .ref x0_28), (1, .int x1_28), (2, .int x2_28), (3, .int x3_40), (4, .int x4_40), (5, .int x5_90)]) hx hb dX12_strongest_90 hl (k := 6) rfl rfl (by decide) rfl (fun ls hl => ?_)
            refine lv_goto (tgt := 40) hx hb dX12_strongest_93 (by decide) ?_
            exact ih40 x5_90 (x6_90 + 1) _ _ _ hm hW hS (lv_sub hl [1, 2, 3, 4, 5, 6, 0] rfl)
          have hB86 : ∀ (x6_86 : Int32) (H : Heap) (locs : List Loc) (ls : Array Slot) (hm : X12_strongest_b86 al dt (X12_strongest_b28 al dt x0_28 x1_28 x2_28 n_28) (X12_strongest_b40 al dt (X12_strongest_b28 al dt x0_28 x1_28 x2_28 n_28) x0_28 x1_28 x2_28 x3_40 x4_40 n_40) x0_28 x1_28 x2_28 x3_40 x4_40 x6_86 = some r0) (hW : q_W D al dt H) (hS : va_S (q_A al) s.heap H locs) (hl : lv_has ls 7 [(0, .ref x0_28), (1, .int x1_28), (2, .int x2_28), (3, .int x3_40), (4, .int x4_40), (6, .int x6_86)]), W p l e { frames := 3, cells := 0, slots := 0, locals := 68 } s m args below meth c H locs 0 0 (MQ below (q_Q (some (.int r0)) (fun H => q_W D al dt H ∧ q_Rk al 0 (some (.int r0))) (q_A al)) args s 0 0 (q_A al)) (F0 m 86 ls []) := by
            intro x6_86 H locs ls hm hW hS hl
            unfold X12_strongest_b86 at hm
            refine lv_iload hx hb dX12_strongest_86 (lv_at hl 5 rfl) ?_
            refine lv_istore (i := 5) (lv' := [(5, .int x6_86), (0, .ref x0_28), (1, .int x1_28), (2, .int x2_28), (3, .int x3_40), (4, .int x4_40), (6, .int x6_86)]) hx hb dX12_strongest_88 hl (by decide) rfl (fun ls hl => ?_)
            exact hB90 x6_86 x6_86 _ _ _ hm hW hS (lv_sub hl [1, 2, 3, 4, 5, 0, 6] rfl)
          intro x5_40 x6_40 H locs ls hm hW hS hl
          rw [X12_strongest_b40] at hm
          refine lv_iload hx hb dX12_strongest_40 (lv_at hl 6 rfl) ?_
          refine lv_aload_n hx hb dX12_strongest_42 rfl (lv_at hl 0 rfl) ?_
          refine lv_iload_n hx hb dX12_strongest_43 rfl (lv_at hl 1 rfl) ?_
          obtain ⟨v40002, hc40001, hm⟩ := q_b1i hm
          refine q_callV C hW hS (As := [.int x1_28]) (rest := [.int x6_40]) (st1 := [.int v40002, .int x6_40]) (c_X12_p l D al dt x0_28 x1_28 kx0_28 v40002 hc40001) yl_X12_p vl_X12_p ml_RX12_488 (ci := 12) rfl kx0_28 (by decide) rfl ⟨Nat.le_of_ble_eq_true rfl, Nat.le_of_ble_eq_true rfl⟩ hl rfl (Nat.le_of_ble_eq_true rfl) dX12_strongest_44 ⟨Nat.le_refl _, Nat.le_refl _⟩ rfl (fun H locs k40003 hW hS => ?_)
          refine q_ifc hm (fun c40004 hm => ?_) (fun c40004 hm => ?_)
          · refine lv_icmp_ge (tgt := 96) hx hb dX12_strongest_47 (by decide) (fun _ => ?_) (fun h => absurd c40004 h)
            refine lv_iload_n hx hb dX12_strongest_96 rfl (lv_at hl 3 rfl) ?_
            refine lv_iconst (v := 1) hx hb dX12_strongest_97 (by decide) ?_
            refine lv_iload hx hb dX12_strongest_98 (lv_at hl 5 rfl) ?_
            refine lv_ishl hx hb dX12_strongest_100 ?_
            refine lv_ior hx hb dX12_strongest_101 ?_
            refine lv_istore_n (i := 3) (lv' := [(3, .int (x3_40 ||| (1 <<< (x5_40 &&& 31)))), (0, .ref x0_28), (1, .int x1_28), (2, .int x2_28), (4, .int x4_40), (5, .int x5_40), (6, .int x6_40)]) hx hb dX12_strongest_102 rfl hl (by decide) rfl (fun ls hl => ?_)
            refine lv_iinc (v := (x4_40 + 1)) (lv' := [(4, .int (x4_40 + 1)), (3, .int (x3_40 ||| (1 <<< (x5_40 &&& 31)))), (0, .ref x0_28), (1, .int x1_28), (2, .int x2_28), (5, .int x5_40), (6, .int x6_40)]) hx hb dX12_strongest_103 hl (k := 4) rfl rfl (by decide) rfl (fun ls hl => ?_)
            refine lv_goto (tgt := 28) hx hb dX12_strongest_106 (by decide) ?_
            exact ih28 (x3_40 ||| (1 <<< (x5_40 &&& 31))) (x4_40 + 1) _ _ _ hm hW hS (lv_sub hl [2, 3, 4, 1, 0] rfl)
          refine lv_icmp_ge (tgt := 96) hx hb dX12_strongest_47 (by decide) (fun h => absurd h c40004) (fun _ => ?_)
          refine lv_iload_n hx hb dX12_strongest_50 rfl (lv_at hl 3 rfl) ?_
          refine lv_iload hx hb dX12_strongest_51 (lv_at hl 6 rfl) ?_
          refine lv_ishr hx hb dX12_strongest_53 ?_
          refine lv_iconst (v := 1) hx hb dX12_strongest_54 (by decide) ?_
          refine lv_iand hx hb dX12_strongest_55 ?_
          refine lv_iconst (v := 1) hx hb dX12_strongest_56 (by decide) ?_
          refine q_ifc hm (fun c40005 hm => ?_) (fun c40005 hm => ?_)
          · refine lv_icmp_ne (tgt := 63) hx hb dX12_strongest_57 (by decide) (fun h => absurd c40005 h) (fun _ => ?_)
            refine lv_goto (tgt := 90) hx hb dX12_strongest_60 (by decide) ?_
            exact hB90 x5_40 x6_40 _ _ _ hm hW hS (lv_sub hl [0, 1, 2, 3, 4, 5, 6] rfl)
          refine lv_icmp_ne (tgt := 63) hx hb dX12_strongest_57 (by decide) (fun _ => ?_) (fun h => absurd h c40005)
          refine lv_iload hx hb dX12_strongest_63 (lv_at hl 5 rfl) ?_
          refine lv_iconst (v := (-1)) hx hb dX12_strongest_65 (by decide) ?_
          refine q_ifc hm (fun c40006 hm => ?_) (fun c40006 hm => ?_)
          · refine lv_icmp_eq (tgt := 86) hx hb dX12_strongest_66 (by decide) (fun _ => ?_) (fun h => absurd c40006 h)
            exact hB86 x6_40 _ _ _ hm hW hS (lv_sub hl [0, 1, 2, 3, 4, 6] rfl)
          refine lv_icmp_eq (tgt := 86) hx hb dX12_strongest_66 (by decide) (fun h => absurd h c40006) (fun _ => ?_)
          refine lv_aload_n hx hb dX12_strongest_69 rfl (lv_at hl 0 rfl) ?_
          refine lv_iload_n hx hb dX12_strongest_70 rfl (lv_at hl 1 rfl) ?_
          refine lv_iload hx hb dX12_strongest_71 (lv_at hl 6 rfl) ?_
          obtain ⟨v40008, hc40007, hm⟩ := q_b1i hm
          refine q_callV C hW hS (As := [.int x1_28, .int x6_40]) (rest := []) (st1 := [.int v40008]) (c_X12_slotsOn l D al dt x0_28 x1_28 x6_40 kx0_28 v40008 hc40007) yl_X12_slotsOn vl_X12_slotsOn ml_RX12_506 (ci := 12) rfl kx0_28 (by decide) rfl ⟨Nat.le_of_ble_eq_true rfl, Nat.le_of_ble_eq_true rfl⟩ hl rfl (Nat.le_of_ble_eq_true rfl) dX12_strongest_73 ⟨Nat.le_refl _, Nat.le_refl _⟩ rfl (fun H locs k40009 hW hS => ?_)
          refine lv_aload_n hx hb dX12_strongest_76 rfl (lv_at hl 0 rfl) ?_
          refine lv_iload_n hx hb dX12_strongest_77 rfl (lv_at hl 1 rfl) ?_
          refine lv_iload hx hb dX12_strongest_78 (lv_at hl 5 rfl) ?_
          obtain ⟨v40011, hc40010, hm⟩ := q_b1i hm
          refine q_callV C hW hS (As := [.int x1_28, .int x5_40]) (rest := [.int v40008]) (st1 := [.int v40011, .int v40008]) (c_X12_slotsOn l D al dt x0_28 x1_28 x5_40 kx0_28 v40011 hc40010) yl_X12_slotsOn vl_X12_slotsOn ml_RX12_506 (ci := 12) rfl kx0_28 (by decide) rfl ⟨Nat.le_of_ble_eq_true rfl, Nat.le_of_ble_eq_true rfl⟩ hl rfl (Nat.le_of_ble_eq_true rfl) dX12_strongest_80 ⟨Nat.le_refl _, Nat.le_refl _⟩ rfl (fun H locs k40012 hW hS => ?_)
          refine q_ifc hm (fun c40013 hm => ?_) (fun c40013 hm => ?_)
          · refine lv_icmp_le (tgt := 90) hx hb dX12_strongest_83 (by decide) (fun _ => ?_) (fun h => absurd c40013 h)
            exact hB90 x5_40 x6_40 _ _ _ hm hW hS (lv_sub hl [0, 1, 2, 3, 4, 5, 6] rfl)
          refine lv_icmp_le (tgt := 90) hx hb dX12_strongest_83 (by decide) (fun h => absurd h c40013) (fun _ => ?_)
          exact hB86 x6_40 _ _ _ hm hW hS (lv_sub hl [0, 1, 2, 3, 4, 6] rfl)
      intro x3_28 x4_28 H locs ls hm hW hS hl
      rw [X12_strongest_b28] at hm
      refine lv_iload hx hb dX12_strongest_28 (lv_at hl 4 rfl) ?_
      refine lv_iload_n hx hb dX12_strongest_30 rfl (lv_at hl 2 rfl) ?_
      refine q_ifc hm (fun c28001 hm => ?_) (fun c28001 hm => ?_)
      · refine lv_icmp_ge (tgt := 109) hx hb dX12_strongest_31 (by decide) (fun _ => ?_) (fun h => absurd c28001 h)
        refine lv_iload_n hx hb dX12_strongest_109 rfl (lv_at hl 3 rfl) ?_
        exact e_i C hW hS hm dX12_strongest_110
      refine lv_icmp_ge (tgt := 109) hx hb dX12_strongest_31 (by decide) (fun h => absurd h c28001) (fun _ => ?_)
      refine lv_iconst (v := (-1)) hx hb dX12_strongest_34 (by decide) ?_
      refine lv_istore (i := 5) (lv' := [(5, .int (-1)), (0, .ref x0_28), (1, .int x1_28), (2, .int x2_28), (3, .int x3_28), (4, .int x4_28)]) hx hb dX12_strongest_35 hl (by decide) rfl (fun ls hl => ?_)
      refine lv_iconst (v := 0) hx hb dX12_strongest_37 (by decide) ?_
      refine lv_istore (i := 6) (lv' := [(6, .int 0), (5, .int (-1)), (0, .ref x0_28), (1, .int x1_28), (2, .int x2_28), (3, .int x3_28), (4, .int x4_28)]) hx hb dX12_strongest_38 hl (by decide) rfl (fun ls hl => ?_)
      exact hB40 x3_28 x4_28 q_FU (-1) 0 _ _ _ hm hW hS (lv_sub hl [2, 3, 4, 5, 6, 1, 0] rfl)
  refine lv_aload_n hx hb dX12_strongest_0 rfl (lv_at hl 0 rfl) ?_
  refine lv_iload_n hx hb dX12_strongest_1 rfl (lv_at hl 1 rfl) ?_
  obtain ⟨v1000002, hc1000001, hm⟩ := q_b1i hm
  refine q_callV C hW hS (As := [.int x1]) (rest := []) (st1 := [.int v1000002]) (c_X12_isHop l D al dt x0 x1 kx0 v1000002 hc1000001) yl_X12_isHop vl_X12_isHop ml_RX12_491 (ci := 12) rfl kx0 (by decide) rfl ⟨Nat.le_of_ble_eq_true rfl, Nat.le_of_ble_eq_true rfl⟩ hl rfl (Nat.le_of_ble_eq_true rfl) dX12_strongest_2 ⟨Nat.le_refl _, Nat.le_refl _⟩ rfl (fun H locs k1000003 hW hS => ?_)
  refine q_ifc hm (fun c1000004 hm => ?_) (fun c1000004 hm => ?_)
  · refine lv_if_eq (tgt := 21) hx hb dX12_strongest_5 (by decide) (fun _ => ?_) (fun h => absurd c1000004 h)
    refine lv_iconst (v := (-1)) hx hb dX12_strongest_21 (by decide) ?_
    exact e_i C hW hS hm dX12_strongest_22
  refine lv_if_eq (tgt := 21) hx hb dX12_strongest_5 (by decide) (fun h => absurd h c1000004) (fun _ => ?_)
  refine lv_iload_n hx hb dX12_strongest_8 rfl (lv_at hl 2 rfl) ?_
  refine lv_iconst (v := 0) hx hb dX12_strongest_9 (by decide) ?_
  refine lv_aload_n hx hb dX12_strongest_10 rfl (lv_at hl 0 rfl) ?_
  refine lv_iload_n hx hb dX12_strongest_11 rfl (lv_at hl 1 rfl) ?_
  obtain ⟨v1000006, hc1000005, hm⟩ := q_b1i hm
  refine q_callV C hW hS (As := [.int x1]) (rest := [.int 0, .int x2]) (st1 := [.int v1000006, .int 0, .int x2]) (c_X12_p l D al dt x0 x1 kx0 v1000006 hc1000005) yl_X12_p vl_X12_p ml_RX12_488 (ci := 12) rfl kx0 (by decide) rfl ⟨Nat.le_of_ble_eq_true rfl, Nat.le_of_ble_eq_true rfl⟩ hl rfl (Nat.le_of_ble_eq_true rfl) dX12_strongest_12 ⟨Nat.le_refl _, Nat.le_refl _⟩ rfl (fun H locs k1000007 hW hS => ?_)
  obtain ⟨v1000009, hc1000008, hm⟩ := q_b1i hm
  refine q_callS C hW hS (As := [.int x2, .int 0, .int v1000006]) (rest := []) (st1 := [.int v1000009]) (c_X12_in l D al dt x2 0 v1000006 v1000009 hc1000008) yl_X12_in sl_X12_in ml_RX12_376 rfl ⟨Nat.le_of_ble_eq_true rfl, Nat.le_of_ble_eq_true rfl⟩ hl rfl (Nat.le_of_ble_eq_true rfl) dX12_strongest_15 ⟨Nat.le_refl _, Nat.le_refl _⟩ rfl (fun H locs k1000010 hW hS => ?_)
  refine q_ifc hm (fun c1000011 hm => ?_) (fun c1000011 hm => ?_)
  · refine lv_if_ne (tgt := 23) hx hb dX12_strongest_18 (by decide) (fun h => absurd c1000011 h) (fun _ => ?_)
    refine lv_iconst (v := (-1)) hx hb dX12_strongest_21 (by decide) ?_
    exact e_i C hW hS hm dX12_strongest_22
  refine lv_if_ne (tgt := 23) hx hb dX12_strongest_18 (by decide) (fun _ => ?_) (fun h => absurd h c1000011)
  refine lv_iconst (v := 0) hx hb dX12_strongest_23 (by decide) ?_
  refine lv_istore_n (i := 3) (lv' := [(3, .int 0), (0, .ref x0), (1, .int x1), (2, .int x2)]) hx hb dX12_strongest_24 rfl hl (by decide) rfl (fun ls hl => ?_)
  refine lv_iconst (v := 0) hx hb dX12_strongest_25 (by decide) ?_
  refine lv_istore (i := 4) (lv' := [(4, .int 0), (3, .int 0), (0, .ref x0), (1, .int x1), (2, .int x2)]) hx hb dX12_strongest_26 hl (by decide) rfl (fun ls hl => ?_)
  exact hB28 x0 x1 x2 kx0 q_FU 0 0 _ _ _ hm hW hS (lv_sub hl [2, 3, 4, 1, 0] rfl)
theorem dX12_hold_0 : decode cX12_hold 0 = .ok (.iload_n 1, 1) := by decide +kernel
theorem dX12_hold_1 : decode cX12_hold 1 = .ok (.iconst 0, 1) := by decide +kernel
theorem dX12_hold_2 : decode cX12_hold 2 = .ok (.iconst 2, 1) := by decide +kernel
theorem dX12_hold_3 : decode cX12_hold 3 = .ok (.invokestatic 376, 3) := by decide +kernel
theorem dX12_hold_6 : decode cX12_hold 6 = .ok (.ifCond .ne 5, 3) := by decide +kernel
theorem dX12_hold_9 : decode cX12_hold 9 = .ok (.iconst 0, 1) := by decide +kernel
theorem dX12_hold_10 : decode cX12_hold 10 = .ok (.ireturn, 1) := by decide +kernel
theorem dX12_hold_11 : decode cX12_hold 11 = .ok (.aload_n 0, 1) := by decide +kernel
theorem dX12_hold_12 : decode cX12_hold 12 = .ok (.getfield 164, 3) := by decide +kernel
theorem dX12_hold_15 : decode cX12_hold 15 = .ok (.iload_n 1, 1) := by decide +kernel
theorem dX12_hold_16 : decode cX12_hold 16 = .ok (.iconst 1, 1) := by decide +kernel
theorem dX12_hold_17 : decode cX12_hold 17 = .ok (.bastore, 1) := by decide +kernel
theorem dX12_hold_18 : decode cX12_hold 18 = .ok (.iconst 0, 1) := by decide +kernel
theorem dX12_hold_19 : decode cX12_hold 19 = .ok (.istore_n 2, 1) := by decide +kernel
theorem dX12_hold_20 : decode cX12_hold 20 = .ok (.iload_n 2, 1) := by decide +kernel
theorem dX12_hold_21 : decode cX12_hold 21 = .ok (.sipush 1024, 3) := by decide +kernel
theorem dX12_hold_24 : decode cX12_hold 24 = .ok (.if_icmp .ge 27, 3) := by decide +kernel
theorem dX12_hold_27 : decode cX12_hold 27 = .ok (.aload_n 0, 1) := by decide +kernel
theorem dX12_hold_28 : decode cX12_hold 28 = .ok (.getfield 167, 3) := by decide +kernel
theorem dX12_hold_31 : decode cX12_hold 31 = .ok (.sipush 1024, 3) := by decide +kernel
theorem dX12_hold_34 : decode cX12_hold 34 = .ok (.iload_n 1, 1) := by decide +kernel
theorem dX12_hold_35 : decode cX12_hold 35 = .ok (.imul, 1) := by decide +kernel
theorem dX12_hold_36 : decode cX12_hold 36 = .ok (.iload_n 2, 1) := by decide +kernel
theorem dX12_hold_37 : decode cX12_hold 37 = .ok (.iadd, 1) := by decide +kernel
theorem dX12_hold_38 : decode cX12_hold 38 = .ok (.aload_n 0, 1) := by decide +kernel
theorem dX12_hold_39 : decode cX12_hold 39 = .ok (.getfield 133, 3) := by decide +kernel
theorem dX12_hold_42 : decode cX12_hold 42 = .ok (.iload_n 2, 1) := by decide +kernel
theorem dX12_hold_43 : decode cX12_hold 43 = .ok (.iaload, 1) := by decide +kernel
theorem dX12_hold_44 : decode cX12_hold 44 = .ok (.iastore, 1) := by decide +kernel
theorem dX12_hold_45 : decode cX12_hold 45 = .ok (.iinc 2 1, 3) := by decide +kernel
theorem dX12_hold_48 : decode cX12_hold 48 = .ok (.goto (-28), 3) := by decide +kernel
theorem dX12_hold_51 : decode cX12_hold 51 = .ok (.iconst 1, 1) := by decide +kernel
theorem dX12_hold_52 : decode cX12_hold 52 = .ok (.ireturn, 1) := by decide +kernel
set_option maxRecDepth 100000 in
theorem c_X12_hold (l : Launch) (D : q_D) (al : q_Al) (dt : q_Dt) (x0 : Nat) (x1 : Int32) (kx0 : al.1 x0 = 13) (r0 : Int32) (dt0 : q_Dt) (hm : X12_hold al dt x0 x1 = some (r0, dt0)) : q_Mt l yX12_hold cX12_hold 3 (some FieldType.boolean) 1 22 D al [.ref x0, .int x1] dt 0 (some (.int r0)) dt0 := by
  refine q_Mt.of (by decide) (Nat.le_of_ble_eq_true rfl) ?_
  intro p e s m args below meth c ls C hargs hW hl
  have hx := C.1
  have hb := C.2.1
  have hown := C.2.2.2.2.2.1
  have hts := C.2.2.2.2.2.2.1
  have hS : va_S (q_A al) s.heap s.heap [] := va_S.rf
  have hl : lv_has ls 3 [(0, .ref x0), (1, .int x1)] := hl
  unfold X12_hold at hm
  have hB20 : ∀ (x0_20 : Nat) (x1_20 : Int32) (kx0_20 : al.1 x0_20 = 13) (n_20 : Nat) (x2_20 : Int32) (dt : q_Dt) (H : Heap) (locs : List Loc) (ls : Array Slot) (hm : X12_hold_b20 al x0_20 x1_20 n_20 x2_20 dt = some (r0, dt0)) (hW : q_W D al dt H) (hS : va_S (q_A al) s.heap H locs) (hl : lv_has ls 3 [(0, .ref x0_20), (1, .int x1_20), (2, .int x2_20)]), W p l e { frames := 1, cells := 0, slots := 0, locals := 22 } s m args below meth c H locs 0 0 (MQ below (q_Q (some (.int r0)) (fun H => q_W D al dt0 H ∧ q_Rk al 0 (some (.int r0))) (q_A al)) args s 0 0 (q_A al)) (F0 m 20 ls []) := by
    intro x0_20 x1_20 kx0_20
    intro n_20
    induction n_20 with
    | zero => intro x2_20 dt H locs ls hm hW hS hl; cases hm
    | succ n_20 ih20 =>
      intro x2_20 dt H locs ls hm hW hS hl
      rw [X12_hold_b20] at hm
      refine lv_iload_n hx hb dX12_hold_20 rfl (lv_at hl 2 rfl) ?_
      refine lv_sipush (v := 1024) hx hb dX12_hold_21 (by decide) ?_
      refine q_ifc hm (fun c20001 hm => ?_) (fun c20001 hm => ?_)
      · refine lv_icmp_ge (tgt := 51) hx hb dX12_hold_24 (by decide) (fun _ => ?_) (fun h => absurd c20001 h)
        refine lv_iconst (v := 1) hx hb dX12_hold_51 (by decide) ?_
        exact e_zlD C hW hS (Or.inr rfl) hm dX12_hold_52
      refine lv_icmp_ge (tgt := 51) hx hb dX12_hold_24 (by decide) (fun h => absurd h c20001) (fun _ => ?_)
      refine lv_aload_n hx hb dX12_hold_27 rfl (lv_at hl 0 rfl) ?_
      refine r_getF C hW (ci := 12) kx0_20 ff_12_66 cl_12 fl_RX12_167 dX12_hold_28 (fun k20002 => ?_)
      refine lv_sipush (v := 1024) hx hb dX12_hold_31 (by decide) ?_
      refine lv_iload_n hx hb dX12_hold_34 rfl (lv_at hl 1 rfl) ?_
      refine lv_imul hx hb dX12_hold_35 ?_
      refine lv_iload_n hx hb dX12_hold_36 rfl (lv_at hl 2 rfl) ?_
      refine lv_iadd hx hb dX12_hold_37 ?_
      refine lv_aload_n hx hb dX12_hold_38 rfl (lv_at hl 0 rfl) ?_
      refine r_getF C hW (ci := 12) kx0_20 ff_12_53 cl_12 fl_RX12_133 dX12_hold_39 (fun k20003 => ?_)
      refine lv_iload_n hx hb dX12_hold_42 rfl (lv_at hl 2 rfl) ?_
      refine r_iald C hW hm k20003 dX12_hold_43 (fun hm => ?_)
      refine r_iast C hW hS hm k20002 dX12_hold_44 (fun dt20004 H locs hm hW hS => ?_)
      refine lv_iinc (v := (x2_20 + 1)) (lv' := [(2, .int (x2_20 + 1)), (0, .ref x0_20), (1, .int x1_20)]) hx hb dX12_hold_45 hl (k := 2) rfl rfl (by decide) rfl (fun ls hl => ?_)
      refine lv_goto (tgt := 20) hx hb dX12_hold_48 (by decide) ?_
      exact ih20 (x2_20 + 1) dt20004 _ _ _ hm hW hS (lv_sub hl [1, 2, 0] rfl)
  refine lv_iload_n hx hb dX12_hold_0 rfl (lv_at hl 1 rfl) ?_
  refine lv_iconst (v := 0) hx hb dX12_hold_1 (by decide) ?_
  refine lv_iconst (v := 2) hx hb dX12_hold_2 (by decide) ?_
  obtain ⟨v1000002, hc1000001, hm⟩ := q_b1i hm
  refine q_callS C hW hS (As := [.int x1, .int 0, .int 2]) (rest := []) (st1 := [.int v1000002]) (c_X12_in l D al dt x1 0 2 v1000002 hc1000001) yl_X12_in sl_X12_in ml_RX12_376 rfl ⟨Nat.le_of_ble_eq_true rfl, Nat.le_of_ble_eq_true rfl⟩ hl rfl (Nat.le_of_ble_eq_true rfl) dX12_hold_3 ⟨Nat.le_refl _, Nat.le_refl _⟩ rfl (fun H locs k1000003 hW hS => ?_)
  refine q_ifc hm (fun c1000004 hm => ?_) (fun c1000004 hm => ?_)
  · refine lv_if_ne (tgt := 11) hx hb dX12_hold_6 (by decide) (fun h => absurd c1000004 h) (fun _ => ?_)
    refine lv_iconst (v := 0) hx hb dX12_hold_9 (by decide) ?_
    exact e_zlD C hW hS (Or.inl rfl) hm dX12_hold_10
  refine lv_if_ne (tgt := 11) hx hb dX12_hold_6 (by decide) (fun _ => ?_) (fun h => absurd h c1000004)
  refine lv_aload_n hx hb dX12_hold_11 rfl (lv_at hl 0 rfl) ?_
  refine r_getF C hW (ci := 12) kx0 ff_12_65 cl_12 fl_RX12_164 dX12_hold_12 (fun k1000005 => ?_)
  refine lv_iload_n hx hb dX12_hold_15 rfl (lv_at hl 1 rfl) ?_
  refine lv_iconst (v := 1) hx hb dX12_hold_16 (by decide) ?_
  refine r_zast C hW hS hm k1000005 dX12_hold_17 (fun dt1000006 H locs hm hW hS => ?_)
  refine lv_iconst (v := 0) hx hb dX12_hold_18 (by decide) ?_
  refine lv_istore_n (i := 2) (lv' := [(2, .int 0), (0, .ref x0), (1, .int x1)]) hx hb dX12_hold_19 rfl hl (by decide) rfl (fun ls hl => ?_)
  exact hB20 x0 x1 kx0 q_FU 0 dt1000006 _ _ _ hm hW hS (lv_sub hl [1, 2, 0] rfl)
theorem dX12_restore_0 : decode cX12_restore 0 = .ok (.iload_n 1, 1) := by decide +kernel
theorem dX12_restore_1 : decode cX12_restore 1 = .ok (.iconst 0, 1) := by decide +kernel
theorem dX12_restore_2 : decode cX12_restore 2 = .ok (.iconst 2, 1) := by decide +kernel
theorem dX12_restore_3 : decode cX12_restore 3 = .ok (.invokestatic 376, 3) := by decide +kernel
theorem dX12_restore_6 : decode cX12_restore 6 = .ok (.ifCond .eq 12, 3) := by decide +kernel
theorem dX12_restore_9 : decode cX12_restore 9 = .ok (.aload_n 0, 1) := by decide +kernel
theorem dX12_restore_10 : decode cX12_restore 10 = .ok (.getfield 164, 3) := by decide +kernel
theorem dX12_restore_13 : decode cX12_restore 13 = .ok (.iload_n 1, 1) := by decide +kernel
theorem dX12_restore_14 : decode cX12_restore 14 = .ok (.baload, 1) := by decide +kernel
theorem dX12_restore_15 : decode cX12_restore 15 = .ok (.ifCond .ne 5, 3) := by decide +kernel
theorem dX12_restore_18 : decode cX12_restore 18 = .ok (.iconst 0, 1) := by decide +kernel
theorem dX12_restore_19 : decode cX12_restore 19 = .ok (.ireturn, 1) := by decide +kernel
theorem dX12_restore_20 : decode cX12_restore 20 = .ok (.iconst 0, 1) := by decide +kernel
theorem dX12_restore_21 : decode cX12_restore 21 = .ok (.istore_n 2, 1) := by decide +kernel
theorem dX12_restore_22 : decode cX12_restore 22 = .ok (.iload_n 2, 1) := by decide +kernel
theorem dX12_restore_23 : decode cX12_restore 23 = .ok (.sipush 1024, 3) := by decide +kernel
theorem dX12_restore_26 : decode cX12_restore 26 = .ok (.if_icmp .ge 27, 3) := by decide +kernel
theorem dX12_restore_29 : decode cX12_restore 29 = .ok (.aload_n 0, 1) := by decide +kernel
theorem dX12_restore_30 : decode cX12_restore 30 = .ok (.getfield 133, 3) := by decide +kernel
theorem dX12_restore_33 : decode cX12_restore 33 = .ok (.iload_n 2, 1) := by decide +kernel
theorem dX12_restore_34 : decode cX12_restore 34 = .ok (.aload_n 0, 1) := by decide +kernel
theorem dX12_restore_35 : decode cX12_restore 35 = .ok (.getfield 167, 3) := by decide +kernel
theorem dX12_restore_38 : decode cX12_restore 38 = .ok (.sipush 1024, 3) := by decide +kernel
theorem dX12_restore_41 : decode cX12_restore 41 = .ok (.iload_n 1, 1) := by decide +kernel
theorem dX12_restore_42 : decode cX12_restore 42 = .ok (.imul, 1) := by decide +kernel
theorem dX12_restore_43 : decode cX12_restore 43 = .ok (.iload_n 2, 1) := by decide +kernel
theorem dX12_restore_44 : decode cX12_restore 44 = .ok (.iadd, 1) := by decide +kernel
theorem dX12_restore_45 : decode cX12_restore 45 = .ok (.iaload, 1) := by decide +kernel
theorem dX12_restore_46 : decode cX12_restore 46 = .ok (.iastore, 1) := by decide +kernel
theorem dX12_restore_47 : decode cX12_restore 47 = .ok (.iinc 2 1, 3) := by decide +kernel
theorem dX12_restore_50 : decode cX12_restore 50 = .ok (.goto (-28), 3) := by decide +kernel
theorem dX12_restore_53 : decode cX12_restore 53 = .ok (.iconst 1, 1) := by decide +kernel
theorem dX12_restore_54 : decode cX12_restore 54 = .ok (.ireturn, 1) := by decide +kernel
set_option maxRecDepth 100000 in
theorem c_X12_restore (l : Launch) (D : q_D) (al : q_Al) (dt : q_Dt) (x0 : Nat) (x1 : Int32) (kx0 : al.1 x0 = 13) (r0 : Int32) (dt0 : q_Dt) (hm : X12_restore al dt x0 x1 = some (r0, dt0)) : q_Mt l yX12_restore cX12_restore 3 (some FieldType.boolean) 1 22 D al [.ref x0, .int x1] dt 0 (some (.int r0)) dt0 := by
  refine q_Mt.of (by decide) (Nat.le_of_ble_eq_true rfl) ?_
  intro p e s m args below meth c ls C hargs hW hl
  have hx := C.1
  have hb := C.2.1
  have hown := C.2.2.2.2.2.1
  have hts := C.2.2.2.2.2.2.1
  have hS : va_S (q_A al) s.heap s.heap [] := va_S.rf
  have hl : lv_has ls 3 [(0, .ref x0), (1, .int x1)] := hl
  unfold X12_restore at hm
  have hB22 : ∀ (x0_22 : Nat) (x1_22 : Int32) (kx0_22 : al.1 x0_22 = 13) (n_22 : Nat) (x2_22 : Int32) (dt : q_Dt) (H : Heap) (locs : List Loc) (ls : Array Slot) (hm : X12_restore_b22 al x0_22 x1_22 n_22 x2_22 dt = some (r0, dt0)) (hW : q_W D al dt H) (hS : va_S (q_A al) s.heap H locs) (hl : lv_has ls 3 [(0, .ref x0_22), (1, .int x1_22), (2, .int x2_22)]), W p l e { frames := 1, cells := 0, slots := 0, locals := 22 } s m args below meth c H locs 0 0 (MQ below (q_Q (some (.int r0)) (fun H => q_W D al dt0 H ∧ q_Rk al 0 (some (.int r0))) (q_A al)) args s 0 0 (q_A al)) (F0 m 22 ls []) := by
    intro x0_22 x1_22 kx0_22
    intro n_22
    induction n_22 with
    | zero => intro x2_22 dt H locs ls hm hW hS hl; cases hm
    | succ n_22 ih22 =>
      intro x2_22 dt H locs ls hm hW hS hl
      rw [X12_restore_b22] at hm
      refine lv_iload_n hx hb dX12_restore_22 rfl (lv_at hl 2 rfl) ?_
      refine lv_sipush (v := 1024) hx hb dX12_restore_23 (by decide) ?_
      refine q_ifc hm (fun c22001 hm => ?_) (fun c22001 hm => ?_)
      · refine lv_icmp_ge (tgt := 53) hx hb dX12_restore_26 (by decide) (fun _ => ?_) (fun h => absurd c22001 h)
        refine lv_iconst (v := 1) hx hb dX12_restore_53 (by decide) ?_
        exact e_zlD C hW hS (Or.inr rfl) hm dX12_restore_54
      refine lv_icmp_ge (tgt := 53) hx hb dX12_restore_26 (by decide) (fun h => absurd h c22001) (fun _ => ?_)
      refine lv_aload_n hx hb dX12_restore_29 rfl (lv_at hl 0 rfl) ?_
      refine r_getF C hW (ci := 12) kx0_22 ff_12_53 cl_12 fl_RX12_133 dX12_restore_30 (fun k22002 => ?_)
      refine lv_iload_n hx hb dX12_restore_33 rfl (lv_at hl 2 rfl) ?_
      refine lv_aload_n hx hb dX12_restore_34 rfl (lv_at hl 0 rfl) ?_
      refine r_getF C hW (ci := 12) kx0_22 ff_12_66 cl_12 fl_RX12_167 dX12_restore_35 (fun k22003 => ?_)
      refine lv_sipush (v := 1024) hx hb dX12_restore_38 (by decide) ?_
      refine lv_iload_n hx hb dX12_restore_41 rfl (lv_at hl 1 rfl) ?_
      refine lv_imul hx hb dX12_restore_42 ?_
      refine lv_iload_n hx hb dX12_restore_43 rfl (lv_at hl 2 rfl) ?_
      refine lv_iadd hx hb dX12_restore_44 ?_
      refine r_iald C hW hm k22003 dX12_restore_45 (fun hm => ?_)
      refine r_iast C hW hS hm k22002 dX12_restore_46 (fun dt22004 H locs hm hW hS => ?_)
      refine lv_iinc (v := (x2_22 + 1)) (lv' := [(2, .int (x2_22 + 1)), (0, .ref x0_22), (1, .int x1_22)]) hx hb dX12_restore_47 hl (k := 2) rfl rfl (by decide) rfl (fun ls hl => ?_)
      refine lv_goto (tgt := 22) hx hb dX12_restore_50 (by decide) ?_
      exact ih22 (x2_22 + 1) dt22004 _ _ _ hm hW hS (lv_sub hl [1, 2, 0] rfl)
  refine lv_iload_n hx hb dX12_restore_0 rfl (lv_at hl 1 rfl) ?_
  refine lv_iconst (v := 0) hx hb dX12_restore_1 (by decide) ?_
  refine lv_iconst (v := 2) hx hb dX12_restore_2 (by decide) ?_
  obtain ⟨v1000002, hc1000001, hm⟩ := q_b1i hm
  refine q_callS C hW hS (As := [.int x1, .int 0, .int 2]) (rest := []) (st1 := [.int v1000002]) (c_X12_in l D al dt x1 0 2 v1000002 hc1000001) yl_X12_in sl_X12_in ml_RX12_376 rfl ⟨Nat.le_of_ble_eq_true rfl, Nat.le_of_ble_eq_true rfl⟩ hl rfl (Nat.le_of_ble_eq_true rfl) dX12_restore_3 ⟨Nat.le_refl _, Nat.le_refl _⟩ rfl (fun H locs k1000003 hW hS => ?_)
  refine q_ifc hm (fun c1000004 hm => ?_) (fun c1000004 hm => ?_)
  · refine lv_if_eq (tgt := 18) hx hb dX12_restore_6 (by decide) (fun _ => ?_) (fun h => absurd c1000004 h)
    refine lv_iconst (v := 0) hx hb dX12_restore_18 (by decide) ?_
    exact e_zlD C hW hS (Or.inl rfl) hm dX12_restore_19
  refine lv_if_eq (tgt := 18) hx hb dX12_restore_6 (by decide) (fun h => absurd h c1000004) (fun _ => ?_)
  refine lv_aload_n hx hb dX12_restore_9 rfl (lv_at hl 0 rfl) ?_
  refine r_getF C hW (ci := 12) kx0 ff_12_65 cl_12 fl_RX12_164 dX12_restore_10 (fun k1000005 => ?_)
  refine lv_iload_n hx hb dX12_restore_13 rfl (lv_at hl 1 rfl) ?_
  refine r_zald C hW hm k1000005 dX12_restore_14 (fun hm => ?_)
  refine q_ifc hm (fun c1000006 hm => ?_) (fun c1000006 hm => ?_)
  · refine lv_if_ne (tgt := 20) hx hb dX12_restore_15 (by decide) (fun h => absurd c1000006 h) (fun _ => ?_)
    refine lv_iconst (v := 0) hx hb dX12_restore_18 (by decide) ?_
    exact e_zlD C hW hS (Or.inl rfl) hm dX12_restore_19
  refine lv_if_ne (tgt := 20) hx hb dX12_restore_15 (by decide) (fun _ => ?_) (fun h => absurd h c1000006)
  refine lv_iconst (v := 0) hx hb dX12_restore_20 (by decide) ?_
  refine lv_istore_n (i := 2) (lv' := [(2, .int 0), (0, .ref x0), (1, .int x1)]) hx hb dX12_restore_21 rfl hl (by decide) rfl (fun ls hl => ?_)
  exact hB22 x0 x1 kx0 q_FU 0 dt _ _ _ hm hW hS (lv_sub hl [1, 2, 0] rfl)
theorem dX12_periodsOf_0 : decode cX12_periodsOf 0 = .ok (.aload_n 0, 1) := by decide +kernel
theorem dX12_periodsOf_1 : decode cX12_periodsOf 1 = .ok (.aload_n 0, 1) := by decide +kernel
theorem dX12_periodsOf_2 : decode cX12_periodsOf 2 = .ok (.getfield 133, 3) := by decide +kernel
theorem dX12_periodsOf_5 : decode cX12_periodsOf 5 = .ok (.iload_n 1, 1) := by decide +kernel
theorem dX12_periodsOf_6 : decode cX12_periodsOf 6 = .ok (.iconst 0, 1) := by decide +kernel
theorem dX12_periodsOf_7 : decode cX12_periodsOf 7 = .ok (.invokevirtual 450, 3) := by decide +kernel
theorem dX12_periodsOf_10 : decode cX12_periodsOf 10 = .ok (.iconst 0, 1) := by decide +kernel
theorem dX12_periodsOf_11 : decode cX12_periodsOf 11 = .ok (.istore_n 2, 1) := by decide +kernel
theorem dX12_periodsOf_12 : decode cX12_periodsOf 12 = .ok (.iconst 0, 1) := by decide +kernel
theorem dX12_periodsOf_13 : decode cX12_periodsOf 13 = .ok (.istore_n 3, 1) := by decide +kernel
theorem dX12_periodsOf_14 : decode cX12_periodsOf 14 = .ok (.iload_n 3, 1) := by decide +kernel
theorem dX12_periodsOf_15 : decode cX12_periodsOf 15 = .ok (.sipush 512, 3) := by decide +kernel
theorem dX12_periodsOf_18 : decode cX12_periodsOf 18 = .ok (.if_icmp .ge 21, 3) := by decide +kernel
theorem dX12_periodsOf_21 : decode cX12_periodsOf 21 = .ok (.aload_n 0, 1) := by decide +kernel
theorem dX12_periodsOf_22 : decode cX12_periodsOf 22 = .ok (.getfield 161, 3) := by decide +kernel
theorem dX12_periodsOf_25 : decode cX12_periodsOf 25 = .ok (.iload_n 3, 1) := by decide +kernel
theorem dX12_periodsOf_26 : decode cX12_periodsOf 26 = .ok (.baload, 1) := by decide +kernel
theorem dX12_periodsOf_27 : decode cX12_periodsOf 27 = .ok (.ifCond .eq 6, 3) := by decide +kernel
theorem dX12_periodsOf_30 : decode cX12_periodsOf 30 = .ok (.iinc 2 1, 3) := by decide +kernel
theorem dX12_periodsOf_33 : decode cX12_periodsOf 33 = .ok (.iinc 3 1, 3) := by decide +kernel
theorem dX12_periodsOf_36 : decode cX12_periodsOf 36 = .ok (.goto (-22), 3) := by decide +kernel
theorem dX12_periodsOf_39 : decode cX12_periodsOf 39 = .ok (.iload_n 2, 1) := by decide +kernel
theorem dX12_periodsOf_40 : decode cX12_periodsOf 40 = .ok (.ireturn, 1) := by decide +kernel
set_option maxRecDepth 100000 in
theorem c_X12_periodsOf (l : Launch) (D : q_D) (al : q_Al) (dt : q_Dt) (x0 : Nat) (x1 : Int32) (kx0 : al.1 x0 = 13) (r0 : Int32) (dt0 : q_Dt) (hm : X12_periodsOf al dt x0 x1 = some (r0, dt0)) : q_Mt l yX12_periodsOf cX12_periodsOf 4 (some FieldType.int) 4 99 D al [.ref x0, .int x1] dt 0 (some (.int r0)) dt0 := by
  refine q_Mt.of (by decide) (Nat.le_of_ble_eq_true rfl) ?_
  intro p e s m args below meth c ls C hargs hW hl
  have hx := C.1
  have hb := C.2.1
  have hown := C.2.2.2.2.2.1
  have hts := C.2.2.2.2.2.2.1
  have hS : va_S (q_A al) s.heap s.heap [] := va_S.rf
  have hl : lv_has ls 4 [(0, .ref x0), (1, .int x1)] := hl
  unfold X12_periodsOf at hm
  have hB14 : ∀ (x0_14 : Nat) (kx0_14 : al.1 x0_14 = 13) (n_14 : Nat) (x2_14 : Int32) (x3_14 : Int32) (dt : q_Dt) (H : Heap) (locs : List Loc) (ls : Array Slot) (hm : X12_periodsOf_b14 al x0_14 n_14 x2_14 x3_14 dt = some (r0, dt0)) (hW : q_W D al dt H) (hS : va_S (q_A al) s.heap H locs) (hl : lv_has ls 4 [(0, .ref x0_14), (2, .int x2_14), (3, .int x3_14)]), W p l e { frames := 4, cells := 0, slots := 0, locals := 99 } s m args below meth c H locs 0 0 (MQ below (q_Q (some (.int r0)) (fun H => q_W D al dt0 H ∧ q_Rk al 0 (some (.int r0))) (q_A al)) args s 0 0 (q_A al)) (F0 m 14 ls []) := by
    intro x0_14 kx0_14
    intro n_14
    induction n_14 with
    | zero => intro x2_14 x3_14 dt H locs ls hm hW hS hl; cases hm
    | succ n_14 ih14 =>
      have hB33 : ∀ (x2_33 : Int32) (x3_33 : Int32) (dt : q_Dt) (H : Heap) (locs : List Loc) (ls : Array Slot) (hm : X12_periodsOf_b33 al (X12_periodsOf_b14 al x0_14 n_14) x0_14 x2_33 x3_33 dt = some (r0, dt0)) (hW : q_W D al dt H) (hS : va_S (q_A al) s.heap H locs) (hl : lv_has ls 4 [(0, .ref x0_14), (2, .int x2_33), (3, .int x3_33)]), W p l e { frames := 4, cells := 0, slots := 0, locals := 99 } s m args below meth c H locs 0 0 (MQ below (q_Q (some (.int r0)) (fun H => q_W D al dt0 H ∧ q_Rk al 0 (some (.int r0))) (q_A al)) args s 0 0 (q_A al)) (F0 m 33 ls []) := by
        intro x2_33 x3_33 dt H locs ls hm hW hS hl
        unfold X12_periodsOf_b33 at hm
        refine lv_iinc (v := (x3_33 + 1)) (lv' := [(3, .int (x3_33 + 1)), (0, .ref x0_14), (2, .int x2_33)]) hx hb dX12_periodsOf_33 hl (k := 2) rfl rfl (by decide) rfl (fun ls hl => ?_)
        refine lv_goto (tgt := 14) hx hb dX12_periodsOf_36 (by decide) ?_
        exact ih14 x2_33 (x3_33 + 1) dt _ _ _ hm hW hS (lv_sub hl [1, 2, 0] rfl)
      intro x2_14 x3_14 dt H locs ls hm hW hS hl
      rw [X12_periodsOf_b14] at hm
      refine lv_iload_n hx hb dX12_periodsOf_14 rfl (lv_at hl 2 rfl) ?_
      refine lv_sipush (v := 512) hx hb dX12_periodsOf_15 (by decide) ?_
      refine q_ifc hm (fun c14001 hm => ?_) (fun c14001 hm => ?_)
      · refine lv_icmp_ge (tgt := 39) hx hb dX12_periodsOf_18 (by decide) (fun _ => ?_) (fun h => absurd c14001 h)
        refine lv_iload_n hx hb dX12_periodsOf_39 rfl (lv_at hl 1 rfl) ?_
        exact e_iD C hW hS hm dX12_periodsOf_40
      refine lv_icmp_ge (tgt := 39) hx hb dX12_periodsOf_18 (by decide) (fun h => absurd h c14001) (fun _ => ?_)
      refine lv_aload_n hx hb dX12_periodsOf_21 rfl (lv_at hl 0 rfl) ?_
      refine r_getF C hW (ci := 12) kx0_14 ff_12_64 cl_12 fl_RX12_161 dX12_periodsOf_22 (fun k14002 => ?_)
      refine lv_iload_n hx hb dX12_periodsOf_25 rfl (lv_at hl 2 rfl) ?_
      refine r_zald C hW hm k14002 dX12_periodsOf_26 (fun hm => ?_)
      refine q_ifc hm (fun c14003 hm => ?_) (fun c14003 hm => ?_)
      · refine lv_if_eq (tgt := 33) hx hb dX12_periodsOf_27 (by decide) (fun _ => ?_) (fun h => absurd c14003 h)
        exact hB33 x2_14 x3_14 dt _ _ _ hm hW hS (lv_sub hl [0, 1, 2] rfl)
      refine lv_if_eq (tgt := 33) hx hb dX12_periodsOf_27 (by decide) (fun h => absurd h c14003) (fun _ => ?_)
      refine lv_iinc (v := (x2_14 + 1)) (lv' := [(2, .int (x2_14 + 1)), (0, .ref x0_14), (3, .int x3_14)]) hx hb dX12_periodsOf_30 hl (k := 1) rfl rfl (by decide) rfl (fun ls hl => ?_)
      exact hB33 (x2_14 + 1) x3_14 dt _ _ _ hm hW hS (lv_sub hl [1, 0, 2] rfl)
  refine lv_aload_n hx hb dX12_periodsOf_0 rfl (lv_at hl 0 rfl) ?_
  refine lv_aload_n hx hb dX12_periodsOf_1 rfl (lv_at hl 0 rfl) ?_
  refine r_getF C hW (ci := 12) kx0 ff_12_53 cl_12 fl_RX12_133 dX12_periodsOf_2 (fun k1000001 => ?_)
  refine lv_iload_n hx hb dX12_periodsOf_5 rfl (lv_at hl 1 rfl) ?_
  refine lv_iconst (v := 0) hx hb dX12_periodsOf_6 (by decide) ?_
  obtain ⟨dt1000003, hc1000002, hm⟩ := q_b1i hm
  refine q_callV C hW hS (As := [.ref (al.2.2 x0 53), .int x1, .int 0]) (rest := []) (st1 := []) (c_X12_sumsUp l D al dt x0 (al.2.2 x0 53) x1 0 kx0 k1000001 dt1000003 hc1000002) yl_X12_sumsUp vl_X12_sumsUp ml_RX12_450 (ci := 12) rfl kx0 (by decide) rfl ⟨Nat.le_of_ble_eq_true rfl, Nat.le_of_ble_eq_true rfl⟩ hl rfl (Nat.le_of_ble_eq_true rfl) dX12_periodsOf_7 ⟨Nat.le_refl _, Nat.le_refl _⟩ rfl (fun H locs k1000004 hW hS => ?_)
  refine lv_iconst (v := 0) hx hb dX12_periodsOf_10 (by decide) ?_
  refine lv_istore_n (i := 2) (lv' := [(2, .int 0), (0, .ref x0), (1, .int x1)]) hx hb dX12_periodsOf_11 rfl hl (by decide) rfl (fun ls hl => ?_)
  refine lv_iconst (v := 0) hx hb dX12_periodsOf_12 (by decide) ?_
  refine lv_istore_n (i := 3) (lv' := [(3, .int 0), (2, .int 0), (0, .ref x0), (1, .int x1)]) hx hb dX12_periodsOf_13 rfl hl (by decide) rfl (fun ls hl => ?_)
  exact hB14 x0 kx0 q_FU 0 0 dt1000003 _ _ _ hm hW hS (lv_sub hl [2, 1, 0] rfl)
