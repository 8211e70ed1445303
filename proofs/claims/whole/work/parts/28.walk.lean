theorem dX12_bestOf_0 : decode cX12_bestOf 0 = .ok (.iconst 0, 1) := by decide +kernel
theorem dX12_bestOf_1 : decode cX12_bestOf 1 = .ok (.istore 4, 2) := by decide +kernel
theorem dX12_bestOf_3 : decode cX12_bestOf 3 = .ok (.ldc2_w 413, 3) := by decide +kernel
theorem dX12_bestOf_6 : decode cX12_bestOf 6 = .ok (.lstore 5, 2) := by decide +kernel
theorem dX12_bestOf_8 : decode cX12_bestOf 8 = .ok (.iconst 0, 1) := by decide +kernel
theorem dX12_bestOf_9 : decode cX12_bestOf 9 = .ok (.istore 7, 2) := by decide +kernel
theorem dX12_bestOf_11 : decode cX12_bestOf 11 = .ok (.iload 7, 2) := by decide +kernel
theorem dX12_bestOf_13 : decode cX12_bestOf 13 = .ok (.iconst 4, 1) := by decide +kernel
theorem dX12_bestOf_14 : decode cX12_bestOf 14 = .ok (.aload_n 0, 1) := by decide +kernel
theorem dX12_bestOf_15 : decode cX12_bestOf 15 = .ok (.iload_n 1, 1) := by decide +kernel
theorem dX12_bestOf_16 : decode cX12_bestOf 16 = .ok (.invokevirtual 327, 3) := by decide +kernel
theorem dX12_bestOf_19 : decode cX12_bestOf 19 = .ok (.imul, 1) := by decide +kernel
theorem dX12_bestOf_20 : decode cX12_bestOf 20 = .ok (.if_icmp .ge 39, 3) := by decide +kernel
theorem dX12_bestOf_23 : decode cX12_bestOf 23 = .ok (.aload_n 0, 1) := by decide +kernel
theorem dX12_bestOf_24 : decode cX12_bestOf 24 = .ok (.iload_n 1, 1) := by decide +kernel
theorem dX12_bestOf_25 : decode cX12_bestOf 25 = .ok (.iload 7, 2) := by decide +kernel
theorem dX12_bestOf_27 : decode cX12_bestOf 27 = .ok (.iload_n 2, 1) := by decide +kernel
theorem dX12_bestOf_28 : decode cX12_bestOf 28 = .ok (.iload_n 3, 1) := by decide +kernel
theorem dX12_bestOf_29 : decode cX12_bestOf 29 = .ok (.invokevirtual 434, 3) := by decide +kernel
theorem dX12_bestOf_32 : decode cX12_bestOf 32 = .ok (.lstore 8, 2) := by decide +kernel
theorem dX12_bestOf_34 : decode cX12_bestOf 34 = .ok (.lload 8, 2) := by decide +kernel
theorem dX12_bestOf_36 : decode cX12_bestOf 36 = .ok (.lload 5, 2) := by decide +kernel
theorem dX12_bestOf_38 : decode cX12_bestOf 38 = .ok (.lcmp, 1) := by decide +kernel
theorem dX12_bestOf_39 : decode cX12_bestOf 39 = .ok (.ifCond .gt 6, 3) := by decide +kernel
theorem dX12_bestOf_42 : decode cX12_bestOf 42 = .ok (.goto 11, 3) := by decide +kernel
theorem dX12_bestOf_45 : decode cX12_bestOf 45 = .ok (.iload 7, 2) := by decide +kernel
theorem dX12_bestOf_47 : decode cX12_bestOf 47 = .ok (.istore 4, 2) := by decide +kernel
theorem dX12_bestOf_49 : decode cX12_bestOf 49 = .ok (.lload 8, 2) := by decide +kernel
theorem dX12_bestOf_51 : decode cX12_bestOf 51 = .ok (.lstore 5, 2) := by decide +kernel
theorem dX12_bestOf_53 : decode cX12_bestOf 53 = .ok (.iinc 7 1, 3) := by decide +kernel
theorem dX12_bestOf_56 : decode cX12_bestOf 56 = .ok (.goto (-45), 3) := by decide +kernel
theorem dX12_bestOf_59 : decode cX12_bestOf 59 = .ok (.iload 4, 2) := by decide +kernel
theorem dX12_bestOf_61 : decode cX12_bestOf 61 = .ok (.ireturn, 1) := by decide +kernel
set_option maxRecDepth 100000 in
theorem c_X12_bestOf (l : Launch) (D : q_D) (al : q_Al) (dt : q_Dt) (x0 : Nat) (x1 : Int32) (x2 : Int32) (x3 : Int32) (kx0 : al.1 x0 = 13) (r0 : Int32) (dt0 : q_Dt) (hm : X12_bestOf al dt x0 x1 x2 x3 = some (r0, dt0)) : q_Mt l yX12_bestOf cX12_bestOf 10 (some FieldType.int) 3 79 D al [.ref x0, .int x1, .int x2, .int x3] dt 0 (some (.int r0)) dt0 := by
  refine q_Mt.of (by decide) (Nat.le_of_ble_eq_true rfl) ?_
  intro p e s m args below meth c ls C hargs hW hl
  have hx := C.1
  have hb := C.2.1
  have hown := C.2.2.2.2.2.1
  have hts := C.2.2.2.2.2.2.1
  have hS : va_S (q_A al) s.heap s.heap [] := va_S.rf
  have hl : lv_has ls 10 [(0, .ref x0), (1, .int x1), (2, .int x2), (3, .int x3)] := hl
  unfold X12_bestOf at hm
  have hB11 : ∀ (x0_11 : Nat) (x1_11 : Int32) (x2_11 : Int32) (x3_11 : Int32) (kx0_11 : al.1 x0_11 = 13) (n_11 : Nat) (x4_11 : Int32) (x5_11 : Int64) (x7_11 : Int32) (dt : q_Dt) (H : Heap) (locs : List Loc) (ls : Array Slot) (hm : X12_bestOf_b11 al x0_11 x1_11 x2_11 x3_11 n_11 x4_11 x5_11 x7_11 dt = some (r0, dt0)) (hW : q_W D al dt H) (hS : va_S (q_A al) s.heap H locs) (hl : lv_has ls 10 [(0, .ref x0_11), (1, .int x1_11), (2, .int x2_11), (3, .int x3_11), (4, .int x4_11), (5, .long x5_11), (7, .int x7_11)]), W p l e { frames := 3, cells := 0, slots := 0, locals := 79 } s m args below meth c H locs 0 0 (MQ below (q_Q (some (.int r0)) (fun H => q_W D al dt0 H ∧ q_Rk al 0 (some (.int r0))) (q_A al)) args s 0 0 (q_A al)) (F0 m 11 ls []) := by
    intro x0_11 x1_11 x2_11 x3_11 kx0_11
    intro n_11
    induction n_11 with
    | zero => intro x4_11 x5_11 x7_11 dt H locs ls hm hW hS hl; cases hm
    | succ n_11 ih11 =>
      have hB53 : ∀ (x4_53 : Int32) (x5_53 : Int64) (x7_53 : Int32) (dt : q_Dt) (H : Heap) (locs : List Loc) (ls : Array Slot) (hm : X12_bestOf_b53 al (X12_bestOf_b11 al x0_11 x1_11 x2_11 x3_11 n_11) x0_11 x1_11 x2_11 x3_11 x4_53 x5_53 x7_53 dt = some (r0, dt0)) (hW : q_W D al dt H) (hS : va_S (q_A al) s.heap H locs) (hl : lv_has ls 10 [(0, .ref x0_11), (1, .int x1_11), (2, .int x2_11), (3, .int x3_11), (4, .int x4_53), (5, .long x5_53), (7, .int x7_53)]), W p l e { frames := 3, cells := 0, slots := 0, locals := 79 } s m args below meth c H locs 0 0 (MQ below (q_Q (some (.int r0)) (fun H => q_W D al dt0 H ∧ q_Rk al 0 (some (.int r0))) (q_A al)) args s 0 0 (q_A al)) (F0 m 53 ls []) := by
        intro x4_53 x5_53 x7_53 dt H locs ls hm hW hS hl
        unfold X12_bestOf_b53 at hm
        refine lv_iinc (v := (x7_53 + 1)) (lv' := [(7, .int (x7_53 + 1)), (0, .ref x0_11), (1, .int x1_11), (2, .int x2_11), (3, .int x3_11), (4, .int x4_53), (5, .long x5_53)]) hx hb dX12_bestOf_53 hl (k := 6) rfl rfl (by decide) rfl (fun ls hl => ?_)
        refine lv_goto (tgt := 11) hx hb dX12_bestOf_56 (by decide) ?_
        exact ih11 x4_53 x5_53 (x7_53 + 1) dt _ _ _ hm hW hS (lv_sub hl [1, 2, 3, 4, 5, 6, 0] rfl)
      intro x4_11 x5_11 x7_11 dt H locs ls hm hW hS hl
      rw [X12_bestOf_b11] at hm
      refine lv_iload hx hb dX12_bestOf_11 (lv_at hl 6 rfl) ?_
      refine lv_iconst (v := 4) hx hb dX12_bestOf_13 (by decide) ?_
      refine lv_aload_n hx hb dX12_bestOf_14 rfl (lv_at hl 0 rfl) ?_
      refine lv_iload_n hx hb dX12_bestOf_15 rfl (lv_at hl 1 rfl) ?_
      obtain ⟨v11002, hc11001, hm⟩ := q_b1i hm
      refine q_callV C hW hS (As := [.int x1_11]) (rest := [.int 4, .int x7_11]) (st1 := [.int v11002, .int 4, .int x7_11]) (c_X12_long0 l D al dt x0_11 x1_11 kx0_11 v11002 hc11001) yl_X12_long0 vl_X12_long0 ml_RX12_327 (ci := 12) rfl kx0_11 (by decide) rfl ⟨Nat.le_of_ble_eq_true rfl, Nat.le_of_ble_eq_true rfl⟩ hl rfl (Nat.le_of_ble_eq_true rfl) dX12_bestOf_16 ⟨Nat.le_refl _, Nat.le_refl _⟩ rfl (fun H locs k11003 hW hS => ?_)
      refine lv_imul hx hb dX12_bestOf_19 ?_
      refine q_ifc hm (fun c11004 hm => ?_) (fun c11004 hm => ?_)
      · refine lv_icmp_ge (tgt := 59) hx hb dX12_bestOf_20 (by decide) (fun _ => ?_) (fun h => absurd c11004 h)
        refine lv_iload hx hb dX12_bestOf_59 (lv_at hl 4 rfl) ?_
        exact e_iD C hW hS hm dX12_bestOf_61
      refine lv_icmp_ge (tgt := 59) hx hb dX12_bestOf_20 (by decide) (fun h => absurd h c11004) (fun _ => ?_)
      refine lv_aload_n hx hb dX12_bestOf_23 rfl (lv_at hl 0 rfl) ?_
      refine lv_iload_n hx hb dX12_bestOf_24 rfl (lv_at hl 1 rfl) ?_
      refine lv_iload hx hb dX12_bestOf_25 (lv_at hl 6 rfl) ?_
      refine lv_iload_n hx hb dX12_bestOf_27 rfl (lv_at hl 2 rfl) ?_
      refine lv_iload_n hx hb dX12_bestOf_28 rfl (lv_at hl 3 rfl) ?_
      obtain ⟨v11006, dt11007, hc11005, hm⟩ := q_b2i hm
      refine q_callV C hW hS (As := [.int x1_11, .int x7_11, .int x2_11, .int x3_11]) (rest := []) (st1 := [.long v11006]) (c_X12_metricOf l D al dt x0_11 x1_11 x7_11 x2_11 x3_11 kx0_11 v11006 dt11007 hc11005) yl_X12_metricOf vl_X12_metricOf ml_RX12_434 (ci := 12) rfl kx0_11 (by decide) rfl ⟨Nat.le_of_ble_eq_true rfl, Nat.le_of_ble_eq_true rfl⟩ hl rfl (Nat.le_of_ble_eq_true rfl) dX12_bestOf_29 ⟨Nat.le_refl _, Nat.le_refl _⟩ rfl (fun H locs k11008 hW hS => ?_)
      refine lv_lstore (i := 8) (lv' := [(8, .long v11006), (0, .ref x0_11), (1, .int x1_11), (2, .int x2_11), (3, .int x3_11), (4, .int x4_11), (5, .long x5_11), (7, .int x7_11)]) hx hb dX12_bestOf_32 hl (by decide) rfl (fun ls hl => ?_)
      refine lv_lload hx hb dX12_bestOf_34 (lv_at hl 0 rfl) ?_
      refine lv_lload hx hb dX12_bestOf_36 (lv_at hl 6 rfl) ?_
      refine W.lcmp hx hb dX12_bestOf_38 ?_
      refine q_ifc hm (fun c11009 hm => ?_) (fun c11009 hm => ?_)
      · refine lv_if_gt (tgt := 45) hx hb dX12_bestOf_39 (by decide) (fun _ => ?_) (fun h => absurd (q_cmp_gt.mpr c11009) h)
        refine lv_iload hx hb dX12_bestOf_45 (lv_at hl 7 rfl) ?_
        refine lv_istore (i := 4) (lv' := [(4, .int x7_11), (8, .long v11006), (0, .ref x0_11), (1, .int x1_11), (2, .int x2_11), (3, .int x3_11), (5, .long x5_11), (7, .int x7_11)]) hx hb dX12_bestOf_47 hl (by decide) rfl (fun ls hl => ?_)
        refine lv_lload hx hb dX12_bestOf_49 (lv_at hl 1 rfl) ?_
        refine lv_lstore (i := 5) (lv' := [(5, .long v11006), (4, .int x7_11), (8, .long v11006), (0, .ref x0_11), (1, .int x1_11), (2, .int x2_11), (3, .int x3_11), (7, .int x7_11)]) hx hb dX12_bestOf_51 hl (by decide) rfl (fun ls hl => ?_)
        exact hB53 x7_11 v11006 x7_11 dt11007 _ _ _ hm hW hS (lv_sub hl [3, 4, 5, 6, 1, 0, 7] rfl)
      refine lv_if_gt (tgt := 45) hx hb dX12_bestOf_39 (by decide) (fun h => absurd (q_cmp_gt.mp h) c11009) (fun _ => ?_)
      refine lv_goto (tgt := 53) hx hb dX12_bestOf_42 (by decide) ?_
      exact hB53 x4_11 x5_11 x7_11 dt11007 _ _ _ hm hW hS (lv_sub hl [1, 2, 3, 4, 5, 6, 7] rfl)
  refine lv_iconst (v := 0) hx hb dX12_bestOf_0 (by decide) ?_
  refine lv_istore (i := 4) (lv' := [(4, .int 0), (0, .ref x0), (1, .int x1), (2, .int x2), (3, .int x3)]) hx hb dX12_bestOf_1 hl (by decide) rfl (fun ls hl => ?_)
  refine lv_ldc2 (own := RX12) (v := (-1)) hx hb hown (hts _ wc_RX12_413) dX12_bestOf_3 ?_
  refine lv_lstore (i := 5) (lv' := [(5, .long (-1)), (4, .int 0), (0, .ref x0), (1, .int x1), (2, .int x2), (3, .int x3)]) hx hb dX12_bestOf_6 hl (by decide) rfl (fun ls hl => ?_)
  refine lv_iconst (v := 0) hx hb dX12_bestOf_8 (by decide) ?_
  refine lv_istore (i := 7) (lv' := [(7, .int 0), (5, .long (-1)), (4, .int 0), (0, .ref x0), (1, .int x1), (2, .int x2), (3, .int x3)]) hx hb dX12_bestOf_9 hl (by decide) rfl (fun ls hl => ?_)
  exact hB11 x0 x1 x2 x3 kx0 q_FU 0 (-1) 0 dt _ _ _ hm hW hS (lv_sub hl [3, 4, 5, 6, 2, 1, 0] rfl)
theorem dX12_best_0 : decode cX12_best 0 = .ok (.aload_n 0, 1) := by decide +kernel
theorem dX12_best_1 : decode cX12_best 1 = .ok (.iload_n 1, 1) := by decide +kernel
theorem dX12_best_2 : decode cX12_best 2 = .ok (.iload_n 2, 1) := by decide +kernel
theorem dX12_best_3 : decode cX12_best 3 = .ok (.iload_n 3, 1) := by decide +kernel
theorem dX12_best_4 : decode cX12_best 4 = .ok (.invokevirtual 428, 3) := by decide +kernel
theorem dX12_best_7 : decode cX12_best 7 = .ok (.ifCond .eq 13, 3) := by decide +kernel
theorem dX12_best_10 : decode cX12_best 10 = .ok (.aload_n 0, 1) := by decide +kernel
theorem dX12_best_11 : decode cX12_best 11 = .ok (.iload_n 1, 1) := by decide +kernel
theorem dX12_best_12 : decode cX12_best 12 = .ok (.iload_n 2, 1) := by decide +kernel
theorem dX12_best_13 : decode cX12_best 13 = .ok (.iload_n 3, 1) := by decide +kernel
theorem dX12_best_14 : decode cX12_best 14 = .ok (.invokevirtual 438, 3) := by decide +kernel
theorem dX12_best_17 : decode cX12_best 17 = .ok (.goto 4, 3) := by decide +kernel
theorem dX12_best_20 : decode cX12_best 20 = .ok (.iconst (-1), 1) := by decide +kernel
theorem dX12_best_21 : decode cX12_best 21 = .ok (.ireturn, 1) := by decide +kernel
set_option maxRecDepth 100000 in
theorem c_X12_best (l : Launch) (D : q_D) (al : q_Al) (dt : q_Dt) (x0 : Nat) (x1 : Int32) (x2 : Int32) (x3 : Int32) (kx0 : al.1 x0 = 13) (r0 : Int32) (dt0 : q_Dt) (hm : X12_best al dt x0 x1 x2 x3 = some (r0, dt0)) : q_Mt l yX12_best cX12_best 4 (some FieldType.int) 4 108 D al [.ref x0, .int x1, .int x2, .int x3] dt 0 (some (.int r0)) dt0 := by
  refine q_Mt.of (by decide) (Nat.le_of_ble_eq_true rfl) ?_
  intro p e s m args below meth c ls C hargs hW hl
  have hx := C.1
  have hb := C.2.1
  have hown := C.2.2.2.2.2.1
  have hts := C.2.2.2.2.2.2.1
  have hS : va_S (q_A al) s.heap s.heap [] := va_S.rf
  have hl : lv_has ls 4 [(0, .ref x0), (1, .int x1), (2, .int x2), (3, .int x3)] := hl
  unfold X12_best at hm
  refine lv_aload_n hx hb dX12_best_0 rfl (lv_at hl 0 rfl) ?_
  refine lv_iload_n hx hb dX12_best_1 rfl (lv_at hl 1 rfl) ?_
  refine lv_iload_n hx hb dX12_best_2 rfl (lv_at hl 2 rfl) ?_
  refine lv_iload_n hx hb dX12_best_3 rfl (lv_at hl 3 rfl) ?_
  obtain ⟨v1000002, hc1000001, hm⟩ := q_b1i hm
  refine q_callV C hW hS (As := [.int x1, .int x2, .int x3]) (rest := []) (st1 := [.int v1000002]) (c_X12_canLook l D al dt x0 x1 x2 x3 kx0 v1000002 hc1000001) yl_X12_canLook vl_X12_canLook ml_RX12_428 (ci := 12) rfl kx0 (by decide) rfl ⟨Nat.le_of_ble_eq_true rfl, Nat.le_of_ble_eq_true rfl⟩ hl rfl (Nat.le_of_ble_eq_true rfl) dX12_best_4 ⟨Nat.le_refl _, Nat.le_refl _⟩ rfl (fun H locs k1000003 hW hS => ?_)
  refine q_ifc hm (fun c1000004 hm => ?_) (fun c1000004 hm => ?_)
  · refine lv_if_eq (tgt := 20) hx hb dX12_best_7 (by decide) (fun _ => ?_) (fun h => absurd c1000004 h)
    refine lv_iconst (v := (-1)) hx hb dX12_best_20 (by decide) ?_
    exact e_iD C hW hS hm dX12_best_21
  refine lv_if_eq (tgt := 20) hx hb dX12_best_7 (by decide) (fun h => absurd h c1000004) (fun _ => ?_)
  refine lv_aload_n hx hb dX12_best_10 rfl (lv_at hl 0 rfl) ?_
  refine lv_iload_n hx hb dX12_best_11 rfl (lv_at hl 1 rfl) ?_
  refine lv_iload_n hx hb dX12_best_12 rfl (lv_at hl 2 rfl) ?_
  refine lv_iload_n hx hb dX12_best_13 rfl (lv_at hl 3 rfl) ?_
  obtain ⟨v1000006, dt1000007, hc1000005, hm⟩ := q_b2i hm
  refine q_callV C hW hS (As := [.int x1, .int x2, .int x3]) (rest := []) (st1 := [.int v1000006]) (c_X12_bestOf l D al dt x0 x1 x2 x3 kx0 v1000006 dt1000007 hc1000005) yl_X12_bestOf vl_X12_bestOf ml_RX12_438 (ci := 12) rfl kx0 (by decide) rfl ⟨Nat.le_of_ble_eq_true rfl, Nat.le_of_ble_eq_true rfl⟩ hl rfl (Nat.le_of_ble_eq_true rfl) dX12_best_14 ⟨Nat.le_refl _, Nat.le_refl _⟩ rfl (fun H locs k1000008 hW hS => ?_)
  refine lv_goto (tgt := 21) hx hb dX12_best_17 (by decide) ?_
  exact e_iD C hW hS hm dX12_best_21
theorem dX12_apart_0 : decode cX12_apart 0 = .ok (.iload_n 0, 1) := by decide +kernel
theorem dX12_apart_1 : decode cX12_apart 1 = .ok (.iload_n 1, 1) := by decide +kernel
theorem dX12_apart_2 : decode cX12_apart 2 = .ok (.isub, 1) := by decide +kernel
theorem dX12_apart_3 : decode cX12_apart 3 = .ok (.iload_n 2, 1) := by decide +kernel
theorem dX12_apart_4 : decode cX12_apart 4 = .ok (.irem, 1) := by decide +kernel
theorem dX12_apart_5 : decode cX12_apart 5 = .ok (.istore_n 3, 1) := by decide +kernel
theorem dX12_apart_6 : decode cX12_apart 6 = .ok (.iload_n 3, 1) := by decide +kernel
theorem dX12_apart_7 : decode cX12_apart 7 = .ok (.ifCond .ge 7, 3) := by decide +kernel
theorem dX12_apart_10 : decode cX12_apart 10 = .ok (.iload_n 3, 1) := by decide +kernel
theorem dX12_apart_11 : decode cX12_apart 11 = .ok (.iload_n 2, 1) := by decide +kernel
theorem dX12_apart_12 : decode cX12_apart 12 = .ok (.iadd, 1) := by decide +kernel
theorem dX12_apart_13 : decode cX12_apart 13 = .ok (.istore_n 3, 1) := by decide +kernel
theorem dX12_apart_14 : decode cX12_apart 14 = .ok (.iload_n 3, 1) := by decide +kernel
theorem dX12_apart_15 : decode cX12_apart 15 = .ok (.iload_n 2, 1) := by decide +kernel
theorem dX12_apart_16 : decode cX12_apart 16 = .ok (.iload_n 3, 1) := by decide +kernel
theorem dX12_apart_17 : decode cX12_apart 17 = .ok (.isub, 1) := by decide +kernel
theorem dX12_apart_18 : decode cX12_apart 18 = .ok (.if_icmp .ge 7, 3) := by decide +kernel
theorem dX12_apart_21 : decode cX12_apart 21 = .ok (.iload_n 3, 1) := by decide +kernel
theorem dX12_apart_22 : decode cX12_apart 22 = .ok (.goto 6, 3) := by decide +kernel
theorem dX12_apart_25 : decode cX12_apart 25 = .ok (.iload_n 2, 1) := by decide +kernel
theorem dX12_apart_26 : decode cX12_apart 26 = .ok (.iload_n 3, 1) := by decide +kernel
theorem dX12_apart_27 : decode cX12_apart 27 = .ok (.isub, 1) := by decide +kernel
theorem dX12_apart_28 : decode cX12_apart 28 = .ok (.ireturn, 1) := by decide +kernel
set_option maxRecDepth 100000 in
theorem c_X12_apart (l : Launch) (D : q_D) (al : q_Al) (dt : q_Dt) (x0 : Int32) (x1 : Int32) (x2 : Int32) (r0 : Int32) (hm : X12_apart x0 x1 x2 = some r0) : q_Mt l yX12_apart cX12_apart 4 (some FieldType.int) 0 0 D al [.int x0, .int x1, .int x2] dt 0 (some (.int r0)) dt := by
  refine q_Mt.of (by decide) (Nat.le_of_ble_eq_true rfl) ?_
  intro p e s m args below meth c ls C hargs hW hl
  have hx := C.1
  have hb := C.2.1
  have hown := C.2.2.2.2.2.1
  have hts := C.2.2.2.2.2.2.1
  have hS : va_S (q_A al) s.heap s.heap [] := va_S.rf
  have hl : lv_has ls 4 [(0, .int x0), (1, .int x1), (2, .int x2)] := hl
  unfold X12_apart at hm
  have hB14 : ∀ (x2_14 : Int32) (x3_14 : Int32) (H : Heap) (locs : List Loc) (ls : Array Slot) (hm : X12_apart_b14 x2_14 x3_14 = some r0) (hW : q_W D al dt H) (hS : va_S (q_A al) s.heap H locs) (hl : lv_has ls 4 [(2, .int x2_14), (3, .int x3_14)]), W p l e { frames := 0, cells := 0, slots := 0, locals := 0 } s m args below meth c H locs 0 0 (MQ below (q_Q (some (.int r0)) (fun H => q_W D al dt H ∧ q_Rk al 0 (some (.int r0))) (q_A al)) args s 0 0 (q_A al)) (F0 m 14 ls []) := by
    intro x2_14 x3_14 H locs ls hm hW hS hl
    unfold X12_apart_b14 at hm
    refine lv_iload_n hx hb dX12_apart_14 rfl (lv_at hl 1 rfl) ?_
    refine lv_iload_n hx hb dX12_apart_15 rfl (lv_at hl 0 rfl) ?_
    refine lv_iload_n hx hb dX12_apart_16 rfl (lv_at hl 1 rfl) ?_
    refine lv_isub hx hb dX12_apart_17 ?_
    refine q_ifc hm (fun c14001 hm => ?_) (fun c14001 hm => ?_)
    · refine lv_icmp_ge (tgt := 25) hx hb dX12_apart_18 (by decide) (fun _ => ?_) (fun h => absurd c14001 h)
      refine lv_iload_n hx hb dX12_apart_25 rfl (lv_at hl 0 rfl) ?_
      refine lv_iload_n hx hb dX12_apart_26 rfl (lv_at hl 1 rfl) ?_
      refine lv_isub hx hb dX12_apart_27 ?_
      exact e_i C hW hS hm dX12_apart_28
    refine lv_icmp_ge (tgt := 25) hx hb dX12_apart_18 (by decide) (fun h => absurd h c14001) (fun _ => ?_)
    refine lv_iload_n hx hb dX12_apart_21 rfl (lv_at hl 1 rfl) ?_
    refine lv_goto (tgt := 28) hx hb dX12_apart_22 (by decide) ?_
    exact e_i C hW hS hm dX12_apart_28
  refine lv_iload_n hx hb dX12_apart_0 rfl (lv_at hl 0 rfl) ?_
  refine lv_iload_n hx hb dX12_apart_1 rfl (lv_at hl 1 rfl) ?_
  refine lv_isub hx hb dX12_apart_2 ?_
  refine lv_iload_n hx hb dX12_apart_3 rfl (lv_at hl 2 rfl) ?_
  obtain ⟨c1000001, hm⟩ := q_ini hm
  refine lv_irem hx hb dX12_apart_4 c1000001 ?_
  refine lv_istore_n (i := 3) (lv' := [(3, .int (q_ir (x0 - x1) x2)), (0, .int x0), (1, .int x1), (2, .int x2)]) hx hb dX12_apart_5 rfl hl (by decide) rfl (fun ls hl => ?_)
  refine lv_iload_n hx hb dX12_apart_6 rfl (lv_at hl 0 rfl) ?_
  refine q_ifc hm (fun c1000002 hm => ?_) (fun c1000002 hm => ?_)
  · refine lv_if_ge (tgt := 14) hx hb dX12_apart_7 (by decide) (fun _ => ?_) (fun h => absurd c1000002 h)
    exact hB14 x2 (q_ir (x0 - x1) x2) _ _ _ hm hW hS (lv_sub hl [3, 0] rfl)
  refine lv_if_ge (tgt := 14) hx hb dX12_apart_7 (by decide) (fun h => absurd h c1000002) (fun _ => ?_)
  refine lv_iload_n hx hb dX12_apart_10 rfl (lv_at hl 0 rfl) ?_
  refine lv_iload_n hx hb dX12_apart_11 rfl (lv_at hl 3 rfl) ?_
  refine lv_iadd hx hb dX12_apart_12 ?_
  refine lv_istore_n (i := 3) (lv' := [(3, .int ((q_ir (x0 - x1) x2) + x2)), (0, .int x0), (1, .int x1), (2, .int x2)]) hx hb dX12_apart_13 rfl hl (by decide) rfl (fun ls hl => ?_)
  exact hB14 x2 ((q_ir (x0 - x1) x2) + x2) _ _ _ hm hW hS (lv_sub hl [3, 0] rfl)
theorem dX12_second_0 : decode cX12_second 0 = .ok (.aload_n 0, 1) := by decide +kernel
theorem dX12_second_1 : decode cX12_second 1 = .ok (.iload_n 1, 1) := by decide +kernel
theorem dX12_second_2 : decode cX12_second 2 = .ok (.iload_n 2, 1) := by decide +kernel
theorem dX12_second_3 : decode cX12_second 3 = .ok (.iload_n 3, 1) := by decide +kernel
theorem dX12_second_4 : decode cX12_second 4 = .ok (.invokevirtual 428, 3) := by decide +kernel
theorem dX12_second_7 : decode cX12_second 7 = .ok (.ifCond .eq 14, 3) := by decide +kernel
theorem dX12_second_10 : decode cX12_second 10 = .ok (.iload 4, 2) := by decide +kernel
theorem dX12_second_12 : decode cX12_second 12 = .ok (.iconst 0, 1) := by decide +kernel
theorem dX12_second_13 : decode cX12_second 13 = .ok (.bipush 60, 2) := by decide +kernel
theorem dX12_second_15 : decode cX12_second 15 = .ok (.invokestatic 376, 3) := by decide +kernel
theorem dX12_second_18 : decode cX12_second 18 = .ok (.ifCond .ne 5, 3) := by decide +kernel
theorem dX12_second_21 : decode cX12_second 21 = .ok (.iconst (-1), 1) := by decide +kernel
theorem dX12_second_22 : decode cX12_second 22 = .ok (.ireturn, 1) := by decide +kernel
theorem dX12_second_23 : decode cX12_second 23 = .ok (.aload_n 0, 1) := by decide +kernel
theorem dX12_second_24 : decode cX12_second 24 = .ok (.iload_n 1, 1) := by decide +kernel
theorem dX12_second_25 : decode cX12_second 25 = .ok (.iload_n 2, 1) := by decide +kernel
theorem dX12_second_26 : decode cX12_second 26 = .ok (.iload_n 3, 1) := by decide +kernel
theorem dX12_second_27 : decode cX12_second 27 = .ok (.invokevirtual 438, 3) := by decide +kernel
theorem dX12_second_30 : decode cX12_second 30 = .ok (.istore 5, 2) := by decide +kernel
theorem dX12_second_32 : decode cX12_second 32 = .ok (.bipush (-2), 2) := by decide +kernel
theorem dX12_second_34 : decode cX12_second 34 = .ok (.istore 6, 2) := by decide +kernel
theorem dX12_second_36 : decode cX12_second 36 = .ok (.ldc2_w 413, 3) := by decide +kernel
theorem dX12_second_39 : decode cX12_second 39 = .ok (.lstore 7, 2) := by decide +kernel
theorem dX12_second_41 : decode cX12_second 41 = .ok (.iconst 0, 1) := by decide +kernel
theorem dX12_second_42 : decode cX12_second 42 = .ok (.istore 9, 2) := by decide +kernel
theorem dX12_second_44 : decode cX12_second 44 = .ok (.iload 9, 2) := by decide +kernel
theorem dX12_second_46 : decode cX12_second 46 = .ok (.iconst 4, 1) := by decide +kernel
theorem dX12_second_47 : decode cX12_second 47 = .ok (.aload_n 0, 1) := by decide +kernel
theorem dX12_second_48 : decode cX12_second 48 = .ok (.iload_n 1, 1) := by decide +kernel
theorem dX12_second_49 : decode cX12_second 49 = .ok (.invokevirtual 327, 3) := by decide +kernel
theorem dX12_second_52 : decode cX12_second 52 = .ok (.imul, 1) := by decide +kernel
theorem dX12_second_53 : decode cX12_second 53 = .ok (.if_icmp .ge 74, 3) := by decide +kernel
theorem dX12_second_56 : decode cX12_second 56 = .ok (.iload 9, 2) := by decide +kernel
theorem dX12_second_58 : decode cX12_second 58 = .ok (.iconst 4, 1) := by decide +kernel
theorem dX12_second_59 : decode cX12_second 59 = .ok (.irem, 1) := by decide +kernel
theorem dX12_second_60 : decode cX12_second 60 = .ok (.iload 5, 2) := by decide +kernel
theorem dX12_second_62 : decode cX12_second 62 = .ok (.iconst 4, 1) := by decide +kernel
theorem dX12_second_63 : decode cX12_second 63 = .ok (.irem, 1) := by decide +kernel
theorem dX12_second_64 : decode cX12_second 64 = .ok (.if_icmp .ne 27, 3) := by decide +kernel
theorem dX12_second_67 : decode cX12_second 67 = .ok (.iload 9, 2) := by decide +kernel
theorem dX12_second_69 : decode cX12_second 69 = .ok (.iconst 4, 1) := by decide +kernel
theorem dX12_second_70 : decode cX12_second 70 = .ok (.idiv, 1) := by decide +kernel
theorem dX12_second_71 : decode cX12_second 71 = .ok (.iload 5, 2) := by decide +kernel
theorem dX12_second_73 : decode cX12_second 73 = .ok (.iconst 4, 1) := by decide +kernel
theorem dX12_second_74 : decode cX12_second 74 = .ok (.idiv, 1) := by decide +kernel
theorem dX12_second_75 : decode cX12_second 75 = .ok (.aload_n 0, 1) := by decide +kernel
theorem dX12_second_76 : decode cX12_second 76 = .ok (.iload_n 1, 1) := by decide +kernel
theorem dX12_second_77 : decode cX12_second 77 = .ok (.invokevirtual 327, 3) := by decide +kernel
theorem dX12_second_80 : decode cX12_second 80 = .ok (.invokestatic 441, 3) := by decide +kernel
theorem dX12_second_83 : decode cX12_second 83 = .ok (.iload 4, 2) := by decide +kernel
theorem dX12_second_85 : decode cX12_second 85 = .ok (.if_icmp .gt 6, 3) := by decide +kernel
theorem dX12_second_88 : decode cX12_second 88 = .ok (.goto 33, 3) := by decide +kernel
theorem dX12_second_91 : decode cX12_second 91 = .ok (.aload_n 0, 1) := by decide +kernel
theorem dX12_second_92 : decode cX12_second 92 = .ok (.iload_n 1, 1) := by decide +kernel
theorem dX12_second_93 : decode cX12_second 93 = .ok (.iload 9, 2) := by decide +kernel
theorem dX12_second_95 : decode cX12_second 95 = .ok (.iload_n 2, 1) := by decide +kernel
theorem dX12_second_96 : decode cX12_second 96 = .ok (.iload_n 3, 1) := by decide +kernel
theorem dX12_second_97 : decode cX12_second 97 = .ok (.invokevirtual 434, 3) := by decide +kernel
theorem dX12_second_100 : decode cX12_second 100 = .ok (.lstore 10, 2) := by decide +kernel
theorem dX12_second_102 : decode cX12_second 102 = .ok (.lload 10, 2) := by decide +kernel
theorem dX12_second_104 : decode cX12_second 104 = .ok (.lload 7, 2) := by decide +kernel
theorem dX12_second_106 : decode cX12_second 106 = .ok (.lcmp, 1) := by decide +kernel
theorem dX12_second_107 : decode cX12_second 107 = .ok (.ifCond .gt 6, 3) := by decide +kernel
theorem dX12_second_110 : decode cX12_second 110 = .ok (.goto 11, 3) := by decide +kernel
theorem dX12_second_113 : decode cX12_second 113 = .ok (.iload 9, 2) := by decide +kernel
theorem dX12_second_115 : decode cX12_second 115 = .ok (.istore 6, 2) := by decide +kernel
theorem dX12_second_117 : decode cX12_second 117 = .ok (.lload 10, 2) := by decide +kernel
theorem dX12_second_119 : decode cX12_second 119 = .ok (.lstore 7, 2) := by decide +kernel
theorem dX12_second_121 : decode cX12_second 121 = .ok (.iinc 9 1, 3) := by decide +kernel
theorem dX12_second_124 : decode cX12_second 124 = .ok (.goto (-80), 3) := by decide +kernel
theorem dX12_second_127 : decode cX12_second 127 = .ok (.iload 6, 2) := by decide +kernel
theorem dX12_second_129 : decode cX12_second 129 = .ok (.ireturn, 1) := by decide +kernel
set_option maxRecDepth 100000 in
theorem c_X12_second (l : Launch) (D : q_D) (al : q_Al) (dt : q_Dt) (x0 : Nat) (x1 : Int32) (x2 : Int32) (x3 : Int32) (x4 : Int32) (kx0 : al.1 x0 = 13) (r0 : Int32) (dt0 : q_Dt) (hm : X12_second al dt x0 x1 x2 x3 x4 = some (r0, dt0)) : q_Mt l yX12_second cX12_second 12 (some FieldType.int) 4 108 D al [.ref x0, .int x1, .int x2, .int x3, .int x4] dt 0 (some (.int r0)) dt0 := by
  refine q_Mt.of (by decide) (Nat.le_of_ble_eq_true rfl) ?_
  intro p e s m args below meth c ls C hargs hW hl
  have hx := C.1
  have hb := C.2.1
  have hown := C.2.2.2.2.2.1
  have hts := C.2.2.2.2.2.2.1
  have hS : va_S (q_A al) s.heap s.heap [] := va_S.rf
  have hl : lv_has ls 12 [(0, .ref x0), (1, .int x1), (2, .int x2), (3, .int x3), (4, .int x4)] := hl
  unfold X12_second at hm
  have hB44 : ∀ (x0_44 : Nat) (x1_44 : Int32) (x2_44 : Int32) (x3_44 : Int32) (x4_44 : Int32) (x5_44 : Int32) (kx0_44 : al.1 x0_44 = 13) (n_44 : Nat) (x6_44 : Int32) (x7_44 : Int64) (x9_44 : Int32) (dt : q_Dt) (H : Heap) (locs : List Loc) (ls : Array Slot) (hm : X12_second_b44 al x0_44 x1_44 x2_44 x3_44 x4_44 x5_44 n_44 x6_44 x7_44 x9_44 dt = some (r0, dt0)) (hW : q_W D al dt H) (hS : va_S (q_A al) s.heap H locs) (hl : lv_has ls 12 [(0, .ref x0_44), (1, .int x1_44), (2, .int x2_44), (3, .int x3_44), (4, .int x4_44), (5, .int x5_44), (6, .int x6_44), (7, .long x7_44), (9, .int x9_44)]), W p l e { frames := 4, cells := 0, slots := 0, locals := 108 } s m args below meth c H locs 0 0 (MQ below (q_Q (some (.int r0)) (fun H => q_W D al dt0 H ∧ q_Rk al 0 (some (.int r0))) (q_A al)) args s 0 0 (q_A al)) (F0 m 44 ls []) := by
    intro x0_44 x1_44 x2_44 x3_44 x4_44 x5_44 kx0_44
    intro n_44
    induction n_44 with
    | zero => intro x6_44 x7_44 x9_44 dt H locs ls hm hW hS hl; cases hm
    | succ n_44 ih44 =>
      have hB121 : ∀ (x6_121 : Int32) (x7_121 : Int64) (x9_121 : Int32) (dt : q_Dt) (H : Heap) (locs : List Loc) (ls : Array Slot) (hm : X12_second_b121 al (X12_second_b44 al x0_44 x1_44 x2_44 x3_44 x4_44 x5_44 n_44) x0_44 x1_44 x2_44 x3_44 x4_44 x5_44 x6_121 x7_121 x9_121 dt = some (r0, dt0)) (hW : q_W D al dt H) (hS : va_S (q_A al) s.heap H locs) (hl : lv_has ls 12 [(0, .ref x0_44), (1, .int x1_44), (2, .int x2_44), (3, .int x3_44), (4, .int x4_44), (5, .int x5_44), (6, .int x6_121), (7, .long x7_121), (9, .int x9_121)]), W p l e { frames := 4, cells := 0, slots := 0, locals := 108 } s m args below meth c H locs 0 0 (MQ below (q_Q (some (.int r0)) (fun H => q_W D al dt0 H ∧ q_Rk al 0 (some (.int r0))) (q_A al)) args s 0 0 (q_A al)) (F0 m 121 ls []) := by
        intro x6_121 x7_121 x9_121 dt H locs ls hm hW hS hl
        unfold X12_second_b121 at hm
        refine lv_iinc (v := (x9_121 + 1)) (lv' := [(9, .int (x9_121 + 1)), (0, .ref x0_44), (1, .int x1_44), (2, .int x2_44), (3, .int x3_44), (4, .int x4_44), (5, .int x5_44), (6, .int x6_121), (7, .long x7_121)]) hx hb dX12_second_121 hl (k := 8) rfl rfl (by decide) rfl (fun ls hl => ?_)
        refine lv_goto (tgt := 44) hx hb dX12_second_124 (by decide) ?_
        exact ih44 x6_121 x7_121 (x9_121 + 1) dt _ _ _ hm hW hS (lv_sub hl [1, 2, 3, 4, 5, 6, 7, 8, 0] rfl)
      have hB91 : ∀ (x6_91 : Int32) (x7_91 : Int64) (x9_91 : Int32) (dt : q_Dt) (H : Heap) (locs : List Loc) (ls : Array Slot) (hm : X12_second_b91 al (X12_second_b44 al x0_44 x1_44 x2_44 x3_44 x4_44 x5_44 n_44) x0_44 x1_44 x2_44 x3_44 x4_44 x5_44 x6_91 x7_91 x9_91 dt = some (r0, dt0)) (hW : q_W D al dt H) (hS : va_S (q_A al) s.heap H locs) (hl : lv_has ls 12 [(0, .ref x0_44), (1, .int x1_44), (2, .int x2_44), (3, .int x3_44), (4, .int x4_44), (5, .int x5_44), (6, .int x6_91), (7, .long x7_91), (9, .int x9_91)]), W p l e { frames := 4, cells := 0, slots := 0, locals := 108 } s m args below meth c H locs 0 0 (MQ below (q_Q (some (.int r0)) (fun H => q_W D al dt0 H ∧ q_Rk al 0 (some (.int r0))) (q_A al)) args s 0 0 (q_A al)) (F0 m 91 ls []) := by
        intro x6_91 x7_91 x9_91 dt H locs ls hm hW hS hl
        unfold X12_second_b91 at hm
        refine lv_aload_n hx hb dX12_second_91 rfl (lv_at hl 0 rfl) ?_
        refine lv_iload_n hx hb dX12_second_92 rfl (lv_at hl 1 rfl) ?_
        refine lv_iload hx hb dX12_second_93 (lv_at hl 8 rfl) ?_
        refine lv_iload_n hx hb dX12_second_95 rfl (lv_at hl 2 rfl) ?_
        refine lv_iload_n hx hb dX12_second_96 rfl (lv_at hl 3 rfl) ?_
        obtain ⟨v91002, dt91003, hc91001, hm⟩ := q_b2i hm
        refine q_callV C hW hS (As := [.int x1_44, .int x9_91, .int x2_44, .int x3_44]) (rest := []) (st1 := [.long v91002]) (c_X12_metricOf l D al dt x0_44 x1_44 x9_91 x2_44 x3_44 kx0_44 v91002 dt91003 hc91001) yl_X12_metricOf vl_X12_metricOf ml_RX12_434 (ci := 12) rfl kx0_44 (by decide) rfl ⟨Nat.le_of_ble_eq_true rfl, Nat.le_of_ble_eq_true rfl⟩ hl rfl (Nat.le_of_ble_eq_true rfl) dX12_second_97 ⟨Nat.le_refl _, Nat.le_refl _⟩ rfl (fun H locs k91004 hW hS => ?_)
        refine lv_lstore (i := 10) (lv' := [(10, .long v91002), (0, .ref x0_44), (1, .int x1_44), (2, .int x2_44), (3, .int x3_44), (4, .int x4_44), (5, .int x5_44), (6, .int x6_91), (7, .long x7_91), (9, .int x9_91)]) hx hb dX12_second_100 hl (by decide) rfl (fun ls hl => ?_)
        refine lv_lload hx hb dX12_second_102 (lv_at hl 0 rfl) ?_
        refine lv_lload hx hb dX12_second_104 (lv_at hl 8 rfl) ?_
        refine W.lcmp hx hb dX12_second_106 ?_
        refine q_ifc hm (fun c91005 hm => ?_) (fun c91005 hm => ?_)
        · refine lv_if_gt (tgt := 113) hx hb dX12_second_107 (by decide) (fun _ => ?_) (fun h => absurd (q_cmp_gt.mpr c91005) h)
          refine lv_iload hx hb dX12_second_113 (lv_at hl 9 rfl) ?_
          refine lv_istore (i := 6) (lv' := [(6, .int x9_91), (10, .long v91002), (0, .ref x0_44), (1, .int x1_44), (2, .int x2_44), (3, .int x3_44), (4, .int x4_44), (5, .int x5_44), (7, .long x7_91), (9, .int x9_91)]) hx hb dX12_second_115 hl (by decide) rfl (fun ls hl => ?_)
          refine lv_lload hx hb dX12_second_117 (lv_at hl 1 rfl) ?_
          refine lv_lstore (i := 7) (lv' := [(7, .long v91002), (6, .int x9_91), (10, .long v91002), (0, .ref x0_44), (1, .int x1_44), (2, .int x2_44), (3, .int x3_44), (4, .int x4_44), (5, .int x5_44), (9, .int x9_91)]) hx hb dX12_second_119 hl (by decide) rfl (fun ls hl => ?_)
          exact hB121 x9_91 v91002 x9_91 dt91003 _ _ _ hm hW hS (lv_sub hl [3, 4, 5, 6, 7, 8, 1, 0, 9] rfl)
        refine lv_if_gt (tgt := 113) hx hb dX12_second_107 (by decide) (fun h => absurd (q_cmp_gt.mp h) c91005) (fun _ => ?_)
        refine lv_goto (tgt := 121) hx hb dX12_second_110 (by decide) ?_
        exact hB121 x6_91 x7_91 x9_91 dt91003 _ _ _ hm hW hS (lv_sub hl [1, 2, 3, 4, 5, 6, 7, 8, 9] rfl)
      intro x6_44 x7_44 x9_44 dt H locs ls hm hW hS hl
      rw [X12_second_b44] at hm
      refine lv_iload hx hb dX12_second_44 (lv_at hl 8 rfl) ?_
      refine lv_iconst (v := 4) hx hb dX12_second_46 (by decide) ?_
      refine lv_aload_n hx hb dX12_second_47 rfl (lv_at hl 0 rfl) ?_
      refine lv_iload_n hx hb dX12_second_48 rfl (lv_at hl 1 rfl) ?_
      obtain ⟨v44002, hc44001, hm⟩ := q_b1i hm
      refine q_callV C hW hS (As := [.int x1_44]) (rest := [.int 4, .int x9_44]) (st1 := [.int v44002, .int 4, .int x9_44]) (c_X12_long0 l D al dt x0_44 x1_44 kx0_44 v44002 hc44001) yl_X12_long0 vl_X12_long0 ml_RX12_327 (ci := 12) rfl kx0_44 (by decide) rfl ⟨Nat.le_of_ble_eq_true rfl, Nat.le_of_ble_eq_true rfl⟩ hl rfl (Nat.le_of_ble_eq_true rfl) dX12_second_49 ⟨Nat.le_refl _, Nat.le_refl _⟩ rfl (fun H locs k44003 hW hS => ?_)
      refine lv_imul hx hb dX12_second_52 ?_
      refine q_ifc hm (fun c44004 hm => ?_) (fun c44004 hm => ?_)
      · refine lv_icmp_ge (tgt := 127) hx hb dX12_second_53 (by decide) (fun _ => ?_) (fun h => absurd c44004 h)
        refine lv_iload hx hb dX12_second_127 (lv_at hl 6 rfl) ?_
        exact e_iD C hW hS hm dX12_second_129
      refine lv_icmp_ge (tgt := 127) hx hb dX12_second_53 (by decide) (fun h => absurd h c44004) (fun _ => ?_)
      refine lv_iload hx hb dX12_second_56 (lv_at hl 8 rfl) ?_
      refine lv_iconst (v := 4) hx hb dX12_second_58 (by decide) ?_
      refine lv_irem hx hb dX12_second_59 (by decide) ?_
      refine lv_iload hx hb dX12_second_60 (lv_at hl 5 rfl) ?_
      refine lv_iconst (v := 4) hx hb dX12_second_62 (by decide) ?_
      refine lv_irem hx hb dX12_second_63 (by decide) ?_
      refine q_ifc hm (fun c44007 hm => ?_) (fun c44007 hm => ?_)
      · refine lv_icmp_ne (tgt := 91) hx hb dX12_second_64 (by decide) (fun h => absurd c44007 h) (fun _ => ?_)
        refine lv_iload hx hb dX12_second_67 (lv_at hl 8 rfl) ?_
        refine lv_iconst (v := 4) hx hb dX12_second_69 (by decide) ?_
        refine lv_idiv hx hb dX12_second_70 (by decide) ?_
        refine lv_iload hx hb dX12_second_71 (lv_at hl 5 rfl) ?_
        refine lv_iconst (v := 4) hx hb dX12_second_73 (by decide) ?_
        refine lv_idiv hx hb dX12_second_74 (by decide) ?_
        refine lv_aload_n hx hb dX12_second_75 rfl (lv_at hl 0 rfl) ?_
        refine lv_iload_n hx hb dX12_second_76 rfl (lv_at hl 1 rfl) ?_
        obtain ⟨v44011, hc44010, hm⟩ := q_b1i hm
        refine q_callV C hW hS (As := [.int x1_44]) (rest := [.int (x5_44 / 4), .int (x9_44 / 4)]) (st1 := [.int v44011, .int (x5_44 / 4), .int (x9_44 / 4)]) (c_X12_long0 l D al dt x0_44 x1_44 kx0_44 v44011 hc44010) yl_X12_long0 vl_X12_long0 ml_RX12_327 (ci := 12) rfl kx0_44 (by decide) rfl ⟨Nat.le_of_ble_eq_true rfl, Nat.le_of_ble_eq_true rfl⟩ hl rfl (Nat.le_of_ble_eq_true rfl) dX12_second_77 ⟨Nat.le_refl _, Nat.le_refl _⟩ rfl (fun H locs k44012 hW hS => ?_)
        obtain ⟨v44014, hc44013, hm⟩ := q_b1i hm
        refine q_callS C hW hS (As := [.int (x9_44 / 4), .int (x5_44 / 4), .int v44011]) (rest := []) (st1 := [.int v44014]) (c_X12_apart l D al dt (x9_44 / 4) (x5_44 / 4) v44011 v44014 hc44013) yl_X12_apart sl_X12_apart ml_RX12_441 rfl ⟨Nat.le_of_ble_eq_true rfl, Nat.le_of_ble_eq_true rfl⟩ hl rfl (Nat.le_of_ble_eq_true rfl) dX12_second_80 ⟨Nat.le_refl _, Nat.le_refl _⟩ rfl (fun H locs k44015 hW hS => ?_)
        refine lv_iload hx hb dX12_second_83 (lv_at hl 4 rfl) ?_
        refine q_ifc hm (fun c44016 hm => ?_) (fun c44016 hm => ?_)
        · refine lv_icmp_gt (tgt := 91) hx hb dX12_second_85 (by decide) (fun _ => ?_) (fun h => absurd c44016 h)
          exact hB91 x6_44 x7_44 x9_44 dt _ _ _ hm hW hS (lv_sub hl [0, 1, 2, 3, 4, 5, 6, 7, 8] rfl)
        refine lv_icmp_gt (tgt := 91) hx hb dX12_second_85 (by decide) (fun h => absurd h c44016) (fun _ => ?_)
        refine lv_goto (tgt := 121) hx hb dX12_second_88 (by decide) ?_
        exact hB121 x6_44 x7_44 x9_44 dt _ _ _ hm hW hS (lv_sub hl [0, 1, 2, 3, 4, 5, 6, 7, 8] rfl)
      refine lv_icmp_ne (tgt := 91) hx hb dX12_second_64 (by decide) (fun _ => ?_) (fun h => absurd h c44007)
      exact hB91 x6_44 x7_44 x9_44 dt _ _ _ hm hW hS (lv_sub hl [0, 1, 2, 3, 4, 5, 6, 7, 8] rfl)
  refine lv_aload_n hx hb dX12_second_0 rfl (lv_at hl 0 rfl) ?_
  refine lv_iload_n hx hb dX12_second_1 rfl (lv_at hl 1 rfl) ?_
  refine lv_iload_n hx hb dX12_second_2 rfl (lv_at hl 2 rfl) ?_
  refine lv_iload_n hx hb dX12_second_3 rfl (lv_at hl 3 rfl) ?_
  obtain ⟨v1000002, hc1000001, hm⟩ := q_b1i hm
  refine q_callV C hW hS (As := [.int x1, .int x2, .int x3]) (rest := []) (st1 := [.int v1000002]) (c_X12_canLook l D al dt x0 x1 x2 x3 kx0 v1000002 hc1000001) yl_X12_canLook vl_X12_canLook ml_RX12_428 (ci := 12) rfl kx0 (by decide) rfl ⟨Nat.le_of_ble_eq_true rfl, Nat.le_of_ble_eq_true rfl⟩ hl rfl (Nat.le_of_ble_eq_true rfl) dX12_second_4 ⟨Nat.le_refl _, Nat.le_refl _⟩ rfl (fun H locs k1000003 hW hS => ?_)
  refine q_ifc hm (fun c1000004 hm => ?_) (fun c1000004 hm => ?_)
  · refine lv_if_eq (tgt := 21) hx hb dX12_second_7 (by decide) (fun _ => ?_) (fun h => absurd c1000004 h)
    refine lv_iconst (v := (-1)) hx hb dX12_second_21 (by decide) ?_
    exact e_iD C hW hS hm dX12_second_22
  refine lv_if_eq (tgt := 21) hx hb dX12_second_7 (by decide) (fun h => absurd h c1000004) (fun _ => ?_)
  refine lv_iload hx hb dX12_second_10 (lv_at hl 4 rfl) ?_
  refine lv_iconst (v := 0) hx hb dX12_second_12 (by decide) ?_
  refine lv_bipush (v := 60) hx hb dX12_second_13 (by decide) ?_
  obtain ⟨v1000006, hc1000005, hm⟩ := q_b1i hm
  refine q_callS C hW hS (As := [.int x4, .int 0, .int 60]) (rest := []) (st1 := [.int v1000006]) (c_X12_in l D al dt x4 0 60 v1000006 hc1000005) yl_X12_in sl_X12_in ml_RX12_376 rfl ⟨Nat.le_of_ble_eq_true rfl, Nat.le_of_ble_eq_true rfl⟩ hl rfl (Nat.le_of_ble_eq_true rfl) dX12_second_15 ⟨Nat.le_refl _, Nat.le_refl _⟩ rfl (fun H locs k1000007 hW hS => ?_)
  refine q_ifc hm (fun c1000008 hm => ?_) (fun c1000008 hm => ?_)
  · refine lv_if_ne (tgt := 23) hx hb dX12_second_18 (by decide) (fun h => absurd c1000008 h) (fun _ => ?_)
    refine lv_iconst (v := (-1)) hx hb dX12_second_21 (by decide) ?_
    exact e_iD C hW hS hm dX12_second_22
  refine lv_if_ne (tgt := 23) hx hb dX12_second_18 (by decide) (fun _ => ?_) (fun h => absurd h c1000008)
  refine lv_aload_n hx hb dX12_second_23 rfl (lv_at hl 0 rfl) ?_
  refine lv_iload_n hx hb dX12_second_24 rfl (lv_at hl 1 rfl) ?_
  refine lv_iload_n hx hb dX12_second_25 rfl (lv_at hl 2 rfl) ?_
  refine lv_iload_n hx hb dX12_second_26 rfl (lv_at hl 3 rfl) ?_
  obtain ⟨v1000010, dt1000011, hc1000009, hm⟩ := q_b2i hm
  refine q_callV C hW hS (As := [.int x1, .int x2, .int x3]) (rest := []) (st1 := [.int v1000010]) (c_X12_bestOf l D al dt x0 x1 x2 x3 kx0 v1000010 dt1000011 hc1000009) yl_X12_bestOf vl_X12_bestOf ml_RX12_438 (ci := 12) rfl kx0 (by decide) rfl ⟨Nat.le_of_ble_eq_true rfl, Nat.le_of_ble_eq_true rfl⟩ hl rfl (Nat.le_of_ble_eq_true rfl) dX12_second_27 ⟨Nat.le_refl _, Nat.le_refl _⟩ rfl (fun H locs k1000012 hW hS => ?_)
  refine lv_istore (i := 5) (lv' := [(5, .int v1000010), (0, .ref x0), (1, .int x1), (2, .int x2), (3, .int x3), (4, .int x4)]) hx hb dX12_second_30 hl (by decide) rfl (fun ls hl => ?_)
  refine lv_bipush (v := (-2)) hx hb dX12_second_32 (by decide) ?_
  refine lv_istore (i := 6) (lv' := [(6, .int (-2)), (5, .int v1000010), (0, .ref x0), (1, .int x1), (2, .int x2), (3, .int x3), (4, .int x4)]) hx hb dX12_second_34 hl (by decide) rfl (fun ls hl => ?_)
  refine lv_ldc2 (own := RX12) (v := (-1)) hx hb hown (hts _ wc_RX12_413) dX12_second_36 ?_
  refine lv_lstore (i := 7) (lv' := [(7, .long (-1)), (6, .int (-2)), (5, .int v1000010), (0, .ref x0), (1, .int x1), (2, .int x2), (3, .int x3), (4, .int x4)]) hx hb dX12_second_39 hl (by decide) rfl (fun ls hl => ?_)
  refine lv_iconst (v := 0) hx hb dX12_second_41 (by decide) ?_
  refine lv_istore (i := 9) (lv' := [(9, .int 0), (7, .long (-1)), (6, .int (-2)), (5, .int v1000010), (0, .ref x0), (1, .int x1), (2, .int x2), (3, .int x3), (4, .int x4)]) hx hb dX12_second_42 hl (by decide) rfl (fun ls hl => ?_)
  exact hB44 x0 x1 x2 x3 x4 v1000010 kx0 q_FU (-2) (-1) 0 dt1000011 _ _ _ hm hW hS (lv_sub hl [4, 5, 6, 7, 8, 3, 2, 1, 0] rfl)
theorem dX12_peak_0 : decode cX12_peak 0 = .ok (.aload_n 0, 1) := by decide +kernel
theorem dX12_peak_1 : decode cX12_peak 1 = .ok (.iload_n 1, 1) := by decide +kernel
theorem dX12_peak_2 : decode cX12_peak 2 = .ok (.iload_n 3, 1) := by decide +kernel
theorem dX12_peak_3 : decode cX12_peak 3 = .ok (.iload 4, 2) := by decide +kernel
theorem dX12_peak_5 : decode cX12_peak 5 = .ok (.invokevirtual 428, 3) := by decide +kernel
theorem dX12_peak_8 : decode cX12_peak 8 = .ok (.ifCond .eq 28, 3) := by decide +kernel
theorem dX12_peak_11 : decode cX12_peak 11 = .ok (.iload_n 2, 1) := by decide +kernel
theorem dX12_peak_12 : decode cX12_peak 12 = .ok (.iconst 0, 1) := by decide +kernel
theorem dX12_peak_13 : decode cX12_peak 13 = .ok (.iconst 3, 1) := by decide +kernel
theorem dX12_peak_14 : decode cX12_peak 14 = .ok (.invokestatic 376, 3) := by decide +kernel
theorem dX12_peak_17 : decode cX12_peak 17 = .ok (.ifCond .eq 19, 3) := by decide +kernel
theorem dX12_peak_20 : decode cX12_peak 20 = .ok (.iload 5, 2) := by decide +kernel
theorem dX12_peak_22 : decode cX12_peak 22 = .ok (.iconst 0, 1) := by decide +kernel
theorem dX12_peak_23 : decode cX12_peak 23 = .ok (.aload_n 0, 1) := by decide +kernel
theorem dX12_peak_24 : decode cX12_peak 24 = .ok (.iload_n 1, 1) := by decide +kernel
theorem dX12_peak_25 : decode cX12_peak 25 = .ok (.invokevirtual 327, 3) := by decide +kernel
theorem dX12_peak_28 : decode cX12_peak 28 = .ok (.iconst 1, 1) := by decide +kernel
theorem dX12_peak_29 : decode cX12_peak 29 = .ok (.isub, 1) := by decide +kernel
theorem dX12_peak_30 : decode cX12_peak 30 = .ok (.invokestatic 376, 3) := by decide +kernel
theorem dX12_peak_33 : decode cX12_peak 33 = .ok (.ifCond .ne 5, 3) := by decide +kernel
theorem dX12_peak_36 : decode cX12_peak 36 = .ok (.iconst (-1), 1) := by decide +kernel
theorem dX12_peak_37 : decode cX12_peak 37 = .ok (.ireturn, 1) := by decide +kernel
theorem dX12_peak_38 : decode cX12_peak 38 = .ok (.iconst 0, 1) := by decide +kernel
theorem dX12_peak_39 : decode cX12_peak 39 = .ok (.istore 6, 2) := by decide +kernel
theorem dX12_peak_41 : decode cX12_peak 41 = .ok (.iload 6, 2) := by decide +kernel
theorem dX12_peak_43 : decode cX12_peak 43 = .ok (.aload_n 0, 1) := by decide +kernel
theorem dX12_peak_44 : decode cX12_peak 44 = .ok (.iload_n 1, 1) := by decide +kernel
theorem dX12_peak_45 : decode cX12_peak 45 = .ok (.invokevirtual 327, 3) := by decide +kernel
theorem dX12_peak_48 : decode cX12_peak 48 = .ok (.if_icmp .ge 30, 3) := by decide +kernel
theorem dX12_peak_51 : decode cX12_peak 51 = .ok (.aload_n 0, 1) := by decide +kernel
theorem dX12_peak_52 : decode cX12_peak 52 = .ok (.getfield 155, 3) := by decide +kernel
theorem dX12_peak_55 : decode cX12_peak 55 = .ok (.iload 6, 2) := by decide +kernel
theorem dX12_peak_57 : decode cX12_peak 57 = .ok (.aload_n 0, 1) := by decide +kernel
theorem dX12_peak_58 : decode cX12_peak 58 = .ok (.iload_n 1, 1) := by decide +kernel
theorem dX12_peak_59 : decode cX12_peak 59 = .ok (.iconst 4, 1) := by decide +kernel
theorem dX12_peak_60 : decode cX12_peak 60 = .ok (.iload 6, 2) := by decide +kernel
theorem dX12_peak_62 : decode cX12_peak 62 = .ok (.imul, 1) := by decide +kernel
theorem dX12_peak_63 : decode cX12_peak 63 = .ok (.iload_n 2, 1) := by decide +kernel
theorem dX12_peak_64 : decode cX12_peak 64 = .ok (.iadd, 1) := by decide +kernel
theorem dX12_peak_65 : decode cX12_peak 65 = .ok (.iload_n 3, 1) := by decide +kernel
theorem dX12_peak_66 : decode cX12_peak 66 = .ok (.iload 4, 2) := by decide +kernel
theorem dX12_peak_68 : decode cX12_peak 68 = .ok (.invokevirtual 434, 3) := by decide +kernel
theorem dX12_peak_71 : decode cX12_peak 71 = .ok (.lastore, 1) := by decide +kernel
theorem dX12_peak_72 : decode cX12_peak 72 = .ok (.iinc 6 1, 3) := by decide +kernel
theorem dX12_peak_75 : decode cX12_peak 75 = .ok (.goto (-34), 3) := by decide +kernel
theorem dX12_peak_78 : decode cX12_peak 78 = .ok (.iconst 0, 1) := by decide +kernel
theorem dX12_peak_79 : decode cX12_peak 79 = .ok (.istore 6, 2) := by decide +kernel
theorem dX12_peak_81 : decode cX12_peak 81 = .ok (.iload 6, 2) := by decide +kernel
theorem dX12_peak_83 : decode cX12_peak 83 = .ok (.aload_n 0, 1) := by decide +kernel
theorem dX12_peak_84 : decode cX12_peak 84 = .ok (.iload_n 1, 1) := by decide +kernel
theorem dX12_peak_85 : decode cX12_peak 85 = .ok (.invokevirtual 327, 3) := by decide +kernel
theorem dX12_peak_88 : decode cX12_peak 88 = .ok (.if_icmp .ge 87, 3) := by decide +kernel
theorem dX12_peak_91 : decode cX12_peak 91 = .ok (.iconst 0, 1) := by decide +kernel
theorem dX12_peak_92 : decode cX12_peak 92 = .ok (.istore 7, 2) := by decide +kernel
theorem dX12_peak_94 : decode cX12_peak 94 = .ok (.iconst 0, 1) := by decide +kernel
theorem dX12_peak_95 : decode cX12_peak 95 = .ok (.istore 8, 2) := by decide +kernel
theorem dX12_peak_97 : decode cX12_peak 97 = .ok (.iload 8, 2) := by decide +kernel
theorem dX12_peak_99 : decode cX12_peak 99 = .ok (.aload_n 0, 1) := by decide +kernel
theorem dX12_peak_100 : decode cX12_peak 100 = .ok (.iload_n 1, 1) := by decide +kernel
theorem dX12_peak_101 : decode cX12_peak 101 = .ok (.invokevirtual 327, 3) := by decide +kernel
theorem dX12_peak_104 : decode cX12_peak 104 = .ok (.if_icmp .ge 55, 3) := by decide +kernel
theorem dX12_peak_107 : decode cX12_peak 107 = .ok (.aload_n 0, 1) := by decide +kernel
theorem dX12_peak_108 : decode cX12_peak 108 = .ok (.getfield 155, 3) := by decide +kernel
theorem dX12_peak_111 : decode cX12_peak 111 = .ok (.iload 8, 2) := by decide +kernel
theorem dX12_peak_113 : decode cX12_peak 113 = .ok (.laload, 1) := by decide +kernel
theorem dX12_peak_114 : decode cX12_peak 114 = .ok (.aload_n 0, 1) := by decide +kernel
theorem dX12_peak_115 : decode cX12_peak 115 = .ok (.getfield 155, 3) := by decide +kernel
theorem dX12_peak_118 : decode cX12_peak 118 = .ok (.iload 6, 2) := by decide +kernel
theorem dX12_peak_120 : decode cX12_peak 120 = .ok (.laload, 1) := by decide +kernel
theorem dX12_peak_121 : decode cX12_peak 121 = .ok (.lcmp, 1) := by decide +kernel
theorem dX12_peak_122 : decode cX12_peak 122 = .ok (.ifCond .gt 28, 3) := by decide +kernel
theorem dX12_peak_125 : decode cX12_peak 125 = .ok (.aload_n 0, 1) := by decide +kernel
theorem dX12_peak_126 : decode cX12_peak 126 = .ok (.getfield 155, 3) := by decide +kernel
theorem dX12_peak_129 : decode cX12_peak 129 = .ok (.iload 8, 2) := by decide +kernel
theorem dX12_peak_131 : decode cX12_peak 131 = .ok (.laload, 1) := by decide +kernel
theorem dX12_peak_132 : decode cX12_peak 132 = .ok (.aload_n 0, 1) := by decide +kernel
theorem dX12_peak_133 : decode cX12_peak 133 = .ok (.getfield 155, 3) := by decide +kernel
theorem dX12_peak_136 : decode cX12_peak 136 = .ok (.iload 6, 2) := by decide +kernel
theorem dX12_peak_138 : decode cX12_peak 138 = .ok (.laload, 1) := by decide +kernel
theorem dX12_peak_139 : decode cX12_peak 139 = .ok (.lcmp, 1) := by decide +kernel
theorem dX12_peak_140 : decode cX12_peak 140 = .ok (.ifCond .ne 13, 3) := by decide +kernel
theorem dX12_peak_143 : decode cX12_peak 143 = .ok (.iload 8, 2) := by decide +kernel
theorem dX12_peak_145 : decode cX12_peak 145 = .ok (.iload 6, 2) := by decide +kernel
theorem dX12_peak_147 : decode cX12_peak 147 = .ok (.if_icmp .ge 6, 3) := by decide +kernel
theorem dX12_peak_150 : decode cX12_peak 150 = .ok (.iinc 7 1, 3) := by decide +kernel
theorem dX12_peak_153 : decode cX12_peak 153 = .ok (.iinc 8 1, 3) := by decide +kernel
theorem dX12_peak_156 : decode cX12_peak 156 = .ok (.goto (-59), 3) := by decide +kernel
theorem dX12_peak_159 : decode cX12_peak 159 = .ok (.iload 7, 2) := by decide +kernel
theorem dX12_peak_161 : decode cX12_peak 161 = .ok (.iload 5, 2) := by decide +kernel
theorem dX12_peak_163 : decode cX12_peak 163 = .ok (.if_icmp .ne 6, 3) := by decide +kernel
theorem dX12_peak_166 : decode cX12_peak 166 = .ok (.iload 6, 2) := by decide +kernel
theorem dX12_peak_168 : decode cX12_peak 168 = .ok (.ireturn, 1) := by decide +kernel
theorem dX12_peak_169 : decode cX12_peak 169 = .ok (.iinc 6 1, 3) := by decide +kernel
theorem dX12_peak_172 : decode cX12_peak 172 = .ok (.goto (-91), 3) := by decide +kernel
theorem dX12_peak_175 : decode cX12_peak 175 = .ok (.iconst (-1), 1) := by decide +kernel
theorem dX12_peak_176 : decode cX12_peak 176 = .ok (.ireturn, 1) := by decide +kernel
set_option maxRecDepth 100000 in
theorem c_X12_peak (l : Launch) (D : q_D) (al : q_Al) (dt : q_Dt) (x0 : Nat) (x1 : Int32) (x2 : Int32) (x3 : Int32) (x4 : Int32) (x5 : Int32) (kx0 : al.1 x0 = 13) (r0 : Int32) (dt0 : q_Dt) (hm : X12_peak al dt x0 x1 x2 x3 x4 x5 = some (r0, dt0)) : q_Mt l yX12_peak cX12_peak 9 (some FieldType.int) 3 79 D al [.ref x0, .int x1, .int x2, .int x3, .int x4, .int x5] dt 0 (some (.int r0)) dt0 := by
  refine q_Mt.of (by decide) (Nat.le_of_ble_eq_true rfl) ?_
  intro p e s m args below meth c ls C hargs hW hl
  have hx := C.1
  have hb := C.2.1
  have hown := C.2.2.2.2.2.1
  have hts := C.2.2.2.2.2.2.1
  have hS : va_S (q_A al) s.heap s.heap [] := va_S.rf
  have hl : lv_has ls 9 [(0, .ref x0), (1, .int x1), (2, .int x2), (3, .int x3), (4, .int x4), (5, .int x5)] := hl
  unfold X12_peak at hm
  have hB81 : ∀ (x0_81 : Nat) (x1_81 : Int32) (x5_81 : Int32) (kx0_81 : al.1 x0_81 = 13) (n_81 : Nat) (x6_81 : Int32) (dt : q_Dt) (H : Heap) (locs : List Loc) (ls : Array Slot) (hm : X12_peak_b81 al x0_81 x1_81 x5_81 n_81 x6_81 dt = some (r0, dt0)) (hW : q_W D al dt H) (hS : va_S (q_A al) s.heap H locs) (hl : lv_has ls 9 [(0, .ref x0_81), (1, .int x1_81), (5, .int x5_81), (6, .int x6_81)]), W p l e { frames := 3, cells := 0, slots := 0, locals := 79 } s m args below meth c H locs 0 0 (MQ below (q_Q (some (.int r0)) (fun H => q_W D al dt0 H ∧ q_Rk al 0 (some (.int r0))) (q_A al)) args s 0 0 (q_A al)) (F0 m 81 ls []) := by
    intro x0_81 x1_81 x5_81 kx0_81
    intro n_81
    induction n_81 with
    | zero => intro x6_81 dt H locs ls hm hW hS hl; cases hm
    | succ n_81 ih81 =>
      have hB97 : ∀ (x6_97 : Int32) (n_97 : Nat) (x7_97 : Int32) (x8_97 : Int32) (dt : q_Dt) (H : Heap) (locs : List Loc) (ls : Array Slot) (hm : X12_peak_b97 al (X12_peak_b81 al x0_81 x1_81 x5_81 n_81) x0_81 x1_81 x5_81 x6_97 n_97 x7_97 x8_97 dt = some (r0, dt0)) (hW : q_W D al dt H) (hS : va_S (q_A al) s.heap H locs) (hl : lv_has ls 9 [(0, .ref x0_81), (1, .int x1_81), (5, .int x5_81), (6, .int x6_97), (7, .int x7_97), (8, .int x8_97)]), W p l e { frames := 3, cells := 0, slots := 0, locals := 79 } s m args below meth c H locs 0 0 (MQ below (q_Q (some (.int r0)) (fun H => q_W D al dt0 H ∧ q_Rk al 0 (some (.int r0))) (q_A al)) args s 0 0 (q_A al)) (F0 m 97 ls []) := by
        intro x6_97
        intro n_97
        induction n_97 with
        | zero => intro x7_97 x8_97 dt H locs ls hm hW hS hl; cases hm
        | succ n_97 ih97 =>
          have hB153 : ∀ (x7_153 : Int32) (x8_153 : Int32) (dt : q_Dt) (H : Heap) (locs : List Loc) (ls : Array Slot) (hm : X12_peak_b153 al (X12_peak_b81 al x0_81 x1_81 x5_81 n_81) (X12_peak_b97 al (X12_peak_b81 al x0_81 x1_81 x5_81 n_81) x0_81 x1_81 x5_81 x6_97 n_97) x0_81 x1_81 x5_81 x6_97 x7_153 x8_153 dt = some (r0, dt0)) (hW : q_W D al dt H) (hS : va_S (q_A al) s.heap H locs) (hl : lv_has ls 9 [(0, .ref x0_81), (1, .int x1_81), (5, .int x5_81), (6, .int x6_97), (7, .int x7_153), (8, .int x8_153)]), W p l e { frames := 3, cells := 0, slots := 0, locals := 79 } s m args below meth c H locs 0 0 (MQ below (q_Q (some (.int r0)) (fun H => q_W D al dt0 H ∧ q_Rk al 0 (some (.int r0))) (q_A al)) args s 0 0 (q_A al)) (F0 m 153 ls []) := by
            intro x7_153 x8_153 dt H locs ls hm hW hS hl
            unfold X12_peak_b153 at hm
            refine lv_iinc (v := (x8_153 + 1)) (lv' := [(8, .int (x8_153 + 1)), (0, .ref x0_81), (1, .int x1_81), (5, .int x5_81), (6, .int x6_97), (7, .int x7_153)]) hx hb dX12_peak_153 hl (k := 5) rfl rfl (by decide) rfl (fun ls hl => ?_)
            refine lv_goto (tgt := 97) hx hb dX12_peak_156 (by decide) ?_
            exact ih97 x7_153 (x8_153 + 1) dt _ _ _ hm hW hS (lv_sub hl [1, 2, 3, 4, 5, 0] rfl)
          have hB150 : ∀ (x7_150 : Int32) (x8_150 : Int32) (dt : q_Dt) (H : Heap) (locs : List Loc) (ls : Array Slot) (hm : X12_peak_b150 al (X12_peak_b81 al x0_81 x1_81 x5_81 n_81) (X12_peak_b97 al (X12_peak_b81 al x0_81 x1_81 x5_81 n_81) x0_81 x1_81 x5_81 x6_97 n_97) x0_81 x1_81 x5_81 x6_97 x7_150 x8_150 dt = some (r0, dt0)) (hW : q_W D al dt H) (hS : va_S (q_A al) s.heap H locs) (hl : lv_has ls 9 [(0, .ref x0_81), (1, .int x1_81), (5, .int x5_81), (6, .int x6_97), (7, .int x7_150), (8, .int x8_150)]), W p l e { frames := 3, cells := 0, slots := 0, locals := 79 } s m args below meth c H locs 0 0 (MQ below (q_Q (some (.int r0)) (fun H => q_W D al dt0 H ∧ q_Rk al 0 (some (.int r0))) (q_A al)) args s 0 0 (q_A al)) (F0 m 150 ls []) := by
            intro x7_150 x8_150 dt H locs ls hm hW hS hl
            unfold X12_peak_b150 at hm
            refine lv_iinc (v := (x7_150 + 1)) (lv' := [(7, .int (x7_150 + 1)), (0, .ref x0_81), (1, .int x1_81), (5, .int x5_81), (6, .int x6_97), (8, .int x8_150)]) hx hb dX12_peak_150 hl (k := 4) rfl rfl (by decide) rfl (fun ls hl => ?_)
            exact hB153 (x7_150 + 1) x8_150 dt _ _ _ hm hW hS (lv_sub hl [1, 2, 3, 4, 0, 5] rfl)
          intro x7_97 x8_97 dt H locs ls hm hW hS hl
          rw [X12_peak_b97] at hm
          refine lv_iload hx hb dX12_peak_97 (lv_at hl 5 rfl) ?_
          refine lv_aload_n hx hb dX12_peak_99 rfl (lv_at hl 0 rfl) ?_
          refine lv_iload_n hx hb dX12_peak_100 rfl (lv_at hl 1 rfl) ?_
          obtain ⟨v97002, hc97001, hm⟩ := q_b1i hm
          refine q_callV C hW hS (As := [.int x1_81]) (rest := [.int x8_97]) (st1 := [.int v97002, .int x8_97]) (c_X12_long0 l D al dt x0_81 x1_81 kx0_81 v97002 hc97001) yl_X12_long0 vl_X12_long0 ml_RX12_327 (ci := 12) rfl kx0_81 (by decide) rfl ⟨Nat.le_of_ble_eq_true rfl, Nat.le_of_ble_eq_true rfl⟩ hl rfl (Nat.le_of_ble_eq_true rfl) dX12_peak_101 ⟨Nat.le_refl _, Nat.le_refl _⟩ rfl (fun H locs k97003 hW hS => ?_)
          refine q_ifc hm (fun c97004 hm => ?_) (fun c97004 hm => ?_)
          · refine lv_icmp_ge (tgt := 159) hx hb dX12_peak_104 (by decide) (fun _ => ?_) (fun h => absurd c97004 h)
            refine lv_iload hx hb dX12_peak_159 (lv_at hl 4 rfl) ?_
            refine lv_iload hx hb dX12_peak_161 (lv_at hl 2 rfl) ?_
            refine q_ifc hm (fun c97005 hm => ?_) (fun c97005 hm => ?_)
            · refine lv_icmp_ne (tgt := 169) hx hb dX12_peak_163 (by decide) (fun h => absurd c97005 h) (fun _ => ?_)
              refine lv_iload hx hb dX12_peak_166 (lv_at hl 3 rfl) ?_
              exact e_iD C hW hS hm dX12_peak_168
            refine lv_icmp_ne (tgt := 169) hx hb dX12_peak_163 (by decide) (fun _ => ?_) (fun h => absurd h c97005)
            refine lv_iinc (v := (x6_97 + 1)) (lv' := [(6, .int (x6_97 + 1)), (0, .ref x0_81), (1, .int x1_81), (5, .int x5_81), (7, .int x7_97), (8, .int x8_97)]) hx hb dX12_peak_169 hl (k := 3) rfl rfl (by decide) rfl (fun ls hl => ?_)
            refine lv_goto (tgt := 81) hx hb dX12_peak_172 (by decide) ?_
            exact ih81 (x6_97 + 1) dt _ _ _ hm hW hS (lv_sub hl [1, 2, 3, 0] rfl)
          refine lv_icmp_ge (tgt := 159) hx hb dX12_peak_104 (by decide) (fun h => absurd h c97004) (fun _ => ?_)
          refine lv_aload_n hx hb dX12_peak_107 rfl (lv_at hl 0 rfl) ?_
          refine r_getF C hW (ci := 12) kx0_81 ff_12_62 cl_12 fl_RX12_155 dX12_peak_108 (fun k97006 => ?_)
          refine lv_iload hx hb dX12_peak_111 (lv_at hl 5 rfl) ?_
          refine r_lald C hW hm k97006 dX12_peak_113 (fun hm => ?_)
          refine lv_aload_n hx hb dX12_peak_114 rfl (lv_at hl 0 rfl) ?_
          refine r_getF C hW (ci := 12) kx0_81 ff_12_62 cl_12 fl_RX12_155 dX12_peak_115 (fun k97007 => ?_)
          refine lv_iload hx hb dX12_peak_118 (lv_at hl 3 rfl) ?_
          refine r_lald C hW hm k97007 dX12_peak_120 (fun hm => ?_)
          refine W.lcmp hx hb dX12_peak_121 ?_
          refine q_ifc hm (fun c97008 hm => ?_) (fun c97008 hm => ?_)
          · refine lv_if_gt (tgt := 150) hx hb dX12_peak_122 (by decide) (fun _ => ?_) (fun h => absurd (q_cmp_gt.mpr c97008) h)
            exact hB150 x7_97 x8_97 dt _ _ _ hm hW hS (lv_sub hl [0, 1, 2, 3, 4, 5] rfl)
          refine lv_if_gt (tgt := 150) hx hb dX12_peak_122 (by decide) (fun h => absurd (q_cmp_gt.mp h) c97008) (fun _ => ?_)
          refine lv_aload_n hx hb dX12_peak_125 rfl (lv_at hl 0 rfl) ?_
          refine r_getF C hW (ci := 12) kx0_81 ff_12_62 cl_12 fl_RX12_155 dX12_peak_126 (fun k97009 => ?_)
          refine lv_iload hx hb dX12_peak_129 (lv_at hl 5 rfl) ?_
          refine r_lald C hW hm k97009 dX12_peak_131 (fun hm => ?_)
          refine lv_aload_n hx hb dX12_peak_132 rfl (lv_at hl 0 rfl) ?_
          refine r_getF C hW (ci := 12) kx0_81 ff_12_62 cl_12 fl_RX12_155 dX12_peak_133 (fun k97010 => ?_)
          refine lv_iload hx hb dX12_peak_136 (lv_at hl 3 rfl) ?_
          refine r_lald C hW hm k97010 dX12_peak_138 (fun hm => ?_)
          refine W.lcmp hx hb dX12_peak_139 ?_
          refine q_ifc hm (fun c97011 hm => ?_) (fun c97011 hm => ?_)
          · refine lv_if_ne (tgt := 153) hx hb dX12_peak_140 (by decide) (fun h => absurd (q_cmp_eq.mpr c97011) h) (fun _ => ?_)
            refine lv_iload hx hb dX12_peak_143 (lv_at hl 5 rfl) ?_
            refine lv_iload hx hb dX12_peak_145 (lv_at hl 3 rfl) ?_
            refine q_ifc hm (fun c97012 hm => ?_) (fun c97012 hm => ?_)
            · refine lv_icmp_ge (tgt := 153) hx hb dX12_peak_147 (by decide) (fun _ => ?_) (fun h => absurd c97012 h)
              exact hB153 x7_97 x8_97 dt _ _ _ hm hW hS (lv_sub hl [0, 1, 2, 3, 4, 5] rfl)
            refine lv_icmp_ge (tgt := 153) hx hb dX12_peak_147 (by decide) (fun h => absurd h c97012) (fun _ => ?_)
            exact hB150 x7_97 x8_97 dt _ _ _ hm hW hS (lv_sub hl [0, 1, 2, 3, 4, 5] rfl)
          refine lv_if_ne (tgt := 153) hx hb dX12_peak_140 (by decide) (fun _ => ?_) (fun h => absurd (q_cmp_eq.mp h) c97011)
          exact hB153 x7_97 x8_97 dt _ _ _ hm hW hS (lv_sub hl [0, 1, 2, 3, 4, 5] rfl)
      intro x6_81 dt H locs ls hm hW hS hl
      rw [X12_peak_b81] at hm
      refine lv_iload hx hb dX12_peak_81 (lv_at hl 3 rfl) ?_
      refine lv_aload_n hx hb dX12_peak_83 rfl (lv_at hl 0 rfl) ?_
      refine lv_iload_n hx hb dX12_peak_84 rfl (lv_at hl 1 rfl) ?_
      obtain ⟨v81002, hc81001, hm⟩ := q_b1i hm
      refine q_callV C hW hS (As := [.int x1_81]) (rest := [.int x6_81]) (st1 := [.int v81002, .int x6_81]) (c_X12_long0 l D al dt x0_81 x1_81 kx0_81 v81002 hc81001) yl_X12_long0 vl_X12_long0 ml_RX12_327 (ci := 12) rfl kx0_81 (by decide) rfl ⟨Nat.le_of_ble_eq_true rfl, Nat.le_of_ble_eq_true rfl⟩ hl rfl (Nat.le_of_ble_eq_true rfl) dX12_peak_85 ⟨Nat.le_refl _, Nat.le_refl _⟩ rfl (fun H locs k81003 hW hS => ?_)
      refine q_ifc hm (fun c81004 hm => ?_) (fun c81004 hm => ?_)
      · refine lv_icmp_ge (tgt := 175) hx hb dX12_peak_88 (by decide) (fun _ => ?_) (fun h => absurd c81004 h)
        refine lv_iconst (v := (-1)) hx hb dX12_peak_175 (by decide) ?_
        exact e_iD C hW hS hm dX12_peak_176
      refine lv_icmp_ge (tgt := 175) hx hb dX12_peak_88 (by decide) (fun h => absurd h c81004) (fun _ => ?_)
      refine lv_iconst (v := 0) hx hb dX12_peak_91 (by decide) ?_
      refine lv_istore (i := 7) (lv' := [(7, .int 0), (0, .ref x0_81), (1, .int x1_81), (5, .int x5_81), (6, .int x6_81)]) hx hb dX12_peak_92 hl (by decide) rfl (fun ls hl => ?_)
      refine lv_iconst (v := 0) hx hb dX12_peak_94 (by decide) ?_
      refine lv_istore (i := 8) (lv' := [(8, .int 0), (7, .int 0), (0, .ref x0_81), (1, .int x1_81), (5, .int x5_81), (6, .int x6_81)]) hx hb dX12_peak_95 hl (by decide) rfl (fun ls hl => ?_)
      exact hB97 x6_81 q_FU 0 0 dt _ _ _ hm hW hS (lv_sub hl [2, 3, 4, 5, 1, 0] rfl)
  have hB41 : ∀ (x0_41 : Nat) (x1_41 : Int32) (x2_41 : Int32) (x3_41 : Int32) (x4_41 : Int32) (x5_41 : Int32) (kx0_41 : al.1 x0_41 = 13) (n_41 : Nat) (x6_41 : Int32) (dt : q_Dt) (H : Heap) (locs : List Loc) (ls : Array Slot) (hm : X12_peak_b41 al x0_41 x1_41 x2_41 x3_41 x4_41 x5_41 n_41 x6_41 dt = some (r0, dt0)) (hW : q_W D al dt H) (hS : va_S (q_A al) s.heap H locs) (hl : lv_has ls 9 [(0, .ref x0_41), (1, .int x1_41), (2, .int x2_41), (3, .int x3_41), (4, .int x4_41), (5, .int x5_41), (6, .int x6_41)]), W p l e { frames := 3, cells := 0, slots := 0, locals := 79 } s m args below meth c H locs 0 0 (MQ below (q_Q (some (.int r0)) (fun H => q_W D al dt0 H ∧ q_Rk al 0 (some (.int r0))) (q_A al)) args s 0 0 (q_A al)) (F0 m 41 ls []) := by
    intro x0_41 x1_41 x2_41 x3_41 x4_41 x5_41 kx0_41
    intro n_41
    induction n_41 with
    | zero => intro x6_41 dt H locs ls hm hW hS hl; cases hm
    | succ n_41 ih41 =>
      intro x6_41 dt H locs ls hm hW hS hl
      rw [X12_peak_b41] at hm
      refine lv_iload hx hb dX12_peak_41 (lv_at hl 6 rfl) ?_
      refine lv_aload_n hx hb dX12_peak_43 rfl (lv_at hl 0 rfl) ?_
      refine lv_iload_n hx hb dX12_peak_44 rfl (lv_at hl 1 rfl) ?_
      obtain ⟨v41002, hc41001, hm⟩ := q_b1i hm
      refine q_callV C hW hS (As := [.int x1_41]) (rest := [.int x6_41]) (st1 := [.int v41002, .int x6_41]) (c_X12_long0 l D al dt x0_41 x1_41 kx0_41 v41002 hc41001) yl_X12_long0 vl_X12_long0 ml_RX12_327 (ci := 12) rfl kx0_41 (by decide) rfl ⟨Nat.le_of_ble_eq_true rfl, Nat.le_of_ble_eq_true rfl⟩ hl rfl (Nat.le_of_ble_eq_true rfl) dX12_peak_45 ⟨Nat.le_refl _, Nat.le_refl _⟩ rfl (fun H locs k41003 hW hS => ?_)
      refine q_ifc hm (fun c41004 hm => ?_) (fun c41004 hm => ?_)
      · refine lv_icmp_ge (tgt := 78) hx hb dX12_peak_48 (by decide) (fun _ => ?_) (fun h => absurd c41004 h)
        refine lv_iconst (v := 0) hx hb dX12_peak_78 (by decide) ?_
        refine lv_istore (i := 6) (lv' := [(6, .int 0), (0, .ref x0_41), (1, .int x1_41), (2, .int x2_41), (3, .int x3_41), (4, .int x4_41), (5, .int x5_41)]) hx hb dX12_peak_79 hl (by decide) rfl (fun ls hl => ?_)
        exact hB81 x0_41 x1_41 x5_41 kx0_41 q_FU 0 dt _ _ _ hm hW hS (lv_sub hl [1, 2, 6, 0] rfl)
      refine lv_icmp_ge (tgt := 78) hx hb dX12_peak_48 (by decide) (fun h => absurd h c41004) (fun _ => ?_)
      refine lv_aload_n hx hb dX12_peak_51 rfl (lv_at hl 0 rfl) ?_
      refine r_getF C hW (ci := 12) kx0_41 ff_12_62 cl_12 fl_RX12_155 dX12_peak_52 (fun k41005 => ?_)
      refine lv_iload hx hb dX12_peak_55 (lv_at hl 6 rfl) ?_
      refine lv_aload_n hx hb dX12_peak_57 rfl (lv_at hl 0 rfl) ?_
      refine lv_iload_n hx hb dX12_peak_58 rfl (lv_at hl 1 rfl) ?_
      refine lv_iconst (v := 4) hx hb dX12_peak_59 (by decide) ?_
      refine lv_iload hx hb dX12_peak_60 (lv_at hl 6 rfl) ?_
      refine lv_imul hx hb dX12_peak_62 ?_
      refine lv_iload_n hx hb dX12_peak_63 rfl (lv_at hl 2 rfl) ?_
      refine lv_iadd hx hb dX12_peak_64 ?_
      refine lv_iload_n hx hb dX12_peak_65 rfl (lv_at hl 3 rfl) ?_
      refine lv_iload hx hb dX12_peak_66 (lv_at hl 4 rfl) ?_
      obtain ⟨v41007, dt41008, hc41006, hm⟩ := q_b2i hm
      refine q_callV C hW hS (As := [.int x1_41, .int ((4 * x6_41) + x2_41), .int x3_41, .int x4_41]) (rest := [.int x6_41, .ref (al.2.2 x0_41 62)]) (st1 := [.long v41007, .int x6_41, .ref (al.2.2 x0_41 62)]) (c_X12_metricOf l D al dt x0_41 x1_41 ((4 * x6_41) + x2_41) x3_41 x4_41 kx0_41 v41007 dt41008 hc41006) yl_X12_metricOf vl_X12_metricOf ml_RX12_434 (ci := 12) rfl kx0_41 (by decide) rfl ⟨Nat.le_of_ble_eq_true rfl, Nat.le_of_ble_eq_true rfl⟩ hl rfl (Nat.le_of_ble_eq_true rfl) dX12_peak_68 ⟨Nat.le_refl _, Nat.le_refl _⟩ rfl (fun H locs k41009 hW hS => ?_)
      refine r_last C hW hS hm k41005 dX12_peak_71 (fun dt41010 H locs hm hW hS => ?_)
      refine lv_iinc (v := (x6_41 + 1)) (lv' := [(6, .int (x6_41 + 1)), (0, .ref x0_41), (1, .int x1_41), (2, .int x2_41), (3, .int x3_41), (4, .int x4_41), (5, .int x5_41)]) hx hb dX12_peak_72 hl (k := 6) rfl rfl (by decide) rfl (fun ls hl => ?_)
      refine lv_goto (tgt := 41) hx hb dX12_peak_75 (by decide) ?_
      exact ih41 (x6_41 + 1) dt41010 _ _ _ hm hW hS (lv_sub hl [1, 2, 3, 4, 5, 6, 0] rfl)
  refine lv_aload_n hx hb dX12_peak_0 rfl (lv_at hl 0 rfl) ?_
  refine lv_iload_n hx hb dX12_peak_1 rfl (lv_at hl 1 rfl) ?_
  refine lv_iload_n hx hb dX12_peak_2 rfl (lv_at hl 3 rfl) ?_
  refine lv_iload hx hb dX12_peak_3 (lv_at hl 4 rfl) ?_
  obtain ⟨v1000002, hc1000001, hm⟩ := q_b1i hm
  refine q_callV C hW hS (As := [.int x1, .int x3, .int x4]) (rest := []) (st1 := [.int v1000002]) (c_X12_canLook l D al dt x0 x1 x3 x4 kx0 v1000002 hc1000001) yl_X12_canLook vl_X12_canLook ml_RX12_428 (ci := 12) rfl kx0 (by decide) rfl ⟨Nat.le_of_ble_eq_true rfl, Nat.le_of_ble_eq_true rfl⟩ hl rfl (Nat.le_of_ble_eq_true rfl) dX12_peak_5 ⟨Nat.le_refl _, Nat.le_refl _⟩ rfl (fun H locs k1000003 hW hS => ?_)
  refine q_ifc hm (fun c1000004 hm => ?_) (fun c1000004 hm => ?_)
  · refine lv_if_eq (tgt := 36) hx hb dX12_peak_8 (by decide) (fun _ => ?_) (fun h => absurd c1000004 h)
    refine lv_iconst (v := (-1)) hx hb dX12_peak_36 (by decide) ?_
    exact e_iD C hW hS hm dX12_peak_37
  refine lv_if_eq (tgt := 36) hx hb dX12_peak_8 (by decide) (fun h => absurd h c1000004) (fun _ => ?_)
  refine lv_iload_n hx hb dX12_peak_11 rfl (lv_at hl 2 rfl) ?_
  refine lv_iconst (v := 0) hx hb dX12_peak_12 (by decide) ?_
  refine lv_iconst (v := 3) hx hb dX12_peak_13 (by decide) ?_
  obtain ⟨v1000006, hc1000005, hm⟩ := q_b1i hm
  refine q_callS C hW hS (As := [.int x2, .int 0, .int 3]) (rest := []) (st1 := [.int v1000006]) (c_X12_in l D al dt x2 0 3 v1000006 hc1000005) yl_X12_in sl_X12_in ml_RX12_376 rfl ⟨Nat.le_of_ble_eq_true rfl, Nat.le_of_ble_eq_true rfl⟩ hl rfl (Nat.le_of_ble_eq_true rfl) dX12_peak_14 ⟨Nat.le_refl _, Nat.le_refl _⟩ rfl (fun H locs k1000007 hW hS => ?_)
  refine q_ifc hm (fun c1000008 hm => ?_) (fun c1000008 hm => ?_)
  · refine lv_if_eq (tgt := 36) hx hb dX12_peak_17 (by decide) (fun _ => ?_) (fun h => absurd c1000008 h)
    refine lv_iconst (v := (-1)) hx hb dX12_peak_36 (by decide) ?_
    exact e_iD C hW hS hm dX12_peak_37
  refine lv_if_eq (tgt := 36) hx hb dX12_peak_17 (by decide) (fun h => absurd h c1000008) (fun _ => ?_)
  refine lv_iload hx hb dX12_peak_20 (lv_at hl 5 rfl) ?_
  refine lv_iconst (v := 0) hx hb dX12_peak_22 (by decide) ?_
  refine lv_aload_n hx hb dX12_peak_23 rfl (lv_at hl 0 rfl) ?_
  refine lv_iload_n hx hb dX12_peak_24 rfl (lv_at hl 1 rfl) ?_
  obtain ⟨v1000010, hc1000009, hm⟩ := q_b1i hm
  refine q_callV C hW hS (As := [.int x1]) (rest := [.int 0, .int x5]) (st1 := [.int v1000010, .int 0, .int x5]) (c_X12_long0 l D al dt x0 x1 kx0 v1000010 hc1000009) yl_X12_long0 vl_X12_long0 ml_RX12_327 (ci := 12) rfl kx0 (by decide) rfl ⟨Nat.le_of_ble_eq_true rfl, Nat.le_of_ble_eq_true rfl⟩ hl rfl (Nat.le_of_ble_eq_true rfl) dX12_peak_25 ⟨Nat.le_refl _, Nat.le_refl _⟩ rfl (fun H locs k1000011 hW hS => ?_)
  refine lv_iconst (v := 1) hx hb dX12_peak_28 (by decide) ?_
  refine lv_isub hx hb dX12_peak_29 ?_
  obtain ⟨v1000013, hc1000012, hm⟩ := q_b1i hm
  refine q_callS C hW hS (As := [.int x5, .int 0, .int (v1000010 - 1)]) (rest := []) (st1 := [.int v1000013]) (c_X12_in l D al dt x5 0 (v1000010 - 1) v1000013 hc1000012) yl_X12_in sl_X12_in ml_RX12_376 rfl ⟨Nat.le_of_ble_eq_true rfl, Nat.le_of_ble_eq_true rfl⟩ hl rfl (Nat.le_of_ble_eq_true rfl) dX12_peak_30 ⟨Nat.le_refl _, Nat.le_refl _⟩ rfl (fun H locs k1000014 hW hS => ?_)
  refine q_ifc hm (fun c1000015 hm => ?_) (fun c1000015 hm => ?_)
  · refine lv_if_ne (tgt := 38) hx hb dX12_peak_33 (by decide) (fun h => absurd c1000015 h) (fun _ => ?_)
    refine lv_iconst (v := (-1)) hx hb dX12_peak_36 (by decide) ?_
    exact e_iD C hW hS hm dX12_peak_37
  refine lv_if_ne (tgt := 38) hx hb dX12_peak_33 (by decide) (fun _ => ?_) (fun h => absurd h c1000015)
  refine lv_iconst (v := 0) hx hb dX12_peak_38 (by decide) ?_
  refine lv_istore (i := 6) (lv' := [(6, .int 0), (0, .ref x0), (1, .int x1), (2, .int x2), (3, .int x3), (4, .int x4), (5, .int x5)]) hx hb dX12_peak_39 hl (by decide) rfl (fun ls hl => ?_)
  exact hB41 x0 x1 x2 x3 x4 x5 kx0 q_FU 0 dt _ _ _ hm hW hS (lv_sub hl [1, 2, 3, 4, 5, 6, 0] rfl)
theorem dX12_alarms_0 : decode cX12_alarms 0 = .ok (.aload_n 0, 1) := by decide +kernel
theorem dX12_alarms_1 : decode cX12_alarms 1 = .ok (.iload_n 1, 1) := by decide +kernel
theorem dX12_alarms_2 : decode cX12_alarms 2 = .ok (.iload_n 2, 1) := by decide +kernel
theorem dX12_alarms_3 : decode cX12_alarms 3 = .ok (.iload_n 3, 1) := by decide +kernel
theorem dX12_alarms_4 : decode cX12_alarms 4 = .ok (.invokevirtual 428, 3) := by decide +kernel
theorem dX12_alarms_7 : decode cX12_alarms 7 = .ok (.ifCond .ne 5, 3) := by decide +kernel
theorem dX12_alarms_10 : decode cX12_alarms 10 = .ok (.iconst (-1), 1) := by decide +kernel
theorem dX12_alarms_11 : decode cX12_alarms 11 = .ok (.ireturn, 1) := by decide +kernel
theorem dX12_alarms_12 : decode cX12_alarms 12 = .ok (.iconst 0, 1) := by decide +kernel
theorem dX12_alarms_13 : decode cX12_alarms 13 = .ok (.istore 6, 2) := by decide +kernel
theorem dX12_alarms_15 : decode cX12_alarms 15 = .ok (.iconst 0, 1) := by decide +kernel
theorem dX12_alarms_16 : decode cX12_alarms 16 = .ok (.istore 7, 2) := by decide +kernel
theorem dX12_alarms_18 : decode cX12_alarms 18 = .ok (.iload 7, 2) := by decide +kernel
theorem dX12_alarms_20 : decode cX12_alarms 20 = .ok (.iconst 4, 1) := by decide +kernel
theorem dX12_alarms_21 : decode cX12_alarms 21 = .ok (.aload_n 0, 1) := by decide +kernel
theorem dX12_alarms_22 : decode cX12_alarms 22 = .ok (.iload_n 1, 1) := by decide +kernel
theorem dX12_alarms_23 : decode cX12_alarms 23 = .ok (.invokevirtual 327, 3) := by decide +kernel
theorem dX12_alarms_26 : decode cX12_alarms 26 = .ok (.imul, 1) := by decide +kernel
theorem dX12_alarms_27 : decode cX12_alarms 27 = .ok (.if_icmp .ge 27, 3) := by decide +kernel
theorem dX12_alarms_30 : decode cX12_alarms 30 = .ok (.aload_n 0, 1) := by decide +kernel
theorem dX12_alarms_31 : decode cX12_alarms 31 = .ok (.iload_n 1, 1) := by decide +kernel
theorem dX12_alarms_32 : decode cX12_alarms 32 = .ok (.iload 7, 2) := by decide +kernel
theorem dX12_alarms_34 : decode cX12_alarms 34 = .ok (.iload_n 2, 1) := by decide +kernel
theorem dX12_alarms_35 : decode cX12_alarms 35 = .ok (.iload_n 3, 1) := by decide +kernel
theorem dX12_alarms_36 : decode cX12_alarms 36 = .ok (.invokevirtual 434, 3) := by decide +kernel
theorem dX12_alarms_39 : decode cX12_alarms 39 = .ok (.lload 4, 2) := by decide +kernel
theorem dX12_alarms_41 : decode cX12_alarms 41 = .ok (.lcmp, 1) := by decide +kernel
theorem dX12_alarms_42 : decode cX12_alarms 42 = .ok (.ifCond .lt 6, 3) := by decide +kernel
theorem dX12_alarms_45 : decode cX12_alarms 45 = .ok (.iinc 6 1, 3) := by decide +kernel
theorem dX12_alarms_48 : decode cX12_alarms 48 = .ok (.iinc 7 1, 3) := by decide +kernel
theorem dX12_alarms_51 : decode cX12_alarms 51 = .ok (.goto (-33), 3) := by decide +kernel
theorem dX12_alarms_54 : decode cX12_alarms 54 = .ok (.iload 6, 2) := by decide +kernel
theorem dX12_alarms_56 : decode cX12_alarms 56 = .ok (.ireturn, 1) := by decide +kernel
set_option maxRecDepth 100000 in
theorem c_X12_alarms (l : Launch) (D : q_D) (al : q_Al) (dt : q_Dt) (x0 : Nat) (x1 : Int32) (x2 : Int32) (x3 : Int32) (x4 : Int64) (kx0 : al.1 x0 = 13) (r0 : Int32) (dt0 : q_Dt) (hm : X12_alarms al dt x0 x1 x2 x3 x4 = some (r0, dt0)) : q_Mt l yX12_alarms cX12_alarms 8 (some FieldType.int) 3 79 D al [.ref x0, .int x1, .int x2, .int x3, .long x4] dt 0 (some (.int r0)) dt0 := by
  refine q_Mt.of (by decide) (Nat.le_of_ble_eq_true rfl) ?_
  intro p e s m args below meth c ls C hargs hW hl
  have hx := C.1
  have hb := C.2.1
  have hown := C.2.2.2.2.2.1
  have hts := C.2.2.2.2.2.2.1
  have hS : va_S (q_A al) s.heap s.heap [] := va_S.rf
  have hl : lv_has ls 8 [(0, .ref x0), (1, .int x1), (2, .int x2), (3, .int x3), (4, .long x4)] := hl
  unfold X12_alarms at hm
  have hB18 : ∀ (x0_18 : Nat) (x1_18 : Int32) (x2_18 : Int32) (x3_18 : Int32) (x4_18 : Int64) (kx0_18 : al.1 x0_18 = 13) (n_18 : Nat) (x6_18 : Int32) (x7_18 : Int32) (dt : q_Dt) (H : Heap) (locs : List Loc) (ls : Array Slot) (hm : X12_alarms_b18 al x0_18 x1_18 x2_18 x3_18 x4_18 n_18 x6_18 x7_18 dt = some (r0, dt0)) (hW : q_W D al dt H) (hS : va_S (q_A al) s.heap H locs) (hl : lv_has ls 8 [(0, .ref x0_18), (1, .int x1_18), (2, .int x2_18), (3, .int x3_18), (4, .long x4_18), (6, .int x6_18), (7, .int x7_18)]), W p l e { frames := 3, cells := 0, slots := 0, locals := 79 } s m args below meth c H locs 0 0 (MQ below (q_Q (some (.int r0)) (fun H => q_W D al dt0 H ∧ q_Rk al 0 (some (.int r0))) (q_A al)) args s 0 0 (q_A al)) (F0 m 18 ls []) := by
    intro x0_18 x1_18 x2_18 x3_18 x4_18 kx0_18
    intro n_18
    induction n_18 with
    | zero => intro x6_18 x7_18 dt H locs ls hm hW hS hl; cases hm
    | succ n_18 ih18 =>
      have hB48 : ∀ (x6_48 : Int32) (x7_48 : Int32) (dt : q_Dt) (H : Heap) (locs : List Loc) (ls : Array Slot) (hm : X12_alarms_b48 al (X12_alarms_b18 al x0_18 x1_18 x2_18 x3_18 x4_18 n_18) x0_18 x1_18 x2_18 x3_18 x4_18 x6_48 x7_48 dt = some (r0, dt0)) (hW : q_W D al dt H) (hS : va_S (q_A al) s.heap H locs) (hl : lv_has ls 8 [(0, .ref x0_18), (1, .int x1_18), (2, .int x2_18), (3, .int x3_18), (4, .long x4_18), (6, .int x6_48), (7, .int x7_48)]), W p l e { frames := 3, cells := 0, slots := 0, locals := 79 } s m args below meth c H locs 0 0 (MQ below (q_Q (some (.int r0)) (fun H => q_W D al dt0 H ∧ q_Rk al 0 (some (.int r0))) (q_A al)) args s 0 0 (q_A al)) (F0 m 48 ls []) := by
        intro x6_48 x7_48 dt H locs ls hm hW hS hl
        unfold X12_alarms_b48 at hm
        refine lv_iinc (v := (x7_48 + 1)) (lv' := [(7, .int (x7_48 + 1)), (0, .ref x0_18), (1, .int x1_18), (2, .int x2_18), (3, .int x3_18), (4, .long x4_18), (6, .int x6_48)]) hx hb dX12_alarms_48 hl (k := 6) rfl rfl (by decide) rfl (fun ls hl => ?_)
        refine lv_goto (tgt := 18) hx hb dX12_alarms_51 (by decide) ?_
        exact ih18 x6_48 (x7_48 + 1) dt _ _ _ hm hW hS (lv_sub hl [1, 2, 3, 4, 5, 6, 0] rfl)
      intro x6_18 x7_18 dt H locs ls hm hW hS hl
      rw [X12_alarms_b18] at hm
      refine lv_iload hx hb dX12_alarms_18 (lv_at hl 6 rfl) ?_
      refine lv_iconst (v := 4) hx hb dX12_alarms_20 (by decide) ?_
      refine lv_aload_n hx hb dX12_alarms_21 rfl (lv_at hl 0 rfl) ?_
      refine lv_iload_n hx hb dX12_alarms_22 rfl (lv_at hl 1 rfl) ?_
      obtain ⟨v18002, hc18001, hm⟩ := q_b1i hm
      refine q_callV C hW hS (As := [.int x1_18]) (rest := [.int 4, .int x7_18]) (st1 := [.int v18002, .int 4, .int x7_18]) (c_X12_long0 l D al dt x0_18 x1_18 kx0_18 v18002 hc18001) yl_X12_long0 vl_X12_long0 ml_RX12_327 (ci := 12) rfl kx0_18 (by decide) rfl ⟨Nat.le_of_ble_eq_true rfl, Nat.le_of_ble_eq_true rfl⟩ hl rfl (Nat.le_of_ble_eq_true rfl) dX12_alarms_23 ⟨Nat.le_refl _, Nat.le_refl _⟩ rfl (fun H locs k18003 hW hS => ?_)
      refine lv_imul hx hb dX12_alarms_26 ?_
      refine q_ifc hm (fun c18004 hm => ?_) (fun c18004 hm => ?_)
      · refine lv_icmp_ge (tgt := 54) hx hb dX12_alarms_27 (by decide) (fun _ => ?_) (fun h => absurd c18004 h)
        refine lv_iload hx hb dX12_alarms_54 (lv_at hl 5 rfl) ?_
        exact e_iD C hW hS hm dX12_alarms_56
      refine lv_icmp_ge (tgt := 54) hx hb dX12_alarms_27 (by decide) (fun h => absurd h c18004) (fun _ => ?_)
      refine lv_aload_n hx hb dX12_alarms_30 rfl (lv_at hl 0 rfl) ?_
      refine lv_iload_n hx hb dX12_alarms_31 rfl (lv_at hl 1 rfl) ?_
      refine lv_iload hx hb dX12_alarms_32 (lv_at hl 6 rfl) ?_
      refine lv_iload_n hx hb dX12_alarms_34 rfl (lv_at hl 2 rfl) ?_
      refine lv_iload_n hx hb dX12_alarms_35 rfl (lv_at hl 3 rfl) ?_
      obtain ⟨v18006, dt18007, hc18005, hm⟩ := q_b2i hm
      refine q_callV C hW hS (As := [.int x1_18, .int x7_18, .int x2_18, .int x3_18]) (rest := []) (st1 := [.long v18006]) (c_X12_metricOf l D al dt x0_18 x1_18 x7_18 x2_18 x3_18 kx0_18 v18006 dt18007 hc18005) yl_X12_metricOf vl_X12_metricOf ml_RX12_434 (ci := 12) rfl kx0_18 (by decide) rfl ⟨Nat.le_of_ble_eq_true rfl, Nat.le_of_ble_eq_true rfl⟩ hl rfl (Nat.le_of_ble_eq_true rfl) dX12_alarms_36 ⟨Nat.le_refl _, Nat.le_refl _⟩ rfl (fun H locs k18008 hW hS => ?_)
      refine lv_lload hx hb dX12_alarms_39 (lv_at hl 4 rfl) ?_
      refine W.lcmp hx hb dX12_alarms_41 ?_
      refine q_ifc hm (fun c18009 hm => ?_) (fun c18009 hm => ?_)
      · refine lv_if_lt (tgt := 48) hx hb dX12_alarms_42 (by decide) (fun _ => ?_) (fun h => absurd (q_cmp_lt.mpr c18009) h)
        exact hB48 x6_18 x7_18 dt18007 _ _ _ hm hW hS (lv_sub hl [0, 1, 2, 3, 4, 5, 6] rfl)
      refine lv_if_lt (tgt := 48) hx hb dX12_alarms_42 (by decide) (fun h => absurd (q_cmp_lt.mp h) c18009) (fun _ => ?_)
      refine lv_iinc (v := (x6_18 + 1)) (lv' := [(6, .int (x6_18 + 1)), (0, .ref x0_18), (1, .int x1_18), (2, .int x2_18), (3, .int x3_18), (4, .long x4_18), (7, .int x7_18)]) hx hb dX12_alarms_45 hl (k := 5) rfl rfl (by decide) rfl (fun ls hl => ?_)
      exact hB48 (x6_18 + 1) x7_18 dt18007 _ _ _ hm hW hS (lv_sub hl [1, 2, 3, 4, 5, 0, 6] rfl)
  refine lv_aload_n hx hb dX12_alarms_0 rfl (lv_at hl 0 rfl) ?_
  refine lv_iload_n hx hb dX12_alarms_1 rfl (lv_at hl 1 rfl) ?_
  refine lv_iload_n hx hb dX12_alarms_2 rfl (lv_at hl 2 rfl) ?_
  refine lv_iload_n hx hb dX12_alarms_3 rfl (lv_at hl 3 rfl) ?_
  obtain ⟨v1000002, hc1000001, hm⟩ := q_b1i hm
  refine q_callV C hW hS (As := [.int x1, .int x2, .int x3]) (rest := []) (st1 := [.int v1000002]) (c_X12_canLook l D al dt x0 x1 x2 x3 kx0 v1000002 hc1000001) yl_X12_canLook vl_X12_canLook ml_RX12_428 (ci := 12) rfl kx0 (by decide) rfl ⟨Nat.le_of_ble_eq_true rfl, Nat.le_of_ble_eq_true rfl⟩ hl rfl (Nat.le_of_ble_eq_true rfl) dX12_alarms_4 ⟨Nat.le_refl _, Nat.le_refl _⟩ rfl (fun H locs k1000003 hW hS => ?_)
  refine q_ifc hm (fun c1000004 hm => ?_) (fun c1000004 hm => ?_)
  · refine lv_if_ne (tgt := 12) hx hb dX12_alarms_7 (by decide) (fun h => absurd c1000004 h) (fun _ => ?_)
    refine lv_iconst (v := (-1)) hx hb dX12_alarms_10 (by decide) ?_
    exact e_iD C hW hS hm dX12_alarms_11
  refine lv_if_ne (tgt := 12) hx hb dX12_alarms_7 (by decide) (fun _ => ?_) (fun h => absurd h c1000004)
  refine lv_iconst (v := 0) hx hb dX12_alarms_12 (by decide) ?_
  refine lv_istore (i := 6) (lv' := [(6, .int 0), (0, .ref x0), (1, .int x1), (2, .int x2), (3, .int x3), (4, .long x4)]) hx hb dX12_alarms_13 hl (by decide) rfl (fun ls hl => ?_)
  refine lv_iconst (v := 0) hx hb dX12_alarms_15 (by decide) ?_
  refine lv_istore (i := 7) (lv' := [(7, .int 0), (6, .int 0), (0, .ref x0), (1, .int x1), (2, .int x2), (3, .int x3), (4, .long x4)]) hx hb dX12_alarms_16 hl (by decide) rfl (fun ls hl => ?_)
  exact hB18 x0 x1 x2 x3 x4 kx0 q_FU 0 0 dt _ _ _ hm hW hS (lv_sub hl [2, 3, 4, 5, 6, 1, 0] rfl)
theorem dX12_plan_0 : decode cX12_plan 0 = .ok (.aload_n 0, 1) := by decide +kernel
theorem dX12_plan_1 : decode cX12_plan 1 = .ok (.iload_n 1, 1) := by decide +kernel
theorem dX12_plan_2 : decode cX12_plan 2 = .ok (.iload_n 2, 1) := by decide +kernel
theorem dX12_plan_3 : decode cX12_plan 3 = .ok (.iload_n 3, 1) := by decide +kernel
theorem dX12_plan_4 : decode cX12_plan 4 = .ok (.invokevirtual 428, 3) := by decide +kernel
theorem dX12_plan_7 : decode cX12_plan 7 = .ok (.ifCond .eq 29, 3) := by decide +kernel
theorem dX12_plan_10 : decode cX12_plan 10 = .ok (.aload_n 0, 1) := by decide +kernel
theorem dX12_plan_11 : decode cX12_plan 11 = .ok (.iload_n 1, 1) := by decide +kernel
theorem dX12_plan_12 : decode cX12_plan 12 = .ok (.iload 4, 2) := by decide +kernel
theorem dX12_plan_14 : decode cX12_plan 14 = .ok (.invokevirtual 431, 3) := by decide +kernel
theorem dX12_plan_17 : decode cX12_plan 17 = .ok (.ifCond .eq 19, 3) := by decide +kernel
theorem dX12_plan_20 : decode cX12_plan 20 = .ok (.iload 5, 2) := by decide +kernel
theorem dX12_plan_22 : decode cX12_plan 22 = .ok (.iconst 1, 1) := by decide +kernel
theorem dX12_plan_23 : decode cX12_plan 23 = .ok (.iconst 4, 1) := by decide +kernel
theorem dX12_plan_24 : decode cX12_plan 24 = .ok (.aload_n 0, 1) := by decide +kernel
theorem dX12_plan_25 : decode cX12_plan 25 = .ok (.iload_n 1, 1) := by decide +kernel
theorem dX12_plan_26 : decode cX12_plan 26 = .ok (.invokevirtual 327, 3) := by decide +kernel
theorem dX12_plan_29 : decode cX12_plan 29 = .ok (.imul, 1) := by decide +kernel
theorem dX12_plan_30 : decode cX12_plan 30 = .ok (.invokestatic 376, 3) := by decide +kernel
theorem dX12_plan_33 : decode cX12_plan 33 = .ok (.ifCond .ne 5, 3) := by decide +kernel
theorem dX12_plan_36 : decode cX12_plan 36 = .ok (.iconst (-1), 1) := by decide +kernel
theorem dX12_plan_37 : decode cX12_plan 37 = .ok (.ireturn, 1) := by decide +kernel
theorem dX12_plan_38 : decode cX12_plan 38 = .ok (.iload 4, 2) := by decide +kernel
theorem dX12_plan_40 : decode cX12_plan 40 = .ok (.istore 8, 2) := by decide +kernel
theorem dX12_plan_42 : decode cX12_plan 42 = .ok (.iconst 1, 1) := by decide +kernel
theorem dX12_plan_43 : decode cX12_plan 43 = .ok (.istore 9, 2) := by decide +kernel
theorem dX12_plan_45 : decode cX12_plan 45 = .ok (.iload 9, 2) := by decide +kernel
theorem dX12_plan_47 : decode cX12_plan 47 = .ok (.iconst 4, 1) := by decide +kernel
theorem dX12_plan_48 : decode cX12_plan 48 = .ok (.aload_n 0, 1) := by decide +kernel
theorem dX12_plan_49 : decode cX12_plan 49 = .ok (.iload_n 1, 1) := by decide +kernel
theorem dX12_plan_50 : decode cX12_plan 50 = .ok (.invokevirtual 327, 3) := by decide +kernel
theorem dX12_plan_53 : decode cX12_plan 53 = .ok (.imul, 1) := by decide +kernel
theorem dX12_plan_54 : decode cX12_plan 54 = .ok (.if_icmp .gt 42, 3) := by decide +kernel
theorem dX12_plan_57 : decode cX12_plan 57 = .ok (.aload_n 0, 1) := by decide +kernel
theorem dX12_plan_58 : decode cX12_plan 58 = .ok (.iload_n 1, 1) := by decide +kernel
theorem dX12_plan_59 : decode cX12_plan 59 = .ok (.iload 8, 2) := by decide +kernel
theorem dX12_plan_61 : decode cX12_plan 61 = .ok (.iload_n 2, 1) := by decide +kernel
theorem dX12_plan_62 : decode cX12_plan 62 = .ok (.iload_n 3, 1) := by decide +kernel
theorem dX12_plan_63 : decode cX12_plan 63 = .ok (.invokevirtual 434, 3) := by decide +kernel
theorem dX12_plan_66 : decode cX12_plan 66 = .ok (.lload 6, 2) := by decide +kernel
theorem dX12_plan_68 : decode cX12_plan 68 = .ok (.lcmp, 1) := by decide +kernel
theorem dX12_plan_69 : decode cX12_plan 69 = .ok (.ifCond .lt 6, 3) := by decide +kernel
theorem dX12_plan_72 : decode cX12_plan 72 = .ok (.iload 9, 2) := by decide +kernel
theorem dX12_plan_74 : decode cX12_plan 74 = .ok (.ireturn, 1) := by decide +kernel
theorem dX12_plan_75 : decode cX12_plan 75 = .ok (.iload 8, 2) := by decide +kernel
theorem dX12_plan_77 : decode cX12_plan 77 = .ok (.iload 5, 2) := by decide +kernel
theorem dX12_plan_79 : decode cX12_plan 79 = .ok (.iadd, 1) := by decide +kernel
theorem dX12_plan_80 : decode cX12_plan 80 = .ok (.iconst 4, 1) := by decide +kernel
theorem dX12_plan_81 : decode cX12_plan 81 = .ok (.aload_n 0, 1) := by decide +kernel
theorem dX12_plan_82 : decode cX12_plan 82 = .ok (.iload_n 1, 1) := by decide +kernel
theorem dX12_plan_83 : decode cX12_plan 83 = .ok (.invokevirtual 327, 3) := by decide +kernel
theorem dX12_plan_86 : decode cX12_plan 86 = .ok (.imul, 1) := by decide +kernel
theorem dX12_plan_87 : decode cX12_plan 87 = .ok (.irem, 1) := by decide +kernel
theorem dX12_plan_88 : decode cX12_plan 88 = .ok (.istore 8, 2) := by decide +kernel
theorem dX12_plan_90 : decode cX12_plan 90 = .ok (.iinc 9 1, 3) := by decide +kernel
theorem dX12_plan_93 : decode cX12_plan 93 = .ok (.goto (-48), 3) := by decide +kernel
theorem dX12_plan_96 : decode cX12_plan 96 = .ok (.bipush (-2), 2) := by decide +kernel
theorem dX12_plan_98 : decode cX12_plan 98 = .ok (.ireturn, 1) := by decide +kernel
set_option maxRecDepth 100000 in
theorem c_X12_plan (l : Launch) (D : q_D) (al : q_Al) (dt : q_Dt) (x0 : Nat) (x1 : Int32) (x2 : Int32) (x3 : Int32) (x4 : Int32) (x5 : Int32) (x6 : Int64) (kx0 : al.1 x0 = 13) (r0 : Int32) (dt0 : q_Dt) (hm : X12_plan al dt x0 x1 x2 x3 x4 x5 x6 = some (r0, dt0)) : q_Mt l yX12_plan cX12_plan 10 (some FieldType.int) 3 79 D al [.ref x0, .int x1, .int x2, .int x3, .int x4, .int x5, .long x6] dt 0 (some (.int r0)) dt0 := by
  refine q_Mt.of (by decide) (Nat.le_of_ble_eq_true rfl) ?_
  intro p e s m args below meth c ls C hargs hW hl
  have hx := C.1
  have hb := C.2.1
  have hown := C.2.2.2.2.2.1
  have hts := C.2.2.2.2.2.2.1
  have hS : va_S (q_A al) s.heap s.heap [] := va_S.rf
  have hl : lv_has ls 10 [(0, .ref x0), (1, .int x1), (2, .int x2), (3, .int x3), (4, .int x4), (5, .int x5), (6, .long x6)] := hl
  unfold X12_plan at hm
  have hB45 : ∀ (x0_45 : Nat) (x1_45 : Int32) (x2_45 : Int32) (x3_45 : Int32) (x5_45 : Int32) (x6_45 : Int64) (kx0_45 : al.1 x0_45 = 13) (n_45 : Nat) (x8_45 : Int32) (x9_45 : Int32) (dt : q_Dt) (H : Heap) (locs : List Loc) (ls : Array Slot) (hm : X12_plan_b45 al x0_45 x1_45 x2_45 x3_45 x5_45 x6_45 n_45 x8_45 x9_45 dt = some (r0, dt0)) (hW : q_W D al dt H) (hS : va_S (q_A al) s.heap H locs) (hl : lv_has ls 10 [(0, .ref x0_45), (1, .int x1_45), (2, .int x2_45), (3, .int x3_45), (5, .int x5_45), (6, .long x6_45), (8, .int x8_45), (9, .int x9_45)]), W p l e { frames := 3, cells := 0, slots := 0, locals := 79 } s m args below meth c H locs 0 0 (MQ below (q_Q (some (.int r0)) (fun H => q_W D al dt0 H ∧ q_Rk al 0 (some (.int r0))) (q_A al)) args s 0 0 (q_A al)) (F0 m 45 ls []) := by
    intro x0_45 x1_45 x2_45 x3_45 x5_45 x6_45 kx0_45
    intro n_45
    induction n_45 with
    | zero => intro x8_45 x9_45 dt H locs ls hm hW hS hl; cases hm
    | succ n_45 ih45 =>
      intro x8_45 x9_45 dt H locs ls hm hW hS hl
      rw [X12_plan_b45] at hm
      refine lv_iload hx hb dX12_plan_45 (lv_at hl 7 rfl) ?_
      refine lv_iconst (v := 4) hx hb dX12_plan_47 (by decide) ?_
      refine lv_aload_n hx hb dX12_plan_48 rfl (lv_at hl 0 rfl) ?_
      refine lv_iload_n hx hb dX12_plan_49 rfl (lv_at hl 1 rfl) ?_
      obtain ⟨v45002, hc45001, hm⟩ := q_b1i hm
      refine q_callV C hW hS (As := [.int x1_45]) (rest := [.int 4, .int x9_45]) (st1 := [.int v45002, .int 4, .int x9_45]) (c_X12_long0 l D al dt x0_45 x1_45 kx0_45 v45002 hc45001) yl_X12_long0 vl_X12_long0 ml_RX12_327 (ci := 12) rfl kx0_45 (by decide) rfl ⟨Nat.le_of_ble_eq_true rfl, Nat.le_of_ble_eq_true rfl⟩ hl rfl (Nat.le_of_ble_eq_true rfl) dX12_plan_50 ⟨Nat.le_refl _, Nat.le_refl _⟩ rfl (fun H locs k45003 hW hS => ?_)
      refine lv_imul hx hb dX12_plan_53 ?_
      refine q_ifc hm (fun c45004 hm => ?_) (fun c45004 hm => ?_)
      · refine lv_icmp_gt (tgt := 96) hx hb dX12_plan_54 (by decide) (fun _ => ?_) (fun h => absurd c45004 h)
        refine lv_bipush (v := (-2)) hx hb dX12_plan_96 (by decide) ?_
        exact e_iD C hW hS hm dX12_plan_98
      refine lv_icmp_gt (tgt := 96) hx hb dX12_plan_54 (by decide) (fun h => absurd h c45004) (fun _ => ?_)
      refine lv_aload_n hx hb dX12_plan_57 rfl (lv_at hl 0 rfl) ?_
      refine lv_iload_n hx hb dX12_plan_58 rfl (lv_at hl 1 rfl) ?_
      refine lv_iload hx hb dX12_plan_59 (lv_at hl 6 rfl) ?_
      refine lv_iload_n hx hb dX12_plan_61 rfl (lv_at hl 2 rfl) ?_
      refine lv_iload_n hx hb dX12_plan_62 rfl (lv_at hl 3 rfl) ?_
      obtain ⟨v45006, dt45007, hc45005, hm⟩ := q_b2i hm
      refine q_callV C hW hS (As := [.int x1_45, .int x8_45, .int x2_45, .int x3_45]) (rest := []) (st1 := [.long v45006]) (c_X12_metricOf l D al dt x0_45 x1_45 x8_45 x2_45 x3_45 kx0_45 v45006 dt45007 hc45005) yl_X12_metricOf vl_X12_metricOf ml_RX12_434 (ci := 12) rfl kx0_45 (by decide) rfl ⟨Nat.le_of_ble_eq_true rfl, Nat.le_of_ble_eq_true rfl⟩ hl rfl (Nat.le_of_ble_eq_true rfl) dX12_plan_63 ⟨Nat.le_refl _, Nat.le_refl _⟩ rfl (fun H locs k45008 hW hS => ?_)
      refine lv_lload hx hb dX12_plan_66 (lv_at hl 5 rfl) ?_
      refine W.lcmp hx hb dX12_plan_68 ?_
      refine q_ifc hm (fun c45009 hm => ?_) (fun c45009 hm => ?_)
      · refine lv_if_lt (tgt := 75) hx hb dX12_plan_69 (by decide) (fun _ => ?_) (fun h => absurd (q_cmp_lt.mpr c45009) h)
        refine lv_iload hx hb dX12_plan_75 (lv_at hl 6 rfl) ?_
        refine lv_iload hx hb dX12_plan_77 (lv_at hl 4 rfl) ?_
        refine lv_iadd hx hb dX12_plan_79 ?_
        refine lv_iconst (v := 4) hx hb dX12_plan_80 (by decide) ?_
        refine lv_aload_n hx hb dX12_plan_81 rfl (lv_at hl 0 rfl) ?_
        refine lv_iload_n hx hb dX12_plan_82 rfl (lv_at hl 1 rfl) ?_
        obtain ⟨v45011, hc45010, hm⟩ := q_b1i hm
        refine q_callV C hW hS (As := [.int x1_45]) (rest := [.int 4, .int (x8_45 + x5_45)]) (st1 := [.int v45011, .int 4, .int (x8_45 + x5_45)]) (c_X12_long0 l D al dt45007 x0_45 x1_45 kx0_45 v45011 hc45010) yl_X12_long0 vl_X12_long0 ml_RX12_327 (ci := 12) rfl kx0_45 (by decide) rfl ⟨Nat.le_of_ble_eq_true rfl, Nat.le_of_ble_eq_true rfl⟩ hl rfl (Nat.le_of_ble_eq_true rfl) dX12_plan_83 ⟨Nat.le_refl _, Nat.le_refl _⟩ rfl (fun H locs k45012 hW hS => ?_)
        refine lv_imul hx hb dX12_plan_86 ?_
        obtain ⟨c45013, hm⟩ := q_ini hm
        refine lv_irem hx hb dX12_plan_87 c45013 ?_
        refine lv_istore (i := 8) (lv' := [(8, .int (q_ir (x8_45 + x5_45) (4 * v45011))), (0, .ref x0_45), (1, .int x1_45), (2, .int x2_45), (3, .int x3_45), (5, .int x5_45), (6, .long x6_45), (9, .int x9_45)]) hx hb dX12_plan_88 hl (by decide) rfl (fun ls hl => ?_)
        refine lv_iinc (v := (x9_45 + 1)) (lv' := [(9, .int (x9_45 + 1)), (8, .int (q_ir (x8_45 + x5_45) (4 * v45011))), (0, .ref x0_45), (1, .int x1_45), (2, .int x2_45), (3, .int x3_45), (5, .int x5_45), (6, .long x6_45)]) hx hb dX12_plan_90 hl (k := 7) rfl rfl (by decide) rfl (fun ls hl => ?_)
        refine lv_goto (tgt := 45) hx hb dX12_plan_93 (by decide) ?_
        exact ih45 (q_ir (x8_45 + x5_45) (4 * v45011)) (x9_45 + 1) dt45007 _ _ _ hm hW hS (lv_sub hl [2, 3, 4, 5, 6, 7, 1, 0] rfl)
      refine lv_if_lt (tgt := 75) hx hb dX12_plan_69 (by decide) (fun h => absurd (q_cmp_lt.mp h) c45009) (fun _ => ?_)
      refine lv_iload hx hb dX12_plan_72 (lv_at hl 7 rfl) ?_
      exact e_iD C hW hS hm dX12_plan_74
  refine lv_aload_n hx hb dX12_plan_0 rfl (lv_at hl 0 rfl) ?_
  refine lv_iload_n hx hb dX12_plan_1 rfl (lv_at hl 1 rfl) ?_
  refine lv_iload_n hx hb dX12_plan_2 rfl (lv_at hl 2 rfl) ?_
  refine lv_iload_n hx hb dX12_plan_3 rfl (lv_at hl 3 rfl) ?_
  obtain ⟨v1000002, hc1000001, hm⟩ := q_b1i hm
  refine q_callV C hW hS (As := [.int x1, .int x2, .int x3]) (rest := []) (st1 := [.int v1000002]) (c_X12_canLook l D al dt x0 x1 x2 x3 kx0 v1000002 hc1000001) yl_X12_canLook vl_X12_canLook ml_RX12_428 (ci := 12) rfl kx0 (by decide) rfl ⟨Nat.le_of_ble_eq_true rfl, Nat.le_of_ble_eq_true rfl⟩ hl rfl (Nat.le_of_ble_eq_true rfl) dX12_plan_4 ⟨Nat.le_refl _, Nat.le_refl _⟩ rfl (fun H locs k1000003 hW hS => ?_)
  refine q_ifc hm (fun c1000004 hm => ?_) (fun c1000004 hm => ?_)
  · refine lv_if_eq (tgt := 36) hx hb dX12_plan_7 (by decide) (fun _ => ?_) (fun h => absurd c1000004 h)
    refine lv_iconst (v := (-1)) hx hb dX12_plan_36 (by decide) ?_
    exact e_iD C hW hS hm dX12_plan_37
  refine lv_if_eq (tgt := 36) hx hb dX12_plan_7 (by decide) (fun h => absurd h c1000004) (fun _ => ?_)
  refine lv_aload_n hx hb dX12_plan_10 rfl (lv_at hl 0 rfl) ?_
  refine lv_iload_n hx hb dX12_plan_11 rfl (lv_at hl 1 rfl) ?_
  refine lv_iload hx hb dX12_plan_12 (lv_at hl 4 rfl) ?_
  obtain ⟨v1000006, hc1000005, hm⟩ := q_b1i hm
  refine q_callV C hW hS (As := [.int x1, .int x4]) (rest := []) (st1 := [.int v1000006]) (c_X12_isCell l D al dt x0 x1 x4 kx0 v1000006 hc1000005) yl_X12_isCell vl_X12_isCell ml_RX12_431 (ci := 12) rfl kx0 (by decide) rfl ⟨Nat.le_of_ble_eq_true rfl, Nat.le_of_ble_eq_true rfl⟩ hl rfl (Nat.le_of_ble_eq_true rfl) dX12_plan_14 ⟨Nat.le_refl _, Nat.le_refl _⟩ rfl (fun H locs k1000007 hW hS => ?_)
  refine q_ifc hm (fun c1000008 hm => ?_) (fun c1000008 hm => ?_)
  · refine lv_if_eq (tgt := 36) hx hb dX12_plan_17 (by decide) (fun _ => ?_) (fun h => absurd c1000008 h)
    refine lv_iconst (v := (-1)) hx hb dX12_plan_36 (by decide) ?_
    exact e_iD C hW hS hm dX12_plan_37
  refine lv_if_eq (tgt := 36) hx hb dX12_plan_17 (by decide) (fun h => absurd h c1000008) (fun _ => ?_)
  refine lv_iload hx hb dX12_plan_20 (lv_at hl 5 rfl) ?_
  refine lv_iconst (v := 1) hx hb dX12_plan_22 (by decide) ?_
  refine lv_iconst (v := 4) hx hb dX12_plan_23 (by decide) ?_
  refine lv_aload_n hx hb dX12_plan_24 rfl (lv_at hl 0 rfl) ?_
  refine lv_iload_n hx hb dX12_plan_25 rfl (lv_at hl 1 rfl) ?_
  obtain ⟨v1000010, hc1000009, hm⟩ := q_b1i hm
  refine q_callV C hW hS (As := [.int x1]) (rest := [.int 4, .int 1, .int x5]) (st1 := [.int v1000010, .int 4, .int 1, .int x5]) (c_X12_long0 l D al dt x0 x1 kx0 v1000010 hc1000009) yl_X12_long0 vl_X12_long0 ml_RX12_327 (ci := 12) rfl kx0 (by decide) rfl ⟨Nat.le_of_ble_eq_true rfl, Nat.le_of_ble_eq_true rfl⟩ hl rfl (Nat.le_of_ble_eq_true rfl) dX12_plan_26 ⟨Nat.le_refl _, Nat.le_refl _⟩ rfl (fun H locs k1000011 hW hS => ?_)
  refine lv_imul hx hb dX12_plan_29 ?_
  obtain ⟨v1000013, hc1000012, hm⟩ := q_b1i hm
  refine q_callS C hW hS (As := [.int x5, .int 1, .int (4 * v1000010)]) (rest := []) (st1 := [.int v1000013]) (c_X12_in l D al dt x5 1 (4 * v1000010) v1000013 hc1000012) yl_X12_in sl_X12_in ml_RX12_376 rfl ⟨Nat.le_of_ble_eq_true rfl, Nat.le_of_ble_eq_true rfl⟩ hl rfl (Nat.le_of_ble_eq_true rfl) dX12_plan_30 ⟨Nat.le_refl _, Nat.le_refl _⟩ rfl (fun H locs k1000014 hW hS => ?_)
  refine q_ifc hm (fun c1000015 hm => ?_) (fun c1000015 hm => ?_)
  · refine lv_if_ne (tgt := 38) hx hb dX12_plan_33 (by decide) (fun h => absurd c1000015 h) (fun _ => ?_)
    refine lv_iconst (v := (-1)) hx hb dX12_plan_36 (by decide) ?_
    exact e_iD C hW hS hm dX12_plan_37
  refine lv_if_ne (tgt := 38) hx hb dX12_plan_33 (by decide) (fun _ => ?_) (fun h => absurd h c1000015)
  refine lv_iload hx hb dX12_plan_38 (lv_at hl 4 rfl) ?_
  refine lv_istore (i := 8) (lv' := [(8, .int x4), (0, .ref x0), (1, .int x1), (2, .int x2), (3, .int x3), (4, .int x4), (5, .int x5), (6, .long x6)]) hx hb dX12_plan_40 hl (by decide) rfl (fun ls hl => ?_)
  refine lv_iconst (v := 1) hx hb dX12_plan_42 (by decide) ?_
  refine lv_istore (i := 9) (lv' := [(9, .int 1), (8, .int x4), (0, .ref x0), (1, .int x1), (2, .int x2), (3, .int x3), (4, .int x4), (5, .int x5), (6, .long x6)]) hx hb dX12_plan_43 hl (by decide) rfl (fun ls hl => ?_)
  exact hB45 x0 x1 x2 x3 x5 x6 kx0 q_FU x4 1 dt _ _ _ hm hW hS (lv_sub hl [2, 3, 4, 5, 7, 8, 1, 0] rfl)
theorem dX12_common_0 : decode cX12_common 0 = .ok (.lload_n 0, 1) := by decide +kernel
theorem dX12_common_1 : decode cX12_common 1 = .ok (.lstore 4, 2) := by decide +kernel
theorem dX12_common_3 : decode cX12_common 3 = .ok (.lload_n 2, 1) := by decide +kernel
theorem dX12_common_4 : decode cX12_common 4 = .ok (.lstore 6, 2) := by decide +kernel
theorem dX12_common_6 : decode cX12_common 6 = .ok (.lload 6, 2) := by decide +kernel
theorem dX12_common_8 : decode cX12_common 8 = .ok (.lconst 0, 1) := by decide +kernel
theorem dX12_common_9 : decode cX12_common 9 = .ok (.lcmp, 1) := by decide +kernel
theorem dX12_common_10 : decode cX12_common 10 = .ok (.ifCond .eq 21, 3) := by decide +kernel
theorem dX12_common_13 : decode cX12_common 13 = .ok (.lload 4, 2) := by decide +kernel
theorem dX12_common_15 : decode cX12_common 15 = .ok (.lload 6, 2) := by decide +kernel
theorem dX12_common_17 : decode cX12_common 17 = .ok (.lrem, 1) := by decide +kernel
theorem dX12_common_18 : decode cX12_common 18 = .ok (.lstore 8, 2) := by decide +kernel
theorem dX12_common_20 : decode cX12_common 20 = .ok (.lload 6, 2) := by decide +kernel
theorem dX12_common_22 : decode cX12_common 22 = .ok (.lstore 4, 2) := by decide +kernel
theorem dX12_common_24 : decode cX12_common 24 = .ok (.lload 8, 2) := by decide +kernel
theorem dX12_common_26 : decode cX12_common 26 = .ok (.lstore 6, 2) := by decide +kernel
theorem dX12_common_28 : decode cX12_common 28 = .ok (.goto (-22), 3) := by decide +kernel
theorem dX12_common_31 : decode cX12_common 31 = .ok (.lload 4, 2) := by decide +kernel
theorem dX12_common_33 : decode cX12_common 33 = .ok (.lreturn, 1) := by decide +kernel
set_option maxRecDepth 100000 in
theorem c_X12_common (l : Launch) (D : q_D) (al : q_Al) (dt : q_Dt) (x0 : Int64) (x2 : Int64) (r0 : Int64) (hm : X12_common x0 x2 = some r0) : q_Mt l yX12_common cX12_common 10 (some FieldType.long) 0 0 D al [.long x0, .long x2] dt 0 (some (.long r0)) dt := by
  refine q_Mt.of (by decide) (Nat.le_of_ble_eq_true rfl) ?_
  intro p e s m args below meth c ls C hargs hW hl
  have hx := C.1
  have hb := C.2.1
  have hown := C.2.2.2.2.2.1
  have hts := C.2.2.2.2.2.2.1
  have hS : va_S (q_A al) s.heap s.heap [] := va_S.rf
  have hl : lv_has ls 10 [(0, .long x0), (2, .long x2)] := hl
  unfold X12_common at hm
  have hB6 : ∀ (n_6 : Nat) (x4_6 : Int64) (x6_6 : Int64) (H : Heap) (locs : List Loc) (ls : Array Slot) (hm : X12_common_b6 n_6 x4_6 x6_6 = some r0) (hW : q_W D al dt H) (hS : va_S (q_A al) s.heap H locs) (hl : lv_has ls 10 [(4, .long x4_6), (6, .long x6_6)]), W p l e { frames := 0, cells := 0, slots := 0, locals := 0 } s m args below meth c H locs 0 0 (MQ below (q_Q (some (.long r0)) (fun H => q_W D al dt H ∧ q_Rk al 0 (some (.long r0))) (q_A al)) args s 0 0 (q_A al)) (F0 m 6 ls []) := by
    intro n_6
    induction n_6 with
    | zero => intro x4_6 x6_6 H locs ls hm hW hS hl; cases hm
    | succ n_6 ih6 =>
      intro x4_6 x6_6 H locs ls hm hW hS hl
      rw [X12_common_b6] at hm
      refine lv_lload hx hb dX12_common_6 (lv_at hl 1 rfl) ?_
      refine lv_lconst (v := 0) hx hb dX12_common_8 rfl ?_
      refine W.lcmp hx hb dX12_common_9 ?_
      refine q_ifc hm (fun c6001 hm => ?_) (fun c6001 hm => ?_)
      · refine lv_if_eq (tgt := 31) hx hb dX12_common_10 (by decide) (fun _ => ?_) (fun h => absurd (q_cmp_eq.mpr c6001) h)
        refine lv_lload hx hb dX12_common_31 (lv_at hl 0 rfl) ?_
        exact e_l C hW hS hm dX12_common_33
      refine lv_if_eq (tgt := 31) hx hb dX12_common_10 (by decide) (fun h => absurd (q_cmp_eq.mp h) c6001) (fun _ => ?_)
      refine lv_lload hx hb dX12_common_13 (lv_at hl 0 rfl) ?_
      refine lv_lload hx hb dX12_common_15 (lv_at hl 1 rfl) ?_
      obtain ⟨c6002, hm⟩ := q_ini hm
      refine lv_lrem hx hb dX12_common_17 c6002 ?_
      refine lv_lstore (i := 8) (lv' := [(8, .long (q_lr x4_6 x6_6)), (4, .long x4_6), (6, .long x6_6)]) hx hb dX12_common_18 hl (by decide) rfl (fun ls hl => ?_)
      refine lv_lload hx hb dX12_common_20 (lv_at hl 2 rfl) ?_
      refine lv_lstore (i := 4) (lv' := [(4, .long x6_6), (8, .long (q_lr x4_6 x6_6)), (6, .long x6_6)]) hx hb dX12_common_22 hl (by decide) rfl (fun ls hl => ?_)
      refine lv_lload hx hb dX12_common_24 (lv_at hl 1 rfl) ?_
      refine lv_lstore (i := 6) (lv' := [(6, .long (q_lr x4_6 x6_6)), (4, .long x6_6), (8, .long (q_lr x4_6 x6_6))]) hx hb dX12_common_26 hl (by decide) rfl (fun ls hl => ?_)
      refine lv_goto (tgt := 6) hx hb dX12_common_28 (by decide) ?_
      exact ih6 x6_6 (q_lr x4_6 x6_6) _ _ _ hm hW hS (lv_sub hl [1, 0] rfl)
  refine lv_lload_n hx hb dX12_common_0 rfl (lv_at hl 0 rfl) ?_
  refine lv_lstore (i := 4) (lv' := [(4, .long x0), (0, .long x0), (2, .long x2)]) hx hb dX12_common_1 hl (by decide) rfl (fun ls hl => ?_)
  refine lv_lload_n hx hb dX12_common_3 rfl (lv_at hl 2 rfl) ?_
  refine lv_lstore (i := 6) (lv' := [(6, .long x2), (4, .long x0), (0, .long x0), (2, .long x2)]) hx hb dX12_common_4 hl (by decide) rfl (fun ls hl => ?_)
  exact hB6 q_FU x0 x2 _ _ _ hm hW hS (lv_sub hl [1, 0] rfl)
theorem dX12_mean_0 : decode cX12_mean 0 = .ok (.iload_n 1, 1) := by decide +kernel
theorem dX12_mean_1 : decode cX12_mean 1 = .ok (.iconst 2, 1) := by decide +kernel
theorem dX12_mean_2 : decode cX12_mean 2 = .ok (.sipush 1000, 3) := by decide +kernel
theorem dX12_mean_5 : decode cX12_mean 5 = .ok (.invokestatic 376, 3) := by decide +kernel
theorem dX12_mean_8 : decode cX12_mean 8 = .ok (.ifCond .eq 46, 3) := by decide +kernel
theorem dX12_mean_11 : decode cX12_mean 11 = .ok (.iload 4, 2) := by decide +kernel
theorem dX12_mean_13 : decode cX12_mean 13 = .ok (.iconst 1, 1) := by decide +kernel
theorem dX12_mean_14 : decode cX12_mean 14 = .ok (.bipush 100, 2) := by decide +kernel
theorem dX12_mean_16 : decode cX12_mean 16 = .ok (.invokestatic 376, 3) := by decide +kernel
theorem dX12_mean_19 : decode cX12_mean 19 = .ok (.ifCond .eq 35, 3) := by decide +kernel
theorem dX12_mean_22 : decode cX12_mean 22 = .ok (.iload_n 2, 1) := by decide +kernel
theorem dX12_mean_23 : decode cX12_mean 23 = .ok (.iconst 1, 1) := by decide +kernel
theorem dX12_mean_24 : decode cX12_mean 24 = .ok (.iload 4, 2) := by decide +kernel
theorem dX12_mean_26 : decode cX12_mean 26 = .ok (.invokestatic 376, 3) := by decide +kernel
theorem dX12_mean_29 : decode cX12_mean 29 = .ok (.ifCond .eq 25, 3) := by decide +kernel
theorem dX12_mean_32 : decode cX12_mean 32 = .ok (.iload_n 3, 1) := by decide +kernel
theorem dX12_mean_33 : decode cX12_mean 33 = .ok (.iconst 0, 1) := by decide +kernel
theorem dX12_mean_34 : decode cX12_mean 34 = .ok (.iload 4, 2) := by decide +kernel
theorem dX12_mean_36 : decode cX12_mean 36 = .ok (.invokestatic 376, 3) := by decide +kernel
theorem dX12_mean_39 : decode cX12_mean 39 = .ok (.ifCond .eq 15, 3) := by decide +kernel
theorem dX12_mean_42 : decode cX12_mean 42 = .ok (.iload 5, 2) := by decide +kernel
theorem dX12_mean_44 : decode cX12_mean 44 = .ok (.iconst 0, 1) := by decide +kernel
theorem dX12_mean_45 : decode cX12_mean 45 = .ok (.sipush 1000, 3) := by decide +kernel
theorem dX12_mean_48 : decode cX12_mean 48 = .ok (.invokestatic 376, 3) := by decide +kernel
theorem dX12_mean_51 : decode cX12_mean 51 = .ok (.ifCond .ne 7, 3) := by decide +kernel
theorem dX12_mean_54 : decode cX12_mean 54 = .ok (.ldc2_w 413, 3) := by decide +kernel
theorem dX12_mean_57 : decode cX12_mean 57 = .ok (.lreturn, 1) := by decide +kernel
theorem dX12_mean_58 : decode cX12_mean 58 = .ok (.ldc2_w 444, 3) := by decide +kernel
theorem dX12_mean_61 : decode cX12_mean 61 = .ok (.iload 4, 2) := by decide +kernel
theorem dX12_mean_63 : decode cX12_mean 63 = .ok (.i2l, 1) := by decide +kernel
theorem dX12_mean_64 : decode cX12_mean 64 = .ok (.lmul, 1) := by decide +kernel
theorem dX12_mean_65 : decode cX12_mean 65 = .ok (.iload_n 2, 1) := by decide +kernel
theorem dX12_mean_66 : decode cX12_mean 66 = .ok (.i2l, 1) := by decide +kernel
theorem dX12_mean_67 : decode cX12_mean 67 = .ok (.lsub, 1) := by decide +kernel
theorem dX12_mean_68 : decode cX12_mean 68 = .ok (.iload_n 1, 1) := by decide +kernel
theorem dX12_mean_69 : decode cX12_mean 69 = .ok (.iconst 1, 1) := by decide +kernel
theorem dX12_mean_70 : decode cX12_mean 70 = .ok (.isub, 1) := by decide +kernel
theorem dX12_mean_71 : decode cX12_mean 71 = .ok (.i2l, 1) := by decide +kernel
theorem dX12_mean_72 : decode cX12_mean 72 = .ok (.lmul, 1) := by decide +kernel
theorem dX12_mean_73 : decode cX12_mean 73 = .ok (.iload 4, 2) := by decide +kernel
theorem dX12_mean_75 : decode cX12_mean 75 = .ok (.i2l, 1) := by decide +kernel
theorem dX12_mean_76 : decode cX12_mean 76 = .ok (.iload 5, 2) := by decide +kernel
theorem dX12_mean_78 : decode cX12_mean 78 = .ok (.i2l, 1) := by decide +kernel
theorem dX12_mean_79 : decode cX12_mean 79 = .ok (.iload_n 3, 1) := by decide +kernel
theorem dX12_mean_80 : decode cX12_mean 80 = .ok (.i2l, 1) := by decide +kernel
theorem dX12_mean_81 : decode cX12_mean 81 = .ok (.lmul, 1) := by decide +kernel
theorem dX12_mean_82 : decode cX12_mean 82 = .ok (.ladd, 1) := by decide +kernel
theorem dX12_mean_83 : decode cX12_mean 83 = .ok (.lmul, 1) := by decide +kernel
theorem dX12_mean_84 : decode cX12_mean 84 = .ok (.ldc2_w 444, 3) := by decide +kernel
theorem dX12_mean_87 : decode cX12_mean 87 = .ok (.iload 4, 2) := by decide +kernel
theorem dX12_mean_89 : decode cX12_mean 89 = .ok (.i2l, 1) := by decide +kernel
theorem dX12_mean_90 : decode cX12_mean 90 = .ok (.lmul, 1) := by decide +kernel
theorem dX12_mean_91 : decode cX12_mean 91 = .ok (.iload 4, 2) := by decide +kernel
theorem dX12_mean_93 : decode cX12_mean 93 = .ok (.i2l, 1) := by decide +kernel
theorem dX12_mean_94 : decode cX12_mean 94 = .ok (.lmul, 1) := by decide +kernel
theorem dX12_mean_95 : decode cX12_mean 95 = .ok (.ladd, 1) := by decide +kernel
theorem dX12_mean_96 : decode cX12_mean 96 = .ok (.lstore 7, 2) := by decide +kernel
theorem dX12_mean_98 : decode cX12_mean 98 = .ok (.ldc2_w 444, 3) := by decide +kernel
theorem dX12_mean_101 : decode cX12_mean 101 = .ok (.iload_n 2, 1) := by decide +kernel
theorem dX12_mean_102 : decode cX12_mean 102 = .ok (.i2l, 1) := by decide +kernel
theorem dX12_mean_103 : decode cX12_mean 103 = .ok (.lmul, 1) := by decide +kernel
theorem dX12_mean_104 : decode cX12_mean 104 = .ok (.iload 4, 2) := by decide +kernel
theorem dX12_mean_106 : decode cX12_mean 106 = .ok (.i2l, 1) := by decide +kernel
theorem dX12_mean_107 : decode cX12_mean 107 = .ok (.lmul, 1) := by decide +kernel
theorem dX12_mean_108 : decode cX12_mean 108 = .ok (.lstore 9, 2) := by decide +kernel
theorem dX12_mean_110 : decode cX12_mean 110 = .ok (.lload 7, 2) := by decide +kernel
theorem dX12_mean_112 : decode cX12_mean 112 = .ok (.lload 9, 2) := by decide +kernel
theorem dX12_mean_114 : decode cX12_mean 114 = .ok (.invokestatic 446, 3) := by decide +kernel
theorem dX12_mean_117 : decode cX12_mean 117 = .ok (.lstore 11, 2) := by decide +kernel
theorem dX12_mean_119 : decode cX12_mean 119 = .ok (.iload 6, 2) := by decide +kernel
theorem dX12_mean_121 : decode cX12_mean 121 = .ok (.ifCond .eq 11, 3) := by decide +kernel
theorem dX12_mean_124 : decode cX12_mean 124 = .ok (.lload 9, 2) := by decide +kernel
theorem dX12_mean_126 : decode cX12_mean 126 = .ok (.lload 11, 2) := by decide +kernel
theorem dX12_mean_128 : decode cX12_mean 128 = .ok (.ldiv, 1) := by decide +kernel
theorem dX12_mean_129 : decode cX12_mean 129 = .ok (.goto 8, 3) := by decide +kernel
theorem dX12_mean_132 : decode cX12_mean 132 = .ok (.lload 7, 2) := by decide +kernel
theorem dX12_mean_134 : decode cX12_mean 134 = .ok (.lload 11, 2) := by decide +kernel
theorem dX12_mean_136 : decode cX12_mean 136 = .ok (.ldiv, 1) := by decide +kernel
theorem dX12_mean_137 : decode cX12_mean 137 = .ok (.lreturn, 1) := by decide +kernel
set_option maxRecDepth 100000 in
theorem c_X12_mean (l : Launch) (D : q_D) (al : q_Al) (dt : q_Dt) (x0 : Nat) (x1 : Int32) (x2 : Int32) (x3 : Int32) (x4 : Int32) (x5 : Int32) (x6 : Int32) (kx0 : al.1 x0 = 13) (r0 : Int64) (hm : X12_mean x0 x1 x2 x3 x4 x5 x6 = some r0) : q_Mt l yX12_mean cX12_mean 13 (some FieldType.long) 1 29 D al [.ref x0, .int x1, .int x2, .int x3, .int x4, .int x5, .int x6] dt 0 (some (.long r0)) dt := by
  refine q_Mt.of (by decide) (Nat.le_of_ble_eq_true rfl) ?_
  intro p e s m args below meth c ls C hargs hW hl
  have hx := C.1
  have hb := C.2.1
  have hown := C.2.2.2.2.2.1
  have hts := C.2.2.2.2.2.2.1
  have hS : va_S (q_A al) s.heap s.heap [] := va_S.rf
  have hl : lv_has ls 13 [(0, .ref x0), (1, .int x1), (2, .int x2), (3, .int x3), (4, .int x4), (5, .int x5), (6, .int x6)] := hl
  unfold X12_mean at hm
  have hB54 : ∀ (H : Heap) (locs : List Loc) (ls : Array Slot) (hm : X12_mean_b54 = some r0) (hW : q_W D al dt H) (hS : va_S (q_A al) s.heap H locs) (hl : lv_has ls 13 []), W p l e { frames := 1, cells := 0, slots := 0, locals := 29 } s m args below meth c H locs 0 0 (MQ below (q_Q (some (.long r0)) (fun H => q_W D al dt H ∧ q_Rk al 0 (some (.long r0))) (q_A al)) args s 0 0 (q_A al)) (F0 m 54 ls []) := by
    intro H locs ls hm hW hS hl
    unfold X12_mean_b54 at hm
    refine lv_ldc2 (own := RX12) (v := (-1)) hx hb hown (hts _ wc_RX12_413) dX12_mean_54 ?_
    exact e_l C hW hS hm dX12_mean_57
  refine lv_iload_n hx hb dX12_mean_0 rfl (lv_at hl 1 rfl) ?_
  refine lv_iconst (v := 2) hx hb dX12_mean_1 (by decide) ?_
  refine lv_sipush (v := 1000) hx hb dX12_mean_2 (by decide) ?_
  obtain ⟨v1000002, hc1000001, hm⟩ := q_b1i hm
  refine q_callS C hW hS (As := [.int x1, .int 2, .int 1000]) (rest := []) (st1 := [.int v1000002]) (c_X12_in l D al dt x1 2 1000 v1000002 hc1000001) yl_X12_in sl_X12_in ml_RX12_376 rfl ⟨Nat.le_of_ble_eq_true rfl, Nat.le_of_ble_eq_true rfl⟩ hl rfl (Nat.le_of_ble_eq_true rfl) dX12_mean_5 ⟨Nat.le_refl _, Nat.le_refl _⟩ rfl (fun H locs k1000003 hW hS => ?_)
  refine q_ifc hm (fun c1000004 hm => ?_) (fun c1000004 hm => ?_)
  · refine lv_if_eq (tgt := 54) hx hb dX12_mean_8 (by decide) (fun _ => ?_) (fun h => absurd c1000004 h)
    exact hB54 _ _ _ hm hW hS (lv_sub hl [] rfl)
  refine lv_if_eq (tgt := 54) hx hb dX12_mean_8 (by decide) (fun h => absurd h c1000004) (fun _ => ?_)
  refine lv_iload hx hb dX12_mean_11 (lv_at hl 4 rfl) ?_
  refine lv_iconst (v := 1) hx hb dX12_mean_13 (by decide) ?_
  refine lv_bipush (v := 100) hx hb dX12_mean_14 (by decide) ?_
  obtain ⟨v1000006, hc1000005, hm⟩ := q_b1i hm
  refine q_callS C hW hS (As := [.int x4, .int 1, .int 100]) (rest := []) (st1 := [.int v1000006]) (c_X12_in l D al dt x4 1 100 v1000006 hc1000005) yl_X12_in sl_X12_in ml_RX12_376 rfl ⟨Nat.le_of_ble_eq_true rfl, Nat.le_of_ble_eq_true rfl⟩ hl rfl (Nat.le_of_ble_eq_true rfl) dX12_mean_16 ⟨Nat.le_refl _, Nat.le_refl _⟩ rfl (fun H locs k1000007 hW hS => ?_)
  refine q_ifc hm (fun c1000008 hm => ?_) (fun c1000008 hm => ?_)
  · refine lv_if_eq (tgt := 54) hx hb dX12_mean_19 (by decide) (fun _ => ?_) (fun h => absurd c1000008 h)
    exact hB54 _ _ _ hm hW hS (lv_sub hl [] rfl)
  refine lv_if_eq (tgt := 54) hx hb dX12_mean_19 (by decide) (fun h => absurd h c1000008) (fun _ => ?_)
  refine lv_iload_n hx hb dX12_mean_22 rfl (lv_at hl 2 rfl) ?_
  refine lv_iconst (v := 1) hx hb dX12_mean_23 (by decide) ?_
  refine lv_iload hx hb dX12_mean_24 (lv_at hl 4 rfl) ?_
  obtain ⟨v1000010, hc1000009, hm⟩ := q_b1i hm
  refine q_callS C hW hS (As := [.int x2, .int 1, .int x4]) (rest := []) (st1 := [.int v1000010]) (c_X12_in l D al dt x2 1 x4 v1000010 hc1000009) yl_X12_in sl_X12_in ml_RX12_376 rfl ⟨Nat.le_of_ble_eq_true rfl, Nat.le_of_ble_eq_true rfl⟩ hl rfl (Nat.le_of_ble_eq_true rfl) dX12_mean_26 ⟨Nat.le_refl _, Nat.le_refl _⟩ rfl (fun H locs k1000011 hW hS => ?_)
  refine q_ifc hm (fun c1000012 hm => ?_) (fun c1000012 hm => ?_)
  · refine lv_if_eq (tgt := 54) hx hb dX12_mean_29 (by decide) (fun _ => ?_) (fun h => absurd c1000012 h)
    exact hB54 _ _ _ hm hW hS (lv_sub hl [] rfl)
  refine lv_if_eq (tgt := 54) hx hb dX12_mean_29 (by decide) (fun h => absurd h c1000012) (fun _ => ?_)
  refine lv_iload_n hx hb dX12_mean_32 rfl (lv_at hl 3 rfl) ?_
  refine lv_iconst (v := 0) hx hb dX12_mean_33 (by decide) ?_
  refine lv_iload hx hb dX12_mean_34 (lv_at hl 4 rfl) ?_
  obtain ⟨v1000014, hc1000013, hm⟩ := q_b1i hm
  refine q_callS C hW hS (As := [.int x3, .int 0, .int x4]) (rest := []) (st1 := [.int v1000014]) (c_X12_in l D al dt x3 0 x4 v1000014 hc1000013) yl_X12_in sl_X12_in ml_RX12_376 rfl ⟨Nat.le_of_ble_eq_true rfl, Nat.le_of_ble_eq_true rfl⟩ hl rfl (Nat.le_of_ble_eq_true rfl) dX12_mean_36 ⟨Nat.le_refl _, Nat.le_refl _⟩ rfl (fun H locs k1000015 hW hS => ?_)
  refine q_ifc hm (fun c1000016 hm => ?_) (fun c1000016 hm => ?_)
  · refine lv_if_eq (tgt := 54) hx hb dX12_mean_39 (by decide) (fun _ => ?_) (fun h => absurd c1000016 h)
    exact hB54 _ _ _ hm hW hS (lv_sub hl [] rfl)
  refine lv_if_eq (tgt := 54) hx hb dX12_mean_39 (by decide) (fun h => absurd h c1000016) (fun _ => ?_)
  refine lv_iload hx hb dX12_mean_42 (lv_at hl 5 rfl) ?_
  refine lv_iconst (v := 0) hx hb dX12_mean_44 (by decide) ?_
  refine lv_sipush (v := 1000) hx hb dX12_mean_45 (by decide) ?_
  obtain ⟨v1000018, hc1000017, hm⟩ := q_b1i hm
  refine q_callS C hW hS (As := [.int x5, .int 0, .int 1000]) (rest := []) (st1 := [.int v1000018]) (c_X12_in l D al dt x5 0 1000 v1000018 hc1000017) yl_X12_in sl_X12_in ml_RX12_376 rfl ⟨Nat.le_of_ble_eq_true rfl, Nat.le_of_ble_eq_true rfl⟩ hl rfl (Nat.le_of_ble_eq_true rfl) dX12_mean_48 ⟨Nat.le_refl _, Nat.le_refl _⟩ rfl (fun H locs k1000019 hW hS => ?_)
  refine q_ifc hm (fun c1000020 hm => ?_) (fun c1000020 hm => ?_)
  · refine lv_if_ne (tgt := 58) hx hb dX12_mean_51 (by decide) (fun h => absurd c1000020 h) (fun _ => ?_)
    exact hB54 _ _ _ hm hW hS (lv_sub hl [] rfl)
  refine lv_if_ne (tgt := 58) hx hb dX12_mean_51 (by decide) (fun _ => ?_) (fun h => absurd h c1000020)
  refine lv_ldc2 (own := RX12) (v := 2) hx hb hown (hts _ wc_RX12_444) dX12_mean_58 ?_
  refine lv_iload hx hb dX12_mean_61 (lv_at hl 4 rfl) ?_
  refine lv_i2l (v := (Int32.toInt64 x4)) hx hb dX12_mean_63 rfl ?_
  refine lv_lmul hx hb dX12_mean_64 ?_
  refine lv_iload_n hx hb dX12_mean_65 rfl (lv_at hl 2 rfl) ?_
  refine lv_i2l (v := (Int32.toInt64 x2)) hx hb dX12_mean_66 rfl ?_
  refine lv_lsub hx hb dX12_mean_67 ?_
  refine lv_iload_n hx hb dX12_mean_68 rfl (lv_at hl 1 rfl) ?_
  refine lv_iconst (v := 1) hx hb dX12_mean_69 (by decide) ?_
  refine lv_isub hx hb dX12_mean_70 ?_
  refine lv_i2l (v := (Int32.toInt64 (x1 - 1))) hx hb dX12_mean_71 rfl ?_
  refine lv_lmul hx hb dX12_mean_72 ?_
  refine lv_iload hx hb dX12_mean_73 (lv_at hl 4 rfl) ?_
  refine lv_i2l (v := (Int32.toInt64 x4)) hx hb dX12_mean_75 rfl ?_
  refine lv_iload hx hb dX12_mean_76 (lv_at hl 5 rfl) ?_
  refine lv_i2l (v := (Int32.toInt64 x5)) hx hb dX12_mean_78 rfl ?_
  refine lv_iload_n hx hb dX12_mean_79 rfl (lv_at hl 3 rfl) ?_
  refine lv_i2l (v := (Int32.toInt64 x3)) hx hb dX12_mean_80 rfl ?_
  refine lv_lmul hx hb dX12_mean_81 ?_
  refine lv_ladd hx hb dX12_mean_82 ?_
  refine lv_lmul hx hb dX12_mean_83 ?_
  refine lv_ldc2 (own := RX12) (v := 2) hx hb hown (hts _ wc_RX12_444) dX12_mean_84 ?_
  refine lv_iload hx hb dX12_mean_87 (lv_at hl 4 rfl) ?_
  refine lv_i2l (v := (Int32.toInt64 x4)) hx hb dX12_mean_89 rfl ?_
  refine lv_lmul hx hb dX12_mean_90 ?_
  refine lv_iload hx hb dX12_mean_91 (lv_at hl 4 rfl) ?_
  refine lv_i2l (v := (Int32.toInt64 x4)) hx hb dX12_mean_93 rfl ?_
  refine lv_lmul hx hb dX12_mean_94 ?_
  refine lv_ladd hx hb dX12_mean_95 ?_
  refine q_nmL hm (fun v1000021 ev1000021 hm => ?_)
  refine lv_lstore (i := 7) (lv' := [(7, .long v1000021), (0, .ref x0), (1, .int x1), (2, .int x2), (3, .int x3), (4, .int x4), (5, .int x5), (6, .int x6)]) hx hb dX12_mean_96 hl (by decide) rfl (fun ls hl => ?_)
  refine lv_ldc2 (own := RX12) (v := 2) hx hb hown (hts _ wc_RX12_444) dX12_mean_98 ?_
  refine lv_iload_n hx hb dX12_mean_101 rfl (lv_at hl 3 rfl) ?_
  refine lv_i2l (v := (Int32.toInt64 x2)) hx hb dX12_mean_102 rfl ?_
  refine lv_lmul hx hb dX12_mean_103 ?_
  refine lv_iload hx hb dX12_mean_104 (lv_at hl 5 rfl) ?_
  refine lv_i2l (v := (Int32.toInt64 x4)) hx hb dX12_mean_106 rfl ?_
  refine lv_lmul hx hb dX12_mean_107 ?_
  refine q_nmL hm (fun v1000022 ev1000022 hm => ?_)
  refine lv_lstore (i := 9) (lv' := [(9, .long v1000022), (7, .long v1000021), (0, .ref x0), (1, .int x1), (2, .int x2), (3, .int x3), (4, .int x4), (5, .int x5), (6, .int x6)]) hx hb dX12_mean_108 hl (by decide) rfl (fun ls hl => ?_)
  refine lv_lload hx hb dX12_mean_110 (lv_at hl 1 rfl) ?_
  refine lv_lload hx hb dX12_mean_112 (lv_at hl 0 rfl) ?_
  obtain ⟨v1000024, hc1000023, hm⟩ := q_b1i hm
  refine q_callS C hW hS (As := [.long v1000021, .long v1000022]) (rest := []) (st1 := [.long v1000024]) (c_X12_common l D al dt v1000021 v1000022 v1000024 hc1000023) yl_X12_common sl_X12_common ml_RX12_446 rfl ⟨Nat.le_of_ble_eq_true rfl, Nat.le_of_ble_eq_true rfl⟩ hl rfl (Nat.le_of_ble_eq_true rfl) dX12_mean_114 ⟨Nat.le_refl _, Nat.le_refl _⟩ rfl (fun H locs k1000025 hW hS => ?_)
  refine lv_lstore (i := 11) (lv' := [(11, .long v1000024), (9, .long v1000022), (7, .long v1000021), (0, .ref x0), (1, .int x1), (2, .int x2), (3, .int x3), (4, .int x4), (5, .int x5), (6, .int x6)]) hx hb dX12_mean_117 hl (by decide) rfl (fun ls hl => ?_)
  refine lv_iload hx hb dX12_mean_119 (lv_at hl 9 rfl) ?_
  refine q_ifc hm (fun c1000026 hm => ?_) (fun c1000026 hm => ?_)
  · refine lv_if_eq (tgt := 132) hx hb dX12_mean_121 (by decide) (fun _ => ?_) (fun h => absurd c1000026 h)
    refine lv_lload hx hb dX12_mean_132 (lv_at hl 2 rfl) ?_
    refine lv_lload hx hb dX12_mean_134 (lv_at hl 0 rfl) ?_
    obtain ⟨c1000027, hm⟩ := q_ini hm
    refine lv_ldiv hx hb dX12_mean_136 c1000027 ?_
    exact e_l C hW hS hm dX12_mean_137
  refine lv_if_eq (tgt := 132) hx hb dX12_mean_121 (by decide) (fun h => absurd h c1000026) (fun _ => ?_)
  refine lv_lload hx hb dX12_mean_124 (lv_at hl 1 rfl) ?_
  refine lv_lload hx hb dX12_mean_126 (lv_at hl 0 rfl) ?_
  obtain ⟨c1000028, hm⟩ := q_ini hm
  refine lv_ldiv hx hb dX12_mean_128 c1000028 ?_
  refine lv_goto (tgt := 137) hx hb dX12_mean_129 (by decide) ?_
  exact e_l C hW hS hm dX12_mean_137
theorem dX12_over_0 : decode cX12_over 0 = .ok (.iload_n 1, 1) := by decide +kernel
theorem dX12_over_1 : decode cX12_over 1 = .ok (.iconst 2, 1) := by decide +kernel
theorem dX12_over_2 : decode cX12_over 2 = .ok (.sipush 1000, 3) := by decide +kernel
theorem dX12_over_5 : decode cX12_over 5 = .ok (.invokestatic 376, 3) := by decide +kernel
theorem dX12_over_8 : decode cX12_over 8 = .ok (.ifCond .eq 45, 3) := by decide +kernel
theorem dX12_over_11 : decode cX12_over 11 = .ok (.iload_n 3, 1) := by decide +kernel
theorem dX12_over_12 : decode cX12_over 12 = .ok (.iconst 1, 1) := by decide +kernel
theorem dX12_over_13 : decode cX12_over 13 = .ok (.bipush 10, 2) := by decide +kernel
theorem dX12_over_15 : decode cX12_over 15 = .ok (.invokestatic 376, 3) := by decide +kernel
theorem dX12_over_18 : decode cX12_over 18 = .ok (.ifCond .eq 35, 3) := by decide +kernel
theorem dX12_over_21 : decode cX12_over 21 = .ok (.iload_n 2, 1) := by decide +kernel
theorem dX12_over_22 : decode cX12_over 22 = .ok (.iconst 1, 1) := by decide +kernel
theorem dX12_over_23 : decode cX12_over 23 = .ok (.iload_n 3, 1) := by decide +kernel
theorem dX12_over_24 : decode cX12_over 24 = .ok (.invokestatic 376, 3) := by decide +kernel
theorem dX12_over_27 : decode cX12_over 27 = .ok (.ifCond .eq 26, 3) := by decide +kernel
theorem dX12_over_30 : decode cX12_over 30 = .ok (.iload 4, 2) := by decide +kernel
theorem dX12_over_32 : decode cX12_over 32 = .ok (.iconst 0, 1) := by decide +kernel
theorem dX12_over_33 : decode cX12_over 33 = .ok (.iload_n 1, 1) := by decide +kernel
theorem dX12_over_34 : decode cX12_over 34 = .ok (.iconst 1, 1) := by decide +kernel
theorem dX12_over_35 : decode cX12_over 35 = .ok (.isub, 1) := by decide +kernel
theorem dX12_over_36 : decode cX12_over 36 = .ok (.invokestatic 376, 3) := by decide +kernel
theorem dX12_over_39 : decode cX12_over 39 = .ok (.ifCond .eq 14, 3) := by decide +kernel
theorem dX12_over_42 : decode cX12_over 42 = .ok (.iload 5, 2) := by decide +kernel
theorem dX12_over_44 : decode cX12_over 44 = .ok (.iconst 0, 1) := by decide +kernel
theorem dX12_over_45 : decode cX12_over 45 = .ok (.bipush 18, 2) := by decide +kernel
theorem dX12_over_47 : decode cX12_over 47 = .ok (.invokestatic 376, 3) := by decide +kernel
theorem dX12_over_50 : decode cX12_over 50 = .ok (.ifCond .ne 7, 3) := by decide +kernel
theorem dX12_over_53 : decode cX12_over 53 = .ok (.ldc2_w 413, 3) := by decide +kernel
theorem dX12_over_56 : decode cX12_over 56 = .ok (.lreturn, 1) := by decide +kernel
theorem dX12_over_57 : decode cX12_over 57 = .ok (.lconst 1, 1) := by decide +kernel
theorem dX12_over_58 : decode cX12_over 58 = .ok (.lstore 6, 2) := by decide +kernel
theorem dX12_over_60 : decode cX12_over 60 = .ok (.lconst 1, 1) := by decide +kernel
theorem dX12_over_61 : decode cX12_over 61 = .ok (.lstore 8, 2) := by decide +kernel
theorem dX12_over_63 : decode cX12_over 63 = .ok (.iconst 1, 1) := by decide +kernel
theorem dX12_over_64 : decode cX12_over 64 = .ok (.istore 10, 2) := by decide +kernel
theorem dX12_over_66 : decode cX12_over 66 = .ok (.iload 10, 2) := by decide +kernel
theorem dX12_over_68 : decode cX12_over 68 = .ok (.iload 5, 2) := by decide +kernel
theorem dX12_over_70 : decode cX12_over 70 = .ok (.if_icmp .gt 49, 3) := by decide +kernel
theorem dX12_over_73 : decode cX12_over 73 = .ok (.lload 6, 2) := by decide +kernel
theorem dX12_over_75 : decode cX12_over 75 = .ok (.iload_n 3, 1) := by decide +kernel
theorem dX12_over_76 : decode cX12_over 76 = .ok (.i2l, 1) := by decide +kernel
theorem dX12_over_77 : decode cX12_over 77 = .ok (.lmul, 1) := by decide +kernel
theorem dX12_over_78 : decode cX12_over 78 = .ok (.lstore 6, 2) := by decide +kernel
theorem dX12_over_80 : decode cX12_over 80 = .ok (.lload 8, 2) := by decide +kernel
theorem dX12_over_82 : decode cX12_over 82 = .ok (.iload 10, 2) := by decide +kernel
theorem dX12_over_84 : decode cX12_over 84 = .ok (.iload 4, 2) := by decide +kernel
theorem dX12_over_86 : decode cX12_over 86 = .ok (.if_icmp .le 22, 3) := by decide +kernel
theorem dX12_over_89 : decode cX12_over 89 = .ok (.iload 10, 2) := by decide +kernel
theorem dX12_over_91 : decode cX12_over 91 = .ok (.iconst 1, 1) := by decide +kernel
theorem dX12_over_92 : decode cX12_over 92 = .ok (.isub, 1) := by decide +kernel
theorem dX12_over_93 : decode cX12_over 93 = .ok (.iload 4, 2) := by decide +kernel
theorem dX12_over_95 : decode cX12_over 95 = .ok (.isub, 1) := by decide +kernel
theorem dX12_over_96 : decode cX12_over 96 = .ok (.iload_n 1, 1) := by decide +kernel
theorem dX12_over_97 : decode cX12_over 97 = .ok (.irem, 1) := by decide +kernel
theorem dX12_over_98 : decode cX12_over 98 = .ok (.ifCond .ne 10, 3) := by decide +kernel
theorem dX12_over_101 : decode cX12_over 101 = .ok (.iload_n 3, 1) := by decide +kernel
theorem dX12_over_102 : decode cX12_over 102 = .ok (.iload_n 2, 1) := by decide +kernel
theorem dX12_over_103 : decode cX12_over 103 = .ok (.isub, 1) := by decide +kernel
theorem dX12_over_104 : decode cX12_over 104 = .ok (.i2l, 1) := by decide +kernel
theorem dX12_over_105 : decode cX12_over 105 = .ok (.goto 5, 3) := by decide +kernel
theorem dX12_over_108 : decode cX12_over 108 = .ok (.iload_n 3, 1) := by decide +kernel
theorem dX12_over_109 : decode cX12_over 109 = .ok (.i2l, 1) := by decide +kernel
theorem dX12_over_110 : decode cX12_over 110 = .ok (.lmul, 1) := by decide +kernel
theorem dX12_over_111 : decode cX12_over 111 = .ok (.lstore 8, 2) := by decide +kernel
theorem dX12_over_113 : decode cX12_over 113 = .ok (.iinc 10 1, 3) := by decide +kernel
theorem dX12_over_116 : decode cX12_over 116 = .ok (.goto (-50), 3) := by decide +kernel
theorem dX12_over_119 : decode cX12_over 119 = .ok (.lload 6, 2) := by decide +kernel
theorem dX12_over_121 : decode cX12_over 121 = .ok (.lload 8, 2) := by decide +kernel
theorem dX12_over_123 : decode cX12_over 123 = .ok (.lsub, 1) := by decide +kernel
theorem dX12_over_124 : decode cX12_over 124 = .ok (.lreturn, 1) := by decide +kernel
set_option maxRecDepth 100000 in
theorem c_X12_over (l : Launch) (D : q_D) (al : q_Al) (dt : q_Dt) (x0 : Nat) (x1 : Int32) (x2 : Int32) (x3 : Int32) (x4 : Int32) (x5 : Int32) (kx0 : al.1 x0 = 13) (r0 : Int64) (hm : X12_over x0 x1 x2 x3 x4 x5 = some r0) : q_Mt l yX12_over cX12_over 11 (some FieldType.long) 1 22 D al [.ref x0, .int x1, .int x2, .int x3, .int x4, .int x5] dt 0 (some (.long r0)) dt := by
  refine q_Mt.of (by decide) (Nat.le_of_ble_eq_true rfl) ?_
  intro p e s m args below meth c ls C hargs hW hl
  have hx := C.1
  have hb := C.2.1
  have hown := C.2.2.2.2.2.1
  have hts := C.2.2.2.2.2.2.1
  have hS : va_S (q_A al) s.heap s.heap [] := va_S.rf
  have hl : lv_has ls 11 [(0, .ref x0), (1, .int x1), (2, .int x2), (3, .int x3), (4, .int x4), (5, .int x5)] := hl
  unfold X12_over at hm
  have hB53 : ∀ (H : Heap) (locs : List Loc) (ls : Array Slot) (hm : X12_over_b53 = some r0) (hW : q_W D al dt H) (hS : va_S (q_A al) s.heap H locs) (hl : lv_has ls 11 []), W p l e { frames := 1, cells := 0, slots := 0, locals := 22 } s m args below meth c H locs 0 0 (MQ below (q_Q (some (.long r0)) (fun H => q_W D al dt H ∧ q_Rk al 0 (some (.long r0))) (q_A al)) args s 0 0 (q_A al)) (F0 m 53 ls []) := by
    intro H locs ls hm hW hS hl
    unfold X12_over_b53 at hm
    refine lv_ldc2 (own := RX12) (v := (-1)) hx hb hown (hts _ wc_RX12_413) dX12_over_53 ?_
    exact e_l C hW hS hm dX12_over_56
  have hB66 : ∀ (x1_66 : Int32) (x2_66 : Int32) (x3_66 : Int32) (x4_66 : Int32) (x5_66 : Int32) (n_66 : Nat) (x6_66 : Int64) (x8_66 : Int64) (x10_66 : Int32) (H : Heap) (locs : List Loc) (ls : Array Slot) (hm : X12_over_b66 x1_66 x2_66 x3_66 x4_66 x5_66 n_66 x6_66 x8_66 x10_66 = some r0) (hW : q_W D al dt H) (hS : va_S (q_A al) s.heap H locs) (hl : lv_has ls 11 [(1, .int x1_66), (2, .int x2_66), (3, .int x3_66), (4, .int x4_66), (5, .int x5_66), (6, .long x6_66), (8, .long x8_66), (10, .int x10_66)]), W p l e { frames := 1, cells := 0, slots := 0, locals := 22 } s m args below meth c H locs 0 0 (MQ below (q_Q (some (.long r0)) (fun H => q_W D al dt H ∧ q_Rk al 0 (some (.long r0))) (q_A al)) args s 0 0 (q_A al)) (F0 m 66 ls []) := by
    intro x1_66 x2_66 x3_66 x4_66 x5_66
    intro n_66
    induction n_66 with
    | zero => intro x6_66 x8_66 x10_66 H locs ls hm hW hS hl; cases hm
    | succ n_66 ih66 =>
      have hB110 : ∀ (x6_110 : Int64) (x10_110 : Int32) (t0_110 : Int64) (t1_110 : Int64) (H : Heap) (locs : List Loc) (ls : Array Slot) (hm : X12_over_b110 (X12_over_b66 x1_66 x2_66 x3_66 x4_66 x5_66 n_66) x1_66 x2_66 x3_66 x4_66 x5_66 x6_110 x10_110 t0_110 t1_110 = some r0) (hW : q_W D al dt H) (hS : va_S (q_A al) s.heap H locs) (hl : lv_has ls 11 [(1, .int x1_66), (2, .int x2_66), (3, .int x3_66), (4, .int x4_66), (5, .int x5_66), (6, .long x6_110), (10, .int x10_110)]), W p l e { frames := 1, cells := 0, slots := 0, locals := 22 } s m args below meth c H locs 0 0 (MQ below (q_Q (some (.long r0)) (fun H => q_W D al dt H ∧ q_Rk al 0 (some (.long r0))) (q_A al)) args s 0 0 (q_A al)) (F0 m 110 ls [.long t1_110, .long t0_110]) := by
        intro x6_110 x10_110 t0_110 t1_110 H locs ls hm hW hS hl
        unfold X12_over_b110 at hm
        refine lv_lmul hx hb dX12_over_110 ?_
        refine lv_lstore (i := 8) (lv' := [(8, .long (t0_110 * t1_110)), (1, .int x1_66), (2, .int x2_66), (3, .int x3_66), (4, .int x4_66), (5, .int x5_66), (6, .long x6_110), (10, .int x10_110)]) hx hb dX12_over_111 hl (by decide) rfl (fun ls hl => ?_)
        refine lv_iinc (v := (x10_110 + 1)) (lv' := [(10, .int (x10_110 + 1)), (8, .long (t0_110 * t1_110)), (1, .int x1_66), (2, .int x2_66), (3, .int x3_66), (4, .int x4_66), (5, .int x5_66), (6, .long x6_110)]) hx hb dX12_over_113 hl (k := 7) rfl rfl (by decide) rfl (fun ls hl => ?_)
        refine lv_goto (tgt := 66) hx hb dX12_over_116 (by decide) ?_
        exact ih66 x6_110 (t0_110 * t1_110) (x10_110 + 1) _ _ _ hm hW hS (lv_sub hl [2, 3, 4, 5, 6, 7, 1, 0] rfl)
      have hB108 : ∀ (x6_108 : Int64) (x10_108 : Int32) (t0_108 : Int64) (H : Heap) (locs : List Loc) (ls : Array Slot) (hm : X12_over_b108 (X12_over_b66 x1_66 x2_66 x3_66 x4_66 x5_66 n_66) x1_66 x2_66 x3_66 x4_66 x5_66 x6_108 x10_108 t0_108 = some r0) (hW : q_W D al dt H) (hS : va_S (q_A al) s.heap H locs) (hl : lv_has ls 11 [(1, .int x1_66), (2, .int x2_66), (3, .int x3_66), (4, .int x4_66), (5, .int x5_66), (6, .long x6_108), (10, .int x10_108)]), W p l e { frames := 1, cells := 0, slots := 0, locals := 22 } s m args below meth c H locs 0 0 (MQ below (q_Q (some (.long r0)) (fun H => q_W D al dt H ∧ q_Rk al 0 (some (.long r0))) (q_A al)) args s 0 0 (q_A al)) (F0 m 108 ls [.long t0_108]) := by
        intro x6_108 x10_108 t0_108 H locs ls hm hW hS hl
        unfold X12_over_b108 at hm
        refine lv_iload_n hx hb dX12_over_108 rfl (lv_at hl 2 rfl) ?_
        refine lv_i2l (v := (Int32.toInt64 x3_66)) hx hb dX12_over_109 rfl ?_
        exact hB110 x6_108 x10_108 t0_108 (Int32.toInt64 x3_66) _ _ _ hm hW hS (lv_sub hl [0, 1, 2, 3, 4, 5, 6] rfl)
      intro x6_66 x8_66 x10_66 H locs ls hm hW hS hl
      rw [X12_over_b66] at hm
      refine lv_iload hx hb dX12_over_66 (lv_at hl 7 rfl) ?_
      refine lv_iload hx hb dX12_over_68 (lv_at hl 4 rfl) ?_
      refine q_ifc hm (fun c66001 hm => ?_) (fun c66001 hm => ?_)
      · refine lv_icmp_gt (tgt := 119) hx hb dX12_over_70 (by decide) (fun _ => ?_) (fun h => absurd c66001 h)
        refine lv_lload hx hb dX12_over_119 (lv_at hl 5 rfl) ?_
        refine lv_lload hx hb dX12_over_121 (lv_at hl 6 rfl) ?_
        refine lv_lsub hx hb dX12_over_123 ?_
        exact e_l C hW hS hm dX12_over_124
      refine lv_icmp_gt (tgt := 119) hx hb dX12_over_70 (by decide) (fun h => absurd h c66001) (fun _ => ?_)
      refine lv_lload hx hb dX12_over_73 (lv_at hl 5 rfl) ?_
      refine lv_iload_n hx hb dX12_over_75 rfl (lv_at hl 2 rfl) ?_
      refine lv_i2l (v := (Int32.toInt64 x3_66)) hx hb dX12_over_76 rfl ?_
      refine lv_lmul hx hb dX12_over_77 ?_
      refine lv_lstore (i := 6) (lv' := [(6, .long (x6_66 * (Int32.toInt64 x3_66))), (1, .int x1_66), (2, .int x2_66), (3, .int x3_66), (4, .int x4_66), (5, .int x5_66), (8, .long x8_66), (10, .int x10_66)]) hx hb dX12_over_78 hl (by decide) rfl (fun ls hl => ?_)
      refine lv_lload hx hb dX12_over_80 (lv_at hl 6 rfl) ?_
      refine lv_iload hx hb dX12_over_82 (lv_at hl 7 rfl) ?_
      refine lv_iload hx hb dX12_over_84 (lv_at hl 4 rfl) ?_
      refine q_ifc hm (fun c66002 hm => ?_) (fun c66002 hm => ?_)
      · refine lv_icmp_le (tgt := 108) hx hb dX12_over_86 (by decide) (fun _ => ?_) (fun h => absurd c66002 h)
        exact hB108 (x6_66 * (Int32.toInt64 x3_66)) x10_66 x8_66 _ _ _ hm hW hS (lv_sub hl [1, 2, 3, 4, 5, 0, 7] rfl)
      refine lv_icmp_le (tgt := 108) hx hb dX12_over_86 (by decide) (fun h => absurd h c66002) (fun _ => ?_)
      refine lv_iload hx hb dX12_over_89 (lv_at hl 7 rfl) ?_
      refine lv_iconst (v := 1) hx hb dX12_over_91 (by decide) ?_
      refine lv_isub hx hb dX12_over_92 ?_
      refine lv_iload hx hb dX12_over_93 (lv_at hl 4 rfl) ?_
      refine lv_isub hx hb dX12_over_95 ?_
      refine lv_iload_n hx hb dX12_over_96 rfl (lv_at hl 1 rfl) ?_
      obtain ⟨c66003, hm⟩ := q_ini hm
      refine lv_irem hx hb dX12_over_97 c66003 ?_
      refine q_ifc hm (fun c66004 hm => ?_) (fun c66004 hm => ?_)
      · refine lv_if_ne (tgt := 108) hx hb dX12_over_98 (by decide) (fun h => absurd c66004 h) (fun _ => ?_)
        refine lv_iload_n hx hb dX12_over_101 rfl (lv_at hl 3 rfl) ?_
        refine lv_iload_n hx hb dX12_over_102 rfl (lv_at hl 2 rfl) ?_
        refine lv_isub hx hb dX12_over_103 ?_
        refine lv_i2l (v := (Int32.toInt64 (x3_66 - x2_66))) hx hb dX12_over_104 rfl ?_
        refine lv_goto (tgt := 110) hx hb dX12_over_105 (by decide) ?_
        exact hB110 (x6_66 * (Int32.toInt64 x3_66)) x10_66 x8_66 (Int32.toInt64 (x3_66 - x2_66)) _ _ _ hm hW hS (lv_sub hl [1, 2, 3, 4, 5, 0, 7] rfl)
      refine lv_if_ne (tgt := 108) hx hb dX12_over_98 (by decide) (fun _ => ?_) (fun h => absurd h c66004)
      exact hB108 (x6_66 * (Int32.toInt64 x3_66)) x10_66 x8_66 _ _ _ hm hW hS (lv_sub hl [1, 2, 3, 4, 5, 0, 7] rfl)
  refine lv_iload_n hx hb dX12_over_0 rfl (lv_at hl 1 rfl) ?_
  refine lv_iconst (v := 2) hx hb dX12_over_1 (by decide) ?_
  refine lv_sipush (v := 1000) hx hb dX12_over_2 (by decide) ?_
  obtain ⟨v1000002, hc1000001, hm⟩ := q_b1i hm
  refine q_callS C hW hS (As := [.int x1, .int 2, .int 1000]) (rest := []) (st1 := [.int v1000002]) (c_X12_in l D al dt x1 2 1000 v1000002 hc1000001) yl_X12_in sl_X12_in ml_RX12_376 rfl ⟨Nat.le_of_ble_eq_true rfl, Nat.le_of_ble_eq_true rfl⟩ hl rfl (Nat.le_of_ble_eq_true rfl) dX12_over_5 ⟨Nat.le_refl _, Nat.le_refl _⟩ rfl (fun H locs k1000003 hW hS => ?_)
  refine q_ifc hm (fun c1000004 hm => ?_) (fun c1000004 hm => ?_)
  · refine lv_if_eq (tgt := 53) hx hb dX12_over_8 (by decide) (fun _ => ?_) (fun h => absurd c1000004 h)
    exact hB53 _ _ _ hm hW hS (lv_sub hl [] rfl)
  refine lv_if_eq (tgt := 53) hx hb dX12_over_8 (by decide) (fun h => absurd h c1000004) (fun _ => ?_)
  refine lv_iload_n hx hb dX12_over_11 rfl (lv_at hl 3 rfl) ?_
  refine lv_iconst (v := 1) hx hb dX12_over_12 (by decide) ?_
  refine lv_bipush (v := 10) hx hb dX12_over_13 (by decide) ?_
  obtain ⟨v1000006, hc1000005, hm⟩ := q_b1i hm
  refine q_callS C hW hS (As := [.int x3, .int 1, .int 10]) (rest := []) (st1 := [.int v1000006]) (c_X12_in l D al dt x3 1 10 v1000006 hc1000005) yl_X12_in sl_X12_in ml_RX12_376 rfl ⟨Nat.le_of_ble_eq_true rfl, Nat.le_of_ble_eq_true rfl⟩ hl rfl (Nat.le_of_ble_eq_true rfl) dX12_over_15 ⟨Nat.le_refl _, Nat.le_refl _⟩ rfl (fun H locs k1000007 hW hS => ?_)
  refine q_ifc hm (fun c1000008 hm => ?_) (fun c1000008 hm => ?_)
  · refine lv_if_eq (tgt := 53) hx hb dX12_over_18 (by decide) (fun _ => ?_) (fun h => absurd c1000008 h)
    exact hB53 _ _ _ hm hW hS (lv_sub hl [] rfl)
  refine lv_if_eq (tgt := 53) hx hb dX12_over_18 (by decide) (fun h => absurd h c1000008) (fun _ => ?_)
  refine lv_iload_n hx hb dX12_over_21 rfl (lv_at hl 2 rfl) ?_
  refine lv_iconst (v := 1) hx hb dX12_over_22 (by decide) ?_
  refine lv_iload_n hx hb dX12_over_23 rfl (lv_at hl 3 rfl) ?_
  obtain ⟨v1000010, hc1000009, hm⟩ := q_b1i hm
  refine q_callS C hW hS (As := [.int x2, .int 1, .int x3]) (rest := []) (st1 := [.int v1000010]) (c_X12_in l D al dt x2 1 x3 v1000010 hc1000009) yl_X12_in sl_X12_in ml_RX12_376 rfl ⟨Nat.le_of_ble_eq_true rfl, Nat.le_of_ble_eq_true rfl⟩ hl rfl (Nat.le_of_ble_eq_true rfl) dX12_over_24 ⟨Nat.le_refl _, Nat.le_refl _⟩ rfl (fun H locs k1000011 hW hS => ?_)
  refine q_ifc hm (fun c1000012 hm => ?_) (fun c1000012 hm => ?_)
  · refine lv_if_eq (tgt := 53) hx hb dX12_over_27 (by decide) (fun _ => ?_) (fun h => absurd c1000012 h)
    exact hB53 _ _ _ hm hW hS (lv_sub hl [] rfl)
  refine lv_if_eq (tgt := 53) hx hb dX12_over_27 (by decide) (fun h => absurd h c1000012) (fun _ => ?_)
  refine lv_iload hx hb dX12_over_30 (lv_at hl 4 rfl) ?_
  refine lv_iconst (v := 0) hx hb dX12_over_32 (by decide) ?_
  refine lv_iload_n hx hb dX12_over_33 rfl (lv_at hl 1 rfl) ?_
  refine lv_iconst (v := 1) hx hb dX12_over_34 (by decide) ?_
  refine lv_isub hx hb dX12_over_35 ?_
  obtain ⟨v1000014, hc1000013, hm⟩ := q_b1i hm
  refine q_callS C hW hS (As := [.int x4, .int 0, .int (x1 - 1)]) (rest := []) (st1 := [.int v1000014]) (c_X12_in l D al dt x4 0 (x1 - 1) v1000014 hc1000013) yl_X12_in sl_X12_in ml_RX12_376 rfl ⟨Nat.le_of_ble_eq_true rfl, Nat.le_of_ble_eq_true rfl⟩ hl rfl (Nat.le_of_ble_eq_true rfl) dX12_over_36 ⟨Nat.le_refl _, Nat.le_refl _⟩ rfl (fun H locs k1000015 hW hS => ?_)
  refine q_ifc hm (fun c1000016 hm => ?_) (fun c1000016 hm => ?_)
  · refine lv_if_eq (tgt := 53) hx hb dX12_over_39 (by decide) (fun _ => ?_) (fun h => absurd c1000016 h)
    exact hB53 _ _ _ hm hW hS (lv_sub hl [] rfl)
  refine lv_if_eq (tgt := 53) hx hb dX12_over_39 (by decide) (fun h => absurd h c1000016) (fun _ => ?_)
  refine lv_iload hx hb dX12_over_42 (lv_at hl 5 rfl) ?_
  refine lv_iconst (v := 0) hx hb dX12_over_44 (by decide) ?_
  refine lv_bipush (v := 18) hx hb dX12_over_45 (by decide) ?_
  obtain ⟨v1000018, hc1000017, hm⟩ := q_b1i hm
  refine q_callS C hW hS (As := [.int x5, .int 0, .int 18]) (rest := []) (st1 := [.int v1000018]) (c_X12_in l D al dt x5 0 18 v1000018 hc1000017) yl_X12_in sl_X12_in ml_RX12_376 rfl ⟨Nat.le_of_ble_eq_true rfl, Nat.le_of_ble_eq_true rfl⟩ hl rfl (Nat.le_of_ble_eq_true rfl) dX12_over_47 ⟨Nat.le_refl _, Nat.le_refl _⟩ rfl (fun H locs k1000019 hW hS => ?_)
  refine q_ifc hm (fun c1000020 hm => ?_) (fun c1000020 hm => ?_)
  · refine lv_if_ne (tgt := 57) hx hb dX12_over_50 (by decide) (fun h => absurd c1000020 h) (fun _ => ?_)
    exact hB53 _ _ _ hm hW hS (lv_sub hl [] rfl)
  refine lv_if_ne (tgt := 57) hx hb dX12_over_50 (by decide) (fun _ => ?_) (fun h => absurd h c1000020)
  refine lv_lconst (v := 1) hx hb dX12_over_57 rfl ?_
  refine lv_lstore (i := 6) (lv' := [(6, .long 1), (0, .ref x0), (1, .int x1), (2, .int x2), (3, .int x3), (4, .int x4), (5, .int x5)]) hx hb dX12_over_58 hl (by decide) rfl (fun ls hl => ?_)
  refine lv_lconst (v := 1) hx hb dX12_over_60 rfl ?_
  refine lv_lstore (i := 8) (lv' := [(8, .long 1), (6, .long 1), (0, .ref x0), (1, .int x1), (2, .int x2), (3, .int x3), (4, .int x4), (5, .int x5)]) hx hb dX12_over_61 hl (by decide) rfl (fun ls hl => ?_)
  refine lv_iconst (v := 1) hx hb dX12_over_63 (by decide) ?_
  refine lv_istore (i := 10) (lv' := [(10, .int 1), (8, .long 1), (6, .long 1), (0, .ref x0), (1, .int x1), (2, .int x2), (3, .int x3), (4, .int x4), (5, .int x5)]) hx hb dX12_over_64 hl (by decide) rfl (fun ls hl => ?_)
  exact hB66 x1 x2 x3 x4 x5 q_FU 1 1 1 _ _ _ hm hW hS (lv_sub hl [4, 5, 6, 7, 8, 2, 1, 0] rfl)
