theorem dX12_worstOf_0 : decode cX12_worstOf 0 = .ok (.iconst 0, 1) := by decide +kernel
theorem dX12_worstOf_1 : decode cX12_worstOf 1 = .ok (.istore_n 3, 1) := by decide +kernel
theorem dX12_worstOf_2 : decode cX12_worstOf 2 = .ok (.iload_n 1, 1) := by decide +kernel
theorem dX12_worstOf_3 : decode cX12_worstOf 3 = .ok (.iload_n 2, 1) := by decide +kernel
theorem dX12_worstOf_4 : decode cX12_worstOf 4 = .ok (.if_icmp .ne 7, 3) := by decide +kernel
theorem dX12_worstOf_7 : decode cX12_worstOf 7 = .ok (.iconst 1, 1) := by decide +kernel
theorem dX12_worstOf_8 : decode cX12_worstOf 8 = .ok (.goto 4, 3) := by decide +kernel
theorem dX12_worstOf_11 : decode cX12_worstOf 11 = .ok (.iconst 0, 1) := by decide +kernel
theorem dX12_worstOf_12 : decode cX12_worstOf 12 = .ok (.istore 4, 2) := by decide +kernel
theorem dX12_worstOf_14 : decode cX12_worstOf 14 = .ok (.iload 4, 2) := by decide +kernel
theorem dX12_worstOf_16 : decode cX12_worstOf 16 = .ok (.aload_n 0, 1) := by decide +kernel
theorem dX12_worstOf_17 : decode cX12_worstOf 17 = .ok (.iload_n 1, 1) := by decide +kernel
theorem dX12_worstOf_18 : decode cX12_worstOf 18 = .ok (.invokevirtual 327, 3) := by decide +kernel
theorem dX12_worstOf_21 : decode cX12_worstOf 21 = .ok (.if_icmp .ge 38, 3) := by decide +kernel
theorem dX12_worstOf_24 : decode cX12_worstOf 24 = .ok (.aload_n 0, 1) := by decide +kernel
theorem dX12_worstOf_25 : decode cX12_worstOf 25 = .ok (.iload_n 1, 1) := by decide +kernel
theorem dX12_worstOf_26 : decode cX12_worstOf 26 = .ok (.iload_n 2, 1) := by decide +kernel
theorem dX12_worstOf_27 : decode cX12_worstOf 27 = .ok (.iload 4, 2) := by decide +kernel
theorem dX12_worstOf_29 : decode cX12_worstOf 29 = .ok (.invokevirtual 383, 3) := by decide +kernel
theorem dX12_worstOf_32 : decode cX12_worstOf 32 = .ok (.istore 5, 2) := by decide +kernel
theorem dX12_worstOf_34 : decode cX12_worstOf 34 = .ok (.iload 5, 2) := by decide +kernel
theorem dX12_worstOf_36 : decode cX12_worstOf 36 = .ok (.ifCond .ge 8, 3) := by decide +kernel
theorem dX12_worstOf_39 : decode cX12_worstOf 39 = .ok (.iload 5, 2) := by decide +kernel
theorem dX12_worstOf_41 : decode cX12_worstOf 41 = .ok (.ineg, 1) := by decide +kernel
theorem dX12_worstOf_42 : decode cX12_worstOf 42 = .ok (.istore 5, 2) := by decide +kernel
theorem dX12_worstOf_44 : decode cX12_worstOf 44 = .ok (.iload 5, 2) := by decide +kernel
theorem dX12_worstOf_46 : decode cX12_worstOf 46 = .ok (.iload_n 3, 1) := by decide +kernel
theorem dX12_worstOf_47 : decode cX12_worstOf 47 = .ok (.if_icmp .le 6, 3) := by decide +kernel
theorem dX12_worstOf_50 : decode cX12_worstOf 50 = .ok (.iload 5, 2) := by decide +kernel
theorem dX12_worstOf_52 : decode cX12_worstOf 52 = .ok (.istore_n 3, 1) := by decide +kernel
theorem dX12_worstOf_53 : decode cX12_worstOf 53 = .ok (.iinc 4 1, 3) := by decide +kernel
theorem dX12_worstOf_56 : decode cX12_worstOf 56 = .ok (.goto (-42), 3) := by decide +kernel
theorem dX12_worstOf_59 : decode cX12_worstOf 59 = .ok (.iload_n 3, 1) := by decide +kernel
theorem dX12_worstOf_60 : decode cX12_worstOf 60 = .ok (.ireturn, 1) := by decide +kernel
set_option maxRecDepth 100000 in
theorem c_X12_worstOf (l : Launch) (D : q_D) (al : q_Al) (dt : q_Dt) (x0 : Nat) (x1 : Int32) (x2 : Int32) (kx0 : al.1 x0 = 13) (r0 : Int32) (hm : X12_worstOf al dt x0 x1 x2 = some r0) : q_Mt l yX12_worstOf cX12_worstOf 6 (some FieldType.int) 2 48 D al [.ref x0, .int x1, .int x2] dt 0 (some (.int r0)) dt := by
  refine q_Mt.of (by decide) (Nat.le_of_ble_eq_true rfl) ?_
  intro p e s m args below meth c ls C hargs hW hl
  have hx := C.1
  have hb := C.2.1
  have hown := C.2.2.2.2.2.1
  have hts := C.2.2.2.2.2.2.1
  have hS : va_S (q_A al) s.heap s.heap [] := va_S.rf
  have hl : lv_has ls 6 [(0, .ref x0), (1, .int x1), (2, .int x2)] := hl
  unfold X12_worstOf at hm
  have hB14 : ∀ (x0_14 : Nat) (x1_14 : Int32) (x2_14 : Int32) (kx0_14 : al.1 x0_14 = 13) (n_14 : Nat) (x3_14 : Int32) (x4_14 : Int32) (H : Heap) (locs : List Loc) (ls : Array Slot) (hm : X12_worstOf_b14 al dt x0_14 x1_14 x2_14 n_14 x3_14 x4_14 = some r0) (hW : q_W D al dt H) (hS : va_S (q_A al) s.heap H locs) (hl : lv_has ls 6 [(0, .ref x0_14), (1, .int x1_14), (2, .int x2_14), (3, .int x3_14), (4, .int x4_14)]), W p l e { frames := 2, cells := 0, slots := 0, locals := 48 } s m args below meth c H locs 0 0 (MQ below (q_Q (some (.int r0)) (fun H => q_W D al dt H ∧ q_Rk al 0 (some (.int r0))) (q_A al)) args s 0 0 (q_A al)) (F0 m 14 ls []) := by
    intro x0_14 x1_14 x2_14 kx0_14
    intro n_14
    induction n_14 with
    | zero => intro x3_14 x4_14 H locs ls hm hW hS hl; cases hm
    | succ n_14 ih14 =>
      have hB53 : ∀ (x3_53 : Int32) (x4_53 : Int32) (H : Heap) (locs : List Loc) (ls : Array Slot) (hm : X12_worstOf_b53 al dt (X12_worstOf_b14 al dt x0_14 x1_14 x2_14 n_14) x0_14 x1_14 x2_14 x3_53 x4_53 = some r0) (hW : q_W D al dt H) (hS : va_S (q_A al) s.heap H locs) (hl : lv_has ls 6 [(0, .ref x0_14), (1, .int x1_14), (2, .int x2_14), (3, .int x3_53), (4, .int x4_53)]), W p l e { frames := 2, cells := 0, slots := 0, locals := 48 } s m args below meth c H locs 0 0 (MQ below (q_Q (some (.int r0)) (fun H => q_W D al dt H ∧ q_Rk al 0 (some (.int r0))) (q_A al)) args s 0 0 (q_A al)) (F0 m 53 ls []) := by
        intro x3_53 x4_53 H locs ls hm hW hS hl
        unfold X12_worstOf_b53 at hm
        refine lv_iinc (v := (x4_53 + 1)) (lv' := [(4, .int (x4_53 + 1)), (0, .ref x0_14), (1, .int x1_14), (2, .int x2_14), (3, .int x3_53)]) hx hb dX12_worstOf_53 hl (k := 4) rfl rfl (by decide) rfl (fun ls hl => ?_)
        refine lv_goto (tgt := 14) hx hb dX12_worstOf_56 (by decide) ?_
        exact ih14 x3_53 (x4_53 + 1) _ _ _ hm hW hS (lv_sub hl [1, 2, 3, 4, 0] rfl)
      have hB44 : ∀ (x3_44 : Int32) (x4_44 : Int32) (x5_44 : Int32) (H : Heap) (locs : List Loc) (ls : Array Slot) (hm : X12_worstOf_b44 al dt (X12_worstOf_b14 al dt x0_14 x1_14 x2_14 n_14) x0_14 x1_14 x2_14 x3_44 x4_44 x5_44 = some r0) (hW : q_W D al dt H) (hS : va_S (q_A al) s.heap H locs) (hl : lv_has ls 6 [(0, .ref x0_14), (1, .int x1_14), (2, .int x2_14), (3, .int x3_44), (4, .int x4_44), (5, .int x5_44)]), W p l e { frames := 2, cells := 0, slots := 0, locals := 48 } s m args below meth c H locs 0 0 (MQ below (q_Q (some (.int r0)) (fun H => q_W D al dt H ∧ q_Rk al 0 (some (.int r0))) (q_A al)) args s 0 0 (q_A al)) (F0 m 44 ls []) := by
        intro x3_44 x4_44 x5_44 H locs ls hm hW hS hl
        unfold X12_worstOf_b44 at hm
        refine lv_iload hx hb dX12_worstOf_44 (lv_at hl 5 rfl) ?_
        refine lv_iload_n hx hb dX12_worstOf_46 rfl (lv_at hl 3 rfl) ?_
        refine q_ifc hm (fun c44001 hm => ?_) (fun c44001 hm => ?_)
        · refine lv_icmp_le (tgt := 53) hx hb dX12_worstOf_47 (by decide) (fun _ => ?_) (fun h => absurd c44001 h)
          exact hB53 x3_44 x4_44 _ _ _ hm hW hS (lv_sub hl [0, 1, 2, 3, 4] rfl)
        refine lv_icmp_le (tgt := 53) hx hb dX12_worstOf_47 (by decide) (fun h => absurd h c44001) (fun _ => ?_)
        refine lv_iload hx hb dX12_worstOf_50 (lv_at hl 5 rfl) ?_
        refine lv_istore_n (i := 3) (lv' := [(3, .int x5_44), (0, .ref x0_14), (1, .int x1_14), (2, .int x2_14), (4, .int x4_44), (5, .int x5_44)]) hx hb dX12_worstOf_52 rfl hl (by decide) rfl (fun ls hl => ?_)
        exact hB53 x5_44 x4_44 _ _ _ hm hW hS (lv_sub hl [1, 2, 3, 0, 4] rfl)
      intro x3_14 x4_14 H locs ls hm hW hS hl
      rw [X12_worstOf_b14] at hm
      refine lv_iload hx hb dX12_worstOf_14 (lv_at hl 4 rfl) ?_
      refine lv_aload_n hx hb dX12_worstOf_16 rfl (lv_at hl 0 rfl) ?_
      refine lv_iload_n hx hb dX12_worstOf_17 rfl (lv_at hl 1 rfl) ?_
      obtain ⟨v14002, hc14001, hm⟩ := q_b1i hm
      refine q_callV C hW hS (As := [.int x1_14]) (rest := [.int x4_14]) (st1 := [.int v14002, .int x4_14]) (c_X12_long0 l D al dt x0_14 x1_14 kx0_14 v14002 hc14001) yl_X12_long0 vl_X12_long0 ml_RX12_327 (ci := 12) rfl kx0_14 (by decide) rfl ⟨Nat.le_of_ble_eq_true rfl, Nat.le_of_ble_eq_true rfl⟩ hl rfl (Nat.le_of_ble_eq_true rfl) dX12_worstOf_18 ⟨Nat.le_refl _, Nat.le_refl _⟩ rfl (fun H locs k14003 hW hS => ?_)
      refine q_ifc hm (fun c14004 hm => ?_) (fun c14004 hm => ?_)
      · refine lv_icmp_ge (tgt := 59) hx hb dX12_worstOf_21 (by decide) (fun _ => ?_) (fun h => absurd c14004 h)
        refine lv_iload_n hx hb dX12_worstOf_59 rfl (lv_at hl 3 rfl) ?_
        exact e_i C hW hS hm dX12_worstOf_60
      refine lv_icmp_ge (tgt := 59) hx hb dX12_worstOf_21 (by decide) (fun h => absurd h c14004) (fun _ => ?_)
      refine lv_aload_n hx hb dX12_worstOf_24 rfl (lv_at hl 0 rfl) ?_
      refine lv_iload_n hx hb dX12_worstOf_25 rfl (lv_at hl 1 rfl) ?_
      refine lv_iload_n hx hb dX12_worstOf_26 rfl (lv_at hl 2 rfl) ?_
      refine lv_iload hx hb dX12_worstOf_27 (lv_at hl 4 rfl) ?_
      obtain ⟨v14006, hc14005, hm⟩ := q_b1i hm
      refine q_callV C hW hS (As := [.int x1_14, .int x2_14, .int x4_14]) (rest := []) (st1 := [.int v14006]) (c_X12_alikeAt l D al dt x0_14 x1_14 x2_14 x4_14 kx0_14 v14006 hc14005) yl_X12_alikeAt vl_X12_alikeAt ml_RX12_383 (ci := 12) rfl kx0_14 (by decide) rfl ⟨Nat.le_of_ble_eq_true rfl, Nat.le_of_ble_eq_true rfl⟩ hl rfl (Nat.le_of_ble_eq_true rfl) dX12_worstOf_29 ⟨Nat.le_refl _, Nat.le_refl _⟩ rfl (fun H locs k14007 hW hS => ?_)
      refine lv_istore (i := 5) (lv' := [(5, .int v14006), (0, .ref x0_14), (1, .int x1_14), (2, .int x2_14), (3, .int x3_14), (4, .int x4_14)]) hx hb dX12_worstOf_32 hl (by decide) rfl (fun ls hl => ?_)
      refine lv_iload hx hb dX12_worstOf_34 (lv_at hl 0 rfl) ?_
      refine q_ifc hm (fun c14008 hm => ?_) (fun c14008 hm => ?_)
      · refine lv_if_ge (tgt := 44) hx hb dX12_worstOf_36 (by decide) (fun _ => ?_) (fun h => absurd c14008 h)
        exact hB44 x3_14 x4_14 v14006 _ _ _ hm hW hS (lv_sub hl [1, 2, 3, 4, 5, 0] rfl)
      refine lv_if_ge (tgt := 44) hx hb dX12_worstOf_36 (by decide) (fun h => absurd h c14008) (fun _ => ?_)
      refine lv_iload hx hb dX12_worstOf_39 (lv_at hl 0 rfl) ?_
      refine lv_ineg hx hb dX12_worstOf_41 ?_
      refine lv_istore (i := 5) (lv' := [(5, .int (-v14006)), (0, .ref x0_14), (1, .int x1_14), (2, .int x2_14), (3, .int x3_14), (4, .int x4_14)]) hx hb dX12_worstOf_42 hl (by decide) rfl (fun ls hl => ?_)
      exact hB44 x3_14 x4_14 (-v14006) _ _ _ hm hW hS (lv_sub hl [1, 2, 3, 4, 5, 0] rfl)
  have hB12 : ∀ (x0_12 : Nat) (x1_12 : Int32) (x2_12 : Int32) (x3_12 : Int32) (t0_12 : Int32) (kx0_12 : al.1 x0_12 = 13) (H : Heap) (locs : List Loc) (ls : Array Slot) (hm : X12_worstOf_b12 al dt x0_12 x1_12 x2_12 x3_12 t0_12 = some r0) (hW : q_W D al dt H) (hS : va_S (q_A al) s.heap H locs) (hl : lv_has ls 6 [(0, .ref x0_12), (1, .int x1_12), (2, .int x2_12), (3, .int x3_12)]), W p l e { frames := 2, cells := 0, slots := 0, locals := 48 } s m args below meth c H locs 0 0 (MQ below (q_Q (some (.int r0)) (fun H => q_W D al dt H ∧ q_Rk al 0 (some (.int r0))) (q_A al)) args s 0 0 (q_A al)) (F0 m 12 ls [.int t0_12]) := by
    intro x0_12 x1_12 x2_12 x3_12 t0_12 kx0_12 H locs ls hm hW hS hl
    unfold X12_worstOf_b12 at hm
    refine lv_istore (i := 4) (lv' := [(4, .int t0_12), (0, .ref x0_12), (1, .int x1_12), (2, .int x2_12), (3, .int x3_12)]) hx hb dX12_worstOf_12 hl (by decide) rfl (fun ls hl => ?_)
    exact hB14 x0_12 x1_12 x2_12 kx0_12 q_FU x3_12 t0_12 _ _ _ hm hW hS (lv_sub hl [1, 2, 3, 4, 0] rfl)
  refine lv_iconst (v := 0) hx hb dX12_worstOf_0 (by decide) ?_
  refine lv_istore_n (i := 3) (lv' := [(3, .int 0), (0, .ref x0), (1, .int x1), (2, .int x2)]) hx hb dX12_worstOf_1 rfl hl (by decide) rfl (fun ls hl => ?_)
  refine lv_iload_n hx hb dX12_worstOf_2 rfl (lv_at hl 2 rfl) ?_
  refine lv_iload_n hx hb dX12_worstOf_3 rfl (lv_at hl 3 rfl) ?_
  refine q_ifc hm (fun c1000001 hm => ?_) (fun c1000001 hm => ?_)
  · refine lv_icmp_ne (tgt := 11) hx hb dX12_worstOf_4 (by decide) (fun h => absurd c1000001 h) (fun _ => ?_)
    refine lv_iconst (v := 1) hx hb dX12_worstOf_7 (by decide) ?_
    refine lv_goto (tgt := 12) hx hb dX12_worstOf_8 (by decide) ?_
    exact hB12 x0 x1 x2 0 1 kx0 _ _ _ hm hW hS (lv_sub hl [1, 2, 3, 0] rfl)
  refine lv_icmp_ne (tgt := 11) hx hb dX12_worstOf_4 (by decide) (fun _ => ?_) (fun h => absurd h c1000001)
  refine lv_iconst (v := 0) hx hb dX12_worstOf_11 (by decide) ?_
  exact hB12 x0 x1 x2 0 0 kx0 _ _ _ hm hW hS (lv_sub hl [1, 2, 3, 0] rfl)
theorem dX12_worst_0 : decode cX12_worst 0 = .ok (.aload_n 0, 1) := by decide +kernel
theorem dX12_worst_1 : decode cX12_worst 1 = .ok (.iload_n 1, 1) := by decide +kernel
theorem dX12_worst_2 : decode cX12_worst 2 = .ok (.iload_n 2, 1) := by decide +kernel
theorem dX12_worst_3 : decode cX12_worst 3 = .ok (.invokevirtual 389, 3) := by decide +kernel
theorem dX12_worst_6 : decode cX12_worst 6 = .ok (.ifCond .eq 12, 3) := by decide +kernel
theorem dX12_worst_9 : decode cX12_worst 9 = .ok (.aload_n 0, 1) := by decide +kernel
theorem dX12_worst_10 : decode cX12_worst 10 = .ok (.iload_n 1, 1) := by decide +kernel
theorem dX12_worst_11 : decode cX12_worst 11 = .ok (.iload_n 2, 1) := by decide +kernel
theorem dX12_worst_12 : decode cX12_worst 12 = .ok (.invokevirtual 392, 3) := by decide +kernel
theorem dX12_worst_15 : decode cX12_worst 15 = .ok (.goto 4, 3) := by decide +kernel
theorem dX12_worst_18 : decode cX12_worst 18 = .ok (.iconst (-1), 1) := by decide +kernel
theorem dX12_worst_19 : decode cX12_worst 19 = .ok (.ireturn, 1) := by decide +kernel
set_option maxRecDepth 100000 in
theorem c_X12_worst (l : Launch) (D : q_D) (al : q_Al) (dt : q_Dt) (x0 : Nat) (x1 : Int32) (x2 : Int32) (kx0 : al.1 x0 = 13) (r0 : Int32) (hm : X12_worst al dt x0 x1 x2 = some r0) : q_Mt l yX12_worst cX12_worst 3 (some FieldType.int) 3 73 D al [.ref x0, .int x1, .int x2] dt 0 (some (.int r0)) dt := by
  refine q_Mt.of (by decide) (Nat.le_of_ble_eq_true rfl) ?_
  intro p e s m args below meth c ls C hargs hW hl
  have hx := C.1
  have hb := C.2.1
  have hown := C.2.2.2.2.2.1
  have hts := C.2.2.2.2.2.2.1
  have hS : va_S (q_A al) s.heap s.heap [] := va_S.rf
  have hl : lv_has ls 3 [(0, .ref x0), (1, .int x1), (2, .int x2)] := hl
  unfold X12_worst at hm
  refine lv_aload_n hx hb dX12_worst_0 rfl (lv_at hl 0 rfl) ?_
  refine lv_iload_n hx hb dX12_worst_1 rfl (lv_at hl 1 rfl) ?_
  refine lv_iload_n hx hb dX12_worst_2 rfl (lv_at hl 2 rfl) ?_
  obtain ⟨v1000002, hc1000001, hm⟩ := q_b1i hm
  refine q_callV C hW hS (As := [.int x1, .int x2]) (rest := []) (st1 := [.int v1000002]) (c_X12_arePair l D al dt x0 x1 x2 kx0 v1000002 hc1000001) yl_X12_arePair vl_X12_arePair ml_RX12_389 (ci := 12) rfl kx0 (by decide) rfl ⟨Nat.le_of_ble_eq_true rfl, Nat.le_of_ble_eq_true rfl⟩ hl rfl (Nat.le_of_ble_eq_true rfl) dX12_worst_3 ⟨Nat.le_refl _, Nat.le_refl _⟩ rfl (fun H locs k1000003 hW hS => ?_)
  refine q_ifc hm (fun c1000004 hm => ?_) (fun c1000004 hm => ?_)
  · refine lv_if_eq (tgt := 18) hx hb dX12_worst_6 (by decide) (fun _ => ?_) (fun h => absurd c1000004 h)
    refine lv_iconst (v := (-1)) hx hb dX12_worst_18 (by decide) ?_
    exact e_i C hW hS hm dX12_worst_19
  refine lv_if_eq (tgt := 18) hx hb dX12_worst_6 (by decide) (fun h => absurd h c1000004) (fun _ => ?_)
  refine lv_aload_n hx hb dX12_worst_9 rfl (lv_at hl 0 rfl) ?_
  refine lv_iload_n hx hb dX12_worst_10 rfl (lv_at hl 1 rfl) ?_
  refine lv_iload_n hx hb dX12_worst_11 rfl (lv_at hl 2 rfl) ?_
  obtain ⟨v1000006, hc1000005, hm⟩ := q_b1i hm
  refine q_callV C hW hS (As := [.int x1, .int x2]) (rest := []) (st1 := [.int v1000006]) (c_X12_worstOf l D al dt x0 x1 x2 kx0 v1000006 hc1000005) yl_X12_worstOf vl_X12_worstOf ml_RX12_392 (ci := 12) rfl kx0 (by decide) rfl ⟨Nat.le_of_ble_eq_true rfl, Nat.le_of_ble_eq_true rfl⟩ hl rfl (Nat.le_of_ble_eq_true rfl) dX12_worst_12 ⟨Nat.le_refl _, Nat.le_refl _⟩ rfl (fun H locs k1000007 hW hS => ?_)
  refine lv_goto (tgt := 19) hx hb dX12_worst_15 (by decide) ?_
  exact e_i C hW hS hm dX12_worst_19
theorem dX12_times_0 : decode cX12_times 0 = .ok (.aload_n 0, 1) := by decide +kernel
theorem dX12_times_1 : decode cX12_times 1 = .ok (.iload_n 1, 1) := by decide +kernel
theorem dX12_times_2 : decode cX12_times 2 = .ok (.iload_n 2, 1) := by decide +kernel
theorem dX12_times_3 : decode cX12_times 3 = .ok (.invokevirtual 389, 3) := by decide +kernel
theorem dX12_times_6 : decode cX12_times 6 = .ok (.ifCond .ne 5, 3) := by decide +kernel
theorem dX12_times_9 : decode cX12_times 9 = .ok (.iconst (-1), 1) := by decide +kernel
theorem dX12_times_10 : decode cX12_times 10 = .ok (.ireturn, 1) := by decide +kernel
theorem dX12_times_11 : decode cX12_times 11 = .ok (.iconst 0, 1) := by decide +kernel
theorem dX12_times_12 : decode cX12_times 12 = .ok (.istore 4, 2) := by decide +kernel
theorem dX12_times_14 : decode cX12_times 14 = .ok (.iconst 0, 1) := by decide +kernel
theorem dX12_times_15 : decode cX12_times 15 = .ok (.istore 5, 2) := by decide +kernel
theorem dX12_times_17 : decode cX12_times 17 = .ok (.iload 5, 2) := by decide +kernel
theorem dX12_times_19 : decode cX12_times 19 = .ok (.aload_n 0, 1) := by decide +kernel
theorem dX12_times_20 : decode cX12_times 20 = .ok (.iload_n 1, 1) := by decide +kernel
theorem dX12_times_21 : decode cX12_times 21 = .ok (.invokevirtual 327, 3) := by decide +kernel
theorem dX12_times_24 : decode cX12_times 24 = .ok (.if_icmp .ge 24, 3) := by decide +kernel
theorem dX12_times_27 : decode cX12_times 27 = .ok (.aload_n 0, 1) := by decide +kernel
theorem dX12_times_28 : decode cX12_times 28 = .ok (.iload_n 1, 1) := by decide +kernel
theorem dX12_times_29 : decode cX12_times 29 = .ok (.iload_n 2, 1) := by decide +kernel
theorem dX12_times_30 : decode cX12_times 30 = .ok (.iload 5, 2) := by decide +kernel
theorem dX12_times_32 : decode cX12_times 32 = .ok (.invokevirtual 383, 3) := by decide +kernel
theorem dX12_times_35 : decode cX12_times 35 = .ok (.iload_n 3, 1) := by decide +kernel
theorem dX12_times_36 : decode cX12_times 36 = .ok (.if_icmp .ne 6, 3) := by decide +kernel
theorem dX12_times_39 : decode cX12_times 39 = .ok (.iinc 4 1, 3) := by decide +kernel
theorem dX12_times_42 : decode cX12_times 42 = .ok (.iinc 5 1, 3) := by decide +kernel
theorem dX12_times_45 : decode cX12_times 45 = .ok (.goto (-28), 3) := by decide +kernel
theorem dX12_times_48 : decode cX12_times 48 = .ok (.iload 4, 2) := by decide +kernel
theorem dX12_times_50 : decode cX12_times 50 = .ok (.ireturn, 1) := by decide +kernel
set_option maxRecDepth 100000 in
theorem c_X12_times (l : Launch) (D : q_D) (al : q_Al) (dt : q_Dt) (x0 : Nat) (x1 : Int32) (x2 : Int32) (x3 : Int32) (kx0 : al.1 x0 = 13) (r0 : Int32) (hm : X12_times al dt x0 x1 x2 x3 = some r0) : q_Mt l yX12_times cX12_times 6 (some FieldType.int) 3 65 D al [.ref x0, .int x1, .int x2, .int x3] dt 0 (some (.int r0)) dt := by
  refine q_Mt.of (by decide) (Nat.le_of_ble_eq_true rfl) ?_
  intro p e s m args below meth c ls C hargs hW hl
  have hx := C.1
  have hb := C.2.1
  have hown := C.2.2.2.2.2.1
  have hts := C.2.2.2.2.2.2.1
  have hS : va_S (q_A al) s.heap s.heap [] := va_S.rf
  have hl : lv_has ls 6 [(0, .ref x0), (1, .int x1), (2, .int x2), (3, .int x3)] := hl
  unfold X12_times at hm
  have hB17 : ∀ (x0_17 : Nat) (x1_17 : Int32) (x2_17 : Int32) (x3_17 : Int32) (kx0_17 : al.1 x0_17 = 13) (n_17 : Nat) (x4_17 : Int32) (x5_17 : Int32) (H : Heap) (locs : List Loc) (ls : Array Slot) (hm : X12_times_b17 al dt x0_17 x1_17 x2_17 x3_17 n_17 x4_17 x5_17 = some r0) (hW : q_W D al dt H) (hS : va_S (q_A al) s.heap H locs) (hl : lv_has ls 6 [(0, .ref x0_17), (1, .int x1_17), (2, .int x2_17), (3, .int x3_17), (4, .int x4_17), (5, .int x5_17)]), W p l e { frames := 3, cells := 0, slots := 0, locals := 65 } s m args below meth c H locs 0 0 (MQ below (q_Q (some (.int r0)) (fun H => q_W D al dt H ∧ q_Rk al 0 (some (.int r0))) (q_A al)) args s 0 0 (q_A al)) (F0 m 17 ls []) := by
    intro x0_17 x1_17 x2_17 x3_17 kx0_17
    intro n_17
    induction n_17 with
    | zero => intro x4_17 x5_17 H locs ls hm hW hS hl; cases hm
    | succ n_17 ih17 =>
      have hB42 : ∀ (x4_42 : Int32) (x5_42 : Int32) (H : Heap) (locs : List Loc) (ls : Array Slot) (hm : X12_times_b42 al dt (X12_times_b17 al dt x0_17 x1_17 x2_17 x3_17 n_17) x0_17 x1_17 x2_17 x3_17 x4_42 x5_42 = some r0) (hW : q_W D al dt H) (hS : va_S (q_A al) s.heap H locs) (hl : lv_has ls 6 [(0, .ref x0_17), (1, .int x1_17), (2, .int x2_17), (3, .int x3_17), (4, .int x4_42), (5, .int x5_42)]), W p l e { frames := 3, cells := 0, slots := 0, locals := 65 } s m args below meth c H locs 0 0 (MQ below (q_Q (some (.int r0)) (fun H => q_W D al dt H ∧ q_Rk al 0 (some (.int r0))) (q_A al)) args s 0 0 (q_A al)) (F0 m 42 ls []) := by
        intro x4_42 x5_42 H locs ls hm hW hS hl
        unfold X12_times_b42 at hm
        refine lv_iinc (v := (x5_42 + 1)) (lv' := [(5, .int (x5_42 + 1)), (0, .ref x0_17), (1, .int x1_17), (2, .int x2_17), (3, .int x3_17), (4, .int x4_42)]) hx hb dX12_times_42 hl (k := 5) rfl rfl (by decide) rfl (fun ls hl => ?_)
        refine lv_goto (tgt := 17) hx hb dX12_times_45 (by decide) ?_
        exact ih17 x4_42 (x5_42 + 1) _ _ _ hm hW hS (lv_sub hl [1, 2, 3, 4, 5, 0] rfl)
      intro x4_17 x5_17 H locs ls hm hW hS hl
      rw [X12_times_b17] at hm
      refine lv_iload hx hb dX12_times_17 (lv_at hl 5 rfl) ?_
      refine lv_aload_n hx hb dX12_times_19 rfl (lv_at hl 0 rfl) ?_
      refine lv_iload_n hx hb dX12_times_20 rfl (lv_at hl 1 rfl) ?_
      obtain ⟨v17002, hc17001, hm⟩ := q_b1i hm
      refine q_callV C hW hS (As := [.int x1_17]) (rest := [.int x5_17]) (st1 := [.int v17002, .int x5_17]) (c_X12_long0 l D al dt x0_17 x1_17 kx0_17 v17002 hc17001) yl_X12_long0 vl_X12_long0 ml_RX12_327 (ci := 12) rfl kx0_17 (by decide) rfl ⟨Nat.le_of_ble_eq_true rfl, Nat.le_of_ble_eq_true rfl⟩ hl rfl (Nat.le_of_ble_eq_true rfl) dX12_times_21 ⟨Nat.le_refl _, Nat.le_refl _⟩ rfl (fun H locs k17003 hW hS => ?_)
      refine q_ifc hm (fun c17004 hm => ?_) (fun c17004 hm => ?_)
      · refine lv_icmp_ge (tgt := 48) hx hb dX12_times_24 (by decide) (fun _ => ?_) (fun h => absurd c17004 h)
        refine lv_iload hx hb dX12_times_48 (lv_at hl 4 rfl) ?_
        exact e_i C hW hS hm dX12_times_50
      refine lv_icmp_ge (tgt := 48) hx hb dX12_times_24 (by decide) (fun h => absurd h c17004) (fun _ => ?_)
      refine lv_aload_n hx hb dX12_times_27 rfl (lv_at hl 0 rfl) ?_
      refine lv_iload_n hx hb dX12_times_28 rfl (lv_at hl 1 rfl) ?_
      refine lv_iload_n hx hb dX12_times_29 rfl (lv_at hl 2 rfl) ?_
      refine lv_iload hx hb dX12_times_30 (lv_at hl 5 rfl) ?_
      obtain ⟨v17006, hc17005, hm⟩ := q_b1i hm
      refine q_callV C hW hS (As := [.int x1_17, .int x2_17, .int x5_17]) (rest := []) (st1 := [.int v17006]) (c_X12_alikeAt l D al dt x0_17 x1_17 x2_17 x5_17 kx0_17 v17006 hc17005) yl_X12_alikeAt vl_X12_alikeAt ml_RX12_383 (ci := 12) rfl kx0_17 (by decide) rfl ⟨Nat.le_of_ble_eq_true rfl, Nat.le_of_ble_eq_true rfl⟩ hl rfl (Nat.le_of_ble_eq_true rfl) dX12_times_32 ⟨Nat.le_refl _, Nat.le_refl _⟩ rfl (fun H locs k17007 hW hS => ?_)
      refine lv_iload_n hx hb dX12_times_35 rfl (lv_at hl 3 rfl) ?_
      refine q_ifc hm (fun c17008 hm => ?_) (fun c17008 hm => ?_)
      · refine lv_icmp_ne (tgt := 42) hx hb dX12_times_36 (by decide) (fun h => absurd c17008 h) (fun _ => ?_)
        refine lv_iinc (v := (x4_17 + 1)) (lv' := [(4, .int (x4_17 + 1)), (0, .ref x0_17), (1, .int x1_17), (2, .int x2_17), (3, .int x3_17), (5, .int x5_17)]) hx hb dX12_times_39 hl (k := 4) rfl rfl (by decide) rfl (fun ls hl => ?_)
        exact hB42 (x4_17 + 1) x5_17 _ _ _ hm hW hS (lv_sub hl [1, 2, 3, 4, 0, 5] rfl)
      refine lv_icmp_ne (tgt := 42) hx hb dX12_times_36 (by decide) (fun _ => ?_) (fun h => absurd h c17008)
      exact hB42 x4_17 x5_17 _ _ _ hm hW hS (lv_sub hl [0, 1, 2, 3, 4, 5] rfl)
  refine lv_aload_n hx hb dX12_times_0 rfl (lv_at hl 0 rfl) ?_
  refine lv_iload_n hx hb dX12_times_1 rfl (lv_at hl 1 rfl) ?_
  refine lv_iload_n hx hb dX12_times_2 rfl (lv_at hl 2 rfl) ?_
  obtain ⟨v1000002, hc1000001, hm⟩ := q_b1i hm
  refine q_callV C hW hS (As := [.int x1, .int x2]) (rest := []) (st1 := [.int v1000002]) (c_X12_arePair l D al dt x0 x1 x2 kx0 v1000002 hc1000001) yl_X12_arePair vl_X12_arePair ml_RX12_389 (ci := 12) rfl kx0 (by decide) rfl ⟨Nat.le_of_ble_eq_true rfl, Nat.le_of_ble_eq_true rfl⟩ hl rfl (Nat.le_of_ble_eq_true rfl) dX12_times_3 ⟨Nat.le_refl _, Nat.le_refl _⟩ rfl (fun H locs k1000003 hW hS => ?_)
  refine q_ifc hm (fun c1000004 hm => ?_) (fun c1000004 hm => ?_)
  · refine lv_if_ne (tgt := 11) hx hb dX12_times_6 (by decide) (fun h => absurd c1000004 h) (fun _ => ?_)
    refine lv_iconst (v := (-1)) hx hb dX12_times_9 (by decide) ?_
    exact e_i C hW hS hm dX12_times_10
  refine lv_if_ne (tgt := 11) hx hb dX12_times_6 (by decide) (fun _ => ?_) (fun h => absurd h c1000004)
  refine lv_iconst (v := 0) hx hb dX12_times_11 (by decide) ?_
  refine lv_istore (i := 4) (lv' := [(4, .int 0), (0, .ref x0), (1, .int x1), (2, .int x2), (3, .int x3)]) hx hb dX12_times_12 hl (by decide) rfl (fun ls hl => ?_)
  refine lv_iconst (v := 0) hx hb dX12_times_14 (by decide) ?_
  refine lv_istore (i := 5) (lv' := [(5, .int 0), (4, .int 0), (0, .ref x0), (1, .int x1), (2, .int x2), (3, .int x3)]) hx hb dX12_times_15 hl (by decide) rfl (fun ls hl => ?_)
  exact hB17 x0 x1 x2 x3 kx0 q_FU 0 0 _ _ _ hm hW hS (lv_sub hl [2, 3, 4, 5, 1, 0] rfl)
theorem dX12_depth_0 : decode cX12_depth 0 = .ok (.aload_n 0, 1) := by decide +kernel
theorem dX12_depth_1 : decode cX12_depth 1 = .ok (.iload_n 1, 1) := by decide +kernel
theorem dX12_depth_2 : decode cX12_depth 2 = .ok (.invokevirtual 380, 3) := by decide +kernel
theorem dX12_depth_5 : decode cX12_depth 5 = .ok (.ifCond .ne 5, 3) := by decide +kernel
theorem dX12_depth_8 : decode cX12_depth 8 = .ok (.iconst (-1), 1) := by decide +kernel
theorem dX12_depth_9 : decode cX12_depth 9 = .ok (.ireturn, 1) := by decide +kernel
theorem dX12_depth_10 : decode cX12_depth 10 = .ok (.iconst 2, 1) := by decide +kernel
theorem dX12_depth_11 : decode cX12_depth 11 = .ok (.aload_n 0, 1) := by decide +kernel
theorem dX12_depth_12 : decode cX12_depth 12 = .ok (.iload_n 1, 1) := by decide +kernel
theorem dX12_depth_13 : decode cX12_depth 13 = .ok (.invokevirtual 327, 3) := by decide +kernel
theorem dX12_depth_16 : decode cX12_depth 16 = .ok (.imul, 1) := by decide +kernel
theorem dX12_depth_17 : decode cX12_depth 17 = .ok (.istore_n 2, 1) := by decide +kernel
theorem dX12_depth_18 : decode cX12_depth 18 = .ok (.iconst 0, 1) := by decide +kernel
theorem dX12_depth_19 : decode cX12_depth 19 = .ok (.istore_n 3, 1) := by decide +kernel
theorem dX12_depth_20 : decode cX12_depth 20 = .ok (.iload_n 3, 1) := by decide +kernel
theorem dX12_depth_21 : decode cX12_depth 21 = .ok (.iload_n 2, 1) := by decide +kernel
theorem dX12_depth_22 : decode cX12_depth 22 = .ok (.if_icmp .ge 35, 3) := by decide +kernel
theorem dX12_depth_25 : decode cX12_depth 25 = .ok (.aload_n 0, 1) := by decide +kernel
theorem dX12_depth_26 : decode cX12_depth 26 = .ok (.getfield 139, 3) := by decide +kernel
theorem dX12_depth_29 : decode cX12_depth 29 = .ok (.iload_n 3, 1) := by decide +kernel
theorem dX12_depth_30 : decode cX12_depth 30 = .ok (.aload_n 0, 1) := by decide +kernel
theorem dX12_depth_31 : decode cX12_depth 31 = .ok (.iload_n 1, 1) := by decide +kernel
theorem dX12_depth_32 : decode cX12_depth 32 = .ok (.iload_n 3, 1) := by decide +kernel
theorem dX12_depth_33 : decode cX12_depth 33 = .ok (.aload_n 0, 1) := by decide +kernel
theorem dX12_depth_34 : decode cX12_depth 34 = .ok (.iload_n 1, 1) := by decide +kernel
theorem dX12_depth_35 : decode cX12_depth 35 = .ok (.invokevirtual 327, 3) := by decide +kernel
theorem dX12_depth_38 : decode cX12_depth 38 = .ok (.irem, 1) := by decide +kernel
theorem dX12_depth_39 : decode cX12_depth 39 = .ok (.invokevirtual 333, 3) := by decide +kernel
theorem dX12_depth_42 : decode cX12_depth 42 = .ok (.ifCond .ge 7, 3) := by decide +kernel
theorem dX12_depth_45 : decode cX12_depth 45 = .ok (.iconst 1, 1) := by decide +kernel
theorem dX12_depth_46 : decode cX12_depth 46 = .ok (.goto 4, 3) := by decide +kernel
theorem dX12_depth_49 : decode cX12_depth 49 = .ok (.iconst 0, 1) := by decide +kernel
theorem dX12_depth_50 : decode cX12_depth 50 = .ok (.iastore, 1) := by decide +kernel
theorem dX12_depth_51 : decode cX12_depth 51 = .ok (.iinc 3 1, 3) := by decide +kernel
theorem dX12_depth_54 : decode cX12_depth 54 = .ok (.goto (-34), 3) := by decide +kernel
theorem dX12_depth_57 : decode cX12_depth 57 = .ok (.iconst 0, 1) := by decide +kernel
theorem dX12_depth_58 : decode cX12_depth 58 = .ok (.istore_n 3, 1) := by decide +kernel
theorem dX12_depth_59 : decode cX12_depth 59 = .ok (.iload_n 3, 1) := by decide +kernel
theorem dX12_depth_60 : decode cX12_depth 60 = .ok (.sipush 260, 3) := by decide +kernel
theorem dX12_depth_63 : decode cX12_depth 63 = .ok (.if_icmp .ge 39, 3) := by decide +kernel
theorem dX12_depth_66 : decode cX12_depth 66 = .ok (.aload_n 0, 1) := by decide +kernel
theorem dX12_depth_67 : decode cX12_depth 67 = .ok (.getfield 142, 3) := by decide +kernel
theorem dX12_depth_70 : decode cX12_depth 70 = .ok (.iload_n 3, 1) := by decide +kernel
theorem dX12_depth_71 : decode cX12_depth 71 = .ok (.iload_n 3, 1) := by decide +kernel
theorem dX12_depth_72 : decode cX12_depth 72 = .ok (.ifCond .ne 7, 3) := by decide +kernel
theorem dX12_depth_75 : decode cX12_depth 75 = .ok (.iconst 1, 1) := by decide +kernel
theorem dX12_depth_76 : decode cX12_depth 76 = .ok (.goto 4, 3) := by decide +kernel
theorem dX12_depth_79 : decode cX12_depth 79 = .ok (.iconst 0, 1) := by decide +kernel
theorem dX12_depth_80 : decode cX12_depth 80 = .ok (.iastore, 1) := by decide +kernel
theorem dX12_depth_81 : decode cX12_depth 81 = .ok (.aload_n 0, 1) := by decide +kernel
theorem dX12_depth_82 : decode cX12_depth 82 = .ok (.getfield 145, 3) := by decide +kernel
theorem dX12_depth_85 : decode cX12_depth 85 = .ok (.iload_n 3, 1) := by decide +kernel
theorem dX12_depth_86 : decode cX12_depth 86 = .ok (.iload_n 3, 1) := by decide +kernel
theorem dX12_depth_87 : decode cX12_depth 87 = .ok (.ifCond .ne 7, 3) := by decide +kernel
theorem dX12_depth_90 : decode cX12_depth 90 = .ok (.iconst 1, 1) := by decide +kernel
theorem dX12_depth_91 : decode cX12_depth 91 = .ok (.goto 4, 3) := by decide +kernel
theorem dX12_depth_94 : decode cX12_depth 94 = .ok (.iconst 0, 1) := by decide +kernel
theorem dX12_depth_95 : decode cX12_depth 95 = .ok (.iastore, 1) := by decide +kernel
theorem dX12_depth_96 : decode cX12_depth 96 = .ok (.iinc 3 1, 3) := by decide +kernel
theorem dX12_depth_99 : decode cX12_depth 99 = .ok (.goto (-40), 3) := by decide +kernel
theorem dX12_depth_102 : decode cX12_depth 102 = .ok (.iconst 0, 1) := by decide +kernel
theorem dX12_depth_103 : decode cX12_depth 103 = .ok (.istore_n 3, 1) := by decide +kernel
theorem dX12_depth_104 : decode cX12_depth 104 = .ok (.iconst 1, 1) := by decide +kernel
theorem dX12_depth_105 : decode cX12_depth 105 = .ok (.istore 4, 2) := by decide +kernel
theorem dX12_depth_107 : decode cX12_depth 107 = .ok (.iconst 0, 1) := by decide +kernel
theorem dX12_depth_108 : decode cX12_depth 108 = .ok (.istore 5, 2) := by decide +kernel
theorem dX12_depth_110 : decode cX12_depth 110 = .ok (.iload 5, 2) := by decide +kernel
theorem dX12_depth_112 : decode cX12_depth 112 = .ok (.iload_n 2, 1) := by decide +kernel
theorem dX12_depth_113 : decode cX12_depth 113 = .ok (.if_icmp .ge 194, 3) := by decide +kernel
theorem dX12_depth_116 : decode cX12_depth 116 = .ok (.iconst 0, 1) := by decide +kernel
theorem dX12_depth_117 : decode cX12_depth 117 = .ok (.istore 6, 2) := by decide +kernel
theorem dX12_depth_119 : decode cX12_depth 119 = .ok (.iconst 0, 1) := by decide +kernel
theorem dX12_depth_120 : decode cX12_depth 120 = .ok (.istore 7, 2) := by decide +kernel
theorem dX12_depth_122 : decode cX12_depth 122 = .ok (.iload 7, 2) := by decide +kernel
theorem dX12_depth_124 : decode cX12_depth 124 = .ok (.iload_n 3, 1) := by decide +kernel
theorem dX12_depth_125 : decode cX12_depth 125 = .ok (.if_icmp .gt 32, 3) := by decide +kernel
theorem dX12_depth_128 : decode cX12_depth 128 = .ok (.iload 6, 2) := by decide +kernel
theorem dX12_depth_130 : decode cX12_depth 130 = .ok (.aload_n 0, 1) := by decide +kernel
theorem dX12_depth_131 : decode cX12_depth 131 = .ok (.getfield 142, 3) := by decide +kernel
theorem dX12_depth_134 : decode cX12_depth 134 = .ok (.iload 7, 2) := by decide +kernel
theorem dX12_depth_136 : decode cX12_depth 136 = .ok (.iaload, 1) := by decide +kernel
theorem dX12_depth_137 : decode cX12_depth 137 = .ok (.aload_n 0, 1) := by decide +kernel
theorem dX12_depth_138 : decode cX12_depth 138 = .ok (.getfield 139, 3) := by decide +kernel
theorem dX12_depth_141 : decode cX12_depth 141 = .ok (.iload 5, 2) := by decide +kernel
theorem dX12_depth_143 : decode cX12_depth 143 = .ok (.iload 7, 2) := by decide +kernel
theorem dX12_depth_145 : decode cX12_depth 145 = .ok (.isub, 1) := by decide +kernel
theorem dX12_depth_146 : decode cX12_depth 146 = .ok (.iaload, 1) := by decide +kernel
theorem dX12_depth_147 : decode cX12_depth 147 = .ok (.imul, 1) := by decide +kernel
theorem dX12_depth_148 : decode cX12_depth 148 = .ok (.iadd, 1) := by decide +kernel
theorem dX12_depth_149 : decode cX12_depth 149 = .ok (.istore 6, 2) := by decide +kernel
theorem dX12_depth_151 : decode cX12_depth 151 = .ok (.iinc 7 1, 3) := by decide +kernel
theorem dX12_depth_154 : decode cX12_depth 154 = .ok (.goto (-32), 3) := by decide +kernel
theorem dX12_depth_157 : decode cX12_depth 157 = .ok (.iload 6, 2) := by decide +kernel
theorem dX12_depth_159 : decode cX12_depth 159 = .ok (.iconst 2, 1) := by decide +kernel
theorem dX12_depth_160 : decode cX12_depth 160 = .ok (.irem, 1) := by decide +kernel
theorem dX12_depth_161 : decode cX12_depth 161 = .ok (.ifCond .ne 9, 3) := by decide +kernel
theorem dX12_depth_164 : decode cX12_depth 164 = .ok (.iinc 4 1, 3) := by decide +kernel
theorem dX12_depth_167 : decode cX12_depth 167 = .ok (.goto 134, 3) := by decide +kernel
theorem dX12_depth_170 : decode cX12_depth 170 = .ok (.iconst 0, 1) := by decide +kernel
theorem dX12_depth_171 : decode cX12_depth 171 = .ok (.istore 7, 2) := by decide +kernel
theorem dX12_depth_173 : decode cX12_depth 173 = .ok (.iload 7, 2) := by decide +kernel
theorem dX12_depth_175 : decode cX12_depth 175 = .ok (.sipush 260, 3) := by decide +kernel
theorem dX12_depth_178 : decode cX12_depth 178 = .ok (.if_icmp .ge 23, 3) := by decide +kernel
theorem dX12_depth_181 : decode cX12_depth 181 = .ok (.aload_n 0, 1) := by decide +kernel
theorem dX12_depth_182 : decode cX12_depth 182 = .ok (.getfield 148, 3) := by decide +kernel
theorem dX12_depth_185 : decode cX12_depth 185 = .ok (.iload 7, 2) := by decide +kernel
theorem dX12_depth_187 : decode cX12_depth 187 = .ok (.aload_n 0, 1) := by decide +kernel
theorem dX12_depth_188 : decode cX12_depth 188 = .ok (.getfield 142, 3) := by decide +kernel
theorem dX12_depth_191 : decode cX12_depth 191 = .ok (.iload 7, 2) := by decide +kernel
theorem dX12_depth_193 : decode cX12_depth 193 = .ok (.iaload, 1) := by decide +kernel
theorem dX12_depth_194 : decode cX12_depth 194 = .ok (.iastore, 1) := by decide +kernel
theorem dX12_depth_195 : decode cX12_depth 195 = .ok (.iinc 7 1, 3) := by decide +kernel
theorem dX12_depth_198 : decode cX12_depth 198 = .ok (.goto (-25), 3) := by decide +kernel
theorem dX12_depth_201 : decode cX12_depth 201 = .ok (.iload 4, 2) := by decide +kernel
theorem dX12_depth_203 : decode cX12_depth 203 = .ok (.istore 7, 2) := by decide +kernel
theorem dX12_depth_205 : decode cX12_depth 205 = .ok (.iload 7, 2) := by decide +kernel
theorem dX12_depth_207 : decode cX12_depth 207 = .ok (.sipush 260, 3) := by decide +kernel
theorem dX12_depth_210 : decode cX12_depth 210 = .ok (.if_icmp .ge 36, 3) := by decide +kernel
theorem dX12_depth_213 : decode cX12_depth 213 = .ok (.aload_n 0, 1) := by decide +kernel
theorem dX12_depth_214 : decode cX12_depth 214 = .ok (.getfield 142, 3) := by decide +kernel
theorem dX12_depth_217 : decode cX12_depth 217 = .ok (.iload 7, 2) := by decide +kernel
theorem dX12_depth_219 : decode cX12_depth 219 = .ok (.aload_n 0, 1) := by decide +kernel
theorem dX12_depth_220 : decode cX12_depth 220 = .ok (.getfield 142, 3) := by decide +kernel
theorem dX12_depth_223 : decode cX12_depth 223 = .ok (.iload 7, 2) := by decide +kernel
theorem dX12_depth_225 : decode cX12_depth 225 = .ok (.iaload, 1) := by decide +kernel
theorem dX12_depth_226 : decode cX12_depth 226 = .ok (.aload_n 0, 1) := by decide +kernel
theorem dX12_depth_227 : decode cX12_depth 227 = .ok (.getfield 145, 3) := by decide +kernel
theorem dX12_depth_230 : decode cX12_depth 230 = .ok (.iload 7, 2) := by decide +kernel
theorem dX12_depth_232 : decode cX12_depth 232 = .ok (.iload 4, 2) := by decide +kernel
theorem dX12_depth_234 : decode cX12_depth 234 = .ok (.isub, 1) := by decide +kernel
theorem dX12_depth_235 : decode cX12_depth 235 = .ok (.iaload, 1) := by decide +kernel
theorem dX12_depth_236 : decode cX12_depth 236 = .ok (.iadd, 1) := by decide +kernel
theorem dX12_depth_237 : decode cX12_depth 237 = .ok (.iconst 2, 1) := by decide +kernel
theorem dX12_depth_238 : decode cX12_depth 238 = .ok (.irem, 1) := by decide +kernel
theorem dX12_depth_239 : decode cX12_depth 239 = .ok (.iastore, 1) := by decide +kernel
theorem dX12_depth_240 : decode cX12_depth 240 = .ok (.iinc 7 1, 3) := by decide +kernel
theorem dX12_depth_243 : decode cX12_depth 243 = .ok (.goto (-38), 3) := by decide +kernel
theorem dX12_depth_246 : decode cX12_depth 246 = .ok (.iconst 2, 1) := by decide +kernel
theorem dX12_depth_247 : decode cX12_depth 247 = .ok (.iload_n 3, 1) := by decide +kernel
theorem dX12_depth_248 : decode cX12_depth 248 = .ok (.imul, 1) := by decide +kernel
theorem dX12_depth_249 : decode cX12_depth 249 = .ok (.iload 5, 2) := by decide +kernel
theorem dX12_depth_251 : decode cX12_depth 251 = .ok (.if_icmp .le 9, 3) := by decide +kernel
theorem dX12_depth_254 : decode cX12_depth 254 = .ok (.iinc 4 1, 3) := by decide +kernel
theorem dX12_depth_257 : decode cX12_depth 257 = .ok (.goto 44, 3) := by decide +kernel
theorem dX12_depth_260 : decode cX12_depth 260 = .ok (.iload 5, 2) := by decide +kernel
theorem dX12_depth_262 : decode cX12_depth 262 = .ok (.iconst 1, 1) := by decide +kernel
theorem dX12_depth_263 : decode cX12_depth 263 = .ok (.iadd, 1) := by decide +kernel
theorem dX12_depth_264 : decode cX12_depth 264 = .ok (.iload_n 3, 1) := by decide +kernel
theorem dX12_depth_265 : decode cX12_depth 265 = .ok (.isub, 1) := by decide +kernel
theorem dX12_depth_266 : decode cX12_depth 266 = .ok (.istore_n 3, 1) := by decide +kernel
theorem dX12_depth_267 : decode cX12_depth 267 = .ok (.iconst 0, 1) := by decide +kernel
theorem dX12_depth_268 : decode cX12_depth 268 = .ok (.istore 7, 2) := by decide +kernel
theorem dX12_depth_270 : decode cX12_depth 270 = .ok (.iload 7, 2) := by decide +kernel
theorem dX12_depth_272 : decode cX12_depth 272 = .ok (.sipush 260, 3) := by decide +kernel
theorem dX12_depth_275 : decode cX12_depth 275 = .ok (.if_icmp .ge 23, 3) := by decide +kernel
theorem dX12_depth_278 : decode cX12_depth 278 = .ok (.aload_n 0, 1) := by decide +kernel
theorem dX12_depth_279 : decode cX12_depth 279 = .ok (.getfield 145, 3) := by decide +kernel
theorem dX12_depth_282 : decode cX12_depth 282 = .ok (.iload 7, 2) := by decide +kernel
theorem dX12_depth_284 : decode cX12_depth 284 = .ok (.aload_n 0, 1) := by decide +kernel
theorem dX12_depth_285 : decode cX12_depth 285 = .ok (.getfield 148, 3) := by decide +kernel
theorem dX12_depth_288 : decode cX12_depth 288 = .ok (.iload 7, 2) := by decide +kernel
theorem dX12_depth_290 : decode cX12_depth 290 = .ok (.iaload, 1) := by decide +kernel
theorem dX12_depth_291 : decode cX12_depth 291 = .ok (.iastore, 1) := by decide +kernel
theorem dX12_depth_292 : decode cX12_depth 292 = .ok (.iinc 7 1, 3) := by decide +kernel
theorem dX12_depth_295 : decode cX12_depth 295 = .ok (.goto (-25), 3) := by decide +kernel
theorem dX12_depth_298 : decode cX12_depth 298 = .ok (.iconst 1, 1) := by decide +kernel
theorem dX12_depth_299 : decode cX12_depth 299 = .ok (.istore 4, 2) := by decide +kernel
theorem dX12_depth_301 : decode cX12_depth 301 = .ok (.iinc 5 1, 3) := by decide +kernel
theorem dX12_depth_304 : decode cX12_depth 304 = .ok (.goto (-194), 3) := by decide +kernel
theorem dX12_depth_307 : decode cX12_depth 307 = .ok (.iload_n 3, 1) := by decide +kernel
theorem dX12_depth_308 : decode cX12_depth 308 = .ok (.ireturn, 1) := by decide +kernel
set_option maxRecDepth 100000 in
theorem c_X12_depth (l : Launch) (D : q_D) (al : q_Al) (dt : q_Dt) (x0 : Nat) (x1 : Int32) (kx0 : al.1 x0 = 13) (r0 : Int32) (dt0 : q_Dt) (hm : X12_depth al dt x0 x1 = some (r0, dt0)) : q_Mt l yX12_depth cX12_depth 8 (some FieldType.int) 2 43 D al [.ref x0, .int x1] dt 0 (some (.int r0)) dt0 := by
  refine q_Mt.of (by decide) (Nat.le_of_ble_eq_true rfl) ?_
  intro p e s m args below meth c ls C hargs hW hl
  have hx := C.1
  have hb := C.2.1
  have hown := C.2.2.2.2.2.1
  have hts := C.2.2.2.2.2.2.1
  have hS : va_S (q_A al) s.heap s.heap [] := va_S.rf
  have hl : lv_has ls 8 [(0, .ref x0), (1, .int x1)] := hl
  unfold X12_depth at hm
  have hB110 : ∀ (x0_110 : Nat) (x2_110 : Int32) (kx0_110 : al.1 x0_110 = 13) (n_110 : Nat) (x3_110 : Int32) (x4_110 : Int32) (x5_110 : Int32) (dt : q_Dt) (H : Heap) (locs : List Loc) (ls : Array Slot) (hm : X12_depth_b110 al x0_110 x2_110 n_110 x3_110 x4_110 x5_110 dt = some (r0, dt0)) (hW : q_W D al dt H) (hS : va_S (q_A al) s.heap H locs) (hl : lv_has ls 8 [(0, .ref x0_110), (2, .int x2_110), (3, .int x3_110), (4, .int x4_110), (5, .int x5_110)]), W p l e { frames := 2, cells := 0, slots := 0, locals := 43 } s m args below meth c H locs 0 0 (MQ below (q_Q (some (.int r0)) (fun H => q_W D al dt0 H ∧ q_Rk al 0 (some (.int r0))) (q_A al)) args s 0 0 (q_A al)) (F0 m 110 ls []) := by
    intro x0_110 x2_110 kx0_110
    intro n_110
    induction n_110 with
    | zero => intro x3_110 x4_110 x5_110 dt H locs ls hm hW hS hl; cases hm
    | succ n_110 ih110 =>
      have hB301 : ∀ (x3_301 : Int32) (x4_301 : Int32) (x5_301 : Int32) (dt : q_Dt) (H : Heap) (locs : List Loc) (ls : Array Slot) (hm : X12_depth_b301 al (X12_depth_b110 al x0_110 x2_110 n_110) x0_110 x2_110 x3_301 x4_301 x5_301 dt = some (r0, dt0)) (hW : q_W D al dt H) (hS : va_S (q_A al) s.heap H locs) (hl : lv_has ls 8 [(0, .ref x0_110), (2, .int x2_110), (3, .int x3_301), (4, .int x4_301), (5, .int x5_301)]), W p l e { frames := 2, cells := 0, slots := 0, locals := 43 } s m args below meth c H locs 0 0 (MQ below (q_Q (some (.int r0)) (fun H => q_W D al dt0 H ∧ q_Rk al 0 (some (.int r0))) (q_A al)) args s 0 0 (q_A al)) (F0 m 301 ls []) := by
        intro x3_301 x4_301 x5_301 dt H locs ls hm hW hS hl
        unfold X12_depth_b301 at hm
        refine lv_iinc (v := (x5_301 + 1)) (lv' := [(5, .int (x5_301 + 1)), (0, .ref x0_110), (2, .int x2_110), (3, .int x3_301), (4, .int x4_301)]) hx hb dX12_depth_301 hl (k := 4) rfl rfl (by decide) rfl (fun ls hl => ?_)
        refine lv_goto (tgt := 110) hx hb dX12_depth_304 (by decide) ?_
        exact ih110 x3_301 x4_301 (x5_301 + 1) dt _ _ _ hm hW hS (lv_sub hl [1, 2, 3, 4, 0] rfl)
      have hB270 : ∀ (x3_270 : Int32) (x5_270 : Int32) (n_270 : Nat) (x7_270 : Int32) (dt : q_Dt) (H : Heap) (locs : List Loc) (ls : Array Slot) (hm : X12_depth_b270 al (X12_depth_b110 al x0_110 x2_110 n_110) x0_110 x2_110 x3_270 x5_270 n_270 x7_270 dt = some (r0, dt0)) (hW : q_W D al dt H) (hS : va_S (q_A al) s.heap H locs) (hl : lv_has ls 8 [(0, .ref x0_110), (2, .int x2_110), (3, .int x3_270), (5, .int x5_270), (7, .int x7_270)]), W p l e { frames := 2, cells := 0, slots := 0, locals := 43 } s m args below meth c H locs 0 0 (MQ below (q_Q (some (.int r0)) (fun H => q_W D al dt0 H ∧ q_Rk al 0 (some (.int r0))) (q_A al)) args s 0 0 (q_A al)) (F0 m 270 ls []) := by
        intro x3_270 x5_270
        intro n_270
        induction n_270 with
        | zero => intro x7_270 dt H locs ls hm hW hS hl; cases hm
        | succ n_270 ih270 =>
          intro x7_270 dt H locs ls hm hW hS hl
          rw [X12_depth_b270] at hm
          refine lv_iload hx hb dX12_depth_270 (lv_at hl 4 rfl) ?_
          refine lv_sipush (v := 260) hx hb dX12_depth_272 (by decide) ?_
          refine q_ifc hm (fun c270001 hm => ?_) (fun c270001 hm => ?_)
          · refine lv_icmp_ge (tgt := 298) hx hb dX12_depth_275 (by decide) (fun _ => ?_) (fun h => absurd c270001 h)
            refine lv_iconst (v := 1) hx hb dX12_depth_298 (by decide) ?_
            refine lv_istore (i := 4) (lv' := [(4, .int 1), (0, .ref x0_110), (2, .int x2_110), (3, .int x3_270), (5, .int x5_270), (7, .int x7_270)]) hx hb dX12_depth_299 hl (by decide) rfl (fun ls hl => ?_)
            exact hB301 x3_270 1 x5_270 dt _ _ _ hm hW hS (lv_sub hl [1, 2, 3, 0, 4] rfl)
          refine lv_icmp_ge (tgt := 298) hx hb dX12_depth_275 (by decide) (fun h => absurd h c270001) (fun _ => ?_)
          refine lv_aload_n hx hb dX12_depth_278 rfl (lv_at hl 0 rfl) ?_
          refine r_getF C hW (ci := 12) kx0_110 ff_12_57 cl_12 fl_RX12_145 dX12_depth_279 (fun k270002 => ?_)
          refine lv_iload hx hb dX12_depth_282 (lv_at hl 4 rfl) ?_
          refine lv_aload_n hx hb dX12_depth_284 rfl (lv_at hl 0 rfl) ?_
          refine r_getF C hW (ci := 12) kx0_110 ff_12_58 cl_12 fl_RX12_148 dX12_depth_285 (fun k270003 => ?_)
          refine lv_iload hx hb dX12_depth_288 (lv_at hl 4 rfl) ?_
          refine r_iald C hW hm k270003 dX12_depth_290 (fun hm => ?_)
          refine r_iast C hW hS hm k270002 dX12_depth_291 (fun dt270004 H locs hm hW hS => ?_)
          refine lv_iinc (v := (x7_270 + 1)) (lv' := [(7, .int (x7_270 + 1)), (0, .ref x0_110), (2, .int x2_110), (3, .int x3_270), (5, .int x5_270)]) hx hb dX12_depth_292 hl (k := 4) rfl rfl (by decide) rfl (fun ls hl => ?_)
          refine lv_goto (tgt := 270) hx hb dX12_depth_295 (by decide) ?_
          exact ih270 (x7_270 + 1) dt270004 _ _ _ hm hW hS (lv_sub hl [1, 2, 3, 4, 0] rfl)
      have hB205 : ∀ (x3_205 : Int32) (x4_205 : Int32) (x5_205 : Int32) (n_205 : Nat) (x7_205 : Int32) (dt : q_Dt) (H : Heap) (locs : List Loc) (ls : Array Slot) (hm : X12_depth_b205 al (X12_depth_b110 al x0_110 x2_110 n_110) x0_110 x2_110 x3_205 x4_205 x5_205 n_205 x7_205 dt = some (r0, dt0)) (hW : q_W D al dt H) (hS : va_S (q_A al) s.heap H locs) (hl : lv_has ls 8 [(0, .ref x0_110), (2, .int x2_110), (3, .int x3_205), (4, .int x4_205), (5, .int x5_205), (7, .int x7_205)]), W p l e { frames := 2, cells := 0, slots := 0, locals := 43 } s m args below meth c H locs 0 0 (MQ below (q_Q (some (.int r0)) (fun H => q_W D al dt0 H ∧ q_Rk al 0 (some (.int r0))) (q_A al)) args s 0 0 (q_A al)) (F0 m 205 ls []) := by
        intro x3_205 x4_205 x5_205
        intro n_205
        induction n_205 with
        | zero => intro x7_205 dt H locs ls hm hW hS hl; cases hm
        | succ n_205 ih205 =>
          intro x7_205 dt H locs ls hm hW hS hl
          rw [X12_depth_b205] at hm
          refine lv_iload hx hb dX12_depth_205 (lv_at hl 5 rfl) ?_
          refine lv_sipush (v := 260) hx hb dX12_depth_207 (by decide) ?_
          refine q_ifc hm (fun c205001 hm => ?_) (fun c205001 hm => ?_)
          · refine lv_icmp_ge (tgt := 246) hx hb dX12_depth_210 (by decide) (fun _ => ?_) (fun h => absurd c205001 h)
            refine lv_iconst (v := 2) hx hb dX12_depth_246 (by decide) ?_
            refine lv_iload_n hx hb dX12_depth_247 rfl (lv_at hl 2 rfl) ?_
            refine lv_imul hx hb dX12_depth_248 ?_
            refine lv_iload hx hb dX12_depth_249 (lv_at hl 4 rfl) ?_
            refine q_ifc hm (fun c205002 hm => ?_) (fun c205002 hm => ?_)
            · refine lv_icmp_le (tgt := 260) hx hb dX12_depth_251 (by decide) (fun _ => ?_) (fun h => absurd c205002 h)
              refine lv_iload hx hb dX12_depth_260 (lv_at hl 4 rfl) ?_
              refine lv_iconst (v := 1) hx hb dX12_depth_262 (by decide) ?_
              refine lv_iadd hx hb dX12_depth_263 ?_
              refine lv_iload_n hx hb dX12_depth_264 rfl (lv_at hl 2 rfl) ?_
              refine lv_isub hx hb dX12_depth_265 ?_
              refine lv_istore_n (i := 3) (lv' := [(3, .int ((x5_205 + 1) - x3_205)), (0, .ref x0_110), (2, .int x2_110), (4, .int x4_205), (5, .int x5_205), (7, .int x7_205)]) hx hb dX12_depth_266 rfl hl (by decide) rfl (fun ls hl => ?_)
              refine lv_iconst (v := 0) hx hb dX12_depth_267 (by decide) ?_
              refine lv_istore (i := 7) (lv' := [(7, .int 0), (3, .int ((x5_205 + 1) - x3_205)), (0, .ref x0_110), (2, .int x2_110), (4, .int x4_205), (5, .int x5_205)]) hx hb dX12_depth_268 hl (by decide) rfl (fun ls hl => ?_)
              exact hB270 ((x5_205 + 1) - x3_205) x5_205 q_FU 0 dt _ _ _ hm hW hS (lv_sub hl [2, 3, 1, 5, 0] rfl)
            refine lv_icmp_le (tgt := 260) hx hb dX12_depth_251 (by decide) (fun h => absurd h c205002) (fun _ => ?_)
            refine lv_iinc (v := (x4_205 + 1)) (lv' := [(4, .int (x4_205 + 1)), (0, .ref x0_110), (2, .int x2_110), (3, .int x3_205), (5, .int x5_205), (7, .int x7_205)]) hx hb dX12_depth_254 hl (k := 3) rfl rfl (by decide) rfl (fun ls hl => ?_)
            refine lv_goto (tgt := 301) hx hb dX12_depth_257 (by decide) ?_
            exact hB301 x3_205 (x4_205 + 1) x5_205 dt _ _ _ hm hW hS (lv_sub hl [1, 2, 3, 0, 4] rfl)
          refine lv_icmp_ge (tgt := 246) hx hb dX12_depth_210 (by decide) (fun h => absurd h c205001) (fun _ => ?_)
          refine lv_aload_n hx hb dX12_depth_213 rfl (lv_at hl 0 rfl) ?_
          refine r_getF C hW (ci := 12) kx0_110 ff_12_56 cl_12 fl_RX12_142 dX12_depth_214 (fun k205003 => ?_)
          refine lv_iload hx hb dX12_depth_217 (lv_at hl 5 rfl) ?_
          refine lv_aload_n hx hb dX12_depth_219 rfl (lv_at hl 0 rfl) ?_
          refine r_getF C hW (ci := 12) kx0_110 ff_12_56 cl_12 fl_RX12_142 dX12_depth_220 (fun k205004 => ?_)
          refine lv_iload hx hb dX12_depth_223 (lv_at hl 5 rfl) ?_
          refine r_iald C hW hm k205004 dX12_depth_225 (fun hm => ?_)
          refine lv_aload_n hx hb dX12_depth_226 rfl (lv_at hl 0 rfl) ?_
          refine r_getF C hW (ci := 12) kx0_110 ff_12_57 cl_12 fl_RX12_145 dX12_depth_227 (fun k205005 => ?_)
          refine lv_iload hx hb dX12_depth_230 (lv_at hl 5 rfl) ?_
          refine lv_iload hx hb dX12_depth_232 (lv_at hl 3 rfl) ?_
          refine lv_isub hx hb dX12_depth_234 ?_
          refine r_iald C hW hm k205005 dX12_depth_235 (fun hm => ?_)
          refine lv_iadd hx hb dX12_depth_236 ?_
          refine lv_iconst (v := 2) hx hb dX12_depth_237 (by decide) ?_
          refine lv_irem hx hb dX12_depth_238 (by decide) ?_
          refine r_iast C hW hS hm k205003 dX12_depth_239 (fun dt205007 H locs hm hW hS => ?_)
          refine lv_iinc (v := (x7_205 + 1)) (lv' := [(7, .int (x7_205 + 1)), (0, .ref x0_110), (2, .int x2_110), (3, .int x3_205), (4, .int x4_205), (5, .int x5_205)]) hx hb dX12_depth_240 hl (k := 5) rfl rfl (by decide) rfl (fun ls hl => ?_)
          refine lv_goto (tgt := 205) hx hb dX12_depth_243 (by decide) ?_
          exact ih205 (x7_205 + 1) dt205007 _ _ _ hm hW hS (lv_sub hl [1, 2, 3, 4, 5, 0] rfl)
      have hB173 : ∀ (x3_173 : Int32) (x4_173 : Int32) (x5_173 : Int32) (n_173 : Nat) (x7_173 : Int32) (dt : q_Dt) (H : Heap) (locs : List Loc) (ls : Array Slot) (hm : X12_depth_b173 al (X12_depth_b110 al x0_110 x2_110 n_110) x0_110 x2_110 x3_173 x4_173 x5_173 n_173 x7_173 dt = some (r0, dt0)) (hW : q_W D al dt H) (hS : va_S (q_A al) s.heap H locs) (hl : lv_has ls 8 [(0, .ref x0_110), (2, .int x2_110), (3, .int x3_173), (4, .int x4_173), (5, .int x5_173), (7, .int x7_173)]), W p l e { frames := 2, cells := 0, slots := 0, locals := 43 } s m args below meth c H locs 0 0 (MQ below (q_Q (some (.int r0)) (fun H => q_W D al dt0 H ∧ q_Rk al 0 (some (.int r0))) (q_A al)) args s 0 0 (q_A al)) (F0 m 173 ls []) := by
        intro x3_173 x4_173 x5_173
        intro n_173
        induction n_173 with
        | zero => intro x7_173 dt H locs ls hm hW hS hl; cases hm
        | succ n_173 ih173 =>
          intro x7_173 dt H locs ls hm hW hS hl
          rw [X12_depth_b173] at hm
          refine lv_iload hx hb dX12_depth_173 (lv_at hl 5 rfl) ?_
          refine lv_sipush (v := 260) hx hb dX12_depth_175 (by decide) ?_
          refine q_ifc hm (fun c173001 hm => ?_) (fun c173001 hm => ?_)
          · refine lv_icmp_ge (tgt := 201) hx hb dX12_depth_178 (by decide) (fun _ => ?_) (fun h => absurd c173001 h)
            refine lv_iload hx hb dX12_depth_201 (lv_at hl 3 rfl) ?_
            refine lv_istore (i := 7) (lv' := [(7, .int x4_173), (0, .ref x0_110), (2, .int x2_110), (3, .int x3_173), (4, .int x4_173), (5, .int x5_173)]) hx hb dX12_depth_203 hl (by decide) rfl (fun ls hl => ?_)
            exact hB205 x3_173 x4_173 x5_173 q_FU x4_173 dt _ _ _ hm hW hS (lv_sub hl [1, 2, 3, 4, 5, 0] rfl)
          refine lv_icmp_ge (tgt := 201) hx hb dX12_depth_178 (by decide) (fun h => absurd h c173001) (fun _ => ?_)
          refine lv_aload_n hx hb dX12_depth_181 rfl (lv_at hl 0 rfl) ?_
          refine r_getF C hW (ci := 12) kx0_110 ff_12_58 cl_12 fl_RX12_148 dX12_depth_182 (fun k173002 => ?_)
          refine lv_iload hx hb dX12_depth_185 (lv_at hl 5 rfl) ?_
          refine lv_aload_n hx hb dX12_depth_187 rfl (lv_at hl 0 rfl) ?_
          refine r_getF C hW (ci := 12) kx0_110 ff_12_56 cl_12 fl_RX12_142 dX12_depth_188 (fun k173003 => ?_)
          refine lv_iload hx hb dX12_depth_191 (lv_at hl 5 rfl) ?_
          refine r_iald C hW hm k173003 dX12_depth_193 (fun hm => ?_)
          refine r_iast C hW hS hm k173002 dX12_depth_194 (fun dt173004 H locs hm hW hS => ?_)
          refine lv_iinc (v := (x7_173 + 1)) (lv' := [(7, .int (x7_173 + 1)), (0, .ref x0_110), (2, .int x2_110), (3, .int x3_173), (4, .int x4_173), (5, .int x5_173)]) hx hb dX12_depth_195 hl (k := 5) rfl rfl (by decide) rfl (fun ls hl => ?_)
          refine lv_goto (tgt := 173) hx hb dX12_depth_198 (by decide) ?_
          exact ih173 (x7_173 + 1) dt173004 _ _ _ hm hW hS (lv_sub hl [1, 2, 3, 4, 5, 0] rfl)
      have hB122 : ∀ (x3_122 : Int32) (x4_122 : Int32) (x5_122 : Int32) (n_122 : Nat) (x6_122 : Int32) (x7_122 : Int32) (dt : q_Dt) (H : Heap) (locs : List Loc) (ls : Array Slot) (hm : X12_depth_b122 al (X12_depth_b110 al x0_110 x2_110 n_110) x0_110 x2_110 x3_122 x4_122 x5_122 n_122 x6_122 x7_122 dt = some (r0, dt0)) (hW : q_W D al dt H) (hS : va_S (q_A al) s.heap H locs) (hl : lv_has ls 8 [(0, .ref x0_110), (2, .int x2_110), (3, .int x3_122), (4, .int x4_122), (5, .int x5_122), (6, .int x6_122), (7, .int x7_122)]), W p l e { frames := 2, cells := 0, slots := 0, locals := 43 } s m args below meth c H locs 0 0 (MQ below (q_Q (some (.int r0)) (fun H => q_W D al dt0 H ∧ q_Rk al 0 (some (.int r0))) (q_A al)) args s 0 0 (q_A al)) (F0 m 122 ls []) := by
        intro x3_122 x4_122 x5_122
        intro n_122
        induction n_122 with
        | zero => intro x6_122 x7_122 dt H locs ls hm hW hS hl; cases hm
        | succ n_122 ih122 =>
          intro x6_122 x7_122 dt H locs ls hm hW hS hl
          rw [X12_depth_b122] at hm
          refine lv_iload hx hb dX12_depth_122 (lv_at hl 6 rfl) ?_
          refine lv_iload_n hx hb dX12_depth_124 rfl (lv_at hl 2 rfl) ?_
          refine q_ifc hm (fun c122001 hm => ?_) (fun c122001 hm => ?_)
          · refine lv_icmp_gt (tgt := 157) hx hb dX12_depth_125 (by decide) (fun _ => ?_) (fun h => absurd c122001 h)
            refine lv_iload hx hb dX12_depth_157 (lv_at hl 5 rfl) ?_
            refine lv_iconst (v := 2) hx hb dX12_depth_159 (by decide) ?_
            refine lv_irem hx hb dX12_depth_160 (by decide) ?_
            refine q_ifc hm (fun c122003 hm => ?_) (fun c122003 hm => ?_)
            · refine lv_if_ne (tgt := 170) hx hb dX12_depth_161 (by decide) (fun h => absurd c122003 h) (fun _ => ?_)
              refine lv_iinc (v := (x4_122 + 1)) (lv' := [(4, .int (x4_122 + 1)), (0, .ref x0_110), (2, .int x2_110), (3, .int x3_122), (5, .int x5_122), (6, .int x6_122), (7, .int x7_122)]) hx hb dX12_depth_164 hl (k := 3) rfl rfl (by decide) rfl (fun ls hl => ?_)
              refine lv_goto (tgt := 301) hx hb dX12_depth_167 (by decide) ?_
              exact hB301 x3_122 (x4_122 + 1) x5_122 dt _ _ _ hm hW hS (lv_sub hl [1, 2, 3, 0, 4] rfl)
            refine lv_if_ne (tgt := 170) hx hb dX12_depth_161 (by decide) (fun _ => ?_) (fun h => absurd h c122003)
            refine lv_iconst (v := 0) hx hb dX12_depth_170 (by decide) ?_
            refine lv_istore (i := 7) (lv' := [(7, .int 0), (0, .ref x0_110), (2, .int x2_110), (3, .int x3_122), (4, .int x4_122), (5, .int x5_122), (6, .int x6_122)]) hx hb dX12_depth_171 hl (by decide) rfl (fun ls hl => ?_)
            exact hB173 x3_122 x4_122 x5_122 q_FU 0 dt _ _ _ hm hW hS (lv_sub hl [1, 2, 3, 4, 5, 0] rfl)
          refine lv_icmp_gt (tgt := 157) hx hb dX12_depth_125 (by decide) (fun h => absurd h c122001) (fun _ => ?_)
          refine lv_iload hx hb dX12_depth_128 (lv_at hl 5 rfl) ?_
          refine lv_aload_n hx hb dX12_depth_130 rfl (lv_at hl 0 rfl) ?_
          refine r_getF C hW (ci := 12) kx0_110 ff_12_56 cl_12 fl_RX12_142 dX12_depth_131 (fun k122004 => ?_)
          refine lv_iload hx hb dX12_depth_134 (lv_at hl 6 rfl) ?_
          refine r_iald C hW hm k122004 dX12_depth_136 (fun hm => ?_)
          refine lv_aload_n hx hb dX12_depth_137 rfl (lv_at hl 0 rfl) ?_
          refine r_getF C hW (ci := 12) kx0_110 ff_12_55 cl_12 fl_RX12_139 dX12_depth_138 (fun k122005 => ?_)
          refine lv_iload hx hb dX12_depth_141 (lv_at hl 4 rfl) ?_
          refine lv_iload hx hb dX12_depth_143 (lv_at hl 6 rfl) ?_
          refine lv_isub hx hb dX12_depth_145 ?_
          refine r_iald C hW hm k122005 dX12_depth_146 (fun hm => ?_)
          refine lv_imul hx hb dX12_depth_147 ?_
          refine lv_iadd hx hb dX12_depth_148 ?_
          refine q_nmI hm (fun v122006 ev122006 hm => ?_)
          refine lv_istore (i := 6) (lv' := [(6, .int v122006), (0, .ref x0_110), (2, .int x2_110), (3, .int x3_122), (4, .int x4_122), (5, .int x5_122), (7, .int x7_122)]) hx hb dX12_depth_149 hl (by decide) rfl (fun ls hl => ?_)
          refine lv_iinc (v := (x7_122 + 1)) (lv' := [(7, .int (x7_122 + 1)), (6, .int v122006), (0, .ref x0_110), (2, .int x2_110), (3, .int x3_122), (4, .int x4_122), (5, .int x5_122)]) hx hb dX12_depth_151 hl (k := 6) rfl rfl (by decide) rfl (fun ls hl => ?_)
          refine lv_goto (tgt := 122) hx hb dX12_depth_154 (by decide) ?_
          exact ih122 v122006 (x7_122 + 1) dt _ _ _ hm hW hS (lv_sub hl [2, 3, 4, 5, 6, 1, 0] rfl)
      intro x3_110 x4_110 x5_110 dt H locs ls hm hW hS hl
      rw [X12_depth_b110] at hm
      refine lv_iload hx hb dX12_depth_110 (lv_at hl 4 rfl) ?_
      refine lv_iload_n hx hb dX12_depth_112 rfl (lv_at hl 1 rfl) ?_
      refine q_ifc hm (fun c110001 hm => ?_) (fun c110001 hm => ?_)
      · refine lv_icmp_ge (tgt := 307) hx hb dX12_depth_113 (by decide) (fun _ => ?_) (fun h => absurd c110001 h)
        refine lv_iload_n hx hb dX12_depth_307 rfl (lv_at hl 2 rfl) ?_
        exact e_iD C hW hS hm dX12_depth_308
      refine lv_icmp_ge (tgt := 307) hx hb dX12_depth_113 (by decide) (fun h => absurd h c110001) (fun _ => ?_)
      refine lv_iconst (v := 0) hx hb dX12_depth_116 (by decide) ?_
      refine lv_istore (i := 6) (lv' := [(6, .int 0), (0, .ref x0_110), (2, .int x2_110), (3, .int x3_110), (4, .int x4_110), (5, .int x5_110)]) hx hb dX12_depth_117 hl (by decide) rfl (fun ls hl => ?_)
      refine lv_iconst (v := 0) hx hb dX12_depth_119 (by decide) ?_
      refine lv_istore (i := 7) (lv' := [(7, .int 0), (6, .int 0), (0, .ref x0_110), (2, .int x2_110), (3, .int x3_110), (4, .int x4_110), (5, .int x5_110)]) hx hb dX12_depth_120 hl (by decide) rfl (fun ls hl => ?_)
      exact hB122 x3_110 x4_110 x5_110 q_FU 0 0 dt _ _ _ hm hW hS (lv_sub hl [2, 3, 4, 5, 6, 1, 0] rfl)
  have hB59 : ∀ (x0_59 : Nat) (x2_59 : Int32) (kx0_59 : al.1 x0_59 = 13) (n_59 : Nat) (x3_59 : Int32) (dt : q_Dt) (H : Heap) (locs : List Loc) (ls : Array Slot) (hm : X12_depth_b59 al x0_59 x2_59 n_59 x3_59 dt = some (r0, dt0)) (hW : q_W D al dt H) (hS : va_S (q_A al) s.heap H locs) (hl : lv_has ls 8 [(0, .ref x0_59), (2, .int x2_59), (3, .int x3_59)]), W p l e { frames := 2, cells := 0, slots := 0, locals := 43 } s m args below meth c H locs 0 0 (MQ below (q_Q (some (.int r0)) (fun H => q_W D al dt0 H ∧ q_Rk al 0 (some (.int r0))) (q_A al)) args s 0 0 (q_A al)) (F0 m 59 ls []) := by
    intro x0_59 x2_59 kx0_59
    intro n_59
    induction n_59 with
    | zero => intro x3_59 dt H locs ls hm hW hS hl; cases hm
    | succ n_59 ih59 =>
      have hB95 : ∀ (x3_95 : Int32) (t0_95 : Nat) (t1_95 : Int32) (t2_95 : Int32) (kt0_95 : al.1 t0_95 = 21) (dt : q_Dt) (H : Heap) (locs : List Loc) (ls : Array Slot) (hm : X12_depth_b95 al (X12_depth_b59 al x0_59 x2_59 n_59) x0_59 x2_59 x3_95 t0_95 t1_95 t2_95 dt = some (r0, dt0)) (hW : q_W D al dt H) (hS : va_S (q_A al) s.heap H locs) (hl : lv_has ls 8 [(0, .ref x0_59), (2, .int x2_59), (3, .int x3_95)]), W p l e { frames := 2, cells := 0, slots := 0, locals := 43 } s m args below meth c H locs 0 0 (MQ below (q_Q (some (.int r0)) (fun H => q_W D al dt0 H ∧ q_Rk al 0 (some (.int r0))) (q_A al)) args s 0 0 (q_A al)) (F0 m 95 ls [.int t2_95, .int t1_95, .ref t0_95]) := by
        intro x3_95 t0_95 t1_95 t2_95 kt0_95 dt H locs ls hm hW hS hl
        unfold X12_depth_b95 at hm
        refine r_iast C hW hS hm kt0_95 dX12_depth_95 (fun dt95001 H locs hm hW hS => ?_)
        refine lv_iinc (v := (x3_95 + 1)) (lv' := [(3, .int (x3_95 + 1)), (0, .ref x0_59), (2, .int x2_59)]) hx hb dX12_depth_96 hl (k := 2) rfl rfl (by decide) rfl (fun ls hl => ?_)
        refine lv_goto (tgt := 59) hx hb dX12_depth_99 (by decide) ?_
        exact ih59 (x3_95 + 1) dt95001 _ _ _ hm hW hS (lv_sub hl [1, 2, 0] rfl)
      have hB80 : ∀ (x3_80 : Int32) (t0_80 : Nat) (t1_80 : Int32) (t2_80 : Int32) (kt0_80 : al.1 t0_80 = 21) (dt : q_Dt) (H : Heap) (locs : List Loc) (ls : Array Slot) (hm : X12_depth_b80 al (X12_depth_b59 al x0_59 x2_59 n_59) x0_59 x2_59 x3_80 t0_80 t1_80 t2_80 dt = some (r0, dt0)) (hW : q_W D al dt H) (hS : va_S (q_A al) s.heap H locs) (hl : lv_has ls 8 [(0, .ref x0_59), (2, .int x2_59), (3, .int x3_80)]), W p l e { frames := 2, cells := 0, slots := 0, locals := 43 } s m args below meth c H locs 0 0 (MQ below (q_Q (some (.int r0)) (fun H => q_W D al dt0 H ∧ q_Rk al 0 (some (.int r0))) (q_A al)) args s 0 0 (q_A al)) (F0 m 80 ls [.int t2_80, .int t1_80, .ref t0_80]) := by
        intro x3_80 t0_80 t1_80 t2_80 kt0_80 dt H locs ls hm hW hS hl
        unfold X12_depth_b80 at hm
        refine r_iast C hW hS hm kt0_80 dX12_depth_80 (fun dt80001 H locs hm hW hS => ?_)
        refine lv_aload_n hx hb dX12_depth_81 rfl (lv_at hl 0 rfl) ?_
        refine r_getF C hW (ci := 12) kx0_59 ff_12_57 cl_12 fl_RX12_145 dX12_depth_82 (fun k80002 => ?_)
        refine lv_iload_n hx hb dX12_depth_85 rfl (lv_at hl 2 rfl) ?_
        refine lv_iload_n hx hb dX12_depth_86 rfl (lv_at hl 2 rfl) ?_
        refine q_ifc hm (fun c80003 hm => ?_) (fun c80003 hm => ?_)
        · refine lv_if_ne (tgt := 94) hx hb dX12_depth_87 (by decide) (fun h => absurd c80003 h) (fun _ => ?_)
          refine lv_iconst (v := 1) hx hb dX12_depth_90 (by decide) ?_
          refine lv_goto (tgt := 95) hx hb dX12_depth_91 (by decide) ?_
          exact hB95 x3_80 (al.2.2 x0_59 57) x3_80 1 k80002 dt80001 _ _ _ hm hW hS (lv_sub hl [0, 1, 2] rfl)
        refine lv_if_ne (tgt := 94) hx hb dX12_depth_87 (by decide) (fun _ => ?_) (fun h => absurd h c80003)
        refine lv_iconst (v := 0) hx hb dX12_depth_94 (by decide) ?_
        exact hB95 x3_80 (al.2.2 x0_59 57) x3_80 0 k80002 dt80001 _ _ _ hm hW hS (lv_sub hl [0, 1, 2] rfl)
      intro x3_59 dt H locs ls hm hW hS hl
      rw [X12_depth_b59] at hm
      refine lv_iload_n hx hb dX12_depth_59 rfl (lv_at hl 2 rfl) ?_
      refine lv_sipush (v := 260) hx hb dX12_depth_60 (by decide) ?_
      refine q_ifc hm (fun c59001 hm => ?_) (fun c59001 hm => ?_)
      · refine lv_icmp_ge (tgt := 102) hx hb dX12_depth_63 (by decide) (fun _ => ?_) (fun h => absurd c59001 h)
        refine lv_iconst (v := 0) hx hb dX12_depth_102 (by decide) ?_
        refine lv_istore_n (i := 3) (lv' := [(3, .int 0), (0, .ref x0_59), (2, .int x2_59)]) hx hb dX12_depth_103 rfl hl (by decide) rfl (fun ls hl => ?_)
        refine lv_iconst (v := 1) hx hb dX12_depth_104 (by decide) ?_
        refine lv_istore (i := 4) (lv' := [(4, .int 1), (3, .int 0), (0, .ref x0_59), (2, .int x2_59)]) hx hb dX12_depth_105 hl (by decide) rfl (fun ls hl => ?_)
        refine lv_iconst (v := 0) hx hb dX12_depth_107 (by decide) ?_
        refine lv_istore (i := 5) (lv' := [(5, .int 0), (4, .int 1), (3, .int 0), (0, .ref x0_59), (2, .int x2_59)]) hx hb dX12_depth_108 hl (by decide) rfl (fun ls hl => ?_)
        exact hB110 x0_59 x2_59 kx0_59 q_FU 0 1 0 dt _ _ _ hm hW hS (lv_sub hl [3, 4, 2, 1, 0] rfl)
      refine lv_icmp_ge (tgt := 102) hx hb dX12_depth_63 (by decide) (fun h => absurd h c59001) (fun _ => ?_)
      refine lv_aload_n hx hb dX12_depth_66 rfl (lv_at hl 0 rfl) ?_
      refine r_getF C hW (ci := 12) kx0_59 ff_12_56 cl_12 fl_RX12_142 dX12_depth_67 (fun k59002 => ?_)
      refine lv_iload_n hx hb dX12_depth_70 rfl (lv_at hl 2 rfl) ?_
      refine lv_iload_n hx hb dX12_depth_71 rfl (lv_at hl 2 rfl) ?_
      refine q_ifc hm (fun c59003 hm => ?_) (fun c59003 hm => ?_)
      · refine lv_if_ne (tgt := 79) hx hb dX12_depth_72 (by decide) (fun h => absurd c59003 h) (fun _ => ?_)
        refine lv_iconst (v := 1) hx hb dX12_depth_75 (by decide) ?_
        refine lv_goto (tgt := 80) hx hb dX12_depth_76 (by decide) ?_
        exact hB80 x3_59 (al.2.2 x0_59 56) x3_59 1 k59002 dt _ _ _ hm hW hS (lv_sub hl [0, 1, 2] rfl)
      refine lv_if_ne (tgt := 79) hx hb dX12_depth_72 (by decide) (fun _ => ?_) (fun h => absurd h c59003)
      refine lv_iconst (v := 0) hx hb dX12_depth_79 (by decide) ?_
      exact hB80 x3_59 (al.2.2 x0_59 56) x3_59 0 k59002 dt _ _ _ hm hW hS (lv_sub hl [0, 1, 2] rfl)
  have hB20 : ∀ (x0_20 : Nat) (x1_20 : Int32) (x2_20 : Int32) (kx0_20 : al.1 x0_20 = 13) (n_20 : Nat) (x3_20 : Int32) (dt : q_Dt) (H : Heap) (locs : List Loc) (ls : Array Slot) (hm : X12_depth_b20 al x0_20 x1_20 x2_20 n_20 x3_20 dt = some (r0, dt0)) (hW : q_W D al dt H) (hS : va_S (q_A al) s.heap H locs) (hl : lv_has ls 8 [(0, .ref x0_20), (1, .int x1_20), (2, .int x2_20), (3, .int x3_20)]), W p l e { frames := 2, cells := 0, slots := 0, locals := 43 } s m args below meth c H locs 0 0 (MQ below (q_Q (some (.int r0)) (fun H => q_W D al dt0 H ∧ q_Rk al 0 (some (.int r0))) (q_A al)) args s 0 0 (q_A al)) (F0 m 20 ls []) := by
    intro x0_20 x1_20 x2_20 kx0_20
    intro n_20
    induction n_20 with
    | zero => intro x3_20 dt H locs ls hm hW hS hl; cases hm
    | succ n_20 ih20 =>
      have hB50 : ∀ (x3_50 : Int32) (t0_50 : Nat) (t1_50 : Int32) (t2_50 : Int32) (kt0_50 : al.1 t0_50 = 21) (dt : q_Dt) (H : Heap) (locs : List Loc) (ls : Array Slot) (hm : X12_depth_b50 al (X12_depth_b20 al x0_20 x1_20 x2_20 n_20) x0_20 x1_20 x2_20 x3_50 t0_50 t1_50 t2_50 dt = some (r0, dt0)) (hW : q_W D al dt H) (hS : va_S (q_A al) s.heap H locs) (hl : lv_has ls 8 [(0, .ref x0_20), (1, .int x1_20), (2, .int x2_20), (3, .int x3_50)]), W p l e { frames := 2, cells := 0, slots := 0, locals := 43 } s m args below meth c H locs 0 0 (MQ below (q_Q (some (.int r0)) (fun H => q_W D al dt0 H ∧ q_Rk al 0 (some (.int r0))) (q_A al)) args s 0 0 (q_A al)) (F0 m 50 ls [.int t2_50, .int t1_50, .ref t0_50]) := by
        intro x3_50 t0_50 t1_50 t2_50 kt0_50 dt H locs ls hm hW hS hl
        unfold X12_depth_b50 at hm
        refine r_iast C hW hS hm kt0_50 dX12_depth_50 (fun dt50001 H locs hm hW hS => ?_)
        refine lv_iinc (v := (x3_50 + 1)) (lv' := [(3, .int (x3_50 + 1)), (0, .ref x0_20), (1, .int x1_20), (2, .int x2_20)]) hx hb dX12_depth_51 hl (k := 3) rfl rfl (by decide) rfl (fun ls hl => ?_)
        refine lv_goto (tgt := 20) hx hb dX12_depth_54 (by decide) ?_
        exact ih20 (x3_50 + 1) dt50001 _ _ _ hm hW hS (lv_sub hl [1, 2, 3, 0] rfl)
      intro x3_20 dt H locs ls hm hW hS hl
      rw [X12_depth_b20] at hm
      refine lv_iload_n hx hb dX12_depth_20 rfl (lv_at hl 3 rfl) ?_
      refine lv_iload_n hx hb dX12_depth_21 rfl (lv_at hl 2 rfl) ?_
      refine q_ifc hm (fun c20001 hm => ?_) (fun c20001 hm => ?_)
      · refine lv_icmp_ge (tgt := 57) hx hb dX12_depth_22 (by decide) (fun _ => ?_) (fun h => absurd c20001 h)
        refine lv_iconst (v := 0) hx hb dX12_depth_57 (by decide) ?_
        refine lv_istore_n (i := 3) (lv' := [(3, .int 0), (0, .ref x0_20), (1, .int x1_20), (2, .int x2_20)]) hx hb dX12_depth_58 rfl hl (by decide) rfl (fun ls hl => ?_)
        exact hB59 x0_20 x2_20 kx0_20 q_FU 0 dt _ _ _ hm hW hS (lv_sub hl [1, 3, 0] rfl)
      refine lv_icmp_ge (tgt := 57) hx hb dX12_depth_22 (by decide) (fun h => absurd h c20001) (fun _ => ?_)
      refine lv_aload_n hx hb dX12_depth_25 rfl (lv_at hl 0 rfl) ?_
      refine r_getF C hW (ci := 12) kx0_20 ff_12_55 cl_12 fl_RX12_139 dX12_depth_26 (fun k20002 => ?_)
      refine lv_iload_n hx hb dX12_depth_29 rfl (lv_at hl 3 rfl) ?_
      refine lv_aload_n hx hb dX12_depth_30 rfl (lv_at hl 0 rfl) ?_
      refine lv_iload_n hx hb dX12_depth_31 rfl (lv_at hl 1 rfl) ?_
      refine lv_iload_n hx hb dX12_depth_32 rfl (lv_at hl 3 rfl) ?_
      refine lv_aload_n hx hb dX12_depth_33 rfl (lv_at hl 0 rfl) ?_
      refine lv_iload_n hx hb dX12_depth_34 rfl (lv_at hl 1 rfl) ?_
      obtain ⟨v20004, hc20003, hm⟩ := q_b1i hm
      refine q_callV C hW hS (As := [.int x1_20]) (rest := [.int x3_20, .int x1_20, .ref x0_20, .int x3_20, .ref (al.2.2 x0_20 55)]) (st1 := [.int v20004, .int x3_20, .int x1_20, .ref x0_20, .int x3_20, .ref (al.2.2 x0_20 55)]) (c_X12_long0 l D al dt x0_20 x1_20 kx0_20 v20004 hc20003) yl_X12_long0 vl_X12_long0 ml_RX12_327 (ci := 12) rfl kx0_20 (by decide) rfl ⟨Nat.le_of_ble_eq_true rfl, Nat.le_of_ble_eq_true rfl⟩ hl rfl (Nat.le_of_ble_eq_true rfl) dX12_depth_35 ⟨Nat.le_refl _, Nat.le_refl _⟩ rfl (fun H locs k20005 hW hS => ?_)
      obtain ⟨c20006, hm⟩ := q_ini hm
      refine lv_irem hx hb dX12_depth_38 c20006 ?_
      obtain ⟨v20008, hc20007, hm⟩ := q_b1i hm
      refine q_callV C hW hS (As := [.int x1_20, .int (q_ir x3_20 v20004)]) (rest := [.int x3_20, .ref (al.2.2 x0_20 55)]) (st1 := [.int v20008, .int x3_20, .ref (al.2.2 x0_20 55)]) (c_X12_chipOf l D al dt x0_20 x1_20 (q_ir x3_20 v20004) kx0_20 v20008 hc20007) yl_X12_chipOf vl_X12_chipOf ml_RX12_333 (ci := 12) rfl kx0_20 (by decide) rfl ⟨Nat.le_of_ble_eq_true rfl, Nat.le_of_ble_eq_true rfl⟩ hl rfl (Nat.le_of_ble_eq_true rfl) dX12_depth_39 ⟨Nat.le_refl _, Nat.le_refl _⟩ rfl (fun H locs k20009 hW hS => ?_)
      refine q_ifc hm (fun c20010 hm => ?_) (fun c20010 hm => ?_)
      · refine lv_if_ge (tgt := 49) hx hb dX12_depth_42 (by decide) (fun _ => ?_) (fun h => absurd c20010 h)
        refine lv_iconst (v := 0) hx hb dX12_depth_49 (by decide) ?_
        exact hB50 x3_20 (al.2.2 x0_20 55) x3_20 0 k20002 dt _ _ _ hm hW hS (lv_sub hl [0, 1, 2, 3] rfl)
      refine lv_if_ge (tgt := 49) hx hb dX12_depth_42 (by decide) (fun h => absurd h c20010) (fun _ => ?_)
      refine lv_iconst (v := 1) hx hb dX12_depth_45 (by decide) ?_
      refine lv_goto (tgt := 50) hx hb dX12_depth_46 (by decide) ?_
      exact hB50 x3_20 (al.2.2 x0_20 55) x3_20 1 k20002 dt _ _ _ hm hW hS (lv_sub hl [0, 1, 2, 3] rfl)
  refine lv_aload_n hx hb dX12_depth_0 rfl (lv_at hl 0 rfl) ?_
  refine lv_iload_n hx hb dX12_depth_1 rfl (lv_at hl 1 rfl) ?_
  obtain ⟨v1000002, hc1000001, hm⟩ := q_b1i hm
  refine q_callV C hW hS (As := [.int x1]) (rest := []) (st1 := [.int v1000002]) (c_X12_isCode l D al dt x0 x1 kx0 v1000002 hc1000001) yl_X12_isCode vl_X12_isCode ml_RX12_380 (ci := 12) rfl kx0 (by decide) rfl ⟨Nat.le_of_ble_eq_true rfl, Nat.le_of_ble_eq_true rfl⟩ hl rfl (Nat.le_of_ble_eq_true rfl) dX12_depth_2 ⟨Nat.le_refl _, Nat.le_refl _⟩ rfl (fun H locs k1000003 hW hS => ?_)
  refine q_ifc hm (fun c1000004 hm => ?_) (fun c1000004 hm => ?_)
  · refine lv_if_ne (tgt := 10) hx hb dX12_depth_5 (by decide) (fun h => absurd c1000004 h) (fun _ => ?_)
    refine lv_iconst (v := (-1)) hx hb dX12_depth_8 (by decide) ?_
    exact e_iD C hW hS hm dX12_depth_9
  refine lv_if_ne (tgt := 10) hx hb dX12_depth_5 (by decide) (fun _ => ?_) (fun h => absurd h c1000004)
  refine lv_iconst (v := 2) hx hb dX12_depth_10 (by decide) ?_
  refine lv_aload_n hx hb dX12_depth_11 rfl (lv_at hl 0 rfl) ?_
  refine lv_iload_n hx hb dX12_depth_12 rfl (lv_at hl 1 rfl) ?_
  obtain ⟨v1000006, hc1000005, hm⟩ := q_b1i hm
  refine q_callV C hW hS (As := [.int x1]) (rest := [.int 2]) (st1 := [.int v1000006, .int 2]) (c_X12_long0 l D al dt x0 x1 kx0 v1000006 hc1000005) yl_X12_long0 vl_X12_long0 ml_RX12_327 (ci := 12) rfl kx0 (by decide) rfl ⟨Nat.le_of_ble_eq_true rfl, Nat.le_of_ble_eq_true rfl⟩ hl rfl (Nat.le_of_ble_eq_true rfl) dX12_depth_13 ⟨Nat.le_refl _, Nat.le_refl _⟩ rfl (fun H locs k1000007 hW hS => ?_)
  refine lv_imul hx hb dX12_depth_16 ?_
  refine lv_istore_n (i := 2) (lv' := [(2, .int (2 * v1000006)), (0, .ref x0), (1, .int x1)]) hx hb dX12_depth_17 rfl hl (by decide) rfl (fun ls hl => ?_)
  refine lv_iconst (v := 0) hx hb dX12_depth_18 (by decide) ?_
  refine lv_istore_n (i := 3) (lv' := [(3, .int 0), (2, .int (2 * v1000006)), (0, .ref x0), (1, .int x1)]) hx hb dX12_depth_19 rfl hl (by decide) rfl (fun ls hl => ?_)
  exact hB20 x0 x1 (2 * v1000006) kx0 q_FU 0 dt _ _ _ hm hW hS (lv_sub hl [2, 3, 1, 0] rfl)
theorem dX12_bits_0 : decode cX12_bits 0 = .ok (.iconst 0, 1) := by decide +kernel
theorem dX12_bits_1 : decode cX12_bits 1 = .ok (.istore_n 1, 1) := by decide +kernel
theorem dX12_bits_2 : decode cX12_bits 2 = .ok (.iconst 0, 1) := by decide +kernel
theorem dX12_bits_3 : decode cX12_bits 3 = .ok (.istore_n 2, 1) := by decide +kernel
theorem dX12_bits_4 : decode cX12_bits 4 = .ok (.iload_n 2, 1) := by decide +kernel
theorem dX12_bits_5 : decode cX12_bits 5 = .ok (.bipush 8, 2) := by decide +kernel
theorem dX12_bits_7 : decode cX12_bits 7 = .ok (.if_icmp .ge 17, 3) := by decide +kernel
theorem dX12_bits_10 : decode cX12_bits 10 = .ok (.iload_n 1, 1) := by decide +kernel
theorem dX12_bits_11 : decode cX12_bits 11 = .ok (.iload_n 0, 1) := by decide +kernel
theorem dX12_bits_12 : decode cX12_bits 12 = .ok (.iload_n 2, 1) := by decide +kernel
theorem dX12_bits_13 : decode cX12_bits 13 = .ok (.ishr, 1) := by decide +kernel
theorem dX12_bits_14 : decode cX12_bits 14 = .ok (.iconst 1, 1) := by decide +kernel
theorem dX12_bits_15 : decode cX12_bits 15 = .ok (.iand, 1) := by decide +kernel
theorem dX12_bits_16 : decode cX12_bits 16 = .ok (.iadd, 1) := by decide +kernel
theorem dX12_bits_17 : decode cX12_bits 17 = .ok (.istore_n 1, 1) := by decide +kernel
theorem dX12_bits_18 : decode cX12_bits 18 = .ok (.iinc 2 1, 3) := by decide +kernel
theorem dX12_bits_21 : decode cX12_bits 21 = .ok (.goto (-17), 3) := by decide +kernel
theorem dX12_bits_24 : decode cX12_bits 24 = .ok (.iload_n 1, 1) := by decide +kernel
theorem dX12_bits_25 : decode cX12_bits 25 = .ok (.ireturn, 1) := by decide +kernel
set_option maxRecDepth 100000 in
theorem c_X12_bits (l : Launch) (D : q_D) (al : q_Al) (dt : q_Dt) (x0 : Int32) (r0 : Int32) (hm : X12_bits x0 = some r0) : q_Mt l yX12_bits cX12_bits 3 (some FieldType.int) 0 0 D al [.int x0] dt 0 (some (.int r0)) dt := by
  refine q_Mt.of (by decide) (Nat.le_of_ble_eq_true rfl) ?_
  intro p e s m args below meth c ls C hargs hW hl
  have hx := C.1
  have hb := C.2.1
  have hown := C.2.2.2.2.2.1
  have hts := C.2.2.2.2.2.2.1
  have hS : va_S (q_A al) s.heap s.heap [] := va_S.rf
  have hl : lv_has ls 3 [(0, .int x0)] := hl
  unfold X12_bits at hm
  have hB4 : ∀ (x0_4 : Int32) (n_4 : Nat) (x1_4 : Int32) (x2_4 : Int32) (H : Heap) (locs : List Loc) (ls : Array Slot) (hm : X12_bits_b4 x0_4 n_4 x1_4 x2_4 = some r0) (hW : q_W D al dt H) (hS : va_S (q_A al) s.heap H locs) (hl : lv_has ls 3 [(0, .int x0_4), (1, .int x1_4), (2, .int x2_4)]), W p l e { frames := 0, cells := 0, slots := 0, locals := 0 } s m args below meth c H locs 0 0 (MQ below (q_Q (some (.int r0)) (fun H => q_W D al dt H ∧ q_Rk al 0 (some (.int r0))) (q_A al)) args s 0 0 (q_A al)) (F0 m 4 ls []) := by
    intro x0_4
    intro n_4
    induction n_4 with
    | zero => intro x1_4 x2_4 H locs ls hm hW hS hl; cases hm
    | succ n_4 ih4 =>
      intro x1_4 x2_4 H locs ls hm hW hS hl
      rw [X12_bits_b4] at hm
      refine lv_iload_n hx hb dX12_bits_4 rfl (lv_at hl 2 rfl) ?_
      refine lv_bipush (v := 8) hx hb dX12_bits_5 (by decide) ?_
      refine q_ifc hm (fun c4001 hm => ?_) (fun c4001 hm => ?_)
      · refine lv_icmp_ge (tgt := 24) hx hb dX12_bits_7 (by decide) (fun _ => ?_) (fun h => absurd c4001 h)
        refine lv_iload_n hx hb dX12_bits_24 rfl (lv_at hl 1 rfl) ?_
        exact e_i C hW hS hm dX12_bits_25
      refine lv_icmp_ge (tgt := 24) hx hb dX12_bits_7 (by decide) (fun h => absurd h c4001) (fun _ => ?_)
      refine lv_iload_n hx hb dX12_bits_10 rfl (lv_at hl 1 rfl) ?_
      refine lv_iload_n hx hb dX12_bits_11 rfl (lv_at hl 0 rfl) ?_
      refine lv_iload_n hx hb dX12_bits_12 rfl (lv_at hl 2 rfl) ?_
      refine lv_ishr hx hb dX12_bits_13 ?_
      refine lv_iconst (v := 1) hx hb dX12_bits_14 (by decide) ?_
      refine lv_iand hx hb dX12_bits_15 ?_
      refine lv_iadd hx hb dX12_bits_16 ?_
      refine q_nmI hm (fun v4002 ev4002 hm => ?_)
      refine lv_istore_n (i := 1) (lv' := [(1, .int v4002), (0, .int x0_4), (2, .int x2_4)]) hx hb dX12_bits_17 rfl hl (by decide) rfl (fun ls hl => ?_)
      refine lv_iinc (v := (x2_4 + 1)) (lv' := [(2, .int (x2_4 + 1)), (1, .int v4002), (0, .int x0_4)]) hx hb dX12_bits_18 hl (k := 2) rfl rfl (by decide) rfl (fun ls hl => ?_)
      refine lv_goto (tgt := 4) hx hb dX12_bits_21 (by decide) ?_
      exact ih4 v4002 (x2_4 + 1) _ _ _ hm hW hS (lv_sub hl [2, 1, 0] rfl)
  refine lv_iconst (v := 0) hx hb dX12_bits_0 (by decide) ?_
  refine lv_istore_n (i := 1) (lv' := [(1, .int 0), (0, .int x0)]) hx hb dX12_bits_1 rfl hl (by decide) rfl (fun ls hl => ?_)
  refine lv_iconst (v := 0) hx hb dX12_bits_2 (by decide) ?_
  refine lv_istore_n (i := 2) (lv' := [(2, .int 0), (1, .int 0), (0, .int x0)]) hx hb dX12_bits_3 rfl hl (by decide) rfl (fun ls hl => ?_)
  exact hB4 x0 q_FU 0 0 _ _ _ hm hW hS (lv_sub hl [2, 1, 0] rfl)
theorem dX12_isFamily_0 : decode cX12_isFamily 0 = .ok (.iconst 0, 1) := by decide +kernel
theorem dX12_isFamily_1 : decode cX12_isFamily 1 = .ok (.istore_n 2, 1) := by decide +kernel
theorem dX12_isFamily_2 : decode cX12_isFamily 2 = .ok (.iload_n 2, 1) := by decide +kernel
theorem dX12_isFamily_3 : decode cX12_isFamily 3 = .ok (.bipush 8, 2) := by decide +kernel
theorem dX12_isFamily_5 : decode cX12_isFamily 5 = .ok (.if_icmp .ge 57, 3) := by decide +kernel
theorem dX12_isFamily_8 : decode cX12_isFamily 8 = .ok (.iload_n 2, 1) := by decide +kernel
theorem dX12_isFamily_9 : decode cX12_isFamily 9 = .ok (.istore_n 3, 1) := by decide +kernel
theorem dX12_isFamily_10 : decode cX12_isFamily 10 = .ok (.iload_n 3, 1) := by decide +kernel
theorem dX12_isFamily_11 : decode cX12_isFamily 11 = .ok (.bipush 8, 2) := by decide +kernel
theorem dX12_isFamily_13 : decode cX12_isFamily 13 = .ok (.if_icmp .ge 43, 3) := by decide +kernel
theorem dX12_isFamily_16 : decode cX12_isFamily 16 = .ok (.iload_n 1, 1) := by decide +kernel
theorem dX12_isFamily_17 : decode cX12_isFamily 17 = .ok (.iload_n 2, 1) := by decide +kernel
theorem dX12_isFamily_18 : decode cX12_isFamily 18 = .ok (.ishr, 1) := by decide +kernel
theorem dX12_isFamily_19 : decode cX12_isFamily 19 = .ok (.iconst 1, 1) := by decide +kernel
theorem dX12_isFamily_20 : decode cX12_isFamily 20 = .ok (.iand, 1) := by decide +kernel
theorem dX12_isFamily_21 : decode cX12_isFamily 21 = .ok (.iconst 1, 1) := by decide +kernel
theorem dX12_isFamily_22 : decode cX12_isFamily 22 = .ok (.if_icmp .ne 28, 3) := by decide +kernel
theorem dX12_isFamily_25 : decode cX12_isFamily 25 = .ok (.iload_n 1, 1) := by decide +kernel
theorem dX12_isFamily_26 : decode cX12_isFamily 26 = .ok (.iload_n 3, 1) := by decide +kernel
theorem dX12_isFamily_27 : decode cX12_isFamily 27 = .ok (.ishr, 1) := by decide +kernel
theorem dX12_isFamily_28 : decode cX12_isFamily 28 = .ok (.iconst 1, 1) := by decide +kernel
theorem dX12_isFamily_29 : decode cX12_isFamily 29 = .ok (.iand, 1) := by decide +kernel
theorem dX12_isFamily_30 : decode cX12_isFamily 30 = .ok (.iconst 1, 1) := by decide +kernel
theorem dX12_isFamily_31 : decode cX12_isFamily 31 = .ok (.if_icmp .ne 19, 3) := by decide +kernel
theorem dX12_isFamily_34 : decode cX12_isFamily 34 = .ok (.aload_n 0, 1) := by decide +kernel
theorem dX12_isFamily_35 : decode cX12_isFamily 35 = .ok (.getfield 151, 3) := by decide +kernel
theorem dX12_isFamily_38 : decode cX12_isFamily 38 = .ok (.bipush 8, 2) := by decide +kernel
theorem dX12_isFamily_40 : decode cX12_isFamily 40 = .ok (.iload_n 2, 1) := by decide +kernel
theorem dX12_isFamily_41 : decode cX12_isFamily 41 = .ok (.imul, 1) := by decide +kernel
theorem dX12_isFamily_42 : decode cX12_isFamily 42 = .ok (.iload_n 3, 1) := by decide +kernel
theorem dX12_isFamily_43 : decode cX12_isFamily 43 = .ok (.iadd, 1) := by decide +kernel
theorem dX12_isFamily_44 : decode cX12_isFamily 44 = .ok (.baload, 1) := by decide +kernel
theorem dX12_isFamily_45 : decode cX12_isFamily 45 = .ok (.ifCond .ne 5, 3) := by decide +kernel
theorem dX12_isFamily_48 : decode cX12_isFamily 48 = .ok (.iconst 0, 1) := by decide +kernel
theorem dX12_isFamily_49 : decode cX12_isFamily 49 = .ok (.ireturn, 1) := by decide +kernel
theorem dX12_isFamily_50 : decode cX12_isFamily 50 = .ok (.iinc 3 1, 3) := by decide +kernel
theorem dX12_isFamily_53 : decode cX12_isFamily 53 = .ok (.goto (-43), 3) := by decide +kernel
theorem dX12_isFamily_56 : decode cX12_isFamily 56 = .ok (.iinc 2 1, 3) := by decide +kernel
theorem dX12_isFamily_59 : decode cX12_isFamily 59 = .ok (.goto (-57), 3) := by decide +kernel
theorem dX12_isFamily_62 : decode cX12_isFamily 62 = .ok (.iconst 1, 1) := by decide +kernel
theorem dX12_isFamily_63 : decode cX12_isFamily 63 = .ok (.ireturn, 1) := by decide +kernel
set_option maxRecDepth 100000 in
theorem c_X12_isFamily (l : Launch) (D : q_D) (al : q_Al) (dt : q_Dt) (x0 : Nat) (x1 : Int32) (kx0 : al.1 x0 = 13) (r0 : Int32) (hm : X12_isFamily al dt x0 x1 = some r0) : q_Mt l yX12_isFamily cX12_isFamily 4 (some FieldType.boolean) 0 0 D al [.ref x0, .int x1] dt 0 (some (.int r0)) dt := by
  refine q_Mt.of (by decide) (Nat.le_of_ble_eq_true rfl) ?_
  intro p e s m args below meth c ls C hargs hW hl
  have hx := C.1
  have hb := C.2.1
  have hown := C.2.2.2.2.2.1
  have hts := C.2.2.2.2.2.2.1
  have hS : va_S (q_A al) s.heap s.heap [] := va_S.rf
  have hl : lv_has ls 4 [(0, .ref x0), (1, .int x1)] := hl
  unfold X12_isFamily at hm
  have hB2 : ∀ (x0_2 : Nat) (x1_2 : Int32) (kx0_2 : al.1 x0_2 = 13) (n_2 : Nat) (x2_2 : Int32) (H : Heap) (locs : List Loc) (ls : Array Slot) (hm : X12_isFamily_b2 al dt x0_2 x1_2 n_2 x2_2 = some r0) (hW : q_W D al dt H) (hS : va_S (q_A al) s.heap H locs) (hl : lv_has ls 4 [(0, .ref x0_2), (1, .int x1_2), (2, .int x2_2)]), W p l e { frames := 0, cells := 0, slots := 0, locals := 0 } s m args below meth c H locs 0 0 (MQ below (q_Q (some (.int r0)) (fun H => q_W D al dt H ∧ q_Rk al 0 (some (.int r0))) (q_A al)) args s 0 0 (q_A al)) (F0 m 2 ls []) := by
    intro x0_2 x1_2 kx0_2
    intro n_2
    induction n_2 with
    | zero => intro x2_2 H locs ls hm hW hS hl; cases hm
    | succ n_2 ih2 =>
      have hB10 : ∀ (x2_10 : Int32) (n_10 : Nat) (x3_10 : Int32) (H : Heap) (locs : List Loc) (ls : Array Slot) (hm : X12_isFamily_b10 al dt (X12_isFamily_b2 al dt x0_2 x1_2 n_2) x0_2 x1_2 x2_10 n_10 x3_10 = some r0) (hW : q_W D al dt H) (hS : va_S (q_A al) s.heap H locs) (hl : lv_has ls 4 [(0, .ref x0_2), (1, .int x1_2), (2, .int x2_10), (3, .int x3_10)]), W p l e { frames := 0, cells := 0, slots := 0, locals := 0 } s m args below meth c H locs 0 0 (MQ below (q_Q (some (.int r0)) (fun H => q_W D al dt H ∧ q_Rk al 0 (some (.int r0))) (q_A al)) args s 0 0 (q_A al)) (F0 m 10 ls []) := by
        intro x2_10
        intro n_10
        induction n_10 with
        | zero => intro x3_10 H locs ls hm hW hS hl; cases hm
        | succ n_10 ih10 =>
          have hB50 : ∀ (x3_50 : Int32) (H : Heap) (locs : List Loc) (ls : Array Slot) (hm : X12_isFamily_b50 al dt (X12_isFamily_b2 al dt x0_2 x1_2 n_2) (X12_isFamily_b10 al dt (X12_isFamily_b2 al dt x0_2 x1_2 n_2) x0_2 x1_2 x2_10 n_10) x0_2 x1_2 x2_10 x3_50 = some r0) (hW : q_W D al dt H) (hS : va_S (q_A al) s.heap H locs) (hl : lv_has ls 4 [(0, .ref x0_2), (1, .int x1_2), (2, .int x2_10), (3, .int x3_50)]), W p l e { frames := 0, cells := 0, slots := 0, locals := 0 } s m args below meth c H locs 0 0 (MQ below (q_Q (some (.int r0)) (fun H => q_W D al dt H ∧ q_Rk al 0 (some (.int r0))) (q_A al)) args s 0 0 (q_A al)) (F0 m 50 ls []) := by
            intro x3_50 H locs ls hm hW hS hl
            unfold X12_isFamily_b50 at hm
            refine lv_iinc (v := (x3_50 + 1)) (lv' := [(3, .int (x3_50 + 1)), (0, .ref x0_2), (1, .int x1_2), (2, .int x2_10)]) hx hb dX12_isFamily_50 hl (k := 3) rfl rfl (by decide) rfl (fun ls hl => ?_)
            refine lv_goto (tgt := 10) hx hb dX12_isFamily_53 (by decide) ?_
            exact ih10 (x3_50 + 1) _ _ _ hm hW hS (lv_sub hl [1, 2, 3, 0] rfl)
          intro x3_10 H locs ls hm hW hS hl
          rw [X12_isFamily_b10] at hm
          refine lv_iload_n hx hb dX12_isFamily_10 rfl (lv_at hl 3 rfl) ?_
          refine lv_bipush (v := 8) hx hb dX12_isFamily_11 (by decide) ?_
          refine q_ifc hm (fun c10001 hm => ?_) (fun c10001 hm => ?_)
          · refine lv_icmp_ge (tgt := 56) hx hb dX12_isFamily_13 (by decide) (fun _ => ?_) (fun h => absurd c10001 h)
            refine lv_iinc (v := (x2_10 + 1)) (lv' := [(2, .int (x2_10 + 1)), (0, .ref x0_2), (1, .int x1_2), (3, .int x3_10)]) hx hb dX12_isFamily_56 hl (k := 2) rfl rfl (by decide) rfl (fun ls hl => ?_)
            refine lv_goto (tgt := 2) hx hb dX12_isFamily_59 (by decide) ?_
            exact ih2 (x2_10 + 1) _ _ _ hm hW hS (lv_sub hl [1, 2, 0] rfl)
          refine lv_icmp_ge (tgt := 56) hx hb dX12_isFamily_13 (by decide) (fun h => absurd h c10001) (fun _ => ?_)
          refine lv_iload_n hx hb dX12_isFamily_16 rfl (lv_at hl 1 rfl) ?_
          refine lv_iload_n hx hb dX12_isFamily_17 rfl (lv_at hl 2 rfl) ?_
          refine lv_ishr hx hb dX12_isFamily_18 ?_
          refine lv_iconst (v := 1) hx hb dX12_isFamily_19 (by decide) ?_
          refine lv_iand hx hb dX12_isFamily_20 ?_
          refine lv_iconst (v := 1) hx hb dX12_isFamily_21 (by decide) ?_
          refine q_ifc hm (fun c10002 hm => ?_) (fun c10002 hm => ?_)
          · refine lv_icmp_ne (tgt := 50) hx hb dX12_isFamily_22 (by decide) (fun h => absurd c10002 h) (fun _ => ?_)
            refine lv_iload_n hx hb dX12_isFamily_25 rfl (lv_at hl 1 rfl) ?_
            refine lv_iload_n hx hb dX12_isFamily_26 rfl (lv_at hl 3 rfl) ?_
            refine lv_ishr hx hb dX12_isFamily_27 ?_
            refine lv_iconst (v := 1) hx hb dX12_isFamily_28 (by decide) ?_
            refine lv_iand hx hb dX12_isFamily_29 ?_
            refine lv_iconst (v := 1) hx hb dX12_isFamily_30 (by decide) ?_
            refine q_ifc hm (fun c10003 hm => ?_) (fun c10003 hm => ?_)
            · refine lv_icmp_ne (tgt := 50) hx hb dX12_isFamily_31 (by decide) (fun h => absurd c10003 h) (fun _ => ?_)
              refine lv_aload_n hx hb dX12_isFamily_34 rfl (lv_at hl 0 rfl) ?_
              refine r_getF C hW (ci := 12) kx0_2 ff_12_59 cl_12 fl_RX12_151 dX12_isFamily_35 (fun k10004 => ?_)
              refine lv_bipush (v := 8) hx hb dX12_isFamily_38 (by decide) ?_
              refine lv_iload_n hx hb dX12_isFamily_40 rfl (lv_at hl 2 rfl) ?_
              refine lv_imul hx hb dX12_isFamily_41 ?_
              refine lv_iload_n hx hb dX12_isFamily_42 rfl (lv_at hl 3 rfl) ?_
              refine lv_iadd hx hb dX12_isFamily_43 ?_
              refine r_zald C hW hm k10004 dX12_isFamily_44 (fun hm => ?_)
              refine q_ifc hm (fun c10005 hm => ?_) (fun c10005 hm => ?_)
              · refine lv_if_ne (tgt := 50) hx hb dX12_isFamily_45 (by decide) (fun h => absurd c10005 h) (fun _ => ?_)
                refine lv_iconst (v := 0) hx hb dX12_isFamily_48 (by decide) ?_
                exact e_zl C hW hS (Or.inl rfl) hm dX12_isFamily_49
              refine lv_if_ne (tgt := 50) hx hb dX12_isFamily_45 (by decide) (fun _ => ?_) (fun h => absurd h c10005)
              exact hB50 x3_10 _ _ _ hm hW hS (lv_sub hl [0, 1, 2, 3] rfl)
            refine lv_icmp_ne (tgt := 50) hx hb dX12_isFamily_31 (by decide) (fun _ => ?_) (fun h => absurd h c10003)
            exact hB50 x3_10 _ _ _ hm hW hS (lv_sub hl [0, 1, 2, 3] rfl)
          refine lv_icmp_ne (tgt := 50) hx hb dX12_isFamily_22 (by decide) (fun _ => ?_) (fun h => absurd h c10002)
          exact hB50 x3_10 _ _ _ hm hW hS (lv_sub hl [0, 1, 2, 3] rfl)
      intro x2_2 H locs ls hm hW hS hl
      rw [X12_isFamily_b2] at hm
      refine lv_iload_n hx hb dX12_isFamily_2 rfl (lv_at hl 2 rfl) ?_
      refine lv_bipush (v := 8) hx hb dX12_isFamily_3 (by decide) ?_
      refine q_ifc hm (fun c2001 hm => ?_) (fun c2001 hm => ?_)
      · refine lv_icmp_ge (tgt := 62) hx hb dX12_isFamily_5 (by decide) (fun _ => ?_) (fun h => absurd c2001 h)
        refine lv_iconst (v := 1) hx hb dX12_isFamily_62 (by decide) ?_
        exact e_zl C hW hS (Or.inr rfl) hm dX12_isFamily_63
      refine lv_icmp_ge (tgt := 62) hx hb dX12_isFamily_5 (by decide) (fun h => absurd h c2001) (fun _ => ?_)
      refine lv_iload_n hx hb dX12_isFamily_8 rfl (lv_at hl 2 rfl) ?_
      refine lv_istore_n (i := 3) (lv' := [(3, .int x2_2), (0, .ref x0_2), (1, .int x1_2), (2, .int x2_2)]) hx hb dX12_isFamily_9 rfl hl (by decide) rfl (fun ls hl => ?_)
      exact hB10 x2_2 q_FU x2_2 _ _ _ hm hW hS (lv_sub hl [1, 2, 3, 0] rfl)
  refine lv_iconst (v := 0) hx hb dX12_isFamily_0 (by decide) ?_
  refine lv_istore_n (i := 2) (lv' := [(2, .int 0), (0, .ref x0), (1, .int x1)]) hx hb dX12_isFamily_1 rfl hl (by decide) rfl (fun ls hl => ?_)
  exact hB2 x0 x1 kx0 q_FU 0 _ _ _ hm hW hS (lv_sub hl [1, 2, 0] rfl)
theorem dX12_family_0 : decode cX12_family 0 = .ok (.iload_n 1, 1) := by decide +kernel
theorem dX12_family_1 : decode cX12_family 1 = .ok (.ifCond .lt 12, 3) := by decide +kernel
theorem dX12_family_4 : decode cX12_family 4 = .ok (.iload_n 2, 1) := by decide +kernel
theorem dX12_family_5 : decode cX12_family 5 = .ok (.iconst 0, 1) := by decide +kernel
theorem dX12_family_6 : decode cX12_family 6 = .ok (.iconst 1, 1) := by decide +kernel
theorem dX12_family_7 : decode cX12_family 7 = .ok (.invokestatic 376, 3) := by decide +kernel
theorem dX12_family_10 : decode cX12_family 10 = .ok (.ifCond .ne 5, 3) := by decide +kernel
theorem dX12_family_13 : decode cX12_family 13 = .ok (.iconst (-1), 1) := by decide +kernel
theorem dX12_family_14 : decode cX12_family 14 = .ok (.ireturn, 1) := by decide +kernel
theorem dX12_family_15 : decode cX12_family 15 = .ok (.iconst 0, 1) := by decide +kernel
theorem dX12_family_16 : decode cX12_family 16 = .ok (.istore_n 3, 1) := by decide +kernel
theorem dX12_family_17 : decode cX12_family 17 = .ok (.iload_n 3, 1) := by decide +kernel
theorem dX12_family_18 : decode cX12_family 18 = .ok (.aload_n 0, 1) := by decide +kernel
theorem dX12_family_19 : decode cX12_family 19 = .ok (.getfield 49, 3) := by decide +kernel
theorem dX12_family_22 : decode cX12_family 22 = .ok (.aload_n 0, 1) := by decide +kernel
theorem dX12_family_23 : decode cX12_family 23 = .ok (.getfield 242, 3) := by decide +kernel
theorem dX12_family_26 : decode cX12_family 26 = .ok (.iaload, 1) := by decide +kernel
theorem dX12_family_27 : decode cX12_family 27 = .ok (.if_icmp .ge 74, 3) := by decide +kernel
theorem dX12_family_30 : decode cX12_family 30 = .ok (.iload_n 3, 1) := by decide +kernel
theorem dX12_family_31 : decode cX12_family 31 = .ok (.istore 4, 2) := by decide +kernel
theorem dX12_family_33 : decode cX12_family 33 = .ok (.iload 4, 2) := by decide +kernel
theorem dX12_family_35 : decode cX12_family 35 = .ok (.aload_n 0, 1) := by decide +kernel
theorem dX12_family_36 : decode cX12_family 36 = .ok (.getfield 49, 3) := by decide +kernel
theorem dX12_family_39 : decode cX12_family 39 = .ok (.aload_n 0, 1) := by decide +kernel
theorem dX12_family_40 : decode cX12_family 40 = .ok (.getfield 242, 3) := by decide +kernel
theorem dX12_family_43 : decode cX12_family 43 = .ok (.iaload, 1) := by decide +kernel
theorem dX12_family_44 : decode cX12_family 44 = .ok (.if_icmp .ge 51, 3) := by decide +kernel
theorem dX12_family_47 : decode cX12_family 47 = .ok (.aload_n 0, 1) := by decide +kernel
theorem dX12_family_48 : decode cX12_family 48 = .ok (.getfield 151, 3) := by decide +kernel
theorem dX12_family_51 : decode cX12_family 51 = .ok (.bipush 8, 2) := by decide +kernel
theorem dX12_family_53 : decode cX12_family 53 = .ok (.iload_n 3, 1) := by decide +kernel
theorem dX12_family_54 : decode cX12_family 54 = .ok (.imul, 1) := by decide +kernel
theorem dX12_family_55 : decode cX12_family 55 = .ok (.iload 4, 2) := by decide +kernel
theorem dX12_family_57 : decode cX12_family 57 = .ok (.iadd, 1) := by decide +kernel
theorem dX12_family_58 : decode cX12_family 58 = .ok (.aload_n 0, 1) := by decide +kernel
theorem dX12_family_59 : decode cX12_family 59 = .ok (.iload_n 3, 1) := by decide +kernel
theorem dX12_family_60 : decode cX12_family 60 = .ok (.invokevirtual 327, 3) := by decide +kernel
theorem dX12_family_63 : decode cX12_family 63 = .ok (.aload_n 0, 1) := by decide +kernel
theorem dX12_family_64 : decode cX12_family 64 = .ok (.iload 4, 2) := by decide +kernel
theorem dX12_family_66 : decode cX12_family 66 = .ok (.invokevirtual 327, 3) := by decide +kernel
theorem dX12_family_69 : decode cX12_family 69 = .ok (.if_icmp .ne 18, 3) := by decide +kernel
theorem dX12_family_72 : decode cX12_family 72 = .ok (.aload_n 0, 1) := by decide +kernel
theorem dX12_family_73 : decode cX12_family 73 = .ok (.iload_n 3, 1) := by decide +kernel
theorem dX12_family_74 : decode cX12_family 74 = .ok (.iload 4, 2) := by decide +kernel
theorem dX12_family_76 : decode cX12_family 76 = .ok (.invokevirtual 392, 3) := by decide +kernel
theorem dX12_family_79 : decode cX12_family 79 = .ok (.iload_n 1, 1) := by decide +kernel
theorem dX12_family_80 : decode cX12_family 80 = .ok (.if_icmp .gt 7, 3) := by decide +kernel
theorem dX12_family_83 : decode cX12_family 83 = .ok (.iconst 1, 1) := by decide +kernel
theorem dX12_family_84 : decode cX12_family 84 = .ok (.goto 4, 3) := by decide +kernel
theorem dX12_family_87 : decode cX12_family 87 = .ok (.iconst 0, 1) := by decide +kernel
theorem dX12_family_88 : decode cX12_family 88 = .ok (.bastore, 1) := by decide +kernel
theorem dX12_family_89 : decode cX12_family 89 = .ok (.iinc 4 1, 3) := by decide +kernel
theorem dX12_family_92 : decode cX12_family 92 = .ok (.goto (-59), 3) := by decide +kernel
theorem dX12_family_95 : decode cX12_family 95 = .ok (.iinc 3 1, 3) := by decide +kernel
theorem dX12_family_98 : decode cX12_family 98 = .ok (.goto (-81), 3) := by decide +kernel
theorem dX12_family_101 : decode cX12_family 101 = .ok (.iconst 0, 1) := by decide +kernel
theorem dX12_family_102 : decode cX12_family 102 = .ok (.istore_n 3, 1) := by decide +kernel
theorem dX12_family_103 : decode cX12_family 103 = .ok (.iconst 1, 1) := by decide +kernel
theorem dX12_family_104 : decode cX12_family 104 = .ok (.istore 4, 2) := by decide +kernel
theorem dX12_family_106 : decode cX12_family 106 = .ok (.iload 4, 2) := by decide +kernel
theorem dX12_family_108 : decode cX12_family 108 = .ok (.iconst 1, 1) := by decide +kernel
theorem dX12_family_109 : decode cX12_family 109 = .ok (.aload_n 0, 1) := by decide +kernel
theorem dX12_family_110 : decode cX12_family 110 = .ok (.getfield 49, 3) := by decide +kernel
theorem dX12_family_113 : decode cX12_family 113 = .ok (.aload_n 0, 1) := by decide +kernel
theorem dX12_family_114 : decode cX12_family 114 = .ok (.getfield 242, 3) := by decide +kernel
theorem dX12_family_117 : decode cX12_family 117 = .ok (.iaload, 1) := by decide +kernel
theorem dX12_family_118 : decode cX12_family 118 = .ok (.ishl, 1) := by decide +kernel
theorem dX12_family_119 : decode cX12_family 119 = .ok (.if_icmp .ge 33, 3) := by decide +kernel
theorem dX12_family_122 : decode cX12_family 122 = .ok (.iload 4, 2) := by decide +kernel
theorem dX12_family_124 : decode cX12_family 124 = .ok (.invokestatic 395, 3) := by decide +kernel
theorem dX12_family_127 : decode cX12_family 127 = .ok (.iload_n 3, 1) := by decide +kernel
theorem dX12_family_128 : decode cX12_family 128 = .ok (.invokestatic 395, 3) := by decide +kernel
theorem dX12_family_131 : decode cX12_family 131 = .ok (.if_icmp .le 15, 3) := by decide +kernel
theorem dX12_family_134 : decode cX12_family 134 = .ok (.aload_n 0, 1) := by decide +kernel
theorem dX12_family_135 : decode cX12_family 135 = .ok (.iload 4, 2) := by decide +kernel
theorem dX12_family_137 : decode cX12_family 137 = .ok (.invokevirtual 398, 3) := by decide +kernel
theorem dX12_family_140 : decode cX12_family 140 = .ok (.ifCond .eq 6, 3) := by decide +kernel
theorem dX12_family_143 : decode cX12_family 143 = .ok (.iload 4, 2) := by decide +kernel
theorem dX12_family_145 : decode cX12_family 145 = .ok (.istore_n 3, 1) := by decide +kernel
theorem dX12_family_146 : decode cX12_family 146 = .ok (.iinc 4 1, 3) := by decide +kernel
theorem dX12_family_149 : decode cX12_family 149 = .ok (.goto (-43), 3) := by decide +kernel
theorem dX12_family_152 : decode cX12_family 152 = .ok (.iload_n 2, 1) := by decide +kernel
theorem dX12_family_153 : decode cX12_family 153 = .ok (.ifCond .ne 10, 3) := by decide +kernel
theorem dX12_family_156 : decode cX12_family 156 = .ok (.iload_n 3, 1) := by decide +kernel
theorem dX12_family_157 : decode cX12_family 157 = .ok (.invokestatic 395, 3) := by decide +kernel
theorem dX12_family_160 : decode cX12_family 160 = .ok (.goto 4, 3) := by decide +kernel
theorem dX12_family_163 : decode cX12_family 163 = .ok (.iload_n 3, 1) := by decide +kernel
theorem dX12_family_164 : decode cX12_family 164 = .ok (.ireturn, 1) := by decide +kernel
set_option maxRecDepth 100000 in
theorem c_X12_family (l : Launch) (D : q_D) (al : q_Al) (dt : q_Dt) (x0 : Nat) (x1 : Int32) (x2 : Int32) (kx0 : al.1 x0 = 13) (r0 : Int32) (dt0 : q_Dt) (hm : X12_family al dt x0 x1 x2 = some (r0, dt0)) : q_Mt l yX12_family cX12_family 5 (some FieldType.int) 3 73 D al [.ref x0, .int x1, .int x2] dt 0 (some (.int r0)) dt0 := by
  refine q_Mt.of (by decide) (Nat.le_of_ble_eq_true rfl) ?_
  intro p e s m args below meth c ls C hargs hW hl
  have hx := C.1
  have hb := C.2.1
  have hown := C.2.2.2.2.2.1
  have hts := C.2.2.2.2.2.2.1
  have hS : va_S (q_A al) s.heap s.heap [] := va_S.rf
  have hl : lv_has ls 5 [(0, .ref x0), (1, .int x1), (2, .int x2)] := hl
  unfold X12_family at hm
  have hB106 : ∀ (x0_106 : Nat) (x2_106 : Int32) (kx0_106 : al.1 x0_106 = 13) (n_106 : Nat) (x3_106 : Int32) (x4_106 : Int32) (dt : q_Dt) (H : Heap) (locs : List Loc) (ls : Array Slot) (hm : X12_family_b106 al x0_106 x2_106 n_106 x3_106 x4_106 dt = some (r0, dt0)) (hW : q_W D al dt H) (hS : va_S (q_A al) s.heap H locs) (hl : lv_has ls 5 [(0, .ref x0_106), (2, .int x2_106), (3, .int x3_106), (4, .int x4_106)]), W p l e { frames := 3, cells := 0, slots := 0, locals := 73 } s m args below meth c H locs 0 0 (MQ below (q_Q (some (.int r0)) (fun H => q_W D al dt0 H ∧ q_Rk al 0 (some (.int r0))) (q_A al)) args s 0 0 (q_A al)) (F0 m 106 ls []) := by
    intro x0_106 x2_106 kx0_106
    intro n_106
    induction n_106 with
    | zero => intro x3_106 x4_106 dt H locs ls hm hW hS hl; cases hm
    | succ n_106 ih106 =>
      have hB146 : ∀ (x3_146 : Int32) (x4_146 : Int32) (dt : q_Dt) (H : Heap) (locs : List Loc) (ls : Array Slot) (hm : X12_family_b146 al (X12_family_b106 al x0_106 x2_106 n_106) x0_106 x2_106 x3_146 x4_146 dt = some (r0, dt0)) (hW : q_W D al dt H) (hS : va_S (q_A al) s.heap H locs) (hl : lv_has ls 5 [(0, .ref x0_106), (2, .int x2_106), (3, .int x3_146), (4, .int x4_146)]), W p l e { frames := 3, cells := 0, slots := 0, locals := 73 } s m args below meth c H locs 0 0 (MQ below (q_Q (some (.int r0)) (fun H => q_W D al dt0 H ∧ q_Rk al 0 (some (.int r0))) (q_A al)) args s 0 0 (q_A al)) (F0 m 146 ls []) := by
        intro x3_146 x4_146 dt H locs ls hm hW hS hl
        unfold X12_family_b146 at hm
        refine lv_iinc (v := (x4_146 + 1)) (lv' := [(4, .int (x4_146 + 1)), (0, .ref x0_106), (2, .int x2_106), (3, .int x3_146)]) hx hb dX12_family_146 hl (k := 3) rfl rfl (by decide) rfl (fun ls hl => ?_)
        refine lv_goto (tgt := 106) hx hb dX12_family_149 (by decide) ?_
        exact ih106 x3_146 (x4_146 + 1) dt _ _ _ hm hW hS (lv_sub hl [1, 2, 3, 0] rfl)
      intro x3_106 x4_106 dt H locs ls hm hW hS hl
      rw [X12_family_b106] at hm
      refine lv_iload hx hb dX12_family_106 (lv_at hl 3 rfl) ?_
      refine lv_iconst (v := 1) hx hb dX12_family_108 (by decide) ?_
      refine lv_aload_n hx hb dX12_family_109 rfl (lv_at hl 0 rfl) ?_
      refine r_getF C hW (ci := 12) kx0_106 ff_12_24 cl_12 fl_RX12_49 dX12_family_110 (fun k106001 => ?_)
      refine lv_aload_n hx hb dX12_family_113 rfl (lv_at hl 0 rfl) ?_
      refine r_getI C hW (ci := 12) kx0_106 ff_12_18 cl_12 fl_RX12_242 dX12_family_114 ?_
      refine r_iald C hW hm k106001 dX12_family_117 (fun hm => ?_)
      refine lv_ishl hx hb dX12_family_118 ?_
      refine q_ifc hm (fun c106002 hm => ?_) (fun c106002 hm => ?_)
      · refine lv_icmp_ge (tgt := 152) hx hb dX12_family_119 (by decide) (fun _ => ?_) (fun h => absurd c106002 h)
        refine lv_iload_n hx hb dX12_family_152 rfl (lv_at hl 1 rfl) ?_
        refine q_ifc hm (fun c106003 hm => ?_) (fun c106003 hm => ?_)
        · refine lv_if_ne (tgt := 163) hx hb dX12_family_153 (by decide) (fun h => absurd c106003 h) (fun _ => ?_)
          refine lv_iload_n hx hb dX12_family_156 rfl (lv_at hl 2 rfl) ?_
          obtain ⟨v106005, hc106004, hm⟩ := q_b1i hm
          refine q_callS C hW hS (As := [.int x3_106]) (rest := []) (st1 := [.int v106005]) (c_X12_bits l D al dt x3_106 v106005 hc106004) yl_X12_bits sl_X12_bits ml_RX12_395 rfl ⟨Nat.le_of_ble_eq_true rfl, Nat.le_of_ble_eq_true rfl⟩ hl rfl (Nat.le_of_ble_eq_true rfl) dX12_family_157 ⟨Nat.le_refl _, Nat.le_refl _⟩ rfl (fun H locs k106006 hW hS => ?_)
          refine lv_goto (tgt := 164) hx hb dX12_family_160 (by decide) ?_
          exact e_iD C hW hS hm dX12_family_164
        refine lv_if_ne (tgt := 163) hx hb dX12_family_153 (by decide) (fun _ => ?_) (fun h => absurd h c106003)
        refine lv_iload_n hx hb dX12_family_163 rfl (lv_at hl 2 rfl) ?_
        exact e_iD C hW hS hm dX12_family_164
      refine lv_icmp_ge (tgt := 152) hx hb dX12_family_119 (by decide) (fun h => absurd h c106002) (fun _ => ?_)
      refine lv_iload hx hb dX12_family_122 (lv_at hl 3 rfl) ?_
      obtain ⟨v106008, hc106007, hm⟩ := q_b1i hm
      refine q_callS C hW hS (As := [.int x4_106]) (rest := []) (st1 := [.int v106008]) (c_X12_bits l D al dt x4_106 v106008 hc106007) yl_X12_bits sl_X12_bits ml_RX12_395 rfl ⟨Nat.le_of_ble_eq_true rfl, Nat.le_of_ble_eq_true rfl⟩ hl rfl (Nat.le_of_ble_eq_true rfl) dX12_family_124 ⟨Nat.le_refl _, Nat.le_refl _⟩ rfl (fun H locs k106009 hW hS => ?_)
      refine lv_iload_n hx hb dX12_family_127 rfl (lv_at hl 2 rfl) ?_
      obtain ⟨v106011, hc106010, hm⟩ := q_b1i hm
      refine q_callS C hW hS (As := [.int x3_106]) (rest := [.int v106008]) (st1 := [.int v106011, .int v106008]) (c_X12_bits l D al dt x3_106 v106011 hc106010) yl_X12_bits sl_X12_bits ml_RX12_395 rfl ⟨Nat.le_of_ble_eq_true rfl, Nat.le_of_ble_eq_true rfl⟩ hl rfl (Nat.le_of_ble_eq_true rfl) dX12_family_128 ⟨Nat.le_refl _, Nat.le_refl _⟩ rfl (fun H locs k106012 hW hS => ?_)
      refine q_ifc hm (fun c106013 hm => ?_) (fun c106013 hm => ?_)
      · refine lv_icmp_le (tgt := 146) hx hb dX12_family_131 (by decide) (fun _ => ?_) (fun h => absurd c106013 h)
        exact hB146 x3_106 x4_106 dt _ _ _ hm hW hS (lv_sub hl [0, 1, 2, 3] rfl)
      refine lv_icmp_le (tgt := 146) hx hb dX12_family_131 (by decide) (fun h => absurd h c106013) (fun _ => ?_)
      refine lv_aload_n hx hb dX12_family_134 rfl (lv_at hl 0 rfl) ?_
      refine lv_iload hx hb dX12_family_135 (lv_at hl 3 rfl) ?_
      obtain ⟨v106015, hc106014, hm⟩ := q_b1i hm
      refine q_callV C hW hS (As := [.int x4_106]) (rest := []) (st1 := [.int v106015]) (c_X12_isFamily l D al dt x0_106 x4_106 kx0_106 v106015 hc106014) yl_X12_isFamily vl_X12_isFamily ml_RX12_398 (ci := 12) rfl kx0_106 (by decide) rfl ⟨Nat.le_of_ble_eq_true rfl, Nat.le_of_ble_eq_true rfl⟩ hl rfl (Nat.le_of_ble_eq_true rfl) dX12_family_137 ⟨Nat.le_refl _, Nat.le_refl _⟩ rfl (fun H locs k106016 hW hS => ?_)
      refine q_ifc hm (fun c106017 hm => ?_) (fun c106017 hm => ?_)
      · refine lv_if_eq (tgt := 146) hx hb dX12_family_140 (by decide) (fun _ => ?_) (fun h => absurd c106017 h)
        exact hB146 x3_106 x4_106 dt _ _ _ hm hW hS (lv_sub hl [0, 1, 2, 3] rfl)
      refine lv_if_eq (tgt := 146) hx hb dX12_family_140 (by decide) (fun h => absurd h c106017) (fun _ => ?_)
      refine lv_iload hx hb dX12_family_143 (lv_at hl 3 rfl) ?_
      refine lv_istore_n (i := 3) (lv' := [(3, .int x4_106), (0, .ref x0_106), (2, .int x2_106), (4, .int x4_106)]) hx hb dX12_family_145 rfl hl (by decide) rfl (fun ls hl => ?_)
      exact hB146 x4_106 x4_106 dt _ _ _ hm hW hS (lv_sub hl [1, 2, 0, 3] rfl)
  have hB17 : ∀ (x0_17 : Nat) (x1_17 : Int32) (x2_17 : Int32) (kx0_17 : al.1 x0_17 = 13) (n_17 : Nat) (x3_17 : Int32) (dt : q_Dt) (H : Heap) (locs : List Loc) (ls : Array Slot) (hm : X12_family_b17 al x0_17 x1_17 x2_17 n_17 x3_17 dt = some (r0, dt0)) (hW : q_W D al dt H) (hS : va_S (q_A al) s.heap H locs) (hl : lv_has ls 5 [(0, .ref x0_17), (1, .int x1_17), (2, .int x2_17), (3, .int x3_17)]), W p l e { frames := 3, cells := 0, slots := 0, locals := 73 } s m args below meth c H locs 0 0 (MQ below (q_Q (some (.int r0)) (fun H => q_W D al dt0 H ∧ q_Rk al 0 (some (.int r0))) (q_A al)) args s 0 0 (q_A al)) (F0 m 17 ls []) := by
    intro x0_17 x1_17 x2_17 kx0_17
    intro n_17
    induction n_17 with
    | zero => intro x3_17 dt H locs ls hm hW hS hl; cases hm
    | succ n_17 ih17 =>
      have hB33 : ∀ (x3_33 : Int32) (n_33 : Nat) (x4_33 : Int32) (dt : q_Dt) (H : Heap) (locs : List Loc) (ls : Array Slot) (hm : X12_family_b33 al (X12_family_b17 al x0_17 x1_17 x2_17 n_17) x0_17 x1_17 x2_17 x3_33 n_33 x4_33 dt = some (r0, dt0)) (hW : q_W D al dt H) (hS : va_S (q_A al) s.heap H locs) (hl : lv_has ls 5 [(0, .ref x0_17), (1, .int x1_17), (2, .int x2_17), (3, .int x3_33), (4, .int x4_33)]), W p l e { frames := 3, cells := 0, slots := 0, locals := 73 } s m args below meth c H locs 0 0 (MQ below (q_Q (some (.int r0)) (fun H => q_W D al dt0 H ∧ q_Rk al 0 (some (.int r0))) (q_A al)) args s 0 0 (q_A al)) (F0 m 33 ls []) := by
        intro x3_33
        intro n_33
        induction n_33 with
        | zero => intro x4_33 dt H locs ls hm hW hS hl; cases hm
        | succ n_33 ih33 =>
          have hB88 : ∀ (x4_88 : Int32) (t0_88 : Nat) (t1_88 : Int32) (t2_88 : Int32) (kt0_88 : al.1 t0_88 = 23) (dt : q_Dt) (H : Heap) (locs : List Loc) (ls : Array Slot) (hm : X12_family_b88 al (X12_family_b17 al x0_17 x1_17 x2_17 n_17) (X12_family_b33 al (X12_family_b17 al x0_17 x1_17 x2_17 n_17) x0_17 x1_17 x2_17 x3_33 n_33) x0_17 x1_17 x2_17 x3_33 x4_88 t0_88 t1_88 t2_88 dt = some (r0, dt0)) (hW : q_W D al dt H) (hS : va_S (q_A al) s.heap H locs) (hl : lv_has ls 5 [(0, .ref x0_17), (1, .int x1_17), (2, .int x2_17), (3, .int x3_33), (4, .int x4_88)]), W p l e { frames := 3, cells := 0, slots := 0, locals := 73 } s m args below meth c H locs 0 0 (MQ below (q_Q (some (.int r0)) (fun H => q_W D al dt0 H ∧ q_Rk al 0 (some (.int r0))) (q_A al)) args s 0 0 (q_A al)) (F0 m 88 ls [.int t2_88, .int t1_88, .ref t0_88]) := by
            intro x4_88 t0_88 t1_88 t2_88 kt0_88 dt H locs ls hm hW hS hl
            unfold X12_family_b88 at hm
            refine r_zast C hW hS hm kt0_88 dX12_family_88 (fun dt88001 H locs hm hW hS => ?_)
            refine lv_iinc (v := (x4_88 + 1)) (lv' := [(4, .int (x4_88 + 1)), (0, .ref x0_17), (1, .int x1_17), (2, .int x2_17), (3, .int x3_33)]) hx hb dX12_family_89 hl (k := 4) rfl rfl (by decide) rfl (fun ls hl => ?_)
            refine lv_goto (tgt := 33) hx hb dX12_family_92 (by decide) ?_
            exact ih33 (x4_88 + 1) dt88001 _ _ _ hm hW hS (lv_sub hl [1, 2, 3, 4, 0] rfl)
          have hB87 : ∀ (x4_87 : Int32) (t0_87 : Nat) (t1_87 : Int32) (kt0_87 : al.1 t0_87 = 23) (dt : q_Dt) (H : Heap) (locs : List Loc) (ls : Array Slot) (hm : X12_family_b87 al (X12_family_b17 al x0_17 x1_17 x2_17 n_17) (X12_family_b33 al (X12_family_b17 al x0_17 x1_17 x2_17 n_17) x0_17 x1_17 x2_17 x3_33 n_33) x0_17 x1_17 x2_17 x3_33 x4_87 t0_87 t1_87 dt = some (r0, dt0)) (hW : q_W D al dt H) (hS : va_S (q_A al) s.heap H locs) (hl : lv_has ls 5 [(0, .ref x0_17), (1, .int x1_17), (2, .int x2_17), (3, .int x3_33), (4, .int x4_87)]), W p l e { frames := 3, cells := 0, slots := 0, locals := 73 } s m args below meth c H locs 0 0 (MQ below (q_Q (some (.int r0)) (fun H => q_W D al dt0 H ∧ q_Rk al 0 (some (.int r0))) (q_A al)) args s 0 0 (q_A al)) (F0 m 87 ls [.int t1_87, .ref t0_87]) := by
            intro x4_87 t0_87 t1_87 kt0_87 dt H locs ls hm hW hS hl
            unfold X12_family_b87 at hm
            refine lv_iconst (v := 0) hx hb dX12_family_87 (by decide) ?_
            exact hB88 x4_87 t0_87 t1_87 0 kt0_87 dt _ _ _ hm hW hS (lv_sub hl [0, 1, 2, 3, 4] rfl)
          intro x4_33 dt H locs ls hm hW hS hl
          rw [X12_family_b33] at hm
          refine lv_iload hx hb dX12_family_33 (lv_at hl 4 rfl) ?_
          refine lv_aload_n hx hb dX12_family_35 rfl (lv_at hl 0 rfl) ?_
          refine r_getF C hW (ci := 12) kx0_17 ff_12_24 cl_12 fl_RX12_49 dX12_family_36 (fun k33001 => ?_)
          refine lv_aload_n hx hb dX12_family_39 rfl (lv_at hl 0 rfl) ?_
          refine r_getI C hW (ci := 12) kx0_17 ff_12_18 cl_12 fl_RX12_242 dX12_family_40 ?_
          refine r_iald C hW hm k33001 dX12_family_43 (fun hm => ?_)
          refine q_ifc hm (fun c33002 hm => ?_) (fun c33002 hm => ?_)
          · refine lv_icmp_ge (tgt := 95) hx hb dX12_family_44 (by decide) (fun _ => ?_) (fun h => absurd c33002 h)
            refine lv_iinc (v := (x3_33 + 1)) (lv' := [(3, .int (x3_33 + 1)), (0, .ref x0_17), (1, .int x1_17), (2, .int x2_17), (4, .int x4_33)]) hx hb dX12_family_95 hl (k := 3) rfl rfl (by decide) rfl (fun ls hl => ?_)
            refine lv_goto (tgt := 17) hx hb dX12_family_98 (by decide) ?_
            exact ih17 (x3_33 + 1) dt _ _ _ hm hW hS (lv_sub hl [1, 2, 3, 0] rfl)
          refine lv_icmp_ge (tgt := 95) hx hb dX12_family_44 (by decide) (fun h => absurd h c33002) (fun _ => ?_)
          refine lv_aload_n hx hb dX12_family_47 rfl (lv_at hl 0 rfl) ?_
          refine r_getF C hW (ci := 12) kx0_17 ff_12_59 cl_12 fl_RX12_151 dX12_family_48 (fun k33003 => ?_)
          refine lv_bipush (v := 8) hx hb dX12_family_51 (by decide) ?_
          refine lv_iload_n hx hb dX12_family_53 rfl (lv_at hl 3 rfl) ?_
          refine lv_imul hx hb dX12_family_54 ?_
          refine lv_iload hx hb dX12_family_55 (lv_at hl 4 rfl) ?_
          refine lv_iadd hx hb dX12_family_57 ?_
          refine lv_aload_n hx hb dX12_family_58 rfl (lv_at hl 0 rfl) ?_
          refine lv_iload_n hx hb dX12_family_59 rfl (lv_at hl 3 rfl) ?_
          obtain ⟨v33005, hc33004, hm⟩ := q_b1i hm
          refine q_callV C hW hS (As := [.int x3_33]) (rest := [.int ((8 * x3_33) + x4_33), .ref (al.2.2 x0_17 59)]) (st1 := [.int v33005, .int ((8 * x3_33) + x4_33), .ref (al.2.2 x0_17 59)]) (c_X12_long0 l D al dt x0_17 x3_33 kx0_17 v33005 hc33004) yl_X12_long0 vl_X12_long0 ml_RX12_327 (ci := 12) rfl kx0_17 (by decide) rfl ⟨Nat.le_of_ble_eq_true rfl, Nat.le_of_ble_eq_true rfl⟩ hl rfl (Nat.le_of_ble_eq_true rfl) dX12_family_60 ⟨Nat.le_refl _, Nat.le_refl _⟩ rfl (fun H locs k33006 hW hS => ?_)
          refine lv_aload_n hx hb dX12_family_63 rfl (lv_at hl 0 rfl) ?_
          refine lv_iload hx hb dX12_family_64 (lv_at hl 4 rfl) ?_
          obtain ⟨v33008, hc33007, hm⟩ := q_b1i hm
          refine q_callV C hW hS (As := [.int x4_33]) (rest := [.int v33005, .int ((8 * x3_33) + x4_33), .ref (al.2.2 x0_17 59)]) (st1 := [.int v33008, .int v33005, .int ((8 * x3_33) + x4_33), .ref (al.2.2 x0_17 59)]) (c_X12_long0 l D al dt x0_17 x4_33 kx0_17 v33008 hc33007) yl_X12_long0 vl_X12_long0 ml_RX12_327 (ci := 12) rfl kx0_17 (by decide) rfl ⟨Nat.le_of_ble_eq_true rfl, Nat.le_of_ble_eq_true rfl⟩ hl rfl (Nat.le_of_ble_eq_true rfl) dX12_family_66 ⟨Nat.le_refl _, Nat.le_refl _⟩ rfl (fun H locs k33009 hW hS => ?_)
          refine q_ifc hm (fun c33010 hm => ?_) (fun c33010 hm => ?_)
          · refine lv_icmp_ne (tgt := 87) hx hb dX12_family_69 (by decide) (fun h => absurd c33010 h) (fun _ => ?_)
            refine lv_aload_n hx hb dX12_family_72 rfl (lv_at hl 0 rfl) ?_
            refine lv_iload_n hx hb dX12_family_73 rfl (lv_at hl 3 rfl) ?_
            refine lv_iload hx hb dX12_family_74 (lv_at hl 4 rfl) ?_
            obtain ⟨v33012, hc33011, hm⟩ := q_b1i hm
            refine q_callV C hW hS (As := [.int x3_33, .int x4_33]) (rest := [.int ((8 * x3_33) + x4_33), .ref (al.2.2 x0_17 59)]) (st1 := [.int v33012, .int ((8 * x3_33) + x4_33), .ref (al.2.2 x0_17 59)]) (c_X12_worstOf l D al dt x0_17 x3_33 x4_33 kx0_17 v33012 hc33011) yl_X12_worstOf vl_X12_worstOf ml_RX12_392 (ci := 12) rfl kx0_17 (by decide) rfl ⟨Nat.le_of_ble_eq_true rfl, Nat.le_of_ble_eq_true rfl⟩ hl rfl (Nat.le_of_ble_eq_true rfl) dX12_family_76 ⟨Nat.le_refl _, Nat.le_refl _⟩ rfl (fun H locs k33013 hW hS => ?_)
            refine lv_iload_n hx hb dX12_family_79 rfl (lv_at hl 1 rfl) ?_
            refine q_ifc hm (fun c33014 hm => ?_) (fun c33014 hm => ?_)
            · refine lv_icmp_gt (tgt := 87) hx hb dX12_family_80 (by decide) (fun _ => ?_) (fun h => absurd c33014 h)
              exact hB87 x4_33 (al.2.2 x0_17 59) ((8 * x3_33) + x4_33) k33003 dt _ _ _ hm hW hS (lv_sub hl [0, 1, 2, 3, 4] rfl)
            refine lv_icmp_gt (tgt := 87) hx hb dX12_family_80 (by decide) (fun h => absurd h c33014) (fun _ => ?_)
            refine lv_iconst (v := 1) hx hb dX12_family_83 (by decide) ?_
            refine lv_goto (tgt := 88) hx hb dX12_family_84 (by decide) ?_
            exact hB88 x4_33 (al.2.2 x0_17 59) ((8 * x3_33) + x4_33) 1 k33003 dt _ _ _ hm hW hS (lv_sub hl [0, 1, 2, 3, 4] rfl)
          refine lv_icmp_ne (tgt := 87) hx hb dX12_family_69 (by decide) (fun _ => ?_) (fun h => absurd h c33010)
          exact hB87 x4_33 (al.2.2 x0_17 59) ((8 * x3_33) + x4_33) k33003 dt _ _ _ hm hW hS (lv_sub hl [0, 1, 2, 3, 4] rfl)
      intro x3_17 dt H locs ls hm hW hS hl
      rw [X12_family_b17] at hm
      refine lv_iload_n hx hb dX12_family_17 rfl (lv_at hl 3 rfl) ?_
      refine lv_aload_n hx hb dX12_family_18 rfl (lv_at hl 0 rfl) ?_
      refine r_getF C hW (ci := 12) kx0_17 ff_12_24 cl_12 fl_RX12_49 dX12_family_19 (fun k17001 => ?_)
      refine lv_aload_n hx hb dX12_family_22 rfl (lv_at hl 0 rfl) ?_
      refine r_getI C hW (ci := 12) kx0_17 ff_12_18 cl_12 fl_RX12_242 dX12_family_23 ?_
      refine r_iald C hW hm k17001 dX12_family_26 (fun hm => ?_)
      refine q_ifc hm (fun c17002 hm => ?_) (fun c17002 hm => ?_)
      · refine lv_icmp_ge (tgt := 101) hx hb dX12_family_27 (by decide) (fun _ => ?_) (fun h => absurd c17002 h)
        refine lv_iconst (v := 0) hx hb dX12_family_101 (by decide) ?_
        refine lv_istore_n (i := 3) (lv' := [(3, .int 0), (0, .ref x0_17), (1, .int x1_17), (2, .int x2_17)]) hx hb dX12_family_102 rfl hl (by decide) rfl (fun ls hl => ?_)
        refine lv_iconst (v := 1) hx hb dX12_family_103 (by decide) ?_
        refine lv_istore (i := 4) (lv' := [(4, .int 1), (3, .int 0), (0, .ref x0_17), (1, .int x1_17), (2, .int x2_17)]) hx hb dX12_family_104 hl (by decide) rfl (fun ls hl => ?_)
        exact hB106 x0_17 x2_17 kx0_17 q_FU 0 1 dt _ _ _ hm hW hS (lv_sub hl [2, 4, 1, 0] rfl)
      refine lv_icmp_ge (tgt := 101) hx hb dX12_family_27 (by decide) (fun h => absurd h c17002) (fun _ => ?_)
      refine lv_iload_n hx hb dX12_family_30 rfl (lv_at hl 3 rfl) ?_
      refine lv_istore (i := 4) (lv' := [(4, .int x3_17), (0, .ref x0_17), (1, .int x1_17), (2, .int x2_17), (3, .int x3_17)]) hx hb dX12_family_31 hl (by decide) rfl (fun ls hl => ?_)
      exact hB33 x3_17 q_FU x3_17 dt _ _ _ hm hW hS (lv_sub hl [1, 2, 3, 4, 0] rfl)
  refine lv_iload_n hx hb dX12_family_0 rfl (lv_at hl 1 rfl) ?_
  refine q_ifc hm (fun c1000001 hm => ?_) (fun c1000001 hm => ?_)
  · refine lv_if_lt (tgt := 13) hx hb dX12_family_1 (by decide) (fun _ => ?_) (fun h => absurd c1000001 h)
    refine lv_iconst (v := (-1)) hx hb dX12_family_13 (by decide) ?_
    exact e_iD C hW hS hm dX12_family_14
  refine lv_if_lt (tgt := 13) hx hb dX12_family_1 (by decide) (fun h => absurd h c1000001) (fun _ => ?_)
  refine lv_iload_n hx hb dX12_family_4 rfl (lv_at hl 2 rfl) ?_
  refine lv_iconst (v := 0) hx hb dX12_family_5 (by decide) ?_
  refine lv_iconst (v := 1) hx hb dX12_family_6 (by decide) ?_
  obtain ⟨v1000003, hc1000002, hm⟩ := q_b1i hm
  refine q_callS C hW hS (As := [.int x2, .int 0, .int 1]) (rest := []) (st1 := [.int v1000003]) (c_X12_in l D al dt x2 0 1 v1000003 hc1000002) yl_X12_in sl_X12_in ml_RX12_376 rfl ⟨Nat.le_of_ble_eq_true rfl, Nat.le_of_ble_eq_true rfl⟩ hl rfl (Nat.le_of_ble_eq_true rfl) dX12_family_7 ⟨Nat.le_refl _, Nat.le_refl _⟩ rfl (fun H locs k1000004 hW hS => ?_)
  refine q_ifc hm (fun c1000005 hm => ?_) (fun c1000005 hm => ?_)
  · refine lv_if_ne (tgt := 15) hx hb dX12_family_10 (by decide) (fun h => absurd c1000005 h) (fun _ => ?_)
    refine lv_iconst (v := (-1)) hx hb dX12_family_13 (by decide) ?_
    exact e_iD C hW hS hm dX12_family_14
  refine lv_if_ne (tgt := 15) hx hb dX12_family_10 (by decide) (fun _ => ?_) (fun h => absurd h c1000005)
  refine lv_iconst (v := 0) hx hb dX12_family_15 (by decide) ?_
  refine lv_istore_n (i := 3) (lv' := [(3, .int 0), (0, .ref x0), (1, .int x1), (2, .int x2)]) hx hb dX12_family_16 rfl hl (by decide) rfl (fun ls hl => ?_)
  exact hB17 x0 x1 x2 kx0 q_FU 0 dt _ _ _ hm hW hS (lv_sub hl [1, 2, 3, 0] rfl)
theorem dX12_isSample_0 : decode cX12_isSample 0 = .ok (.iload_n 1, 1) := by decide +kernel
theorem dX12_isSample_1 : decode cX12_isSample 1 = .ok (.iconst 0, 1) := by decide +kernel
theorem dX12_isSample_2 : decode cX12_isSample 2 = .ok (.aload_n 0, 1) := by decide +kernel
theorem dX12_isSample_3 : decode cX12_isSample 3 = .ok (.invokevirtual 342, 3) := by decide +kernel
theorem dX12_isSample_6 : decode cX12_isSample 6 = .ok (.iconst 1, 1) := by decide +kernel
theorem dX12_isSample_7 : decode cX12_isSample 7 = .ok (.isub, 1) := by decide +kernel
theorem dX12_isSample_8 : decode cX12_isSample 8 = .ok (.invokestatic 376, 3) := by decide +kernel
theorem dX12_isSample_11 : decode cX12_isSample 11 = .ok (.ireturn, 1) := by decide +kernel
set_option maxRecDepth 100000 in
theorem c_X12_isSample (l : Launch) (D : q_D) (al : q_Al) (dt : q_Dt) (x0 : Nat) (x1 : Int32) (kx0 : al.1 x0 = 13) (r0 : Int32) (hm : X12_isSample al dt x0 x1 = some r0) : q_Mt l yX12_isSample cX12_isSample 2 (some FieldType.boolean) 1 22 D al [.ref x0, .int x1] dt 0 (some (.int r0)) dt := by
  refine q_Mt.of (by decide) (Nat.le_of_ble_eq_true rfl) ?_
  intro p e s m args below meth c ls C hargs hW hl
  have hx := C.1
  have hb := C.2.1
  have hown := C.2.2.2.2.2.1
  have hts := C.2.2.2.2.2.2.1
  have hS : va_S (q_A al) s.heap s.heap [] := va_S.rf
  have hl : lv_has ls 2 [(0, .ref x0), (1, .int x1)] := hl
  unfold X12_isSample at hm
  refine lv_iload_n hx hb dX12_isSample_0 rfl (lv_at hl 1 rfl) ?_
  refine lv_iconst (v := 0) hx hb dX12_isSample_1 (by decide) ?_
  refine lv_aload_n hx hb dX12_isSample_2 rfl (lv_at hl 0 rfl) ?_
  obtain ⟨v1000002, hc1000001, hm⟩ := q_b1i hm
  refine q_callV C hW hS (As := []) (rest := [.int 0, .int x1]) (st1 := [.int v1000002, .int 0, .int x1]) (c_X12_n l D al dt x0 kx0 v1000002 hc1000001) yl_X12_n vl_X12_n ml_RX12_342 (ci := 12) rfl kx0 (by decide) rfl ⟨Nat.le_of_ble_eq_true rfl, Nat.le_of_ble_eq_true rfl⟩ hl rfl (Nat.le_of_ble_eq_true rfl) dX12_isSample_3 ⟨Nat.le_refl _, Nat.le_refl _⟩ rfl (fun H locs k1000003 hW hS => ?_)
  refine lv_iconst (v := 1) hx hb dX12_isSample_6 (by decide) ?_
  refine lv_isub hx hb dX12_isSample_7 ?_
  obtain ⟨v1000005, hc1000004, hm⟩ := q_b1i hm
  refine q_callS C hW hS (As := [.int x1, .int 0, .int (v1000002 - 1)]) (rest := []) (st1 := [.int v1000005]) (c_X12_in l D al dt x1 0 (v1000002 - 1) v1000005 hc1000004) yl_X12_in sl_X12_in ml_RX12_376 rfl ⟨Nat.le_of_ble_eq_true rfl, Nat.le_of_ble_eq_true rfl⟩ hl rfl (Nat.le_of_ble_eq_true rfl) dX12_isSample_8 ⟨Nat.le_refl _, Nat.le_refl _⟩ rfl (fun H locs k1000006 hW hS => ?_)
  exact e_z C hW hS hm dX12_isSample_11
theorem dX12_isSender_0 : decode cX12_isSender 0 = .ok (.iload_n 1, 1) := by decide +kernel
theorem dX12_isSender_1 : decode cX12_isSender 1 = .ok (.iconst 0, 1) := by decide +kernel
theorem dX12_isSender_2 : decode cX12_isSender 2 = .ok (.aload_n 0, 1) := by decide +kernel
theorem dX12_isSender_3 : decode cX12_isSender 3 = .ok (.getfield 70, 3) := by decide +kernel
theorem dX12_isSender_6 : decode cX12_isSender 6 = .ok (.aload_n 0, 1) := by decide +kernel
theorem dX12_isSender_7 : decode cX12_isSender 7 = .ok (.getfield 242, 3) := by decide +kernel
theorem dX12_isSender_10 : decode cX12_isSender 10 = .ok (.iaload, 1) := by decide +kernel
theorem dX12_isSender_11 : decode cX12_isSender 11 = .ok (.iconst 1, 1) := by decide +kernel
theorem dX12_isSender_12 : decode cX12_isSender 12 = .ok (.isub, 1) := by decide +kernel
theorem dX12_isSender_13 : decode cX12_isSender 13 = .ok (.invokestatic 376, 3) := by decide +kernel
theorem dX12_isSender_16 : decode cX12_isSender 16 = .ok (.ireturn, 1) := by decide +kernel
set_option maxRecDepth 100000 in
theorem c_X12_isSender (l : Launch) (D : q_D) (al : q_Al) (dt : q_Dt) (x0 : Nat) (x1 : Int32) (kx0 : al.1 x0 = 13) (r0 : Int32) (hm : X12_isSender al dt x0 x1 = some r0) : q_Mt l yX12_isSender cX12_isSender 2 (some FieldType.boolean) 1 22 D al [.ref x0, .int x1] dt 0 (some (.int r0)) dt := by
  refine q_Mt.of (by decide) (Nat.le_of_ble_eq_true rfl) ?_
  intro p e s m args below meth c ls C hargs hW hl
  have hx := C.1
  have hb := C.2.1
  have hown := C.2.2.2.2.2.1
  have hts := C.2.2.2.2.2.2.1
  have hS : va_S (q_A al) s.heap s.heap [] := va_S.rf
  have hl : lv_has ls 2 [(0, .ref x0), (1, .int x1)] := hl
  unfold X12_isSender at hm
  refine lv_iload_n hx hb dX12_isSender_0 rfl (lv_at hl 1 rfl) ?_
  refine lv_iconst (v := 0) hx hb dX12_isSender_1 (by decide) ?_
  refine lv_aload_n hx hb dX12_isSender_2 rfl (lv_at hl 0 rfl) ?_
  refine r_getF C hW (ci := 12) kx0 ff_12_31 cl_12 fl_RX12_70 dX12_isSender_3 (fun k1000001 => ?_)
  refine lv_aload_n hx hb dX12_isSender_6 rfl (lv_at hl 0 rfl) ?_
  refine r_getI C hW (ci := 12) kx0 ff_12_18 cl_12 fl_RX12_242 dX12_isSender_7 ?_
  refine r_iald C hW hm k1000001 dX12_isSender_10 (fun hm => ?_)
  refine lv_iconst (v := 1) hx hb dX12_isSender_11 (by decide) ?_
  refine lv_isub hx hb dX12_isSender_12 ?_
  obtain ⟨v1000003, hc1000002, hm⟩ := q_b1i hm
  refine q_callS C hW hS (As := [.int x1, .int 0, .int ((dt.1 (al.2.2 x0 31) (Int32.toNatClampNeg (dt.1 x0 18))) - 1)]) (rest := []) (st1 := [.int v1000003]) (c_X12_in l D al dt x1 0 ((dt.1 (al.2.2 x0 31) (Int32.toNatClampNeg (dt.1 x0 18))) - 1) v1000003 hc1000002) yl_X12_in sl_X12_in ml_RX12_376 rfl ⟨Nat.le_of_ble_eq_true rfl, Nat.le_of_ble_eq_true rfl⟩ hl rfl (Nat.le_of_ble_eq_true rfl) dX12_isSender_13 ⟨Nat.le_refl _, Nat.le_refl _⟩ rfl (fun H locs k1000004 hW hS => ?_)
  exact e_z C hW hS hm dX12_isSender_16
theorem dX12_sample_0 : decode cX12_sample 0 = .ok (.aload_n 0, 1) := by decide +kernel
theorem dX12_sample_1 : decode cX12_sample 1 = .ok (.iload_n 1, 1) := by decide +kernel
theorem dX12_sample_2 : decode cX12_sample 2 = .ok (.invokevirtual 401, 3) := by decide +kernel
theorem dX12_sample_5 : decode cX12_sample 5 = .ok (.ifCond .eq 24, 3) := by decide +kernel
theorem dX12_sample_8 : decode cX12_sample 8 = .ok (.aload_n 0, 1) := by decide +kernel
theorem dX12_sample_9 : decode cX12_sample 9 = .ok (.getfield 133, 3) := by decide +kernel
theorem dX12_sample_12 : decode cX12_sample 12 = .ok (.iload_n 2, 1) := by decide +kernel
theorem dX12_sample_13 : decode cX12_sample 13 = .ok (.ifCond .eq 11, 3) := by decide +kernel
theorem dX12_sample_16 : decode cX12_sample 16 = .ok (.sipush 512, 3) := by decide +kernel
theorem dX12_sample_19 : decode cX12_sample 19 = .ok (.iload_n 1, 1) := by decide +kernel
theorem dX12_sample_20 : decode cX12_sample 20 = .ok (.iadd, 1) := by decide +kernel
theorem dX12_sample_21 : decode cX12_sample 21 = .ok (.goto 4, 3) := by decide +kernel
theorem dX12_sample_24 : decode cX12_sample 24 = .ok (.iload_n 1, 1) := by decide +kernel
theorem dX12_sample_25 : decode cX12_sample 25 = .ok (.iaload, 1) := by decide +kernel
theorem dX12_sample_26 : decode cX12_sample 26 = .ok (.goto 6, 3) := by decide +kernel
theorem dX12_sample_29 : decode cX12_sample 29 = .ok (.ldc_w 404, 3) := by decide +kernel
theorem dX12_sample_32 : decode cX12_sample 32 = .ok (.ireturn, 1) := by decide +kernel
set_option maxRecDepth 100000 in
theorem c_X12_sample (l : Launch) (D : q_D) (al : q_Al) (dt : q_Dt) (x0 : Nat) (x1 : Int32) (x2 : Int32) (kx0 : al.1 x0 = 13) (r0 : Int32) (hm : X12_sample al dt x0 x1 x2 = some r0) : q_Mt l yX12_sample cX12_sample 3 (some FieldType.int) 2 43 D al [.ref x0, .int x1, .int x2] dt 0 (some (.int r0)) dt := by
  refine q_Mt.of (by decide) (Nat.le_of_ble_eq_true rfl) ?_
  intro p e s m args below meth c ls C hargs hW hl
  have hx := C.1
  have hb := C.2.1
  have hown := C.2.2.2.2.2.1
  have hts := C.2.2.2.2.2.2.1
  have hS : va_S (q_A al) s.heap s.heap [] := va_S.rf
  have hl : lv_has ls 3 [(0, .ref x0), (1, .int x1), (2, .int x2)] := hl
  unfold X12_sample at hm
  have hB25 : ∀ (t0_25 : Nat) (t1_25 : Int32) (kt0_25 : al.1 t0_25 = 21) (H : Heap) (locs : List Loc) (ls : Array Slot) (hm : X12_sample_b25 al dt t0_25 t1_25 = some r0) (hW : q_W D al dt H) (hS : va_S (q_A al) s.heap H locs) (hl : lv_has ls 3 []), W p l e { frames := 2, cells := 0, slots := 0, locals := 43 } s m args below meth c H locs 0 0 (MQ below (q_Q (some (.int r0)) (fun H => q_W D al dt H ∧ q_Rk al 0 (some (.int r0))) (q_A al)) args s 0 0 (q_A al)) (F0 m 25 ls [.int t1_25, .ref t0_25]) := by
    intro t0_25 t1_25 kt0_25 H locs ls hm hW hS hl
    unfold X12_sample_b25 at hm
    refine r_iald C hW hm kt0_25 dX12_sample_25 (fun hm => ?_)
    refine lv_goto (tgt := 32) hx hb dX12_sample_26 (by decide) ?_
    exact e_i C hW hS hm dX12_sample_32
  refine lv_aload_n hx hb dX12_sample_0 rfl (lv_at hl 0 rfl) ?_
  refine lv_iload_n hx hb dX12_sample_1 rfl (lv_at hl 1 rfl) ?_
  obtain ⟨v1000002, hc1000001, hm⟩ := q_b1i hm
  refine q_callV C hW hS (As := [.int x1]) (rest := []) (st1 := [.int v1000002]) (c_X12_isSample l D al dt x0 x1 kx0 v1000002 hc1000001) yl_X12_isSample vl_X12_isSample ml_RX12_401 (ci := 12) rfl kx0 (by decide) rfl ⟨Nat.le_of_ble_eq_true rfl, Nat.le_of_ble_eq_true rfl⟩ hl rfl (Nat.le_of_ble_eq_true rfl) dX12_sample_2 ⟨Nat.le_refl _, Nat.le_refl _⟩ rfl (fun H locs k1000003 hW hS => ?_)
  refine q_ifc hm (fun c1000004 hm => ?_) (fun c1000004 hm => ?_)
  · refine lv_if_eq (tgt := 29) hx hb dX12_sample_5 (by decide) (fun _ => ?_) (fun h => absurd c1000004 h)
    refine lv_ldcw (own := RX12) (v := (-1000000)) hx hb hown (hts _ wc_RX12_404) dX12_sample_29 ?_
    exact e_i C hW hS hm dX12_sample_32
  refine lv_if_eq (tgt := 29) hx hb dX12_sample_5 (by decide) (fun h => absurd h c1000004) (fun _ => ?_)
  refine lv_aload_n hx hb dX12_sample_8 rfl (lv_at hl 0 rfl) ?_
  refine r_getF C hW (ci := 12) kx0 ff_12_53 cl_12 fl_RX12_133 dX12_sample_9 (fun k1000005 => ?_)
  refine lv_iload_n hx hb dX12_sample_12 rfl (lv_at hl 2 rfl) ?_
  refine q_ifc hm (fun c1000006 hm => ?_) (fun c1000006 hm => ?_)
  · refine lv_if_eq (tgt := 24) hx hb dX12_sample_13 (by decide) (fun _ => ?_) (fun h => absurd c1000006 h)
    refine lv_iload_n hx hb dX12_sample_24 rfl (lv_at hl 1 rfl) ?_
    exact hB25 (al.2.2 x0 53) x1 k1000005 _ _ _ hm hW hS (lv_sub hl [] rfl)
  refine lv_if_eq (tgt := 24) hx hb dX12_sample_13 (by decide) (fun h => absurd h c1000006) (fun _ => ?_)
  refine lv_sipush (v := 512) hx hb dX12_sample_16 (by decide) ?_
  refine lv_iload_n hx hb dX12_sample_19 rfl (lv_at hl 1 rfl) ?_
  refine lv_iadd hx hb dX12_sample_20 ?_
  refine lv_goto (tgt := 25) hx hb dX12_sample_21 (by decide) ?_
  exact hB25 (al.2.2 x0 53) (512 + x1) k1000005 _ _ _ hm hW hS (lv_sub hl [] rfl)
theorem dX12_square_0 : decode cX12_square 0 = .ok (.lload_n 0, 1) := by decide +kernel
theorem dX12_square_1 : decode cX12_square 1 = .ok (.lload_n 0, 1) := by decide +kernel
theorem dX12_square_2 : decode cX12_square 2 = .ok (.lmul, 1) := by decide +kernel
theorem dX12_square_3 : decode cX12_square 3 = .ok (.lreturn, 1) := by decide +kernel
set_option maxRecDepth 100000 in
theorem c_X12_square (l : Launch) (D : q_D) (al : q_Al) (dt : q_Dt) (x0 : Int64) (r0 : Int64) (hm : X12_square x0 = some r0) : q_Mt l yX12_square cX12_square 2 (some FieldType.long) 0 0 D al [.long x0] dt 0 (some (.long r0)) dt := by
  refine q_Mt.of (by decide) (Nat.le_of_ble_eq_true rfl) ?_
  intro p e s m args below meth c ls C hargs hW hl
  have hx := C.1
  have hb := C.2.1
  have hown := C.2.2.2.2.2.1
  have hts := C.2.2.2.2.2.2.1
  have hS : va_S (q_A al) s.heap s.heap [] := va_S.rf
  have hl : lv_has ls 2 [(0, .long x0)] := hl
  unfold X12_square at hm
  refine lv_lload_n hx hb dX12_square_0 rfl (lv_at hl 0 rfl) ?_
  refine lv_lload_n hx hb dX12_square_1 rfl (lv_at hl 0 rfl) ?_
  refine lv_lmul hx hb dX12_square_2 ?_
  exact e_l C hW hS hm dX12_square_3
theorem dX12_powerOf_0 : decode cX12_powerOf 0 = .ok (.lconst 0, 1) := by decide +kernel
theorem dX12_powerOf_1 : decode cX12_powerOf 1 = .ok (.lstore_n 3, 1) := by decide +kernel
theorem dX12_powerOf_2 : decode cX12_powerOf 2 = .ok (.iload_n 1, 1) := by decide +kernel
theorem dX12_powerOf_3 : decode cX12_powerOf 3 = .ok (.istore 5, 2) := by decide +kernel
theorem dX12_powerOf_5 : decode cX12_powerOf 5 = .ok (.iload 5, 2) := by decide +kernel
theorem dX12_powerOf_7 : decode cX12_powerOf 7 = .ok (.iload_n 2, 1) := by decide +kernel
theorem dX12_powerOf_8 : decode cX12_powerOf 8 = .ok (.if_icmp .gt 33, 3) := by decide +kernel
theorem dX12_powerOf_11 : decode cX12_powerOf 11 = .ok (.lload_n 3, 1) := by decide +kernel
theorem dX12_powerOf_12 : decode cX12_powerOf 12 = .ok (.aload_n 0, 1) := by decide +kernel
theorem dX12_powerOf_13 : decode cX12_powerOf 13 = .ok (.iload 5, 2) := by decide +kernel
theorem dX12_powerOf_15 : decode cX12_powerOf 15 = .ok (.iaload, 1) := by decide +kernel
theorem dX12_powerOf_16 : decode cX12_powerOf 16 = .ok (.i2l, 1) := by decide +kernel
theorem dX12_powerOf_17 : decode cX12_powerOf 17 = .ok (.invokestatic 405, 3) := by decide +kernel
theorem dX12_powerOf_20 : decode cX12_powerOf 20 = .ok (.aload_n 0, 1) := by decide +kernel
theorem dX12_powerOf_21 : decode cX12_powerOf 21 = .ok (.sipush 512, 3) := by decide +kernel
theorem dX12_powerOf_24 : decode cX12_powerOf 24 = .ok (.iload 5, 2) := by decide +kernel
theorem dX12_powerOf_26 : decode cX12_powerOf 26 = .ok (.iadd, 1) := by decide +kernel
theorem dX12_powerOf_27 : decode cX12_powerOf 27 = .ok (.iaload, 1) := by decide +kernel
theorem dX12_powerOf_28 : decode cX12_powerOf 28 = .ok (.i2l, 1) := by decide +kernel
theorem dX12_powerOf_29 : decode cX12_powerOf 29 = .ok (.invokestatic 405, 3) := by decide +kernel
theorem dX12_powerOf_32 : decode cX12_powerOf 32 = .ok (.ladd, 1) := by decide +kernel
theorem dX12_powerOf_33 : decode cX12_powerOf 33 = .ok (.ladd, 1) := by decide +kernel
theorem dX12_powerOf_34 : decode cX12_powerOf 34 = .ok (.lstore_n 3, 1) := by decide +kernel
theorem dX12_powerOf_35 : decode cX12_powerOf 35 = .ok (.iinc 5 1, 3) := by decide +kernel
theorem dX12_powerOf_38 : decode cX12_powerOf 38 = .ok (.goto (-33), 3) := by decide +kernel
theorem dX12_powerOf_41 : decode cX12_powerOf 41 = .ok (.lload_n 3, 1) := by decide +kernel
theorem dX12_powerOf_42 : decode cX12_powerOf 42 = .ok (.lreturn, 1) := by decide +kernel
set_option maxRecDepth 100000 in
theorem c_X12_powerOf (l : Launch) (D : q_D) (al : q_Al) (dt : q_Dt) (x0 : Nat) (x1 : Int32) (x2 : Int32) (kx0 : al.1 x0 = 21) (r0 : Int64) (hm : X12_powerOf al dt x0 x1 x2 = some r0) : q_Mt l yX12_powerOf cX12_powerOf 6 (some FieldType.long) 1 21 D al [.ref x0, .int x1, .int x2] dt 0 (some (.long r0)) dt := by
  refine q_Mt.of (by decide) (Nat.le_of_ble_eq_true rfl) ?_
  intro p e s m args below meth c ls C hargs hW hl
  have hx := C.1
  have hb := C.2.1
  have hown := C.2.2.2.2.2.1
  have hts := C.2.2.2.2.2.2.1
  have hS : va_S (q_A al) s.heap s.heap [] := va_S.rf
  have hl : lv_has ls 6 [(0, .ref x0), (1, .int x1), (2, .int x2)] := hl
  unfold X12_powerOf at hm
  have hB5 : ∀ (x0_5 : Nat) (x2_5 : Int32) (kx0_5 : al.1 x0_5 = 21) (n_5 : Nat) (x3_5 : Int64) (x5_5 : Int32) (H : Heap) (locs : List Loc) (ls : Array Slot) (hm : X12_powerOf_b5 al dt x0_5 x2_5 n_5 x3_5 x5_5 = some r0) (hW : q_W D al dt H) (hS : va_S (q_A al) s.heap H locs) (hl : lv_has ls 6 [(0, .ref x0_5), (2, .int x2_5), (3, .long x3_5), (5, .int x5_5)]), W p l e { frames := 1, cells := 0, slots := 0, locals := 21 } s m args below meth c H locs 0 0 (MQ below (q_Q (some (.long r0)) (fun H => q_W D al dt H ∧ q_Rk al 0 (some (.long r0))) (q_A al)) args s 0 0 (q_A al)) (F0 m 5 ls []) := by
    intro x0_5 x2_5 kx0_5
    intro n_5
    induction n_5 with
    | zero => intro x3_5 x5_5 H locs ls hm hW hS hl; cases hm
    | succ n_5 ih5 =>
      intro x3_5 x5_5 H locs ls hm hW hS hl
      rw [X12_powerOf_b5] at hm
      refine lv_iload hx hb dX12_powerOf_5 (lv_at hl 3 rfl) ?_
      refine lv_iload_n hx hb dX12_powerOf_7 rfl (lv_at hl 1 rfl) ?_
      refine q_ifc hm (fun c5001 hm => ?_) (fun c5001 hm => ?_)
      · refine lv_icmp_gt (tgt := 41) hx hb dX12_powerOf_8 (by decide) (fun _ => ?_) (fun h => absurd c5001 h)
        refine lv_lload_n hx hb dX12_powerOf_41 rfl (lv_at hl 2 rfl) ?_
        exact e_l C hW hS hm dX12_powerOf_42
      refine lv_icmp_gt (tgt := 41) hx hb dX12_powerOf_8 (by decide) (fun h => absurd h c5001) (fun _ => ?_)
      refine lv_lload_n hx hb dX12_powerOf_11 rfl (lv_at hl 2 rfl) ?_
      refine lv_aload_n hx hb dX12_powerOf_12 rfl (lv_at hl 0 rfl) ?_
      refine lv_iload hx hb dX12_powerOf_13 (lv_at hl 3 rfl) ?_
      refine r_iald C hW hm kx0_5 dX12_powerOf_15 (fun hm => ?_)
      refine lv_i2l (v := (Int32.toInt64 (dt.1 x0_5 (Int32.toNatClampNeg x5_5)))) hx hb dX12_powerOf_16 rfl ?_
      obtain ⟨v5003, hc5002, hm⟩ := q_b1i hm
      refine q_callS C hW hS (As := [.long (Int32.toInt64 (dt.1 x0_5 (Int32.toNatClampNeg x5_5)))]) (rest := [.long x3_5]) (st1 := [.long v5003, .long x3_5]) (c_X12_square l D al dt (Int32.toInt64 (dt.1 x0_5 (Int32.toNatClampNeg x5_5))) v5003 hc5002) yl_X12_square sl_X12_square ml_RX12_405 rfl ⟨Nat.le_of_ble_eq_true rfl, Nat.le_of_ble_eq_true rfl⟩ hl rfl (Nat.le_of_ble_eq_true rfl) dX12_powerOf_17 ⟨Nat.le_refl _, Nat.le_refl _⟩ rfl (fun H locs k5004 hW hS => ?_)
      refine lv_aload_n hx hb dX12_powerOf_20 rfl (lv_at hl 0 rfl) ?_
      refine lv_sipush (v := 512) hx hb dX12_powerOf_21 (by decide) ?_
      refine lv_iload hx hb dX12_powerOf_24 (lv_at hl 3 rfl) ?_
      refine lv_iadd hx hb dX12_powerOf_26 ?_
      refine r_iald C hW hm kx0_5 dX12_powerOf_27 (fun hm => ?_)
      refine lv_i2l (v := (Int32.toInt64 (dt.1 x0_5 (Int32.toNatClampNeg (512 + x5_5))))) hx hb dX12_powerOf_28 rfl ?_
      obtain ⟨v5006, hc5005, hm⟩ := q_b1i hm
      refine q_callS C hW hS (As := [.long (Int32.toInt64 (dt.1 x0_5 (Int32.toNatClampNeg (512 + x5_5))))]) (rest := [.long v5003, .long x3_5]) (st1 := [.long v5006, .long v5003, .long x3_5]) (c_X12_square l D al dt (Int32.toInt64 (dt.1 x0_5 (Int32.toNatClampNeg (512 + x5_5)))) v5006 hc5005) yl_X12_square sl_X12_square ml_RX12_405 rfl ⟨Nat.le_of_ble_eq_true rfl, Nat.le_of_ble_eq_true rfl⟩ hl rfl (Nat.le_of_ble_eq_true rfl) dX12_powerOf_29 ⟨Nat.le_refl _, Nat.le_refl _⟩ rfl (fun H locs k5007 hW hS => ?_)
      refine lv_ladd hx hb dX12_powerOf_32 ?_
      refine lv_ladd hx hb dX12_powerOf_33 ?_
      refine lv_lstore_n (i := 3) (lv' := [(3, .long (x3_5 + (v5003 + v5006))), (0, .ref x0_5), (2, .int x2_5), (5, .int x5_5)]) hx hb dX12_powerOf_34 rfl hl (by decide) rfl (fun ls hl => ?_)
      refine lv_iinc (v := (x5_5 + 1)) (lv' := [(5, .int (x5_5 + 1)), (3, .long (x3_5 + (v5003 + v5006))), (0, .ref x0_5), (2, .int x2_5)]) hx hb dX12_powerOf_35 hl (k := 3) rfl rfl (by decide) rfl (fun ls hl => ?_)
      refine lv_goto (tgt := 5) hx hb dX12_powerOf_38 (by decide) ?_
      exact ih5 (x3_5 + (v5003 + v5006)) (x5_5 + 1) _ _ _ hm hW hS (lv_sub hl [2, 3, 1, 0] rfl)
  refine lv_lconst (v := 0) hx hb dX12_powerOf_0 rfl ?_
  refine lv_lstore_n (i := 3) (lv' := [(3, .long 0), (0, .ref x0), (1, .int x1), (2, .int x2)]) hx hb dX12_powerOf_1 rfl hl (by decide) rfl (fun ls hl => ?_)
  refine lv_iload_n hx hb dX12_powerOf_2 rfl (lv_at hl 2 rfl) ?_
  refine lv_istore (i := 5) (lv' := [(5, .int x1), (3, .long 0), (0, .ref x0), (1, .int x1), (2, .int x2)]) hx hb dX12_powerOf_3 hl (by decide) rfl (fun ls hl => ?_)
  exact hB5 x0 x2 kx0 q_FU 0 x1 _ _ _ hm hW hS (lv_sub hl [2, 4, 1, 0] rfl)
theorem dX12_power_0 : decode cX12_power 0 = .ok (.aload_n 0, 1) := by decide +kernel
theorem dX12_power_1 : decode cX12_power 1 = .ok (.iload_n 1, 1) := by decide +kernel
theorem dX12_power_2 : decode cX12_power 2 = .ok (.invokevirtual 401, 3) := by decide +kernel
theorem dX12_power_5 : decode cX12_power 5 = .ok (.ifCond .eq 28, 3) := by decide +kernel
theorem dX12_power_8 : decode cX12_power 8 = .ok (.aload_n 0, 1) := by decide +kernel
theorem dX12_power_9 : decode cX12_power 9 = .ok (.iload_n 2, 1) := by decide +kernel
theorem dX12_power_10 : decode cX12_power 10 = .ok (.invokevirtual 401, 3) := by decide +kernel
theorem dX12_power_13 : decode cX12_power 13 = .ok (.ifCond .eq 20, 3) := by decide +kernel
theorem dX12_power_16 : decode cX12_power 16 = .ok (.iload_n 1, 1) := by decide +kernel
theorem dX12_power_17 : decode cX12_power 17 = .ok (.iload_n 2, 1) := by decide +kernel
theorem dX12_power_18 : decode cX12_power 18 = .ok (.if_icmp .gt 15, 3) := by decide +kernel
theorem dX12_power_21 : decode cX12_power 21 = .ok (.aload_n 0, 1) := by decide +kernel
theorem dX12_power_22 : decode cX12_power 22 = .ok (.getfield 133, 3) := by decide +kernel
theorem dX12_power_25 : decode cX12_power 25 = .ok (.iload_n 1, 1) := by decide +kernel
theorem dX12_power_26 : decode cX12_power 26 = .ok (.iload_n 2, 1) := by decide +kernel
theorem dX12_power_27 : decode cX12_power 27 = .ok (.invokestatic 409, 3) := by decide +kernel
theorem dX12_power_30 : decode cX12_power 30 = .ok (.goto 6, 3) := by decide +kernel
theorem dX12_power_33 : decode cX12_power 33 = .ok (.ldc2_w 413, 3) := by decide +kernel
theorem dX12_power_36 : decode cX12_power 36 = .ok (.lreturn, 1) := by decide +kernel
set_option maxRecDepth 100000 in
theorem c_X12_power (l : Launch) (D : q_D) (al : q_Al) (dt : q_Dt) (x0 : Nat) (x1 : Int32) (x2 : Int32) (kx0 : al.1 x0 = 13) (r0 : Int64) (hm : X12_power al dt x0 x1 x2 = some r0) : q_Mt l yX12_power cX12_power 3 (some FieldType.long) 2 46 D al [.ref x0, .int x1, .int x2] dt 0 (some (.long r0)) dt := by
  refine q_Mt.of (by decide) (Nat.le_of_ble_eq_true rfl) ?_
  intro p e s m args below meth c ls C hargs hW hl
  have hx := C.1
  have hb := C.2.1
  have hown := C.2.2.2.2.2.1
  have hts := C.2.2.2.2.2.2.1
  have hS : va_S (q_A al) s.heap s.heap [] := va_S.rf
  have hl : lv_has ls 3 [(0, .ref x0), (1, .int x1), (2, .int x2)] := hl
  unfold X12_power at hm
  have hB33 : ∀ (H : Heap) (locs : List Loc) (ls : Array Slot) (hm : X12_power_b33 al dt = some r0) (hW : q_W D al dt H) (hS : va_S (q_A al) s.heap H locs) (hl : lv_has ls 3 []), W p l e { frames := 2, cells := 0, slots := 0, locals := 46 } s m args below meth c H locs 0 0 (MQ below (q_Q (some (.long r0)) (fun H => q_W D al dt H ∧ q_Rk al 0 (some (.long r0))) (q_A al)) args s 0 0 (q_A al)) (F0 m 33 ls []) := by
    intro H locs ls hm hW hS hl
    unfold X12_power_b33 at hm
    refine lv_ldc2 (own := RX12) (v := (-1)) hx hb hown (hts _ wc_RX12_413) dX12_power_33 ?_
    exact e_l C hW hS hm dX12_power_36
  refine lv_aload_n hx hb dX12_power_0 rfl (lv_at hl 0 rfl) ?_
  refine lv_iload_n hx hb dX12_power_1 rfl (lv_at hl 1 rfl) ?_
  obtain ⟨v1000002, hc1000001, hm⟩ := q_b1i hm
  refine q_callV C hW hS (As := [.int x1]) (rest := []) (st1 := [.int v1000002]) (c_X12_isSample l D al dt x0 x1 kx0 v1000002 hc1000001) yl_X12_isSample vl_X12_isSample ml_RX12_401 (ci := 12) rfl kx0 (by decide) rfl ⟨Nat.le_of_ble_eq_true rfl, Nat.le_of_ble_eq_true rfl⟩ hl rfl (Nat.le_of_ble_eq_true rfl) dX12_power_2 ⟨Nat.le_refl _, Nat.le_refl _⟩ rfl (fun H locs k1000003 hW hS => ?_)
  refine q_ifc hm (fun c1000004 hm => ?_) (fun c1000004 hm => ?_)
  · refine lv_if_eq (tgt := 33) hx hb dX12_power_5 (by decide) (fun _ => ?_) (fun h => absurd c1000004 h)
    exact hB33 _ _ _ hm hW hS (lv_sub hl [] rfl)
  refine lv_if_eq (tgt := 33) hx hb dX12_power_5 (by decide) (fun h => absurd h c1000004) (fun _ => ?_)
  refine lv_aload_n hx hb dX12_power_8 rfl (lv_at hl 0 rfl) ?_
  refine lv_iload_n hx hb dX12_power_9 rfl (lv_at hl 2 rfl) ?_
  obtain ⟨v1000006, hc1000005, hm⟩ := q_b1i hm
  refine q_callV C hW hS (As := [.int x2]) (rest := []) (st1 := [.int v1000006]) (c_X12_isSample l D al dt x0 x2 kx0 v1000006 hc1000005) yl_X12_isSample vl_X12_isSample ml_RX12_401 (ci := 12) rfl kx0 (by decide) rfl ⟨Nat.le_of_ble_eq_true rfl, Nat.le_of_ble_eq_true rfl⟩ hl rfl (Nat.le_of_ble_eq_true rfl) dX12_power_10 ⟨Nat.le_refl _, Nat.le_refl _⟩ rfl (fun H locs k1000007 hW hS => ?_)
  refine q_ifc hm (fun c1000008 hm => ?_) (fun c1000008 hm => ?_)
  · refine lv_if_eq (tgt := 33) hx hb dX12_power_13 (by decide) (fun _ => ?_) (fun h => absurd c1000008 h)
    exact hB33 _ _ _ hm hW hS (lv_sub hl [] rfl)
  refine lv_if_eq (tgt := 33) hx hb dX12_power_13 (by decide) (fun h => absurd h c1000008) (fun _ => ?_)
  refine lv_iload_n hx hb dX12_power_16 rfl (lv_at hl 1 rfl) ?_
  refine lv_iload_n hx hb dX12_power_17 rfl (lv_at hl 2 rfl) ?_
  refine q_ifc hm (fun c1000009 hm => ?_) (fun c1000009 hm => ?_)
  · refine lv_icmp_gt (tgt := 33) hx hb dX12_power_18 (by decide) (fun _ => ?_) (fun h => absurd c1000009 h)
    exact hB33 _ _ _ hm hW hS (lv_sub hl [] rfl)
  refine lv_icmp_gt (tgt := 33) hx hb dX12_power_18 (by decide) (fun h => absurd h c1000009) (fun _ => ?_)
  refine lv_aload_n hx hb dX12_power_21 rfl (lv_at hl 0 rfl) ?_
  refine r_getF C hW (ci := 12) kx0 ff_12_53 cl_12 fl_RX12_133 dX12_power_22 (fun k1000010 => ?_)
  refine lv_iload_n hx hb dX12_power_25 rfl (lv_at hl 1 rfl) ?_
  refine lv_iload_n hx hb dX12_power_26 rfl (lv_at hl 2 rfl) ?_
  obtain ⟨v1000012, hc1000011, hm⟩ := q_b1i hm
  refine q_callS C hW hS (As := [.ref (al.2.2 x0 53), .int x1, .int x2]) (rest := []) (st1 := [.long v1000012]) (c_X12_powerOf l D al dt (al.2.2 x0 53) x1 x2 k1000010 v1000012 hc1000011) yl_X12_powerOf sl_X12_powerOf ml_RX12_409 rfl ⟨Nat.le_of_ble_eq_true rfl, Nat.le_of_ble_eq_true rfl⟩ hl rfl (Nat.le_of_ble_eq_true rfl) dX12_power_27 ⟨Nat.le_refl _, Nat.le_refl _⟩ rfl (fun H locs k1000013 hW hS => ?_)
  refine lv_goto (tgt := 36) hx hb dX12_power_30 (by decide) ?_
  exact e_l C hW hS hm dX12_power_36
