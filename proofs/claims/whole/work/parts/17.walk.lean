theorem dX6_delayOfRank_0 : decode cX6_delayOfRank 0 = .ok (.iconst 0, 1) := by decide +kernel
theorem dX6_delayOfRank_1 : decode cX6_delayOfRank 1 = .ok (.istore_n 3, 1) := by decide +kernel
theorem dX6_delayOfRank_2 : decode cX6_delayOfRank 2 = .ok (.iload_n 3, 1) := by decide +kernel
theorem dX6_delayOfRank_3 : decode cX6_delayOfRank 3 = .ok (.aload_n 0, 1) := by decide +kernel
theorem dX6_delayOfRank_4 : decode cX6_delayOfRank 4 = .ok (.getfield 26, 3) := by decide +kernel
theorem dX6_delayOfRank_7 : decode cX6_delayOfRank 7 = .ok (.if_icmp .ge 21, 3) := by decide +kernel
theorem dX6_delayOfRank_10 : decode cX6_delayOfRank 10 = .ok (.aload_n 0, 1) := by decide +kernel
theorem dX6_delayOfRank_11 : decode cX6_delayOfRank 11 = .ok (.iload_n 3, 1) := by decide +kernel
theorem dX6_delayOfRank_12 : decode cX6_delayOfRank 12 = .ok (.iload_n 1, 1) := by decide +kernel
theorem dX6_delayOfRank_13 : decode cX6_delayOfRank 13 = .ok (.invokevirtual 76, 3) := by decide +kernel
theorem dX6_delayOfRank_16 : decode cX6_delayOfRank 16 = .ok (.iload_n 2, 1) := by decide +kernel
theorem dX6_delayOfRank_17 : decode cX6_delayOfRank 17 = .ok (.if_icmp .ne 5, 3) := by decide +kernel
theorem dX6_delayOfRank_20 : decode cX6_delayOfRank 20 = .ok (.iload_n 3, 1) := by decide +kernel
theorem dX6_delayOfRank_21 : decode cX6_delayOfRank 21 = .ok (.ireturn, 1) := by decide +kernel
theorem dX6_delayOfRank_22 : decode cX6_delayOfRank 22 = .ok (.iinc 3 1, 3) := by decide +kernel
theorem dX6_delayOfRank_25 : decode cX6_delayOfRank 25 = .ok (.goto (-23), 3) := by decide +kernel
theorem dX6_delayOfRank_28 : decode cX6_delayOfRank 28 = .ok (.iconst (-1), 1) := by decide +kernel
theorem dX6_delayOfRank_29 : decode cX6_delayOfRank 29 = .ok (.ireturn, 1) := by decide +kernel
set_option maxRecDepth 100000 in
theorem c_X6_delayOfRank (l : Launch) (D : q_D) (al : q_Al) (dt : q_Dt) (x0 : Nat) (x1 : Int32) (x2 : Int32) (kx0 : al.1 x0 = 7) (r0 : Int32) (hm : X6_delayOfRank al dt x0 x1 x2 = some r0) : q_Mt l yX6_delayOfRank cX6_delayOfRank 4 (some FieldType.int) 2 49 D al [.ref x0, .int x1, .int x2] dt 0 (some (.int r0)) dt := by
  refine q_Mt.of (by decide) (Nat.le_of_ble_eq_true rfl) ?_
  intro p e s m args below meth c ls C hargs hW hl
  have hx := C.1
  have hb := C.2.1
  have hown := C.2.2.2.2.2.1
  have hts := C.2.2.2.2.2.2.1
  have hS : va_S (q_A al) s.heap s.heap [] := va_S.rf
  have hl : lv_has ls 4 [(0, .ref x0), (1, .int x1), (2, .int x2)] := hl
  unfold X6_delayOfRank at hm
  have hB2 : ∀ (x0_2 : Nat) (x1_2 : Int32) (x2_2 : Int32) (kx0_2 : al.1 x0_2 = 7) (n_2 : Nat) (x3_2 : Int32) (H : Heap) (locs : List Loc) (ls : Array Slot) (hm : X6_delayOfRank_b2 al dt x0_2 x1_2 x2_2 n_2 x3_2 = some r0) (hW : q_W D al dt H) (hS : va_S (q_A al) s.heap H locs) (hl : lv_has ls 4 [(0, .ref x0_2), (1, .int x1_2), (2, .int x2_2), (3, .int x3_2)]), W p l e { frames := 2, cells := 0, slots := 0, locals := 49 } s m args below meth c H locs 0 0 (MQ below (q_Q (some (.int r0)) (fun H => q_W D al dt H ∧ q_Rk al 0 (some (.int r0))) (q_A al)) args s 0 0 (q_A al)) (F0 m 2 ls []) := by
    intro x0_2 x1_2 x2_2 kx0_2
    intro n_2
    induction n_2 with
    | zero => intro x3_2 H locs ls hm hW hS hl; cases hm
    | succ n_2 ih2 =>
      intro x3_2 H locs ls hm hW hS hl
      rw [X6_delayOfRank_b2] at hm
      refine lv_iload_n hx hb dX6_delayOfRank_2 rfl (lv_at hl 3 rfl) ?_
      refine lv_aload_n hx hb dX6_delayOfRank_3 rfl (lv_at hl 0 rfl) ?_
      refine r_getI C hW (ci := 6) kx0_2 ff_6_3 cl_6 fl_RX6_26 dX6_delayOfRank_4 ?_
      refine q_ifc hm (fun c2001 hm => ?_) (fun c2001 hm => ?_)
      · refine lv_icmp_ge (tgt := 28) hx hb dX6_delayOfRank_7 (by decide) (fun _ => ?_) (fun h => absurd c2001 h)
        refine lv_iconst (v := (-1)) hx hb dX6_delayOfRank_28 (by decide) ?_
        exact e_i C hW hS hm dX6_delayOfRank_29
      refine lv_icmp_ge (tgt := 28) hx hb dX6_delayOfRank_7 (by decide) (fun h => absurd h c2001) (fun _ => ?_)
      refine lv_aload_n hx hb dX6_delayOfRank_10 rfl (lv_at hl 0 rfl) ?_
      refine lv_iload_n hx hb dX6_delayOfRank_11 rfl (lv_at hl 3 rfl) ?_
      refine lv_iload_n hx hb dX6_delayOfRank_12 rfl (lv_at hl 1 rfl) ?_
      obtain ⟨v2003, hc2002, hm⟩ := q_b1i hm
      refine q_callV C hW hS (As := [.int x3_2, .int x1_2]) (rest := []) (st1 := [.int v2003]) (c_X6_rankOf l D al dt x0_2 x3_2 x1_2 kx0_2 v2003 hc2002) yl_X6_rankOf vl_X6_rankOf ml_RX6_76 (ci := 6) rfl kx0_2 (by decide) rfl ⟨Nat.le_of_ble_eq_true rfl, Nat.le_of_ble_eq_true rfl⟩ hl rfl (Nat.le_of_ble_eq_true rfl) dX6_delayOfRank_13 ⟨Nat.le_refl _, Nat.le_refl _⟩ rfl (fun H locs k2004 hW hS => ?_)
      refine lv_iload_n hx hb dX6_delayOfRank_16 rfl (lv_at hl 2 rfl) ?_
      refine q_ifc hm (fun c2005 hm => ?_) (fun c2005 hm => ?_)
      · refine lv_icmp_ne (tgt := 22) hx hb dX6_delayOfRank_17 (by decide) (fun h => absurd c2005 h) (fun _ => ?_)
        refine lv_iload_n hx hb dX6_delayOfRank_20 rfl (lv_at hl 3 rfl) ?_
        exact e_i C hW hS hm dX6_delayOfRank_21
      refine lv_icmp_ne (tgt := 22) hx hb dX6_delayOfRank_17 (by decide) (fun _ => ?_) (fun h => absurd h c2005)
      refine lv_iinc (v := (x3_2 + 1)) (lv' := [(3, .int (x3_2 + 1)), (0, .ref x0_2), (1, .int x1_2), (2, .int x2_2)]) hx hb dX6_delayOfRank_22 hl (k := 3) rfl rfl (by decide) rfl (fun ls hl => ?_)
      refine lv_goto (tgt := 2) hx hb dX6_delayOfRank_25 (by decide) ?_
      exact ih2 (x3_2 + 1) _ _ _ hm hW hS (lv_sub hl [1, 2, 3, 0] rfl)
  refine lv_iconst (v := 0) hx hb dX6_delayOfRank_0 (by decide) ?_
  refine lv_istore_n (i := 3) (lv' := [(3, .int 0), (0, .ref x0), (1, .int x1), (2, .int x2)]) hx hb dX6_delayOfRank_1 rfl hl (by decide) rfl (fun ls hl => ?_)
  exact hB2 x0 x1 x2 kx0 q_FU 0 _ _ _ hm hW hS (lv_sub hl [1, 2, 3, 0] rfl)
theorem dX6_cellsFrom_0 : decode cX6_cellsFrom 0 = .ok (.iconst 0, 1) := by decide +kernel
theorem dX6_cellsFrom_1 : decode cX6_cellsFrom 1 = .ok (.istore_n 3, 1) := by decide +kernel
theorem dX6_cellsFrom_2 : decode cX6_cellsFrom 2 = .ok (.iconst 0, 1) := by decide +kernel
theorem dX6_cellsFrom_3 : decode cX6_cellsFrom 3 = .ok (.istore 4, 2) := by decide +kernel
theorem dX6_cellsFrom_5 : decode cX6_cellsFrom 5 = .ok (.iload 4, 2) := by decide +kernel
theorem dX6_cellsFrom_7 : decode cX6_cellsFrom 7 = .ok (.iconst 4, 1) := by decide +kernel
theorem dX6_cellsFrom_8 : decode cX6_cellsFrom 8 = .ok (.aload_n 0, 1) := by decide +kernel
theorem dX6_cellsFrom_9 : decode cX6_cellsFrom 9 = .ok (.getfield 26, 3) := by decide +kernel
theorem dX6_cellsFrom_12 : decode cX6_cellsFrom 12 = .ok (.imul, 1) := by decide +kernel
theorem dX6_cellsFrom_13 : decode cX6_cellsFrom 13 = .ok (.if_icmp .ge 31, 3) := by decide +kernel
theorem dX6_cellsFrom_16 : decode cX6_cellsFrom 16 = .ok (.iload_n 3, 1) := by decide +kernel
theorem dX6_cellsFrom_17 : decode cX6_cellsFrom 17 = .ok (.aload_n 0, 1) := by decide +kernel
theorem dX6_cellsFrom_18 : decode cX6_cellsFrom 18 = .ok (.getfield 23, 3) := by decide +kernel
theorem dX6_cellsFrom_21 : decode cX6_cellsFrom 21 = .ok (.iload 4, 2) := by decide +kernel
theorem dX6_cellsFrom_23 : decode cX6_cellsFrom 23 = .ok (.invokevirtual 68, 3) := by decide +kernel
theorem dX6_cellsFrom_26 : decode cX6_cellsFrom 26 = .ok (.lload_n 1, 1) := by decide +kernel
theorem dX6_cellsFrom_27 : decode cX6_cellsFrom 27 = .ok (.lcmp, 1) := by decide +kernel
theorem dX6_cellsFrom_28 : decode cX6_cellsFrom 28 = .ok (.ifCond .lt 7, 3) := by decide +kernel
theorem dX6_cellsFrom_31 : decode cX6_cellsFrom 31 = .ok (.iconst 1, 1) := by decide +kernel
theorem dX6_cellsFrom_32 : decode cX6_cellsFrom 32 = .ok (.goto 4, 3) := by decide +kernel
theorem dX6_cellsFrom_35 : decode cX6_cellsFrom 35 = .ok (.iconst 0, 1) := by decide +kernel
theorem dX6_cellsFrom_36 : decode cX6_cellsFrom 36 = .ok (.iadd, 1) := by decide +kernel
theorem dX6_cellsFrom_37 : decode cX6_cellsFrom 37 = .ok (.istore_n 3, 1) := by decide +kernel
theorem dX6_cellsFrom_38 : decode cX6_cellsFrom 38 = .ok (.iinc 4 1, 3) := by decide +kernel
theorem dX6_cellsFrom_41 : decode cX6_cellsFrom 41 = .ok (.goto (-36), 3) := by decide +kernel
theorem dX6_cellsFrom_44 : decode cX6_cellsFrom 44 = .ok (.iload_n 3, 1) := by decide +kernel
theorem dX6_cellsFrom_45 : decode cX6_cellsFrom 45 = .ok (.ireturn, 1) := by decide +kernel
set_option maxRecDepth 100000 in
theorem c_X6_cellsFrom (l : Launch) (D : q_D) (al : q_Al) (dt : q_Dt) (x0 : Nat) (x1 : Int64) (kx0 : al.1 x0 = 7) (r0 : Int32) (hm : X6_cellsFrom al dt x0 x1 = some r0) : q_Mt l yX6_cellsFrom cX6_cellsFrom 5 (some FieldType.int) 1 21 D al [.ref x0, .long x1] dt 0 (some (.int r0)) dt := by
  refine q_Mt.of (by decide) (Nat.le_of_ble_eq_true rfl) ?_
  intro p e s m args below meth c ls C hargs hW hl
  have hx := C.1
  have hb := C.2.1
  have hown := C.2.2.2.2.2.1
  have hts := C.2.2.2.2.2.2.1
  have hS : va_S (q_A al) s.heap s.heap [] := va_S.rf
  have hl : lv_has ls 5 [(0, .ref x0), (1, .long x1)] := hl
  unfold X6_cellsFrom at hm
  have hB5 : ∀ (x0_5 : Nat) (x1_5 : Int64) (kx0_5 : al.1 x0_5 = 7) (n_5 : Nat) (x3_5 : Int32) (x4_5 : Int32) (H : Heap) (locs : List Loc) (ls : Array Slot) (hm : X6_cellsFrom_b5 al dt x0_5 x1_5 n_5 x3_5 x4_5 = some r0) (hW : q_W D al dt H) (hS : va_S (q_A al) s.heap H locs) (hl : lv_has ls 5 [(0, .ref x0_5), (1, .long x1_5), (3, .int x3_5), (4, .int x4_5)]), W p l e { frames := 1, cells := 0, slots := 0, locals := 21 } s m args below meth c H locs 0 0 (MQ below (q_Q (some (.int r0)) (fun H => q_W D al dt H ∧ q_Rk al 0 (some (.int r0))) (q_A al)) args s 0 0 (q_A al)) (F0 m 5 ls []) := by
    intro x0_5 x1_5 kx0_5
    intro n_5
    induction n_5 with
    | zero => intro x3_5 x4_5 H locs ls hm hW hS hl; cases hm
    | succ n_5 ih5 =>
      have hB36 : ∀ (x4_36 : Int32) (t0_36 : Int32) (t1_36 : Int32) (H : Heap) (locs : List Loc) (ls : Array Slot) (hm : X6_cellsFrom_b36 al dt (X6_cellsFrom_b5 al dt x0_5 x1_5 n_5) x0_5 x1_5 x4_36 t0_36 t1_36 = some r0) (hW : q_W D al dt H) (hS : va_S (q_A al) s.heap H locs) (hl : lv_has ls 5 [(0, .ref x0_5), (1, .long x1_5), (4, .int x4_36)]), W p l e { frames := 1, cells := 0, slots := 0, locals := 21 } s m args below meth c H locs 0 0 (MQ below (q_Q (some (.int r0)) (fun H => q_W D al dt H ∧ q_Rk al 0 (some (.int r0))) (q_A al)) args s 0 0 (q_A al)) (F0 m 36 ls [.int t1_36, .int t0_36]) := by
        intro x4_36 t0_36 t1_36 H locs ls hm hW hS hl
        unfold X6_cellsFrom_b36 at hm
        refine lv_iadd hx hb dX6_cellsFrom_36 ?_
        refine lv_istore_n (i := 3) (lv' := [(3, .int (t0_36 + t1_36)), (0, .ref x0_5), (1, .long x1_5), (4, .int x4_36)]) hx hb dX6_cellsFrom_37 rfl hl (by decide) rfl (fun ls hl => ?_)
        refine lv_iinc (v := (x4_36 + 1)) (lv' := [(4, .int (x4_36 + 1)), (3, .int (t0_36 + t1_36)), (0, .ref x0_5), (1, .long x1_5)]) hx hb dX6_cellsFrom_38 hl (k := 3) rfl rfl (by decide) rfl (fun ls hl => ?_)
        refine lv_goto (tgt := 5) hx hb dX6_cellsFrom_41 (by decide) ?_
        exact ih5 (t0_36 + t1_36) (x4_36 + 1) _ _ _ hm hW hS (lv_sub hl [2, 3, 1, 0] rfl)
      intro x3_5 x4_5 H locs ls hm hW hS hl
      rw [X6_cellsFrom_b5] at hm
      refine lv_iload hx hb dX6_cellsFrom_5 (lv_at hl 3 rfl) ?_
      refine lv_iconst (v := 4) hx hb dX6_cellsFrom_7 (by decide) ?_
      refine lv_aload_n hx hb dX6_cellsFrom_8 rfl (lv_at hl 0 rfl) ?_
      refine r_getI C hW (ci := 6) kx0_5 ff_6_3 cl_6 fl_RX6_26 dX6_cellsFrom_9 ?_
      refine lv_imul hx hb dX6_cellsFrom_12 ?_
      refine q_ifc hm (fun c5001 hm => ?_) (fun c5001 hm => ?_)
      · refine lv_icmp_ge (tgt := 44) hx hb dX6_cellsFrom_13 (by decide) (fun _ => ?_) (fun h => absurd c5001 h)
        refine lv_iload_n hx hb dX6_cellsFrom_44 rfl (lv_at hl 2 rfl) ?_
        exact e_i C hW hS hm dX6_cellsFrom_45
      refine lv_icmp_ge (tgt := 44) hx hb dX6_cellsFrom_13 (by decide) (fun h => absurd h c5001) (fun _ => ?_)
      refine lv_iload_n hx hb dX6_cellsFrom_16 rfl (lv_at hl 2 rfl) ?_
      refine lv_aload_n hx hb dX6_cellsFrom_17 rfl (lv_at hl 0 rfl) ?_
      refine r_getF C hW (ci := 6) kx0_5 ff_6_2 cl_6 fl_RX6_23 dX6_cellsFrom_18 (fun k5002 => ?_)
      refine lv_iload hx hb dX6_cellsFrom_21 (lv_at hl 3 rfl) ?_
      obtain ⟨v5004, hc5003, hm⟩ := q_b1i hm
      refine q_callV C hW hS (As := [.int x4_5]) (rest := [.int x3_5]) (st1 := [.long v5004, .int x3_5]) (c_X5_at l D al dt (al.2.2 x0_5 2) x4_5 k5002 v5004 hc5003) yl_X5_at vl_X5_at ml_RX6_68 (ci := 5) rfl k5002 (by decide) rfl ⟨Nat.le_of_ble_eq_true rfl, Nat.le_of_ble_eq_true rfl⟩ hl rfl (Nat.le_of_ble_eq_true rfl) dX6_cellsFrom_23 ⟨Nat.le_refl _, Nat.le_refl _⟩ rfl (fun H locs k5005 hW hS => ?_)
      refine lv_lload_n hx hb dX6_cellsFrom_26 rfl (lv_at hl 1 rfl) ?_
      refine W.lcmp hx hb dX6_cellsFrom_27 ?_
      refine q_ifc hm (fun c5006 hm => ?_) (fun c5006 hm => ?_)
      · refine lv_if_lt (tgt := 35) hx hb dX6_cellsFrom_28 (by decide) (fun _ => ?_) (fun h => absurd (q_cmp_lt.mpr c5006) h)
        refine lv_iconst (v := 0) hx hb dX6_cellsFrom_35 (by decide) ?_
        exact hB36 x4_5 x3_5 0 _ _ _ hm hW hS (lv_sub hl [0, 1, 3] rfl)
      refine lv_if_lt (tgt := 35) hx hb dX6_cellsFrom_28 (by decide) (fun h => absurd (q_cmp_lt.mp h) c5006) (fun _ => ?_)
      refine lv_iconst (v := 1) hx hb dX6_cellsFrom_31 (by decide) ?_
      refine lv_goto (tgt := 36) hx hb dX6_cellsFrom_32 (by decide) ?_
      exact hB36 x4_5 x3_5 1 _ _ _ hm hW hS (lv_sub hl [0, 1, 3] rfl)
  refine lv_iconst (v := 0) hx hb dX6_cellsFrom_0 (by decide) ?_
  refine lv_istore_n (i := 3) (lv' := [(3, .int 0), (0, .ref x0), (1, .long x1)]) hx hb dX6_cellsFrom_1 rfl hl (by decide) rfl (fun ls hl => ?_)
  refine lv_iconst (v := 0) hx hb dX6_cellsFrom_2 (by decide) ?_
  refine lv_istore (i := 4) (lv' := [(4, .int 0), (3, .int 0), (0, .ref x0), (1, .long x1)]) hx hb dX6_cellsFrom_3 hl (by decide) rfl (fun ls hl => ?_)
  exact hB5 x0 x1 kx0 q_FU 0 0 _ _ _ hm hW hS (lv_sub hl [2, 3, 1, 0] rfl)
theorem dX6_looksTill_0 : decode cX6_looksTill 0 = .ok (.iload_n 1, 1) := by decide +kernel
theorem dX6_looksTill_1 : decode cX6_looksTill 1 = .ok (.istore 5, 2) := by decide +kernel
theorem dX6_looksTill_3 : decode cX6_looksTill 3 = .ok (.iconst 1, 1) := by decide +kernel
theorem dX6_looksTill_4 : decode cX6_looksTill 4 = .ok (.istore 6, 2) := by decide +kernel
theorem dX6_looksTill_6 : decode cX6_looksTill 6 = .ok (.iload 6, 2) := by decide +kernel
theorem dX6_looksTill_8 : decode cX6_looksTill 8 = .ok (.iconst 4, 1) := by decide +kernel
theorem dX6_looksTill_9 : decode cX6_looksTill 9 = .ok (.aload_n 0, 1) := by decide +kernel
theorem dX6_looksTill_10 : decode cX6_looksTill 10 = .ok (.getfield 26, 3) := by decide +kernel
theorem dX6_looksTill_13 : decode cX6_looksTill 13 = .ok (.imul, 1) := by decide +kernel
theorem dX6_looksTill_14 : decode cX6_looksTill 14 = .ok (.if_icmp .gt 44, 3) := by decide +kernel
theorem dX6_looksTill_17 : decode cX6_looksTill 17 = .ok (.aload_n 0, 1) := by decide +kernel
theorem dX6_looksTill_18 : decode cX6_looksTill 18 = .ok (.getfield 23, 3) := by decide +kernel
theorem dX6_looksTill_21 : decode cX6_looksTill 21 = .ok (.iload 5, 2) := by decide +kernel
theorem dX6_looksTill_23 : decode cX6_looksTill 23 = .ok (.invokevirtual 68, 3) := by decide +kernel
theorem dX6_looksTill_26 : decode cX6_looksTill 26 = .ok (.lload_n 3, 1) := by decide +kernel
theorem dX6_looksTill_27 : decode cX6_looksTill 27 = .ok (.lcmp, 1) := by decide +kernel
theorem dX6_looksTill_28 : decode cX6_looksTill 28 = .ok (.ifCond .lt 6, 3) := by decide +kernel
theorem dX6_looksTill_31 : decode cX6_looksTill 31 = .ok (.iload 6, 2) := by decide +kernel
theorem dX6_looksTill_33 : decode cX6_looksTill 33 = .ok (.ireturn, 1) := by decide +kernel
theorem dX6_looksTill_34 : decode cX6_looksTill 34 = .ok (.iload 5, 2) := by decide +kernel
theorem dX6_looksTill_36 : decode cX6_looksTill 36 = .ok (.iload_n 2, 1) := by decide +kernel
theorem dX6_looksTill_37 : decode cX6_looksTill 37 = .ok (.iadd, 1) := by decide +kernel
theorem dX6_looksTill_38 : decode cX6_looksTill 38 = .ok (.i2l, 1) := by decide +kernel
theorem dX6_looksTill_39 : decode cX6_looksTill 39 = .ok (.iconst 4, 1) := by decide +kernel
theorem dX6_looksTill_40 : decode cX6_looksTill 40 = .ok (.aload_n 0, 1) := by decide +kernel
theorem dX6_looksTill_41 : decode cX6_looksTill 41 = .ok (.getfield 26, 3) := by decide +kernel
theorem dX6_looksTill_44 : decode cX6_looksTill 44 = .ok (.imul, 1) := by decide +kernel
theorem dX6_looksTill_45 : decode cX6_looksTill 45 = .ok (.i2l, 1) := by decide +kernel
theorem dX6_looksTill_46 : decode cX6_looksTill 46 = .ok (.invokestatic 79, 3) := by decide +kernel
theorem dX6_looksTill_49 : decode cX6_looksTill 49 = .ok (.l2i, 1) := by decide +kernel
theorem dX6_looksTill_50 : decode cX6_looksTill 50 = .ok (.istore 5, 2) := by decide +kernel
theorem dX6_looksTill_52 : decode cX6_looksTill 52 = .ok (.iinc 6 1, 3) := by decide +kernel
theorem dX6_looksTill_55 : decode cX6_looksTill 55 = .ok (.goto (-49), 3) := by decide +kernel
theorem dX6_looksTill_58 : decode cX6_looksTill 58 = .ok (.bipush (-2), 2) := by decide +kernel
theorem dX6_looksTill_60 : decode cX6_looksTill 60 = .ok (.ireturn, 1) := by decide +kernel
set_option maxRecDepth 100000 in
theorem c_X6_looksTill (l : Launch) (D : q_D) (al : q_Al) (dt : q_Dt) (x0 : Nat) (x1 : Int32) (x2 : Int32) (x3 : Int64) (kx0 : al.1 x0 = 7) (r0 : Int32) (hm : X6_looksTill al dt x0 x1 x2 x3 = some r0) : q_Mt l yX6_looksTill cX6_looksTill 7 (some FieldType.int) 1 25 D al [.ref x0, .int x1, .int x2, .long x3] dt 0 (some (.int r0)) dt := by
  refine q_Mt.of (by decide) (Nat.le_of_ble_eq_true rfl) ?_
  intro p e s m args below meth c ls C hargs hW hl
  have hx := C.1
  have hb := C.2.1
  have hown := C.2.2.2.2.2.1
  have hts := C.2.2.2.2.2.2.1
  have hS : va_S (q_A al) s.heap s.heap [] := va_S.rf
  have hl : lv_has ls 7 [(0, .ref x0), (1, .int x1), (2, .int x2), (3, .long x3)] := hl
  unfold X6_looksTill at hm
  have hB6 : ∀ (x0_6 : Nat) (x2_6 : Int32) (x3_6 : Int64) (kx0_6 : al.1 x0_6 = 7) (n_6 : Nat) (x5_6 : Int32) (x6_6 : Int32) (H : Heap) (locs : List Loc) (ls : Array Slot) (hm : X6_looksTill_b6 al dt x0_6 x2_6 x3_6 n_6 x5_6 x6_6 = some r0) (hW : q_W D al dt H) (hS : va_S (q_A al) s.heap H locs) (hl : lv_has ls 7 [(0, .ref x0_6), (2, .int x2_6), (3, .long x3_6), (5, .int x5_6), (6, .int x6_6)]), W p l e { frames := 1, cells := 0, slots := 0, locals := 25 } s m args below meth c H locs 0 0 (MQ below (q_Q (some (.int r0)) (fun H => q_W D al dt H ∧ q_Rk al 0 (some (.int r0))) (q_A al)) args s 0 0 (q_A al)) (F0 m 6 ls []) := by
    intro x0_6 x2_6 x3_6 kx0_6
    intro n_6
    induction n_6 with
    | zero => intro x5_6 x6_6 H locs ls hm hW hS hl; cases hm
    | succ n_6 ih6 =>
      intro x5_6 x6_6 H locs ls hm hW hS hl
      rw [X6_looksTill_b6] at hm
      refine lv_iload hx hb dX6_looksTill_6 (lv_at hl 4 rfl) ?_
      refine lv_iconst (v := 4) hx hb dX6_looksTill_8 (by decide) ?_
      refine lv_aload_n hx hb dX6_looksTill_9 rfl (lv_at hl 0 rfl) ?_
      refine r_getI C hW (ci := 6) kx0_6 ff_6_3 cl_6 fl_RX6_26 dX6_looksTill_10 ?_
      refine lv_imul hx hb dX6_looksTill_13 ?_
      refine q_ifc hm (fun c6001 hm => ?_) (fun c6001 hm => ?_)
      · refine lv_icmp_gt (tgt := 58) hx hb dX6_looksTill_14 (by decide) (fun _ => ?_) (fun h => absurd c6001 h)
        refine lv_bipush (v := (-2)) hx hb dX6_looksTill_58 (by decide) ?_
        exact e_i C hW hS hm dX6_looksTill_60
      refine lv_icmp_gt (tgt := 58) hx hb dX6_looksTill_14 (by decide) (fun h => absurd h c6001) (fun _ => ?_)
      refine lv_aload_n hx hb dX6_looksTill_17 rfl (lv_at hl 0 rfl) ?_
      refine r_getF C hW (ci := 6) kx0_6 ff_6_2 cl_6 fl_RX6_23 dX6_looksTill_18 (fun k6002 => ?_)
      refine lv_iload hx hb dX6_looksTill_21 (lv_at hl 3 rfl) ?_
      obtain ⟨v6004, hc6003, hm⟩ := q_b1i hm
      refine q_callV C hW hS (As := [.int x5_6]) (rest := []) (st1 := [.long v6004]) (c_X5_at l D al dt (al.2.2 x0_6 2) x5_6 k6002 v6004 hc6003) yl_X5_at vl_X5_at ml_RX6_68 (ci := 5) rfl k6002 (by decide) rfl ⟨Nat.le_of_ble_eq_true rfl, Nat.le_of_ble_eq_true rfl⟩ hl rfl (Nat.le_of_ble_eq_true rfl) dX6_looksTill_23 ⟨Nat.le_refl _, Nat.le_refl _⟩ rfl (fun H locs k6005 hW hS => ?_)
      refine lv_lload_n hx hb dX6_looksTill_26 rfl (lv_at hl 2 rfl) ?_
      refine W.lcmp hx hb dX6_looksTill_27 ?_
      refine q_ifc hm (fun c6006 hm => ?_) (fun c6006 hm => ?_)
      · refine lv_if_lt (tgt := 34) hx hb dX6_looksTill_28 (by decide) (fun _ => ?_) (fun h => absurd (q_cmp_lt.mpr c6006) h)
        refine lv_iload hx hb dX6_looksTill_34 (lv_at hl 3 rfl) ?_
        refine lv_iload_n hx hb dX6_looksTill_36 rfl (lv_at hl 1 rfl) ?_
        refine lv_iadd hx hb dX6_looksTill_37 ?_
        refine lv_i2l (v := (Int32.toInt64 (x5_6 + x2_6))) hx hb dX6_looksTill_38 rfl ?_
        refine lv_iconst (v := 4) hx hb dX6_looksTill_39 (by decide) ?_
        refine lv_aload_n hx hb dX6_looksTill_40 rfl (lv_at hl 0 rfl) ?_
        refine r_getI C hW (ci := 6) kx0_6 ff_6_3 cl_6 fl_RX6_26 dX6_looksTill_41 ?_
        refine lv_imul hx hb dX6_looksTill_44 ?_
        refine lv_i2l (v := (Int32.toInt64 (4 * (dt.1 x0_6 3)))) hx hb dX6_looksTill_45 rfl ?_
        obtain ⟨v6008, hc6007, hm⟩ := q_b1i hm
        refine q_callS C hW hS (As := [.long (Int32.toInt64 (x5_6 + x2_6)), .long (Int32.toInt64 (4 * (dt.1 x0_6 3)))]) (rest := []) (st1 := [.long v6008]) (c_X11_remainder l D al dt (Int32.toInt64 (x5_6 + x2_6)) (Int32.toInt64 (4 * (dt.1 x0_6 3))) v6008 hc6007) yl_X11_remainder sl_X11_remainder ml_RX6_79 rfl ⟨Nat.le_of_ble_eq_true rfl, Nat.le_of_ble_eq_true rfl⟩ hl rfl (Nat.le_of_ble_eq_true rfl) dX6_looksTill_46 ⟨Nat.le_refl _, Nat.le_refl _⟩ rfl (fun H locs k6009 hW hS => ?_)
        refine lv_l2i (v := (Int64.toInt32 v6008)) hx hb dX6_looksTill_49 rfl ?_
        refine lv_istore (i := 5) (lv' := [(5, .int (Int64.toInt32 v6008)), (0, .ref x0_6), (2, .int x2_6), (3, .long x3_6), (6, .int x6_6)]) hx hb dX6_looksTill_50 hl (by decide) rfl (fun ls hl => ?_)
        refine lv_iinc (v := (x6_6 + 1)) (lv' := [(6, .int (x6_6 + 1)), (5, .int (Int64.toInt32 v6008)), (0, .ref x0_6), (2, .int x2_6), (3, .long x3_6)]) hx hb dX6_looksTill_52 hl (k := 4) rfl rfl (by decide) rfl (fun ls hl => ?_)
        refine lv_goto (tgt := 6) hx hb dX6_looksTill_55 (by decide) ?_
        exact ih6 (Int64.toInt32 v6008) (x6_6 + 1) _ _ _ hm hW hS (lv_sub hl [2, 3, 4, 1, 0] rfl)
      refine lv_if_lt (tgt := 34) hx hb dX6_looksTill_28 (by decide) (fun h => absurd (q_cmp_lt.mp h) c6006) (fun _ => ?_)
      refine lv_iload hx hb dX6_looksTill_31 (lv_at hl 4 rfl) ?_
      exact e_i C hW hS hm dX6_looksTill_33
  refine lv_iload_n hx hb dX6_looksTill_0 rfl (lv_at hl 1 rfl) ?_
  refine lv_istore (i := 5) (lv' := [(5, .int x1), (0, .ref x0), (1, .int x1), (2, .int x2), (3, .long x3)]) hx hb dX6_looksTill_1 hl (by decide) rfl (fun ls hl => ?_)
  refine lv_iconst (v := 1) hx hb dX6_looksTill_3 (by decide) ?_
  refine lv_istore (i := 6) (lv' := [(6, .int 1), (5, .int x1), (0, .ref x0), (1, .int x1), (2, .int x2), (3, .long x3)]) hx hb dX6_looksTill_4 hl (by decide) rfl (fun ls hl => ?_)
  exact hB6 x0 x2 x3 kx0 q_FU x1 1 _ _ _ hm hW hS (lv_sub hl [2, 4, 5, 1, 0] rfl)
theorem dX6_loopStep_0 : decode cX6_loopStep 0 = .ok (.iload_n 2, 1) := by decide +kernel
theorem dX6_loopStep_1 : decode cX6_loopStep 1 = .ok (.ifCond .le 9, 3) := by decide +kernel
theorem dX6_loopStep_4 : decode cX6_loopStep 4 = .ok (.iload_n 2, 1) := by decide +kernel
theorem dX6_loopStep_5 : decode cX6_loopStep 5 = .ok (.iconst 1, 1) := by decide +kernel
theorem dX6_loopStep_6 : decode cX6_loopStep 6 = .ok (.isub, 1) := by decide +kernel
theorem dX6_loopStep_7 : decode cX6_loopStep 7 = .ok (.goto 9, 3) := by decide +kernel
theorem dX6_loopStep_10 : decode cX6_loopStep 10 = .ok (.aload_n 1, 1) := by decide +kernel
theorem dX6_loopStep_11 : decode cX6_loopStep 11 = .ok (.getfield 30, 3) := by decide +kernel
theorem dX6_loopStep_14 : decode cX6_loopStep 14 = .ok (.iconst 1, 1) := by decide +kernel
theorem dX6_loopStep_15 : decode cX6_loopStep 15 = .ok (.isub, 1) := by decide +kernel
theorem dX6_loopStep_16 : decode cX6_loopStep 16 = .ok (.istore 6, 2) := by decide +kernel
theorem dX6_loopStep_18 : decode cX6_loopStep 18 = .ok (.iload_n 2, 1) := by decide +kernel
theorem dX6_loopStep_19 : decode cX6_loopStep 19 = .ok (.iconst 1, 1) := by decide +kernel
theorem dX6_loopStep_20 : decode cX6_loopStep 20 = .ok (.iadd, 1) := by decide +kernel
theorem dX6_loopStep_21 : decode cX6_loopStep 21 = .ok (.aload_n 1, 1) := by decide +kernel
theorem dX6_loopStep_22 : decode cX6_loopStep 22 = .ok (.getfield 30, 3) := by decide +kernel
theorem dX6_loopStep_25 : decode cX6_loopStep 25 = .ok (.if_icmp .ge 9, 3) := by decide +kernel
theorem dX6_loopStep_28 : decode cX6_loopStep 28 = .ok (.iload_n 2, 1) := by decide +kernel
theorem dX6_loopStep_29 : decode cX6_loopStep 29 = .ok (.iconst 1, 1) := by decide +kernel
theorem dX6_loopStep_30 : decode cX6_loopStep 30 = .ok (.iadd, 1) := by decide +kernel
theorem dX6_loopStep_31 : decode cX6_loopStep 31 = .ok (.goto 4, 3) := by decide +kernel
theorem dX6_loopStep_34 : decode cX6_loopStep 34 = .ok (.iconst 0, 1) := by decide +kernel
theorem dX6_loopStep_35 : decode cX6_loopStep 35 = .ok (.istore 7, 2) := by decide +kernel
theorem dX6_loopStep_37 : decode cX6_loopStep 37 = .ok (.aload_n 0, 1) := by decide +kernel
theorem dX6_loopStep_38 : decode cX6_loopStep 38 = .ok (.aload_n 1, 1) := by decide +kernel
theorem dX6_loopStep_39 : decode cX6_loopStep 39 = .ok (.getfield 30, 3) := by decide +kernel
theorem dX6_loopStep_42 : decode cX6_loopStep 42 = .ok (.iload_n 3, 1) := by decide +kernel
theorem dX6_loopStep_43 : decode cX6_loopStep 43 = .ok (.aload 4, 2) := by decide +kernel
theorem dX6_loopStep_45 : decode cX6_loopStep 45 = .ok (.iload 5, 2) := by decide +kernel
theorem dX6_loopStep_47 : decode cX6_loopStep 47 = .ok (.invokevirtual 33, 3) := by decide +kernel
theorem dX6_loopStep_50 : decode cX6_loopStep 50 = .ok (.aload_n 0, 1) := by decide +kernel
theorem dX6_loopStep_51 : decode cX6_loopStep 51 = .ok (.aload_n 1, 1) := by decide +kernel
theorem dX6_loopStep_52 : decode cX6_loopStep 52 = .ok (.iload 6, 2) := by decide +kernel
theorem dX6_loopStep_54 : decode cX6_loopStep 54 = .ok (.invokevirtual 41, 3) := by decide +kernel
theorem dX6_loopStep_57 : decode cX6_loopStep 57 = .ok (.lstore 8, 2) := by decide +kernel
theorem dX6_loopStep_59 : decode cX6_loopStep 59 = .ok (.aload_n 0, 1) := by decide +kernel
theorem dX6_loopStep_60 : decode cX6_loopStep 60 = .ok (.aload_n 1, 1) := by decide +kernel
theorem dX6_loopStep_61 : decode cX6_loopStep 61 = .ok (.iload_n 2, 1) := by decide +kernel
theorem dX6_loopStep_62 : decode cX6_loopStep 62 = .ok (.invokevirtual 41, 3) := by decide +kernel
theorem dX6_loopStep_65 : decode cX6_loopStep 65 = .ok (.lstore 10, 2) := by decide +kernel
theorem dX6_loopStep_67 : decode cX6_loopStep 67 = .ok (.aload_n 0, 1) := by decide +kernel
theorem dX6_loopStep_68 : decode cX6_loopStep 68 = .ok (.aload_n 1, 1) := by decide +kernel
theorem dX6_loopStep_69 : decode cX6_loopStep 69 = .ok (.iload 7, 2) := by decide +kernel
theorem dX6_loopStep_71 : decode cX6_loopStep 71 = .ok (.invokevirtual 41, 3) := by decide +kernel
theorem dX6_loopStep_74 : decode cX6_loopStep 74 = .ok (.lstore 12, 2) := by decide +kernel
theorem dX6_loopStep_76 : decode cX6_loopStep 76 = .ok (.lload 12, 2) := by decide +kernel
theorem dX6_loopStep_78 : decode cX6_loopStep 78 = .ok (.lload 10, 2) := by decide +kernel
theorem dX6_loopStep_80 : decode cX6_loopStep 80 = .ok (.lcmp, 1) := by decide +kernel
theorem dX6_loopStep_81 : decode cX6_loopStep 81 = .ok (.ifCond .le 14, 3) := by decide +kernel
theorem dX6_loopStep_84 : decode cX6_loopStep 84 = .ok (.lload 12, 2) := by decide +kernel
theorem dX6_loopStep_86 : decode cX6_loopStep 86 = .ok (.lload 8, 2) := by decide +kernel
theorem dX6_loopStep_88 : decode cX6_loopStep 88 = .ok (.lcmp, 1) := by decide +kernel
theorem dX6_loopStep_89 : decode cX6_loopStep 89 = .ok (.ifCond .le 6, 3) := by decide +kernel
theorem dX6_loopStep_92 : decode cX6_loopStep 92 = .ok (.iload 7, 2) := by decide +kernel
theorem dX6_loopStep_94 : decode cX6_loopStep 94 = .ok (.ireturn, 1) := by decide +kernel
theorem dX6_loopStep_95 : decode cX6_loopStep 95 = .ok (.lload 8, 2) := by decide +kernel
theorem dX6_loopStep_97 : decode cX6_loopStep 97 = .ok (.lload 10, 2) := by decide +kernel
theorem dX6_loopStep_99 : decode cX6_loopStep 99 = .ok (.lcmp, 1) := by decide +kernel
theorem dX6_loopStep_100 : decode cX6_loopStep 100 = .ok (.ifCond .le 16, 3) := by decide +kernel
theorem dX6_loopStep_103 : decode cX6_loopStep 103 = .ok (.lload 8, 2) := by decide +kernel
theorem dX6_loopStep_105 : decode cX6_loopStep 105 = .ok (.lload 12, 2) := by decide +kernel
theorem dX6_loopStep_107 : decode cX6_loopStep 107 = .ok (.lcmp, 1) := by decide +kernel
theorem dX6_loopStep_108 : decode cX6_loopStep 108 = .ok (.ifCond .le 8, 3) := by decide +kernel
theorem dX6_loopStep_111 : decode cX6_loopStep 111 = .ok (.iload 6, 2) := by decide +kernel
theorem dX6_loopStep_113 : decode cX6_loopStep 113 = .ok (.goto 4, 3) := by decide +kernel
theorem dX6_loopStep_116 : decode cX6_loopStep 116 = .ok (.iload_n 2, 1) := by decide +kernel
theorem dX6_loopStep_117 : decode cX6_loopStep 117 = .ok (.ireturn, 1) := by decide +kernel
set_option maxRecDepth 100000 in
theorem c_X6_loopStep (l : Launch) (D : q_D) (al : q_Al) (dt : q_Dt) (x0 : Nat) (x1 : Nat) (x2 : Int32) (x3 : Int32) (x4 : Nat) (x5 : Int32) (kx0 : al.1 x0 = 7) (kx1 : al.1 x1 = 1) (kx4 : al.1 x4 = 9) (r0 : Int32) (dt0 : q_Dt) (hm : X6_loopStep al dt x0 x1 x2 x3 x4 x5 = some (r0, dt0)) : q_Mt l yX6_loopStep cX6_loopStep 14 (some FieldType.int) 4 99 D al [.ref x0, .ref x1, .int x2, .int x3, .ref x4, .int x5] dt 0 (some (.int r0)) dt0 := by
  refine q_Mt.of (by decide) (Nat.le_of_ble_eq_true rfl) ?_
  intro p e s m args below meth c ls C hargs hW hl
  have hx := C.1
  have hb := C.2.1
  have hown := C.2.2.2.2.2.1
  have hts := C.2.2.2.2.2.2.1
  have hS : va_S (q_A al) s.heap s.heap [] := va_S.rf
  have hl : lv_has ls 14 [(0, .ref x0), (1, .ref x1), (2, .int x2), (3, .int x3), (4, .ref x4), (5, .int x5)] := hl
  unfold X6_loopStep at hm
  have hB116 : ∀ (x2_116 : Int32) (dt : q_Dt) (H : Heap) (locs : List Loc) (ls : Array Slot) (hm : X6_loopStep_b116 al x2_116 dt = some (r0, dt0)) (hW : q_W D al dt H) (hS : va_S (q_A al) s.heap H locs) (hl : lv_has ls 14 [(2, .int x2_116)]), W p l e { frames := 4, cells := 0, slots := 0, locals := 99 } s m args below meth c H locs 0 0 (MQ below (q_Q (some (.int r0)) (fun H => q_W D al dt0 H ∧ q_Rk al 0 (some (.int r0))) (q_A al)) args s 0 0 (q_A al)) (F0 m 116 ls []) := by
    intro x2_116 dt H locs ls hm hW hS hl
    unfold X6_loopStep_b116 at hm
    refine lv_iload_n hx hb dX6_loopStep_116 rfl (lv_at hl 0 rfl) ?_
    exact e_iD C hW hS hm dX6_loopStep_117
  have hB95 : ∀ (x2_95 : Int32) (x6_95 : Int32) (x8_95 : Int64) (x10_95 : Int64) (x12_95 : Int64) (dt : q_Dt) (H : Heap) (locs : List Loc) (ls : Array Slot) (hm : X6_loopStep_b95 al x2_95 x6_95 x8_95 x10_95 x12_95 dt = some (r0, dt0)) (hW : q_W D al dt H) (hS : va_S (q_A al) s.heap H locs) (hl : lv_has ls 14 [(2, .int x2_95), (6, .int x6_95), (8, .long x8_95), (10, .long x10_95), (12, .long x12_95)]), W p l e { frames := 4, cells := 0, slots := 0, locals := 99 } s m args below meth c H locs 0 0 (MQ below (q_Q (some (.int r0)) (fun H => q_W D al dt0 H ∧ q_Rk al 0 (some (.int r0))) (q_A al)) args s 0 0 (q_A al)) (F0 m 95 ls []) := by
    intro x2_95 x6_95 x8_95 x10_95 x12_95 dt H locs ls hm hW hS hl
    unfold X6_loopStep_b95 at hm
    refine lv_lload hx hb dX6_loopStep_95 (lv_at hl 2 rfl) ?_
    refine lv_lload hx hb dX6_loopStep_97 (lv_at hl 3 rfl) ?_
    refine W.lcmp hx hb dX6_loopStep_99 ?_
    refine q_ifc hm (fun c95001 hm => ?_) (fun c95001 hm => ?_)
    · refine lv_if_le (tgt := 116) hx hb dX6_loopStep_100 (by decide) (fun _ => ?_) (fun h => absurd (q_cmp_le.mpr c95001) h)
      exact hB116 x2_95 dt _ _ _ hm hW hS (lv_sub hl [0] rfl)
    refine lv_if_le (tgt := 116) hx hb dX6_loopStep_100 (by decide) (fun h => absurd (q_cmp_le.mp h) c95001) (fun _ => ?_)
    refine lv_lload hx hb dX6_loopStep_103 (lv_at hl 2 rfl) ?_
    refine lv_lload hx hb dX6_loopStep_105 (lv_at hl 4 rfl) ?_
    refine W.lcmp hx hb dX6_loopStep_107 ?_
    refine q_ifc hm (fun c95002 hm => ?_) (fun c95002 hm => ?_)
    · refine lv_if_le (tgt := 116) hx hb dX6_loopStep_108 (by decide) (fun _ => ?_) (fun h => absurd (q_cmp_le.mpr c95002) h)
      exact hB116 x2_95 dt _ _ _ hm hW hS (lv_sub hl [0] rfl)
    refine lv_if_le (tgt := 116) hx hb dX6_loopStep_108 (by decide) (fun h => absurd (q_cmp_le.mp h) c95002) (fun _ => ?_)
    refine lv_iload hx hb dX6_loopStep_111 (lv_at hl 1 rfl) ?_
    refine lv_goto (tgt := 117) hx hb dX6_loopStep_113 (by decide) ?_
    exact e_iD C hW hS hm dX6_loopStep_117
  have hB35 : ∀ (x0_35 : Nat) (x1_35 : Nat) (x2_35 : Int32) (x3_35 : Int32) (x4_35 : Nat) (x5_35 : Int32) (x6_35 : Int32) (t0_35 : Int32) (kx0_35 : al.1 x0_35 = 7) (kx1_35 : al.1 x1_35 = 1) (kx4_35 : al.1 x4_35 = 9) (dt : q_Dt) (H : Heap) (locs : List Loc) (ls : Array Slot) (hm : X6_loopStep_b35 al x0_35 x1_35 x2_35 x3_35 x4_35 x5_35 x6_35 t0_35 dt = some (r0, dt0)) (hW : q_W D al dt H) (hS : va_S (q_A al) s.heap H locs) (hl : lv_has ls 14 [(0, .ref x0_35), (1, .ref x1_35), (2, .int x2_35), (3, .int x3_35), (4, .ref x4_35), (5, .int x5_35), (6, .int x6_35)]), W p l e { frames := 4, cells := 0, slots := 0, locals := 99 } s m args below meth c H locs 0 0 (MQ below (q_Q (some (.int r0)) (fun H => q_W D al dt0 H ∧ q_Rk al 0 (some (.int r0))) (q_A al)) args s 0 0 (q_A al)) (F0 m 35 ls [.int t0_35]) := by
    intro x0_35 x1_35 x2_35 x3_35 x4_35 x5_35 x6_35 t0_35 kx0_35 kx1_35 kx4_35 dt H locs ls hm hW hS hl
    unfold X6_loopStep_b35 at hm
    refine lv_istore (i := 7) (lv' := [(7, .int t0_35), (0, .ref x0_35), (1, .ref x1_35), (2, .int x2_35), (3, .int x3_35), (4, .ref x4_35), (5, .int x5_35), (6, .int x6_35)]) hx hb dX6_loopStep_35 hl (by decide) rfl (fun ls hl => ?_)
    refine lv_aload_n hx hb dX6_loopStep_37 rfl (lv_at hl 1 rfl) ?_
    refine lv_aload_n hx hb dX6_loopStep_38 rfl (lv_at hl 2 rfl) ?_
    refine r_getI C hW (ci := 0) kx1_35 ff_0_1 cl_0 fl_RX6_30 dX6_loopStep_39 ?_
    refine lv_iload_n hx hb dX6_loopStep_42 rfl (lv_at hl 4 rfl) ?_
    refine lv_aload hx hb dX6_loopStep_43 (lv_at hl 5 rfl) ?_
    refine lv_iload hx hb dX6_loopStep_45 (lv_at hl 6 rfl) ?_
    obtain ⟨dt35002, hc35001, hm⟩ := q_b1i hm
    refine q_callV C hW hS (As := [.int (dt.1 x1_35 1), .int x3_35, .ref x4_35, .int x5_35]) (rest := []) (st1 := []) (c_X6_turnBack l D al dt x0_35 (dt.1 x1_35 1) x3_35 x4_35 x5_35 kx0_35 kx4_35 dt35002 hc35001) yl_X6_turnBack vl_X6_turnBack ml_RX6_33 (ci := 6) rfl kx0_35 (by decide) rfl ⟨Nat.le_of_ble_eq_true rfl, Nat.le_of_ble_eq_true rfl⟩ hl rfl (Nat.le_of_ble_eq_true rfl) dX6_loopStep_47 ⟨Nat.le_refl _, Nat.le_refl _⟩ rfl (fun H locs k35003 hW hS => ?_)
    refine lv_aload_n hx hb dX6_loopStep_50 rfl (lv_at hl 1 rfl) ?_
    refine lv_aload_n hx hb dX6_loopStep_51 rfl (lv_at hl 2 rfl) ?_
    refine lv_iload hx hb dX6_loopStep_52 (lv_at hl 7 rfl) ?_
    obtain ⟨v35005, hc35004, hm⟩ := q_b1i hm
    refine q_callV C hW hS (As := [.ref x1_35, .int x6_35]) (rest := []) (st1 := [.long v35005]) (c_X6_squares l D al dt35002 x0_35 x1_35 x6_35 kx0_35 kx1_35 v35005 hc35004) yl_X6_squares vl_X6_squares ml_RX6_41 (ci := 6) rfl kx0_35 (by decide) rfl ⟨Nat.le_of_ble_eq_true rfl, Nat.le_of_ble_eq_true rfl⟩ hl rfl (Nat.le_of_ble_eq_true rfl) dX6_loopStep_54 ⟨Nat.le_refl _, Nat.le_refl _⟩ rfl (fun H locs k35006 hW hS => ?_)
    refine lv_lstore (i := 8) (lv' := [(8, .long v35005), (7, .int t0_35), (0, .ref x0_35), (1, .ref x1_35), (2, .int x2_35), (3, .int x3_35), (4, .ref x4_35), (5, .int x5_35), (6, .int x6_35)]) hx hb dX6_loopStep_57 hl (by decide) rfl (fun ls hl => ?_)
    refine lv_aload_n hx hb dX6_loopStep_59 rfl (lv_at hl 2 rfl) ?_
    refine lv_aload_n hx hb dX6_loopStep_60 rfl (lv_at hl 3 rfl) ?_
    refine lv_iload_n hx hb dX6_loopStep_61 rfl (lv_at hl 4 rfl) ?_
    obtain ⟨v35008, hc35007, hm⟩ := q_b1i hm
    refine q_callV C hW hS (As := [.ref x1_35, .int x2_35]) (rest := []) (st1 := [.long v35008]) (c_X6_squares l D al dt35002 x0_35 x1_35 x2_35 kx0_35 kx1_35 v35008 hc35007) yl_X6_squares vl_X6_squares ml_RX6_41 (ci := 6) rfl kx0_35 (by decide) rfl ⟨Nat.le_of_ble_eq_true rfl, Nat.le_of_ble_eq_true rfl⟩ hl rfl (Nat.le_of_ble_eq_true rfl) dX6_loopStep_62 ⟨Nat.le_refl _, Nat.le_refl _⟩ rfl (fun H locs k35009 hW hS => ?_)
    refine lv_lstore (i := 10) (lv' := [(10, .long v35008), (8, .long v35005), (7, .int t0_35), (0, .ref x0_35), (1, .ref x1_35), (2, .int x2_35), (3, .int x3_35), (4, .ref x4_35), (5, .int x5_35), (6, .int x6_35)]) hx hb dX6_loopStep_65 hl (by decide) rfl (fun ls hl => ?_)
    refine lv_aload_n hx hb dX6_loopStep_67 rfl (lv_at hl 3 rfl) ?_
    refine lv_aload_n hx hb dX6_loopStep_68 rfl (lv_at hl 4 rfl) ?_
    refine lv_iload hx hb dX6_loopStep_69 (lv_at hl 2 rfl) ?_
    obtain ⟨v35011, hc35010, hm⟩ := q_b1i hm
    refine q_callV C hW hS (As := [.ref x1_35, .int t0_35]) (rest := []) (st1 := [.long v35011]) (c_X6_squares l D al dt35002 x0_35 x1_35 t0_35 kx0_35 kx1_35 v35011 hc35010) yl_X6_squares vl_X6_squares ml_RX6_41 (ci := 6) rfl kx0_35 (by decide) rfl ⟨Nat.le_of_ble_eq_true rfl, Nat.le_of_ble_eq_true rfl⟩ hl rfl (Nat.le_of_ble_eq_true rfl) dX6_loopStep_71 ⟨Nat.le_refl _, Nat.le_refl _⟩ rfl (fun H locs k35012 hW hS => ?_)
    refine lv_lstore (i := 12) (lv' := [(12, .long v35011), (10, .long v35008), (8, .long v35005), (7, .int t0_35), (0, .ref x0_35), (1, .ref x1_35), (2, .int x2_35), (3, .int x3_35), (4, .ref x4_35), (5, .int x5_35), (6, .int x6_35)]) hx hb dX6_loopStep_74 hl (by decide) rfl (fun ls hl => ?_)
    refine lv_lload hx hb dX6_loopStep_76 (lv_at hl 0 rfl) ?_
    refine lv_lload hx hb dX6_loopStep_78 (lv_at hl 1 rfl) ?_
    refine W.lcmp hx hb dX6_loopStep_80 ?_
    refine q_ifc hm (fun c35013 hm => ?_) (fun c35013 hm => ?_)
    · refine lv_if_le (tgt := 95) hx hb dX6_loopStep_81 (by decide) (fun _ => ?_) (fun h => absurd (q_cmp_le.mpr c35013) h)
      exact hB95 x2_35 x6_35 v35005 v35008 v35011 dt35002 _ _ _ hm hW hS (lv_sub hl [6, 10, 2, 1, 0] rfl)
    refine lv_if_le (tgt := 95) hx hb dX6_loopStep_81 (by decide) (fun h => absurd (q_cmp_le.mp h) c35013) (fun _ => ?_)
    refine lv_lload hx hb dX6_loopStep_84 (lv_at hl 0 rfl) ?_
    refine lv_lload hx hb dX6_loopStep_86 (lv_at hl 2 rfl) ?_
    refine W.lcmp hx hb dX6_loopStep_88 ?_
    refine q_ifc hm (fun c35014 hm => ?_) (fun c35014 hm => ?_)
    · refine lv_if_le (tgt := 95) hx hb dX6_loopStep_89 (by decide) (fun _ => ?_) (fun h => absurd (q_cmp_le.mpr c35014) h)
      exact hB95 x2_35 x6_35 v35005 v35008 v35011 dt35002 _ _ _ hm hW hS (lv_sub hl [6, 10, 2, 1, 0] rfl)
    refine lv_if_le (tgt := 95) hx hb dX6_loopStep_89 (by decide) (fun h => absurd (q_cmp_le.mp h) c35014) (fun _ => ?_)
    refine lv_iload hx hb dX6_loopStep_92 (lv_at hl 3 rfl) ?_
    exact e_iD C hW hS hm dX6_loopStep_94
  have hB16 : ∀ (x0_16 : Nat) (x1_16 : Nat) (x2_16 : Int32) (x3_16 : Int32) (x4_16 : Nat) (x5_16 : Int32) (t0_16 : Int32) (kx0_16 : al.1 x0_16 = 7) (kx1_16 : al.1 x1_16 = 1) (kx4_16 : al.1 x4_16 = 9) (dt : q_Dt) (H : Heap) (locs : List Loc) (ls : Array Slot) (hm : X6_loopStep_b16 al x0_16 x1_16 x2_16 x3_16 x4_16 x5_16 t0_16 dt = some (r0, dt0)) (hW : q_W D al dt H) (hS : va_S (q_A al) s.heap H locs) (hl : lv_has ls 14 [(0, .ref x0_16), (1, .ref x1_16), (2, .int x2_16), (3, .int x3_16), (4, .ref x4_16), (5, .int x5_16)]), W p l e { frames := 4, cells := 0, slots := 0, locals := 99 } s m args below meth c H locs 0 0 (MQ below (q_Q (some (.int r0)) (fun H => q_W D al dt0 H ∧ q_Rk al 0 (some (.int r0))) (q_A al)) args s 0 0 (q_A al)) (F0 m 16 ls [.int t0_16]) := by
    intro x0_16 x1_16 x2_16 x3_16 x4_16 x5_16 t0_16 kx0_16 kx1_16 kx4_16 dt H locs ls hm hW hS hl
    unfold X6_loopStep_b16 at hm
    refine lv_istore (i := 6) (lv' := [(6, .int t0_16), (0, .ref x0_16), (1, .ref x1_16), (2, .int x2_16), (3, .int x3_16), (4, .ref x4_16), (5, .int x5_16)]) hx hb dX6_loopStep_16 hl (by decide) rfl (fun ls hl => ?_)
    refine lv_iload_n hx hb dX6_loopStep_18 rfl (lv_at hl 3 rfl) ?_
    refine lv_iconst (v := 1) hx hb dX6_loopStep_19 (by decide) ?_
    refine lv_iadd hx hb dX6_loopStep_20 ?_
    refine lv_aload_n hx hb dX6_loopStep_21 rfl (lv_at hl 2 rfl) ?_
    refine r_getI C hW (ci := 0) kx1_16 ff_0_1 cl_0 fl_RX6_30 dX6_loopStep_22 ?_
    refine q_ifc hm (fun c16001 hm => ?_) (fun c16001 hm => ?_)
    · refine lv_icmp_ge (tgt := 34) hx hb dX6_loopStep_25 (by decide) (fun _ => ?_) (fun h => absurd c16001 h)
      refine lv_iconst (v := 0) hx hb dX6_loopStep_34 (by decide) ?_
      exact hB35 x0_16 x1_16 x2_16 x3_16 x4_16 x5_16 t0_16 0 kx0_16 kx1_16 kx4_16 dt _ _ _ hm hW hS (lv_sub hl [1, 2, 3, 4, 5, 6, 0] rfl)
    refine lv_icmp_ge (tgt := 34) hx hb dX6_loopStep_25 (by decide) (fun h => absurd h c16001) (fun _ => ?_)
    refine lv_iload_n hx hb dX6_loopStep_28 rfl (lv_at hl 3 rfl) ?_
    refine lv_iconst (v := 1) hx hb dX6_loopStep_29 (by decide) ?_
    refine lv_iadd hx hb dX6_loopStep_30 ?_
    refine lv_goto (tgt := 35) hx hb dX6_loopStep_31 (by decide) ?_
    exact hB35 x0_16 x1_16 x2_16 x3_16 x4_16 x5_16 t0_16 (x2_16 + 1) kx0_16 kx1_16 kx4_16 dt _ _ _ hm hW hS (lv_sub hl [1, 2, 3, 4, 5, 6, 0] rfl)
  refine lv_iload_n hx hb dX6_loopStep_0 rfl (lv_at hl 2 rfl) ?_
  refine q_ifc hm (fun c1000001 hm => ?_) (fun c1000001 hm => ?_)
  · refine lv_if_le (tgt := 10) hx hb dX6_loopStep_1 (by decide) (fun _ => ?_) (fun h => absurd c1000001 h)
    refine lv_aload_n hx hb dX6_loopStep_10 rfl (lv_at hl 1 rfl) ?_
    refine r_getI C hW (ci := 0) kx1 ff_0_1 cl_0 fl_RX6_30 dX6_loopStep_11 ?_
    refine lv_iconst (v := 1) hx hb dX6_loopStep_14 (by decide) ?_
    refine lv_isub hx hb dX6_loopStep_15 ?_
    exact hB16 x0 x1 x2 x3 x4 x5 ((dt.1 x1 1) - 1) kx0 kx1 kx4 dt _ _ _ hm hW hS (lv_sub hl [0, 1, 2, 3, 4, 5] rfl)
  refine lv_if_le (tgt := 10) hx hb dX6_loopStep_1 (by decide) (fun h => absurd h c1000001) (fun _ => ?_)
  refine lv_iload_n hx hb dX6_loopStep_4 rfl (lv_at hl 2 rfl) ?_
  refine lv_iconst (v := 1) hx hb dX6_loopStep_5 (by decide) ?_
  refine lv_isub hx hb dX6_loopStep_6 ?_
  refine lv_goto (tgt := 16) hx hb dX6_loopStep_7 (by decide) ?_
  exact hB16 x0 x1 x2 x3 x4 x5 (x2 - 1) kx0 kx1 kx4 dt _ _ _ hm hW hS (lv_sub hl [0, 1, 2, 3, 4, 5] rfl)
theorem dX7_unitAt_0 : decode cX7_unitAt 0 = .ok (.aload_n 0, 1) := by decide +kernel
theorem dX7_unitAt_1 : decode cX7_unitAt 1 = .ok (.iload_n 1, 1) := by decide +kernel
theorem dX7_unitAt_2 : decode cX7_unitAt 2 = .ok (.invokevirtual 81, 3) := by decide +kernel
theorem dX7_unitAt_5 : decode cX7_unitAt 5 = .ok (.iload_n 2, 1) := by decide +kernel
theorem dX7_unitAt_6 : decode cX7_unitAt 6 = .ok (.if_icmp .eq 5, 3) := by decide +kernel
theorem dX7_unitAt_9 : decode cX7_unitAt 9 = .ok (.iconst 0, 1) := by decide +kernel
theorem dX7_unitAt_10 : decode cX7_unitAt 10 = .ok (.ireturn, 1) := by decide +kernel
theorem dX7_unitAt_11 : decode cX7_unitAt 11 = .ok (.aload_n 0, 1) := by decide +kernel
theorem dX7_unitAt_12 : decode cX7_unitAt 12 = .ok (.aload_n 0, 1) := by decide +kernel
theorem dX7_unitAt_13 : decode cX7_unitAt 13 = .ok (.iload_n 1, 1) := by decide +kernel
theorem dX7_unitAt_14 : decode cX7_unitAt 14 = .ok (.invokevirtual 66, 3) := by decide +kernel
theorem dX7_unitAt_17 : decode cX7_unitAt 17 = .ok (.invokevirtual 84, 3) := by decide +kernel
theorem dX7_unitAt_20 : decode cX7_unitAt 20 = .ok (.iconst 1, 1) := by decide +kernel
theorem dX7_unitAt_21 : decode cX7_unitAt 21 = .ok (.if_icmp .ne 12, 3) := by decide +kernel
theorem dX7_unitAt_24 : decode cX7_unitAt 24 = .ok (.aload_n 0, 1) := by decide +kernel
theorem dX7_unitAt_25 : decode cX7_unitAt 25 = .ok (.iload_n 1, 1) := by decide +kernel
theorem dX7_unitAt_26 : decode cX7_unitAt 26 = .ok (.invokevirtual 87, 3) := by decide +kernel
theorem dX7_unitAt_29 : decode cX7_unitAt 29 = .ok (.ineg, 1) := by decide +kernel
theorem dX7_unitAt_30 : decode cX7_unitAt 30 = .ok (.goto 8, 3) := by decide +kernel
theorem dX7_unitAt_33 : decode cX7_unitAt 33 = .ok (.aload_n 0, 1) := by decide +kernel
theorem dX7_unitAt_34 : decode cX7_unitAt 34 = .ok (.iload_n 1, 1) := by decide +kernel
theorem dX7_unitAt_35 : decode cX7_unitAt 35 = .ok (.invokevirtual 87, 3) := by decide +kernel
theorem dX7_unitAt_38 : decode cX7_unitAt 38 = .ok (.ireturn, 1) := by decide +kernel
set_option maxRecDepth 100000 in
theorem c_X7_unitAt (l : Launch) (D : q_D) (al : q_Al) (dt : q_Dt) (x0 : Nat) (x1 : Int32) (x2 : Int32) (kx0 : al.1 x0 = 8) (r0 : Int32) (hm : X7_unitAt al dt x0 x1 x2 = some r0) : q_Mt l yX7_unitAt cX7_unitAt 3 (some FieldType.int) 3 69 D al [.ref x0, .int x1, .int x2] dt 0 (some (.int r0)) dt := by
  refine q_Mt.of (by decide) (Nat.le_of_ble_eq_true rfl) ?_
  intro p e s m args below meth c ls C hargs hW hl
  have hx := C.1
  have hb := C.2.1
  have hown := C.2.2.2.2.2.1
  have hts := C.2.2.2.2.2.2.1
  have hS : va_S (q_A al) s.heap s.heap [] := va_S.rf
  have hl : lv_has ls 3 [(0, .ref x0), (1, .int x1), (2, .int x2)] := hl
  unfold X7_unitAt at hm
  refine lv_aload_n hx hb dX7_unitAt_0 rfl (lv_at hl 0 rfl) ?_
  refine lv_iload_n hx hb dX7_unitAt_1 rfl (lv_at hl 1 rfl) ?_
  obtain ⟨v1000002, hc1000001, hm⟩ := q_b1i hm
  refine q_callV C hW hS (As := [.int x1]) (rest := []) (st1 := [.int v1000002]) (c_X7_axisAt l D al dt x0 x1 kx0 v1000002 hc1000001) yl_X7_axisAt vl_X7_axisAt ml_RX7_81 (ci := 7) rfl kx0 (by decide) rfl ⟨Nat.le_of_ble_eq_true rfl, Nat.le_of_ble_eq_true rfl⟩ hl rfl (Nat.le_of_ble_eq_true rfl) dX7_unitAt_2 ⟨Nat.le_refl _, Nat.le_refl _⟩ rfl (fun H locs k1000003 hW hS => ?_)
  refine lv_iload_n hx hb dX7_unitAt_5 rfl (lv_at hl 2 rfl) ?_
  refine q_ifc hm (fun c1000004 hm => ?_) (fun c1000004 hm => ?_)
  · refine lv_icmp_eq (tgt := 11) hx hb dX7_unitAt_6 (by decide) (fun _ => ?_) (fun h => absurd c1000004 h)
    refine lv_aload_n hx hb dX7_unitAt_11 rfl (lv_at hl 0 rfl) ?_
    refine lv_aload_n hx hb dX7_unitAt_12 rfl (lv_at hl 0 rfl) ?_
    refine lv_iload_n hx hb dX7_unitAt_13 rfl (lv_at hl 1 rfl) ?_
    obtain ⟨v1000006, hc1000005, hm⟩ := q_b1i hm
    refine q_callV C hW hS (As := [.int x1]) (rest := [.ref x0]) (st1 := [.int v1000006, .ref x0]) (c_X7_periodAt l D al dt x0 x1 kx0 v1000006 hc1000005) yl_X7_periodAt vl_X7_periodAt ml_RX7_66 (ci := 7) rfl kx0 (by decide) rfl ⟨Nat.le_of_ble_eq_true rfl, Nat.le_of_ble_eq_true rfl⟩ hl rfl (Nat.le_of_ble_eq_true rfl) dX7_unitAt_14 ⟨Nat.le_refl _, Nat.le_refl _⟩ rfl (fun H locs k1000007 hW hS => ?_)
    obtain ⟨v1000009, hc1000008, hm⟩ := q_b1i hm
    refine q_callV C hW hS (As := [.int v1000006]) (rest := []) (st1 := [.int v1000009]) (c_X7_bitSent l D al dt x0 v1000006 kx0 v1000009 hc1000008) yl_X7_bitSent vl_X7_bitSent ml_RX7_84 (ci := 7) rfl kx0 (by decide) rfl ⟨Nat.le_of_ble_eq_true rfl, Nat.le_of_ble_eq_true rfl⟩ hl rfl (Nat.le_of_ble_eq_true rfl) dX7_unitAt_17 ⟨Nat.le_refl _, Nat.le_refl _⟩ rfl (fun H locs k1000010 hW hS => ?_)
    refine lv_iconst (v := 1) hx hb dX7_unitAt_20 (by decide) ?_
    refine q_ifc hm (fun c1000011 hm => ?_) (fun c1000011 hm => ?_)
    · refine lv_icmp_ne (tgt := 33) hx hb dX7_unitAt_21 (by decide) (fun h => absurd c1000011 h) (fun _ => ?_)
      refine lv_aload_n hx hb dX7_unitAt_24 rfl (lv_at hl 0 rfl) ?_
      refine lv_iload_n hx hb dX7_unitAt_25 rfl (lv_at hl 1 rfl) ?_
      obtain ⟨v1000013, hc1000012, hm⟩ := q_b1i hm
      refine q_callV C hW hS (As := [.int x1]) (rest := []) (st1 := [.int v1000013]) (c_X7_signAt l D al dt x0 x1 kx0 v1000013 hc1000012) yl_X7_signAt vl_X7_signAt ml_RX7_87 (ci := 7) rfl kx0 (by decide) rfl ⟨Nat.le_of_ble_eq_true rfl, Nat.le_of_ble_eq_true rfl⟩ hl rfl (Nat.le_of_ble_eq_true rfl) dX7_unitAt_26 ⟨Nat.le_refl _, Nat.le_refl _⟩ rfl (fun H locs k1000014 hW hS => ?_)
      refine lv_ineg hx hb dX7_unitAt_29 ?_
      refine lv_goto (tgt := 38) hx hb dX7_unitAt_30 (by decide) ?_
      exact e_i C hW hS hm dX7_unitAt_38
    refine lv_icmp_ne (tgt := 33) hx hb dX7_unitAt_21 (by decide) (fun _ => ?_) (fun h => absurd h c1000011)
    refine lv_aload_n hx hb dX7_unitAt_33 rfl (lv_at hl 0 rfl) ?_
    refine lv_iload_n hx hb dX7_unitAt_34 rfl (lv_at hl 1 rfl) ?_
    obtain ⟨v1000016, hc1000015, hm⟩ := q_b1i hm
    refine q_callV C hW hS (As := [.int x1]) (rest := []) (st1 := [.int v1000016]) (c_X7_signAt l D al dt x0 x1 kx0 v1000016 hc1000015) yl_X7_signAt vl_X7_signAt ml_RX7_87 (ci := 7) rfl kx0 (by decide) rfl ⟨Nat.le_of_ble_eq_true rfl, Nat.le_of_ble_eq_true rfl⟩ hl rfl (Nat.le_of_ble_eq_true rfl) dX7_unitAt_35 ⟨Nat.le_refl _, Nat.le_refl _⟩ rfl (fun H locs k1000017 hW hS => ?_)
    exact e_i C hW hS hm dX7_unitAt_38
  refine lv_icmp_eq (tgt := 11) hx hb dX7_unitAt_6 (by decide) (fun h => absurd h c1000004) (fun _ => ?_)
  refine lv_iconst (v := 0) hx hb dX7_unitAt_9 (by decide) ?_
  exact e_i C hW hS hm dX7_unitAt_10
theorem dX8_layJam_0 : decode cX8_layJam 0 = .ok (.aload_n 1, 1) := by decide +kernel
theorem dX8_layJam_1 : decode cX8_layJam 1 = .ok (.getfield 110, 3) := by decide +kernel
theorem dX8_layJam_4 : decode cX8_layJam 4 = .ok (.iload_n 2, 1) := by decide +kernel
theorem dX8_layJam_5 : decode cX8_layJam 5 = .ok (.invokevirtual 104, 3) := by decide +kernel
theorem dX8_layJam_8 : decode cX8_layJam 8 = .ok (.istore_n 3, 1) := by decide +kernel
theorem dX8_layJam_9 : decode cX8_layJam 9 = .ok (.aload_n 1, 1) := by decide +kernel
theorem dX8_layJam_10 : decode cX8_layJam 10 = .ok (.getfield 113, 3) := by decide +kernel
theorem dX8_layJam_13 : decode cX8_layJam 13 = .ok (.iload_n 2, 1) := by decide +kernel
theorem dX8_layJam_14 : decode cX8_layJam 14 = .ok (.invokevirtual 104, 3) := by decide +kernel
theorem dX8_layJam_17 : decode cX8_layJam 17 = .ok (.aload_n 0, 1) := by decide +kernel
theorem dX8_layJam_18 : decode cX8_layJam 18 = .ok (.getfield 23, 3) := by decide +kernel
theorem dX8_layJam_21 : decode cX8_layJam 21 = .ok (.iconst 1, 1) := by decide +kernel
theorem dX8_layJam_22 : decode cX8_layJam 22 = .ok (.isub, 1) := by decide +kernel
theorem dX8_layJam_23 : decode cX8_layJam 23 = .ok (.invokestatic 116, 3) := by decide +kernel
theorem dX8_layJam_26 : decode cX8_layJam 26 = .ok (.istore 4, 2) := by decide +kernel
theorem dX8_layJam_28 : decode cX8_layJam 28 = .ok (.iload_n 3, 1) := by decide +kernel
theorem dX8_layJam_29 : decode cX8_layJam 29 = .ok (.iconst 1, 1) := by decide +kernel
theorem dX8_layJam_30 : decode cX8_layJam 30 = .ok (.if_icmp .ge 4, 3) := by decide +kernel
theorem dX8_layJam_33 : decode cX8_layJam 33 = .ok (.return_, 1) := by decide +kernel
theorem dX8_layJam_34 : decode cX8_layJam 34 = .ok (.aload_n 1, 1) := by decide +kernel
theorem dX8_layJam_35 : decode cX8_layJam 35 = .ok (.getfield 122, 3) := by decide +kernel
theorem dX8_layJam_38 : decode cX8_layJam 38 = .ok (.iload_n 2, 1) := by decide +kernel
theorem dX8_layJam_39 : decode cX8_layJam 39 = .ok (.invokevirtual 104, 3) := by decide +kernel
theorem dX8_layJam_42 : decode cX8_layJam 42 = .ok (.istore 5, 2) := by decide +kernel
theorem dX8_layJam_44 : decode cX8_layJam 44 = .ok (.iload 5, 2) := by decide +kernel
theorem dX8_layJam_46 : decode cX8_layJam 46 = .ok (.iload 4, 2) := by decide +kernel
theorem dX8_layJam_48 : decode cX8_layJam 48 = .ok (.if_icmp .gt 27, 3) := by decide +kernel
theorem dX8_layJam_51 : decode cX8_layJam 51 = .ok (.aload_n 0, 1) := by decide +kernel
theorem dX8_layJam_52 : decode cX8_layJam 52 = .ok (.iload 5, 2) := by decide +kernel
theorem dX8_layJam_54 : decode cX8_layJam 54 = .ok (.iconst 0, 1) := by decide +kernel
theorem dX8_layJam_55 : decode cX8_layJam 55 = .ok (.aload_n 1, 1) := by decide +kernel
theorem dX8_layJam_56 : decode cX8_layJam 56 = .ok (.getfield 125, 3) := by decide +kernel
theorem dX8_layJam_59 : decode cX8_layJam 59 = .ok (.iload_n 2, 1) := by decide +kernel
theorem dX8_layJam_60 : decode cX8_layJam 60 = .ok (.invokevirtual 104, 3) := by decide +kernel
theorem dX8_layJam_63 : decode cX8_layJam 63 = .ok (.invokevirtual 95, 3) := by decide +kernel
theorem dX8_layJam_66 : decode cX8_layJam 66 = .ok (.iload 5, 2) := by decide +kernel
theorem dX8_layJam_68 : decode cX8_layJam 68 = .ok (.iload_n 3, 1) := by decide +kernel
theorem dX8_layJam_69 : decode cX8_layJam 69 = .ok (.iadd, 1) := by decide +kernel
theorem dX8_layJam_70 : decode cX8_layJam 70 = .ok (.istore 5, 2) := by decide +kernel
theorem dX8_layJam_72 : decode cX8_layJam 72 = .ok (.goto (-28), 3) := by decide +kernel
theorem dX8_layJam_75 : decode cX8_layJam 75 = .ok (.return_, 1) := by decide +kernel
set_option maxRecDepth 100000 in
theorem c_X8_layJam (l : Launch) (D : q_D) (al : q_Al) (dt : q_Dt) (x0 : Nat) (x1 : Nat) (x2 : Int32) (kx0 : al.1 x0 = 9) (kx1 : al.1 x1 = 11) (dt0 : q_Dt) (hm : X8_layJam al dt x0 x1 x2 = some dt0) : q_Mt l yX8_layJam cX8_layJam 6 (none) 2 46 D al [.ref x0, .ref x1, .int x2] dt 0 none dt0 := by
  refine q_Mt.of (by decide) (Nat.le_of_ble_eq_true rfl) ?_
  intro p e s m args below meth c ls C hargs hW hl
  have hx := C.1
  have hb := C.2.1
  have hown := C.2.2.2.2.2.1
  have hts := C.2.2.2.2.2.2.1
  have hS : va_S (q_A al) s.heap s.heap [] := va_S.rf
  have hl : lv_has ls 6 [(0, .ref x0), (1, .ref x1), (2, .int x2)] := hl
  unfold X8_layJam at hm
  have hB44 : ∀ (x0_44 : Nat) (x1_44 : Nat) (x2_44 : Int32) (x3_44 : Int32) (x4_44 : Int32) (kx0_44 : al.1 x0_44 = 9) (kx1_44 : al.1 x1_44 = 11) (n_44 : Nat) (x5_44 : Int32) (dt : q_Dt) (H : Heap) (locs : List Loc) (ls : Array Slot) (hm : X8_layJam_b44 al x0_44 x1_44 x2_44 x3_44 x4_44 n_44 x5_44 dt = some dt0) (hW : q_W D al dt H) (hS : va_S (q_A al) s.heap H locs) (hl : lv_has ls 6 [(0, .ref x0_44), (1, .ref x1_44), (2, .int x2_44), (3, .int x3_44), (4, .int x4_44), (5, .int x5_44)]), W p l e { frames := 2, cells := 0, slots := 0, locals := 46 } s m args below meth c H locs 0 0 (MQ below (q_Q none (fun H => q_W D al dt0 H ∧ q_Rk al 0 none) (q_A al)) args s 0 0 (q_A al)) (F0 m 44 ls []) := by
    intro x0_44 x1_44 x2_44 x3_44 x4_44 kx0_44 kx1_44
    intro n_44
    induction n_44 with
    | zero => intro x5_44 dt H locs ls hm hW hS hl; cases hm
    | succ n_44 ih44 =>
      intro x5_44 dt H locs ls hm hW hS hl
      rw [X8_layJam_b44] at hm
      refine lv_iload hx hb dX8_layJam_44 (lv_at hl 5 rfl) ?_
      refine lv_iload hx hb dX8_layJam_46 (lv_at hl 4 rfl) ?_
      refine q_ifc hm (fun c44001 hm => ?_) (fun c44001 hm => ?_)
      · refine lv_icmp_gt (tgt := 75) hx hb dX8_layJam_48 (by decide) (fun _ => ?_) (fun h => absurd c44001 h)
        exact e_vD C hW hS hm dX8_layJam_75
      refine lv_icmp_gt (tgt := 75) hx hb dX8_layJam_48 (by decide) (fun h => absurd h c44001) (fun _ => ?_)
      refine lv_aload_n hx hb dX8_layJam_51 rfl (lv_at hl 0 rfl) ?_
      refine lv_iload hx hb dX8_layJam_52 (lv_at hl 5 rfl) ?_
      refine lv_iconst (v := 0) hx hb dX8_layJam_54 (by decide) ?_
      refine lv_aload_n hx hb dX8_layJam_55 rfl (lv_at hl 1 rfl) ?_
      refine r_getF C hW (ci := 10) kx1_44 ff_10_5 cl_10 fl_RX8_125 dX8_layJam_56 (fun k44002 => ?_)
      refine lv_iload_n hx hb dX8_layJam_59 rfl (lv_at hl 2 rfl) ?_
      obtain ⟨v44004, hc44003, hm⟩ := q_b1i hm
      refine q_callV C hW hS (As := [.int x2_44]) (rest := [.int 0, .int x5_44, .ref x0_44]) (st1 := [.int v44004, .int 0, .int x5_44, .ref x0_44]) (c_X5_small l D al dt (al.2.2 x1_44 5) x2_44 k44002 v44004 hc44003) yl_X5_small vl_X5_small ml_RX8_104 (ci := 5) rfl k44002 (by decide) rfl ⟨Nat.le_of_ble_eq_true rfl, Nat.le_of_ble_eq_true rfl⟩ hl rfl (Nat.le_of_ble_eq_true rfl) dX8_layJam_60 ⟨Nat.le_refl _, Nat.le_refl _⟩ rfl (fun H locs k44005 hW hS => ?_)
      obtain ⟨dt44007, hc44006, hm⟩ := q_b1i hm
      refine q_callV C hW hS (As := [.int x5_44, .int 0, .int v44004]) (rest := []) (st1 := []) (c_X8_increase l D al dt x0_44 x5_44 0 v44004 kx0_44 dt44007 hc44006) yl_X8_increase vl_X8_increase ml_RX8_95 (ci := 8) rfl kx0_44 (by decide) rfl ⟨Nat.le_of_ble_eq_true rfl, Nat.le_of_ble_eq_true rfl⟩ hl rfl (Nat.le_of_ble_eq_true rfl) dX8_layJam_63 ⟨Nat.le_refl _, Nat.le_refl _⟩ rfl (fun H locs k44008 hW hS => ?_)
      refine lv_iload hx hb dX8_layJam_66 (lv_at hl 5 rfl) ?_
      refine lv_iload_n hx hb dX8_layJam_68 rfl (lv_at hl 3 rfl) ?_
      refine lv_iadd hx hb dX8_layJam_69 ?_
      refine lv_istore (i := 5) (lv' := [(5, .int (x5_44 + x3_44)), (0, .ref x0_44), (1, .ref x1_44), (2, .int x2_44), (3, .int x3_44), (4, .int x4_44)]) hx hb dX8_layJam_70 hl (by decide) rfl (fun ls hl => ?_)
      refine lv_goto (tgt := 44) hx hb dX8_layJam_72 (by decide) ?_
      exact ih44 (x5_44 + x3_44) dt44007 _ _ _ hm hW hS (lv_sub hl [1, 2, 3, 4, 5, 0] rfl)
  refine lv_aload_n hx hb dX8_layJam_0 rfl (lv_at hl 1 rfl) ?_
  refine r_getF C hW (ci := 10) kx1 ff_10_6 cl_10 fl_RX8_110 dX8_layJam_1 (fun k1000001 => ?_)
  refine lv_iload_n hx hb dX8_layJam_4 rfl (lv_at hl 2 rfl) ?_
  obtain ⟨v1000003, hc1000002, hm⟩ := q_b1i hm
  refine q_callV C hW hS (As := [.int x2]) (rest := []) (st1 := [.int v1000003]) (c_X5_small l D al dt (al.2.2 x1 6) x2 k1000001 v1000003 hc1000002) yl_X5_small vl_X5_small ml_RX8_104 (ci := 5) rfl k1000001 (by decide) rfl ⟨Nat.le_of_ble_eq_true rfl, Nat.le_of_ble_eq_true rfl⟩ hl rfl (Nat.le_of_ble_eq_true rfl) dX8_layJam_5 ⟨Nat.le_refl _, Nat.le_refl _⟩ rfl (fun H locs k1000004 hW hS => ?_)
  refine lv_istore_n (i := 3) (lv' := [(3, .int v1000003), (0, .ref x0), (1, .ref x1), (2, .int x2)]) hx hb dX8_layJam_8 rfl hl (by decide) rfl (fun ls hl => ?_)
  refine lv_aload_n hx hb dX8_layJam_9 rfl (lv_at hl 2 rfl) ?_
  refine r_getF C hW (ci := 10) kx1 ff_10_4 cl_10 fl_RX8_113 dX8_layJam_10 (fun k1000005 => ?_)
  refine lv_iload_n hx hb dX8_layJam_13 rfl (lv_at hl 3 rfl) ?_
  obtain ⟨v1000007, hc1000006, hm⟩ := q_b1i hm
  refine q_callV C hW hS (As := [.int x2]) (rest := []) (st1 := [.int v1000007]) (c_X5_small l D al dt (al.2.2 x1 4) x2 k1000005 v1000007 hc1000006) yl_X5_small vl_X5_small ml_RX8_104 (ci := 5) rfl k1000005 (by decide) rfl ⟨Nat.le_of_ble_eq_true rfl, Nat.le_of_ble_eq_true rfl⟩ hl rfl (Nat.le_of_ble_eq_true rfl) dX8_layJam_14 ⟨Nat.le_refl _, Nat.le_refl _⟩ rfl (fun H locs k1000008 hW hS => ?_)
  refine lv_aload_n hx hb dX8_layJam_17 rfl (lv_at hl 1 rfl) ?_
  refine r_getI C hW (ci := 8) kx0 ff_8_2 cl_8 fl_RX8_23 dX8_layJam_18 ?_
  refine lv_iconst (v := 1) hx hb dX8_layJam_21 (by decide) ?_
  refine lv_isub hx hb dX8_layJam_22 ?_
  refine q_mmin C hl wm_RX8_116 wms_min wmi wmc_min (Nat.le_of_ble_eq_true rfl) (Nat.le_of_ble_eq_true rfl) ⟨Nat.le_refl _, Nat.le_refl _⟩ dX8_layJam_23 ?_
  refine lv_istore (i := 4) (lv' := [(4, .int (q_min v1000007 ((dt.1 x0 2) - 1))), (3, .int v1000003), (0, .ref x0), (1, .ref x1), (2, .int x2)]) hx hb dX8_layJam_26 hl (by decide) rfl (fun ls hl => ?_)
  refine lv_iload_n hx hb dX8_layJam_28 rfl (lv_at hl 1 rfl) ?_
  refine lv_iconst (v := 1) hx hb dX8_layJam_29 (by decide) ?_
  refine q_ifc hm (fun c1000009 hm => ?_) (fun c1000009 hm => ?_)
  · refine lv_icmp_ge (tgt := 34) hx hb dX8_layJam_30 (by decide) (fun _ => ?_) (fun h => absurd c1000009 h)
    refine lv_aload_n hx hb dX8_layJam_34 rfl (lv_at hl 3 rfl) ?_
    refine r_getF C hW (ci := 10) kx1 ff_10_3 cl_10 fl_RX8_122 dX8_layJam_35 (fun k1000010 => ?_)
    refine lv_iload_n hx hb dX8_layJam_38 rfl (lv_at hl 4 rfl) ?_
    obtain ⟨v1000012, hc1000011, hm⟩ := q_b1i hm
    refine q_callV C hW hS (As := [.int x2]) (rest := []) (st1 := [.int v1000012]) (c_X5_small l D al dt (al.2.2 x1 3) x2 k1000010 v1000012 hc1000011) yl_X5_small vl_X5_small ml_RX8_104 (ci := 5) rfl k1000010 (by decide) rfl ⟨Nat.le_of_ble_eq_true rfl, Nat.le_of_ble_eq_true rfl⟩ hl rfl (Nat.le_of_ble_eq_true rfl) dX8_layJam_39 ⟨Nat.le_refl _, Nat.le_refl _⟩ rfl (fun H locs k1000013 hW hS => ?_)
    refine lv_istore (i := 5) (lv' := [(5, .int v1000012), (4, .int (q_min v1000007 ((dt.1 x0 2) - 1))), (3, .int v1000003), (0, .ref x0), (1, .ref x1), (2, .int x2)]) hx hb dX8_layJam_42 hl (by decide) rfl (fun ls hl => ?_)
    exact hB44 x0 x1 x2 v1000003 (q_min v1000007 ((dt.1 x0 2) - 1)) kx0 kx1 q_FU v1000012 dt _ _ _ hm hW hS (lv_sub hl [3, 4, 5, 2, 1, 0] rfl)
  refine lv_icmp_ge (tgt := 34) hx hb dX8_layJam_30 (by decide) (fun h => absurd h c1000009) (fun _ => ?_)
  exact e_vD C hW hS hm dX8_layJam_33
theorem dX8_stirred_0 : decode cX8_stirred 0 = .ok (.iload_n 0, 1) := by decide +kernel
theorem dX8_stirred_1 : decode cX8_stirred 1 = .ok (.iload_n 1, 1) := by decide +kernel
theorem dX8_stirred_2 : decode cX8_stirred 2 = .ok (.ixor, 1) := by decide +kernel
theorem dX8_stirred_3 : decode cX8_stirred 3 = .ok (.ldc 135, 2) := by decide +kernel
theorem dX8_stirred_5 : decode cX8_stirred 5 = .ok (.imul, 1) := by decide +kernel
theorem dX8_stirred_6 : decode cX8_stirred 6 = .ok (.sipush 12345, 3) := by decide +kernel
theorem dX8_stirred_9 : decode cX8_stirred 9 = .ok (.iadd, 1) := by decide +kernel
theorem dX8_stirred_10 : decode cX8_stirred 10 = .ok (.istore_n 2, 1) := by decide +kernel
theorem dX8_stirred_11 : decode cX8_stirred 11 = .ok (.iload_n 2, 1) := by decide +kernel
theorem dX8_stirred_12 : decode cX8_stirred 12 = .ok (.iload_n 2, 1) := by decide +kernel
theorem dX8_stirred_13 : decode cX8_stirred 13 = .ok (.bipush 15, 2) := by decide +kernel
theorem dX8_stirred_15 : decode cX8_stirred 15 = .ok (.iushr, 1) := by decide +kernel
theorem dX8_stirred_16 : decode cX8_stirred 16 = .ok (.ixor, 1) := by decide +kernel
theorem dX8_stirred_17 : decode cX8_stirred 17 = .ok (.ireturn, 1) := by decide +kernel
set_option maxRecDepth 100000 in
theorem c_X8_stirred (l : Launch) (D : q_D) (al : q_Al) (dt : q_Dt) (x0 : Int32) (x1 : Int32) (r0 : Int32) (hm : X8_stirred x0 x1 = some r0) : q_Mt l yX8_stirred cX8_stirred 3 (some FieldType.int) 0 0 D al [.int x0, .int x1] dt 0 (some (.int r0)) dt := by
  refine q_Mt.of (by decide) (Nat.le_of_ble_eq_true rfl) ?_
  intro p e s m args below meth c ls C hargs hW hl
  have hx := C.1
  have hb := C.2.1
  have hown := C.2.2.2.2.2.1
  have hts := C.2.2.2.2.2.2.1
  have hS : va_S (q_A al) s.heap s.heap [] := va_S.rf
  have hl : lv_has ls 3 [(0, .int x0), (1, .int x1)] := hl
  unfold X8_stirred at hm
  refine lv_iload_n hx hb dX8_stirred_0 rfl (lv_at hl 0 rfl) ?_
  refine lv_iload_n hx hb dX8_stirred_1 rfl (lv_at hl 1 rfl) ?_
  refine lv_ixor hx hb dX8_stirred_2 ?_
  refine lv_ldc (own := RX8) (v := 1103515245) hx hb hown (hts _ wc_RX8_135) dX8_stirred_3 ?_
  refine lv_imul hx hb dX8_stirred_5 ?_
  refine lv_sipush (v := 12345) hx hb dX8_stirred_6 (by decide) ?_
  refine lv_iadd hx hb dX8_stirred_9 ?_
  refine lv_istore_n (i := 2) (lv' := [(2, .int (((x0 ^^^ x1) * 1103515245) + 12345)), (0, .int x0), (1, .int x1)]) hx hb dX8_stirred_10 rfl hl (by decide) rfl (fun ls hl => ?_)
  refine lv_iload_n hx hb dX8_stirred_11 rfl (lv_at hl 0 rfl) ?_
  refine lv_iload_n hx hb dX8_stirred_12 rfl (lv_at hl 0 rfl) ?_
  refine lv_bipush (v := 15) hx hb dX8_stirred_13 (by decide) ?_
  refine lv_iushr (v := (q_ushr (((x0 ^^^ x1) * 1103515245) + 12345) 15)) hx hb dX8_stirred_15 rfl ?_
  refine lv_ixor hx hb dX8_stirred_16 ?_
  exact e_i C hW hS hm dX8_stirred_17
theorem dX8_lot_0 : decode cX8_lot 0 = .ok (.iload_n 0, 1) := by decide +kernel
theorem dX8_lot_1 : decode cX8_lot 1 = .ok (.bipush 21, 2) := by decide +kernel
theorem dX8_lot_3 : decode cX8_lot 3 = .ok (.invokestatic 132, 3) := by decide +kernel
theorem dX8_lot_6 : decode cX8_lot 6 = .ok (.iload_n 1, 1) := by decide +kernel
theorem dX8_lot_7 : decode cX8_lot 7 = .ok (.invokestatic 132, 3) := by decide +kernel
theorem dX8_lot_10 : decode cX8_lot 10 = .ok (.istore_n 3, 1) := by decide +kernel
theorem dX8_lot_11 : decode cX8_lot 11 = .ok (.iload_n 2, 1) := by decide +kernel
theorem dX8_lot_12 : decode cX8_lot 12 = .ok (.iconst 1, 1) := by decide +kernel
theorem dX8_lot_13 : decode cX8_lot 13 = .ok (.if_icmp .ge 7, 3) := by decide +kernel
theorem dX8_lot_16 : decode cX8_lot 16 = .ok (.iconst 0, 1) := by decide +kernel
theorem dX8_lot_17 : decode cX8_lot 17 = .ok (.goto 8, 3) := by decide +kernel
theorem dX8_lot_20 : decode cX8_lot 20 = .ok (.iload_n 3, 1) := by decide +kernel
theorem dX8_lot_21 : decode cX8_lot 21 = .ok (.iconst 1, 1) := by decide +kernel
theorem dX8_lot_22 : decode cX8_lot 22 = .ok (.iushr, 1) := by decide +kernel
theorem dX8_lot_23 : decode cX8_lot 23 = .ok (.iload_n 2, 1) := by decide +kernel
theorem dX8_lot_24 : decode cX8_lot 24 = .ok (.irem, 1) := by decide +kernel
theorem dX8_lot_25 : decode cX8_lot 25 = .ok (.ireturn, 1) := by decide +kernel
set_option maxRecDepth 100000 in
theorem c_X8_lot (l : Launch) (D : q_D) (al : q_Al) (dt : q_Dt) (x0 : Int32) (x1 : Int32) (x2 : Int32) (r0 : Int32) (hm : X8_lot x0 x1 x2 = some r0) : q_Mt l yX8_lot cX8_lot 4 (some FieldType.int) 1 22 D al [.int x0, .int x1, .int x2] dt 0 (some (.int r0)) dt := by
  refine q_Mt.of (by decide) (Nat.le_of_ble_eq_true rfl) ?_
  intro p e s m args below meth c ls C hargs hW hl
  have hx := C.1
  have hb := C.2.1
  have hown := C.2.2.2.2.2.1
  have hts := C.2.2.2.2.2.2.1
  have hS : va_S (q_A al) s.heap s.heap [] := va_S.rf
  have hl : lv_has ls 4 [(0, .int x0), (1, .int x1), (2, .int x2)] := hl
  unfold X8_lot at hm
  refine lv_iload_n hx hb dX8_lot_0 rfl (lv_at hl 0 rfl) ?_
  refine lv_bipush (v := 21) hx hb dX8_lot_1 (by decide) ?_
  obtain ⟨v1000002, hc1000001, hm⟩ := q_b1i hm
  refine q_callS C hW hS (As := [.int x0, .int 21]) (rest := []) (st1 := [.int v1000002]) (c_X8_stirred l D al dt x0 21 v1000002 hc1000001) yl_X8_stirred sl_X8_stirred ml_RX8_132 rfl ⟨Nat.le_of_ble_eq_true rfl, Nat.le_of_ble_eq_true rfl⟩ hl rfl (Nat.le_of_ble_eq_true rfl) dX8_lot_3 ⟨Nat.le_refl _, Nat.le_refl _⟩ rfl (fun H locs k1000003 hW hS => ?_)
  refine lv_iload_n hx hb dX8_lot_6 rfl (lv_at hl 1 rfl) ?_
  obtain ⟨v1000005, hc1000004, hm⟩ := q_b1i hm
  refine q_callS C hW hS (As := [.int v1000002, .int x1]) (rest := []) (st1 := [.int v1000005]) (c_X8_stirred l D al dt v1000002 x1 v1000005 hc1000004) yl_X8_stirred sl_X8_stirred ml_RX8_132 rfl ⟨Nat.le_of_ble_eq_true rfl, Nat.le_of_ble_eq_true rfl⟩ hl rfl (Nat.le_of_ble_eq_true rfl) dX8_lot_7 ⟨Nat.le_refl _, Nat.le_refl _⟩ rfl (fun H locs k1000006 hW hS => ?_)
  refine lv_istore_n (i := 3) (lv' := [(3, .int v1000005), (0, .int x0), (1, .int x1), (2, .int x2)]) hx hb dX8_lot_10 rfl hl (by decide) rfl (fun ls hl => ?_)
  refine lv_iload_n hx hb dX8_lot_11 rfl (lv_at hl 3 rfl) ?_
  refine lv_iconst (v := 1) hx hb dX8_lot_12 (by decide) ?_
  refine q_ifc hm (fun c1000007 hm => ?_) (fun c1000007 hm => ?_)
  · refine lv_icmp_ge (tgt := 20) hx hb dX8_lot_13 (by decide) (fun _ => ?_) (fun h => absurd c1000007 h)
    refine lv_iload_n hx hb dX8_lot_20 rfl (lv_at hl 0 rfl) ?_
    refine lv_iconst (v := 1) hx hb dX8_lot_21 (by decide) ?_
    refine lv_iushr (v := (q_ushr v1000005 1)) hx hb dX8_lot_22 rfl ?_
    refine lv_iload_n hx hb dX8_lot_23 rfl (lv_at hl 3 rfl) ?_
    obtain ⟨c1000008, hm⟩ := q_ini hm
    refine lv_irem hx hb dX8_lot_24 c1000008 ?_
    exact e_i C hW hS hm dX8_lot_25
  refine lv_icmp_ge (tgt := 20) hx hb dX8_lot_13 (by decide) (fun h => absurd h c1000007) (fun _ => ?_)
  refine lv_iconst (v := 0) hx hb dX8_lot_16 (by decide) ?_
  refine lv_goto (tgt := 25) hx hb dX8_lot_17 (by decide) ?_
  exact e_i C hW hS hm dX8_lot_25
theorem dX8_layNoise_0 : decode cX8_layNoise 0 = .ok (.iconst 0, 1) := by decide +kernel
theorem dX8_layNoise_1 : decode cX8_layNoise 1 = .ok (.istore_n 3, 1) := by decide +kernel
theorem dX8_layNoise_2 : decode cX8_layNoise 2 = .ok (.iload_n 3, 1) := by decide +kernel
theorem dX8_layNoise_3 : decode cX8_layNoise 3 = .ok (.aload_n 0, 1) := by decide +kernel
theorem dX8_layNoise_4 : decode cX8_layNoise 4 = .ok (.getfield 23, 3) := by decide +kernel
theorem dX8_layNoise_7 : decode cX8_layNoise 7 = .ok (.if_icmp .ge 57, 3) := by decide +kernel
theorem dX8_layNoise_10 : decode cX8_layNoise 10 = .ok (.aload_n 0, 1) := by decide +kernel
theorem dX8_layNoise_11 : decode cX8_layNoise 11 = .ok (.getfield 14, 3) := by decide +kernel
theorem dX8_layNoise_14 : decode cX8_layNoise 14 = .ok (.iload_n 3, 1) := by decide +kernel
theorem dX8_layNoise_15 : decode cX8_layNoise 15 = .ok (.iload_n 2, 1) := by decide +kernel
theorem dX8_layNoise_16 : decode cX8_layNoise 16 = .ok (.iconst 2, 1) := by decide +kernel
theorem dX8_layNoise_17 : decode cX8_layNoise 17 = .ok (.iload_n 3, 1) := by decide +kernel
theorem dX8_layNoise_18 : decode cX8_layNoise 18 = .ok (.imul, 1) := by decide +kernel
theorem dX8_layNoise_19 : decode cX8_layNoise 19 = .ok (.iconst 2, 1) := by decide +kernel
theorem dX8_layNoise_20 : decode cX8_layNoise 20 = .ok (.iload_n 1, 1) := by decide +kernel
theorem dX8_layNoise_21 : decode cX8_layNoise 21 = .ok (.imul, 1) := by decide +kernel
theorem dX8_layNoise_22 : decode cX8_layNoise 22 = .ok (.iconst 1, 1) := by decide +kernel
theorem dX8_layNoise_23 : decode cX8_layNoise 23 = .ok (.iadd, 1) := by decide +kernel
theorem dX8_layNoise_24 : decode cX8_layNoise 24 = .ok (.invokestatic 128, 3) := by decide +kernel
theorem dX8_layNoise_27 : decode cX8_layNoise 27 = .ok (.iload_n 1, 1) := by decide +kernel
theorem dX8_layNoise_28 : decode cX8_layNoise 28 = .ok (.isub, 1) := by decide +kernel
theorem dX8_layNoise_29 : decode cX8_layNoise 29 = .ok (.i2l, 1) := by decide +kernel
theorem dX8_layNoise_30 : decode cX8_layNoise 30 = .ok (.invokevirtual 31, 3) := by decide +kernel
theorem dX8_layNoise_33 : decode cX8_layNoise 33 = .ok (.aload_n 0, 1) := by decide +kernel
theorem dX8_layNoise_34 : decode cX8_layNoise 34 = .ok (.getfield 20, 3) := by decide +kernel
theorem dX8_layNoise_37 : decode cX8_layNoise 37 = .ok (.iload_n 3, 1) := by decide +kernel
theorem dX8_layNoise_38 : decode cX8_layNoise 38 = .ok (.iload_n 2, 1) := by decide +kernel
theorem dX8_layNoise_39 : decode cX8_layNoise 39 = .ok (.iconst 2, 1) := by decide +kernel
theorem dX8_layNoise_40 : decode cX8_layNoise 40 = .ok (.iload_n 3, 1) := by decide +kernel
theorem dX8_layNoise_41 : decode cX8_layNoise 41 = .ok (.imul, 1) := by decide +kernel
theorem dX8_layNoise_42 : decode cX8_layNoise 42 = .ok (.iconst 1, 1) := by decide +kernel
theorem dX8_layNoise_43 : decode cX8_layNoise 43 = .ok (.iadd, 1) := by decide +kernel
theorem dX8_layNoise_44 : decode cX8_layNoise 44 = .ok (.iconst 2, 1) := by decide +kernel
theorem dX8_layNoise_45 : decode cX8_layNoise 45 = .ok (.iload_n 1, 1) := by decide +kernel
theorem dX8_layNoise_46 : decode cX8_layNoise 46 = .ok (.imul, 1) := by decide +kernel
theorem dX8_layNoise_47 : decode cX8_layNoise 47 = .ok (.iconst 1, 1) := by decide +kernel
theorem dX8_layNoise_48 : decode cX8_layNoise 48 = .ok (.iadd, 1) := by decide +kernel
theorem dX8_layNoise_49 : decode cX8_layNoise 49 = .ok (.invokestatic 128, 3) := by decide +kernel
theorem dX8_layNoise_52 : decode cX8_layNoise 52 = .ok (.iload_n 1, 1) := by decide +kernel
theorem dX8_layNoise_53 : decode cX8_layNoise 53 = .ok (.isub, 1) := by decide +kernel
theorem dX8_layNoise_54 : decode cX8_layNoise 54 = .ok (.i2l, 1) := by decide +kernel
theorem dX8_layNoise_55 : decode cX8_layNoise 55 = .ok (.invokevirtual 31, 3) := by decide +kernel
theorem dX8_layNoise_58 : decode cX8_layNoise 58 = .ok (.iinc 3 1, 3) := by decide +kernel
theorem dX8_layNoise_61 : decode cX8_layNoise 61 = .ok (.goto (-59), 3) := by decide +kernel
theorem dX8_layNoise_64 : decode cX8_layNoise 64 = .ok (.return_, 1) := by decide +kernel
set_option maxRecDepth 100000 in
theorem c_X8_layNoise (l : Launch) (D : q_D) (al : q_Al) (dt : q_Dt) (x0 : Nat) (x1 : Int32) (x2 : Int32) (kx0 : al.1 x0 = 9) (dt0 : q_Dt) (hm : X8_layNoise al dt x0 x1 x2 = some dt0) : q_Mt l yX8_layNoise cX8_layNoise 4 (none) 2 45 D al [.ref x0, .int x1, .int x2] dt 0 none dt0 := by
  refine q_Mt.of (by decide) (Nat.le_of_ble_eq_true rfl) ?_
  intro p e s m args below meth c ls C hargs hW hl
  have hx := C.1
  have hb := C.2.1
  have hown := C.2.2.2.2.2.1
  have hts := C.2.2.2.2.2.2.1
  have hS : va_S (q_A al) s.heap s.heap [] := va_S.rf
  have hl : lv_has ls 4 [(0, .ref x0), (1, .int x1), (2, .int x2)] := hl
  unfold X8_layNoise at hm
  have hB2 : ∀ (x0_2 : Nat) (x1_2 : Int32) (x2_2 : Int32) (kx0_2 : al.1 x0_2 = 9) (n_2 : Nat) (x3_2 : Int32) (dt : q_Dt) (H : Heap) (locs : List Loc) (ls : Array Slot) (hm : X8_layNoise_b2 al x0_2 x1_2 x2_2 n_2 x3_2 dt = some dt0) (hW : q_W D al dt H) (hS : va_S (q_A al) s.heap H locs) (hl : lv_has ls 4 [(0, .ref x0_2), (1, .int x1_2), (2, .int x2_2), (3, .int x3_2)]), W p l e { frames := 2, cells := 0, slots := 0, locals := 45 } s m args below meth c H locs 0 0 (MQ below (q_Q none (fun H => q_W D al dt0 H ∧ q_Rk al 0 none) (q_A al)) args s 0 0 (q_A al)) (F0 m 2 ls []) := by
    intro x0_2 x1_2 x2_2 kx0_2
    intro n_2
    induction n_2 with
    | zero => intro x3_2 dt H locs ls hm hW hS hl; cases hm
    | succ n_2 ih2 =>
      intro x3_2 dt H locs ls hm hW hS hl
      rw [X8_layNoise_b2] at hm
      refine lv_iload_n hx hb dX8_layNoise_2 rfl (lv_at hl 3 rfl) ?_
      refine lv_aload_n hx hb dX8_layNoise_3 rfl (lv_at hl 0 rfl) ?_
      refine r_getI C hW (ci := 8) kx0_2 ff_8_2 cl_8 fl_RX8_23 dX8_layNoise_4 ?_
      refine q_ifc hm (fun c2001 hm => ?_) (fun c2001 hm => ?_)
      · refine lv_icmp_ge (tgt := 64) hx hb dX8_layNoise_7 (by decide) (fun _ => ?_) (fun h => absurd c2001 h)
        exact e_vD C hW hS hm dX8_layNoise_64
      refine lv_icmp_ge (tgt := 64) hx hb dX8_layNoise_7 (by decide) (fun h => absurd h c2001) (fun _ => ?_)
      refine lv_aload_n hx hb dX8_layNoise_10 rfl (lv_at hl 0 rfl) ?_
      refine r_getF C hW (ci := 8) kx0_2 ff_8_0 cl_8 fl_RX8_14 dX8_layNoise_11 (fun k2002 => ?_)
      refine lv_iload_n hx hb dX8_layNoise_14 rfl (lv_at hl 3 rfl) ?_
      refine lv_iload_n hx hb dX8_layNoise_15 rfl (lv_at hl 2 rfl) ?_
      refine lv_iconst (v := 2) hx hb dX8_layNoise_16 (by decide) ?_
      refine lv_iload_n hx hb dX8_layNoise_17 rfl (lv_at hl 3 rfl) ?_
      refine lv_imul hx hb dX8_layNoise_18 ?_
      refine lv_iconst (v := 2) hx hb dX8_layNoise_19 (by decide) ?_
      refine lv_iload_n hx hb dX8_layNoise_20 rfl (lv_at hl 1 rfl) ?_
      refine lv_imul hx hb dX8_layNoise_21 ?_
      refine lv_iconst (v := 1) hx hb dX8_layNoise_22 (by decide) ?_
      refine lv_iadd hx hb dX8_layNoise_23 ?_
      obtain ⟨v2004, hc2003, hm⟩ := q_b1i hm
      refine q_callS C hW hS (As := [.int x2_2, .int (2 * x3_2), .int ((2 * x1_2) + 1)]) (rest := [.int x3_2, .ref (al.2.2 x0_2 0)]) (st1 := [.int v2004, .int x3_2, .ref (al.2.2 x0_2 0)]) (c_X8_lot l D al dt x2_2 (2 * x3_2) ((2 * x1_2) + 1) v2004 hc2003) yl_X8_lot sl_X8_lot ml_RX8_128 rfl ⟨Nat.le_of_ble_eq_true rfl, Nat.le_of_ble_eq_true rfl⟩ hl rfl (Nat.le_of_ble_eq_true rfl) dX8_layNoise_24 ⟨Nat.le_refl _, Nat.le_refl _⟩ rfl (fun H locs k2005 hW hS => ?_)
      refine lv_iload_n hx hb dX8_layNoise_27 rfl (lv_at hl 1 rfl) ?_
      refine lv_isub hx hb dX8_layNoise_28 ?_
      refine lv_i2l (v := (Int32.toInt64 (v2004 - x1_2))) hx hb dX8_layNoise_29 rfl ?_
      obtain ⟨dt2007, hc2006, hm⟩ := q_b1i hm
      refine q_callV C hW hS (As := [.int x3_2, .long (Int32.toInt64 (v2004 - x1_2))]) (rest := []) (st1 := []) (c_X5_increase l D al dt (al.2.2 x0_2 0) x3_2 (Int32.toInt64 (v2004 - x1_2)) k2002 dt2007 hc2006) yl_X5_increase vl_X5_increase ml_RX8_31 (ci := 5) rfl k2002 (by decide) rfl ⟨Nat.le_of_ble_eq_true rfl, Nat.le_of_ble_eq_true rfl⟩ hl rfl (Nat.le_of_ble_eq_true rfl) dX8_layNoise_30 ⟨Nat.le_refl _, Nat.le_refl _⟩ rfl (fun H locs k2008 hW hS => ?_)
      refine lv_aload_n hx hb dX8_layNoise_33 rfl (lv_at hl 0 rfl) ?_
      refine r_getF C hW (ci := 8) kx0_2 ff_8_1 cl_8 fl_RX8_20 dX8_layNoise_34 (fun k2009 => ?_)
      refine lv_iload_n hx hb dX8_layNoise_37 rfl (lv_at hl 3 rfl) ?_
      refine lv_iload_n hx hb dX8_layNoise_38 rfl (lv_at hl 2 rfl) ?_
      refine lv_iconst (v := 2) hx hb dX8_layNoise_39 (by decide) ?_
      refine lv_iload_n hx hb dX8_layNoise_40 rfl (lv_at hl 3 rfl) ?_
      refine lv_imul hx hb dX8_layNoise_41 ?_
      refine lv_iconst (v := 1) hx hb dX8_layNoise_42 (by decide) ?_
      refine lv_iadd hx hb dX8_layNoise_43 ?_
      refine lv_iconst (v := 2) hx hb dX8_layNoise_44 (by decide) ?_
      refine lv_iload_n hx hb dX8_layNoise_45 rfl (lv_at hl 1 rfl) ?_
      refine lv_imul hx hb dX8_layNoise_46 ?_
      refine lv_iconst (v := 1) hx hb dX8_layNoise_47 (by decide) ?_
      refine lv_iadd hx hb dX8_layNoise_48 ?_
      obtain ⟨v2011, hc2010, hm⟩ := q_b1i hm
      refine q_callS C hW hS (As := [.int x2_2, .int ((2 * x3_2) + 1), .int ((2 * x1_2) + 1)]) (rest := [.int x3_2, .ref (al.2.2 x0_2 1)]) (st1 := [.int v2011, .int x3_2, .ref (al.2.2 x0_2 1)]) (c_X8_lot l D al dt2007 x2_2 ((2 * x3_2) + 1) ((2 * x1_2) + 1) v2011 hc2010) yl_X8_lot sl_X8_lot ml_RX8_128 rfl ⟨Nat.le_of_ble_eq_true rfl, Nat.le_of_ble_eq_true rfl⟩ hl rfl (Nat.le_of_ble_eq_true rfl) dX8_layNoise_49 ⟨Nat.le_refl _, Nat.le_refl _⟩ rfl (fun H locs k2012 hW hS => ?_)
      refine lv_iload_n hx hb dX8_layNoise_52 rfl (lv_at hl 1 rfl) ?_
      refine lv_isub hx hb dX8_layNoise_53 ?_
      refine lv_i2l (v := (Int32.toInt64 (v2011 - x1_2))) hx hb dX8_layNoise_54 rfl ?_
      obtain ⟨dt2014, hc2013, hm⟩ := q_b1i hm
      refine q_callV C hW hS (As := [.int x3_2, .long (Int32.toInt64 (v2011 - x1_2))]) (rest := []) (st1 := []) (c_X5_increase l D al dt2007 (al.2.2 x0_2 1) x3_2 (Int32.toInt64 (v2011 - x1_2)) k2009 dt2014 hc2013) yl_X5_increase vl_X5_increase ml_RX8_31 (ci := 5) rfl k2009 (by decide) rfl ⟨Nat.le_of_ble_eq_true rfl, Nat.le_of_ble_eq_true rfl⟩ hl rfl (Nat.le_of_ble_eq_true rfl) dX8_layNoise_55 ⟨Nat.le_refl _, Nat.le_refl _⟩ rfl (fun H locs k2015 hW hS => ?_)
      refine lv_iinc (v := (x3_2 + 1)) (lv' := [(3, .int (x3_2 + 1)), (0, .ref x0_2), (1, .int x1_2), (2, .int x2_2)]) hx hb dX8_layNoise_58 hl (k := 3) rfl rfl (by decide) rfl (fun ls hl => ?_)
      refine lv_goto (tgt := 2) hx hb dX8_layNoise_61 (by decide) ?_
      exact ih2 (x3_2 + 1) dt2014 _ _ _ hm hW hS (lv_sub hl [1, 2, 3, 0] rfl)
  refine lv_iconst (v := 0) hx hb dX8_layNoise_0 (by decide) ?_
  refine lv_istore_n (i := 3) (lv' := [(3, .int 0), (0, .ref x0), (1, .int x1), (2, .int x2)]) hx hb dX8_layNoise_1 rfl hl (by decide) rfl (fun ls hl => ?_)
  exact hB2 x0 x1 x2 kx0 q_FU 0 dt _ _ _ hm hW hS (lv_sub hl [1, 2, 3, 0] rfl)
theorem dX8_layAnew_0 : decode cX8_layAnew 0 = .ok (.aload_n 0, 1) := by decide +kernel
theorem dX8_layAnew_1 : decode cX8_layAnew 1 = .ok (.aload_n 1, 1) := by decide +kernel
theorem dX8_layAnew_2 : decode cX8_layAnew 2 = .ok (.getfield 39, 3) := by decide +kernel
theorem dX8_layAnew_5 : decode cX8_layAnew 5 = .ok (.putfield 23, 3) := by decide +kernel
theorem dX8_layAnew_8 : decode cX8_layAnew 8 = .ok (.aload_n 0, 1) := by decide +kernel
theorem dX8_layAnew_9 : decode cX8_layAnew 9 = .ok (.getfield 14, 3) := by decide +kernel
theorem dX8_layAnew_12 : decode cX8_layAnew 12 = .ok (.invokevirtual 42, 3) := by decide +kernel
theorem dX8_layAnew_15 : decode cX8_layAnew 15 = .ok (.aload_n 0, 1) := by decide +kernel
theorem dX8_layAnew_16 : decode cX8_layAnew 16 = .ok (.getfield 20, 3) := by decide +kernel
theorem dX8_layAnew_19 : decode cX8_layAnew 19 = .ok (.invokevirtual 42, 3) := by decide +kernel
theorem dX8_layAnew_22 : decode cX8_layAnew 22 = .ok (.iconst 0, 1) := by decide +kernel
theorem dX8_layAnew_23 : decode cX8_layAnew 23 = .ok (.istore_n 2, 1) := by decide +kernel
theorem dX8_layAnew_24 : decode cX8_layAnew 24 = .ok (.iload_n 2, 1) := by decide +kernel
theorem dX8_layAnew_25 : decode cX8_layAnew 25 = .ok (.aload_n 1, 1) := by decide +kernel
theorem dX8_layAnew_26 : decode cX8_layAnew 26 = .ok (.getfield 45, 3) := by decide +kernel
theorem dX8_layAnew_29 : decode cX8_layAnew 29 = .ok (.if_icmp .ge 26, 3) := by decide +kernel
theorem dX8_layAnew_32 : decode cX8_layAnew 32 = .ok (.aload_n 1, 1) := by decide +kernel
theorem dX8_layAnew_33 : decode cX8_layAnew 33 = .ok (.iload_n 2, 1) := by decide +kernel
theorem dX8_layAnew_34 : decode cX8_layAnew 34 = .ok (.invokevirtual 48, 3) := by decide +kernel
theorem dX8_layAnew_37 : decode cX8_layAnew 37 = .ok (.astore_n 3, 1) := by decide +kernel
theorem dX8_layAnew_38 : decode cX8_layAnew 38 = .ok (.aload_n 3, 1) := by decide +kernel
theorem dX8_layAnew_39 : decode cX8_layAnew 39 = .ok (.ifnull 10, 3) := by decide +kernel
theorem dX8_layAnew_42 : decode cX8_layAnew 42 = .ok (.aload_n 0, 1) := by decide +kernel
theorem dX8_layAnew_43 : decode cX8_layAnew 43 = .ok (.aload_n 3, 1) := by decide +kernel
theorem dX8_layAnew_44 : decode cX8_layAnew 44 = .ok (.aconst_null, 1) := by decide +kernel
theorem dX8_layAnew_45 : decode cX8_layAnew 45 = .ok (.iconst 1, 1) := by decide +kernel
theorem dX8_layAnew_46 : decode cX8_layAnew 46 = .ok (.invokevirtual 52, 3) := by decide +kernel
theorem dX8_layAnew_49 : decode cX8_layAnew 49 = .ok (.iinc 2 1, 3) := by decide +kernel
theorem dX8_layAnew_52 : decode cX8_layAnew 52 = .ok (.goto (-28), 3) := by decide +kernel
theorem dX8_layAnew_55 : decode cX8_layAnew 55 = .ok (.iconst 0, 1) := by decide +kernel
theorem dX8_layAnew_56 : decode cX8_layAnew 56 = .ok (.istore_n 2, 1) := by decide +kernel
theorem dX8_layAnew_57 : decode cX8_layAnew 57 = .ok (.iload_n 2, 1) := by decide +kernel
theorem dX8_layAnew_58 : decode cX8_layAnew 58 = .ok (.aload_n 1, 1) := by decide +kernel
theorem dX8_layAnew_59 : decode cX8_layAnew 59 = .ok (.getfield 56, 3) := by decide +kernel
theorem dX8_layAnew_62 : decode cX8_layAnew 62 = .ok (.if_icmp .ge 15, 3) := by decide +kernel
theorem dX8_layAnew_65 : decode cX8_layAnew 65 = .ok (.aload_n 0, 1) := by decide +kernel
theorem dX8_layAnew_66 : decode cX8_layAnew 66 = .ok (.aload_n 1, 1) := by decide +kernel
theorem dX8_layAnew_67 : decode cX8_layAnew 67 = .ok (.iload_n 2, 1) := by decide +kernel
theorem dX8_layAnew_68 : decode cX8_layAnew 68 = .ok (.invokevirtual 59, 3) := by decide +kernel
theorem dX8_layAnew_71 : decode cX8_layAnew 71 = .ok (.iinc 2 1, 3) := by decide +kernel
theorem dX8_layAnew_74 : decode cX8_layAnew 74 = .ok (.goto (-17), 3) := by decide +kernel
theorem dX8_layAnew_77 : decode cX8_layAnew 77 = .ok (.aload_n 0, 1) := by decide +kernel
theorem dX8_layAnew_78 : decode cX8_layAnew 78 = .ok (.aload_n 1, 1) := by decide +kernel
theorem dX8_layAnew_79 : decode cX8_layAnew 79 = .ok (.getfield 63, 3) := by decide +kernel
theorem dX8_layAnew_82 : decode cX8_layAnew 82 = .ok (.aload_n 1, 1) := by decide +kernel
theorem dX8_layAnew_83 : decode cX8_layAnew 83 = .ok (.getfield 66, 3) := by decide +kernel
theorem dX8_layAnew_86 : decode cX8_layAnew 86 = .ok (.invokevirtual 69, 3) := by decide +kernel
theorem dX8_layAnew_89 : decode cX8_layAnew 89 = .ok (.return_, 1) := by decide +kernel
set_option maxRecDepth 100000 in
theorem c_X8_layAnew (l : Launch) (D : q_D) (al : q_Al) (dt : q_Dt) (x0 : Nat) (x1 : Option Nat) (kx0 : al.1 x0 = 9) (kx1 : ∀ b, x1 = some b → al.1 b = 11) (dt0 : q_Dt) (hm : X8_layAnew al dt x0 x1 = some dt0) : q_Mt l yX8_layAnew cX8_layAnew 4 (none) 4 98 D al [.ref x0, va_rf x1] dt 0 none dt0 := by
  refine q_Mt.of (by decide) (by simp [lg_sl, q_cat, q_catR, q_catI, q_catL]) ?_
  intro p e s m args below meth c ls C hargs hW hl
  have hx := C.1
  have hb := C.2.1
  have hown := C.2.2.2.2.2.1
  have hts := C.2.2.2.2.2.2.1
  have hS : va_S (q_A al) s.heap s.heap [] := va_S.rf
  have hl : lv_has ls 4 [(0, .ref x0), (1, va_rf x1)] := by simpa [lv_args, q_cat, q_catR, q_catI, q_catL] using hl
  unfold X8_layAnew at hm
  have hB57 : ∀ (x0_57 : Nat) (x1_57 : Nat) (kx0_57 : al.1 x0_57 = 9) (kx1_57 : al.1 x1_57 = 11) (n_57 : Nat) (x2_57 : Int32) (dt : q_Dt) (H : Heap) (locs : List Loc) (ls : Array Slot) (hm : X8_layAnew_b57 al x0_57 x1_57 n_57 x2_57 dt = some dt0) (hW : q_W D al dt H) (hS : va_S (q_A al) s.heap H locs) (hl : lv_has ls 4 [(0, .ref x0_57), (1, .ref x1_57), (2, .int x2_57)]), W p l e { frames := 4, cells := 0, slots := 0, locals := 98 } s m args below meth c H locs 0 0 (MQ below (q_Q none (fun H => q_W D al dt0 H ∧ q_Rk al 0 none) (q_A al)) args s 0 0 (q_A al)) (F0 m 57 ls []) := by
    intro x0_57 x1_57 kx0_57 kx1_57
    intro n_57
    induction n_57 with
    | zero => intro x2_57 dt H locs ls hm hW hS hl; cases hm
    | succ n_57 ih57 =>
      intro x2_57 dt H locs ls hm hW hS hl
      rw [X8_layAnew_b57] at hm
      refine lv_iload_n hx hb dX8_layAnew_57 rfl (lv_at hl 2 rfl) ?_
      refine lv_aload_n hx hb dX8_layAnew_58 rfl (lv_at hl 1 rfl) ?_
      refine r_getI C hW (ci := 10) kx1_57 ff_10_11 cl_10 fl_RX8_56 dX8_layAnew_59 ?_
      refine q_ifc hm (fun c57001 hm => ?_) (fun c57001 hm => ?_)
      · refine lv_icmp_ge (tgt := 77) hx hb dX8_layAnew_62 (by decide) (fun _ => ?_) (fun h => absurd c57001 h)
        refine lv_aload_n hx hb dX8_layAnew_77 rfl (lv_at hl 0 rfl) ?_
        refine lv_aload_n hx hb dX8_layAnew_78 rfl (lv_at hl 1 rfl) ?_
        refine r_getI C hW (ci := 10) kx1_57 ff_10_13 cl_10 fl_RX8_63 dX8_layAnew_79 ?_
        refine lv_aload_n hx hb dX8_layAnew_82 rfl (lv_at hl 1 rfl) ?_
        refine r_getI C hW (ci := 10) kx1_57 ff_10_14 cl_10 fl_RX8_66 dX8_layAnew_83 ?_
        obtain ⟨dt57003, hc57002, hm⟩ := q_b1i hm
        refine q_callV C hW hS (As := [.int (dt.1 x1_57 13), .int (dt.1 x1_57 14)]) (rest := []) (st1 := []) (c_X8_layNoise l D al dt x0_57 (dt.1 x1_57 13) (dt.1 x1_57 14) kx0_57 dt57003 hc57002) yl_X8_layNoise vl_X8_layNoise ml_RX8_69 (ci := 8) rfl kx0_57 (by decide) rfl ⟨Nat.le_of_ble_eq_true rfl, Nat.le_of_ble_eq_true rfl⟩ hl rfl (Nat.le_of_ble_eq_true rfl) dX8_layAnew_86 ⟨Nat.le_refl _, Nat.le_refl _⟩ rfl (fun H locs k57004 hW hS => ?_)
        exact e_vD C hW hS hm dX8_layAnew_89
      refine lv_icmp_ge (tgt := 77) hx hb dX8_layAnew_62 (by decide) (fun h => absurd h c57001) (fun _ => ?_)
      refine lv_aload_n hx hb dX8_layAnew_65 rfl (lv_at hl 0 rfl) ?_
      refine lv_aload_n hx hb dX8_layAnew_66 rfl (lv_at hl 1 rfl) ?_
      refine lv_iload_n hx hb dX8_layAnew_67 rfl (lv_at hl 2 rfl) ?_
      obtain ⟨dt57006, hc57005, hm⟩ := q_b1i hm
      refine q_callV C hW hS (As := [.ref x1_57, .int x2_57]) (rest := []) (st1 := []) (c_X8_layJam l D al dt x0_57 x1_57 x2_57 kx0_57 kx1_57 dt57006 hc57005) yl_X8_layJam vl_X8_layJam ml_RX8_59 (ci := 8) rfl kx0_57 (by decide) rfl ⟨Nat.le_of_ble_eq_true rfl, Nat.le_of_ble_eq_true rfl⟩ hl rfl (Nat.le_of_ble_eq_true rfl) dX8_layAnew_68 ⟨Nat.le_refl _, Nat.le_refl _⟩ rfl (fun H locs k57007 hW hS => ?_)
      refine lv_iinc (v := (x2_57 + 1)) (lv' := [(2, .int (x2_57 + 1)), (0, .ref x0_57), (1, .ref x1_57)]) hx hb dX8_layAnew_71 hl (k := 2) rfl rfl (by decide) rfl (fun ls hl => ?_)
      refine lv_goto (tgt := 57) hx hb dX8_layAnew_74 (by decide) ?_
      exact ih57 (x2_57 + 1) dt57006 _ _ _ hm hW hS (lv_sub hl [1, 2, 0] rfl)
  have hB24 : ∀ (x0_24 : Nat) (x1_24 : Nat) (kx0_24 : al.1 x0_24 = 9) (kx1_24 : al.1 x1_24 = 11) (n_24 : Nat) (x2_24 : Int32) (dt : q_Dt) (H : Heap) (locs : List Loc) (ls : Array Slot) (hm : X8_layAnew_b24 al x0_24 x1_24 n_24 x2_24 dt = some dt0) (hW : q_W D al dt H) (hS : va_S (q_A al) s.heap H locs) (hl : lv_has ls 4 [(0, .ref x0_24), (1, .ref x1_24), (2, .int x2_24)]), W p l e { frames := 4, cells := 0, slots := 0, locals := 98 } s m args below meth c H locs 0 0 (MQ below (q_Q none (fun H => q_W D al dt0 H ∧ q_Rk al 0 none) (q_A al)) args s 0 0 (q_A al)) (F0 m 24 ls []) := by
    intro x0_24 x1_24 kx0_24 kx1_24
    intro n_24
    induction n_24 with
    | zero => intro x2_24 dt H locs ls hm hW hS hl; cases hm
    | succ n_24 ih24 =>
      have hB49 : ∀ (x2_49 : Int32) (dt : q_Dt) (H : Heap) (locs : List Loc) (ls : Array Slot) (hm : X8_layAnew_b49 al (X8_layAnew_b24 al x0_24 x1_24 n_24) x0_24 x1_24 x2_49 dt = some dt0) (hW : q_W D al dt H) (hS : va_S (q_A al) s.heap H locs) (hl : lv_has ls 4 [(0, .ref x0_24), (1, .ref x1_24), (2, .int x2_49)]), W p l e { frames := 4, cells := 0, slots := 0, locals := 98 } s m args below meth c H locs 0 0 (MQ below (q_Q none (fun H => q_W D al dt0 H ∧ q_Rk al 0 none) (q_A al)) args s 0 0 (q_A al)) (F0 m 49 ls []) := by
        intro x2_49 dt H locs ls hm hW hS hl
        unfold X8_layAnew_b49 at hm
        refine lv_iinc (v := (x2_49 + 1)) (lv' := [(2, .int (x2_49 + 1)), (0, .ref x0_24), (1, .ref x1_24)]) hx hb dX8_layAnew_49 hl (k := 2) rfl rfl (by decide) rfl (fun ls hl => ?_)
        refine lv_goto (tgt := 24) hx hb dX8_layAnew_52 (by decide) ?_
        exact ih24 (x2_49 + 1) dt _ _ _ hm hW hS (lv_sub hl [1, 2, 0] rfl)
      intro x2_24 dt H locs ls hm hW hS hl
      rw [X8_layAnew_b24] at hm
      refine lv_iload_n hx hb dX8_layAnew_24 rfl (lv_at hl 2 rfl) ?_
      refine lv_aload_n hx hb dX8_layAnew_25 rfl (lv_at hl 1 rfl) ?_
      refine r_getI C hW (ci := 10) kx1_24 ff_10_9 cl_10 fl_RX8_45 dX8_layAnew_26 ?_
      refine q_ifc hm (fun c24001 hm => ?_) (fun c24001 hm => ?_)
      · refine lv_icmp_ge (tgt := 55) hx hb dX8_layAnew_29 (by decide) (fun _ => ?_) (fun h => absurd c24001 h)
        refine lv_iconst (v := 0) hx hb dX8_layAnew_55 (by decide) ?_
        refine lv_istore_n (i := 2) (lv' := [(2, .int 0), (0, .ref x0_24), (1, .ref x1_24)]) hx hb dX8_layAnew_56 rfl hl (by decide) rfl (fun ls hl => ?_)
        exact hB57 x0_24 x1_24 kx0_24 kx1_24 q_FU 0 dt _ _ _ hm hW hS (lv_sub hl [1, 2, 0] rfl)
      refine lv_icmp_ge (tgt := 55) hx hb dX8_layAnew_29 (by decide) (fun h => absurd h c24001) (fun _ => ?_)
      refine lv_aload_n hx hb dX8_layAnew_32 rfl (lv_at hl 1 rfl) ?_
      refine lv_iload_n hx hb dX8_layAnew_33 rfl (lv_at hl 2 rfl) ?_
      obtain ⟨v24003, hc24002, hm⟩ := q_b1i hm
      refine q_callV C hW hS (As := [.int x2_24]) (rest := []) (st1 := [va_rf v24003]) (c_X10_senderAt l D al dt x1_24 x2_24 kx1_24 v24003 hc24002) yl_X10_senderAt vl_X10_senderAt ml_RX8_48 (ci := 10) rfl kx1_24 (by decide) rfl ⟨Nat.le_of_ble_eq_true rfl, Nat.le_of_ble_eq_true rfl⟩ hl rfl (Nat.le_of_ble_eq_true rfl) dX8_layAnew_34 ⟨Nat.le_refl _, Nat.le_refl _⟩ rfl (fun H locs k24004 hW hS => ?_)
      have k24004 := q_rk k24004 (by decide)
      refine q_astoreQ_n (i := 3) (lv' := [(3, va_rf v24003), (0, .ref x0_24), (1, .ref x1_24), (2, .int x2_24)]) C dX8_layAnew_37 rfl hl (by decide) rfl (fun ls hl => ?_)
      refine q_aloadQ_n C dX8_layAnew_38 rfl (lv_at hl 0 rfl) ?_
      refine q_ifnull C hm (tgt := 49) dX8_layAnew_39 (by decide) (fun e24007 hq24008 => ?_) (fun b24005 e24007 hq24008 => ?_)
      · subst e24007
        have hm := hq24008
        exact hB49 x2_24 dt _ _ _ hm hW hS (lv_sub hl [1, 2, 3] rfl)
      subst e24007
      have hm := hq24008
      have k24006 := k24004 b24005 rfl
      refine lv_aload_n hx hb dX8_layAnew_42 rfl (lv_at hl 1 rfl) ?_
      refine lv_aload_n hx hb dX8_layAnew_43 rfl (lv_at hl 0 rfl) ?_
      refine q_null C dX8_layAnew_44 ?_
      refine lv_iconst (v := 1) hx hb dX8_layAnew_45 (by decide) ?_
      obtain ⟨dt24010, hc24009, hm⟩ := q_b1i hm
      refine q_callV C hW hS (As := [.ref b24005, va_rf none, .int 1]) (rest := []) (st1 := []) (c_X8_layWave l D al dt x0_24 b24005 none 1 kx0_24 k24006 q_kn dt24010 hc24009) yl_X8_layWave vl_X8_layWave ml_RX8_52 (ci := 8) rfl kx0_24 (by decide) rfl ⟨Nat.le_of_ble_eq_true rfl, Nat.le_of_ble_eq_true rfl⟩ hl rfl (Nat.le_of_ble_eq_true rfl) dX8_layAnew_46 ⟨Nat.le_refl _, Nat.le_refl _⟩ rfl (fun H locs k24011 hW hS => ?_)
      exact hB49 x2_24 dt24010 _ _ _ hm hW hS (lv_sub hl [1, 2, 3] rfl)
  refine lv_aload_n hx hb dX8_layAnew_0 rfl (lv_at hl 0 rfl) ?_
  refine q_aloadQ_n C dX8_layAnew_1 rfl (lv_at hl 1 rfl) ?_
  obtain ⟨b1000001, e1000002, hq1000003⟩ := q_mi hm
  subst e1000002
  have hm := hq1000003
  have k1000004 := kx1 b1000001 rfl
  refine r_getI C hW (ci := 10) k1000004 ff_10_12 cl_10 fl_RX8_39 dX8_layAnew_2 ?_
  refine r_putI C hW hS hm (ci := 8) kx0 ff_8_2 cl_8 fl_RX8_23 (nf_8_2) rfl dX8_layAnew_5 (fun dt1000005 H locs hm hW hS => ?_)
  refine lv_aload_n hx hb dX8_layAnew_8 rfl (lv_at hl 0 rfl) ?_
  refine r_getF C hW (ci := 8) kx0 ff_8_0 cl_8 fl_RX8_14 dX8_layAnew_9 (fun k1000006 => ?_)
  obtain ⟨dt1000008, hc1000007, hm⟩ := q_b1i hm
  refine q_callV C hW hS (As := []) (rest := []) (st1 := []) (c_X5_clear l D al dt1000005 (al.2.2 x0 0) k1000006 dt1000008 hc1000007) yl_X5_clear vl_X5_clear ml_RX8_42 (ci := 5) rfl k1000006 (by decide) rfl ⟨Nat.le_of_ble_eq_true rfl, Nat.le_of_ble_eq_true rfl⟩ hl rfl (Nat.le_of_ble_eq_true rfl) dX8_layAnew_12 ⟨Nat.le_refl _, Nat.le_refl _⟩ rfl (fun H locs k1000009 hW hS => ?_)
  refine lv_aload_n hx hb dX8_layAnew_15 rfl (lv_at hl 0 rfl) ?_
  refine r_getF C hW (ci := 8) kx0 ff_8_1 cl_8 fl_RX8_20 dX8_layAnew_16 (fun k1000010 => ?_)
  obtain ⟨dt1000012, hc1000011, hm⟩ := q_b1i hm
  refine q_callV C hW hS (As := []) (rest := []) (st1 := []) (c_X5_clear l D al dt1000008 (al.2.2 x0 1) k1000010 dt1000012 hc1000011) yl_X5_clear vl_X5_clear ml_RX8_42 (ci := 5) rfl k1000010 (by decide) rfl ⟨Nat.le_of_ble_eq_true rfl, Nat.le_of_ble_eq_true rfl⟩ hl rfl (Nat.le_of_ble_eq_true rfl) dX8_layAnew_19 ⟨Nat.le_refl _, Nat.le_refl _⟩ rfl (fun H locs k1000013 hW hS => ?_)
  refine lv_iconst (v := 0) hx hb dX8_layAnew_22 (by decide) ?_
  refine lv_istore_n (i := 2) (lv' := [(2, .int 0), (0, .ref x0), (1, .ref b1000001)]) hx hb dX8_layAnew_23 rfl hl (by decide) rfl (fun ls hl => ?_)
  exact hB24 x0 b1000001 kx0 k1000004 q_FU 0 dt1000012 _ _ _ hm hW hS (lv_sub hl [1, 2, 0] rfl)
theorem dX9_append_0 : decode cX9_append 0 = .ok (.bipush 24, 2) := by decide +kernel
theorem dX9_append_2 : decode cX9_append 2 = .ok (.istore_n 2, 1) := by decide +kernel
theorem dX9_append_3 : decode cX9_append 3 = .ok (.iload_n 2, 1) := by decide +kernel
theorem dX9_append_4 : decode cX9_append 4 = .ok (.ifCond .lt 38, 3) := by decide +kernel
theorem dX9_append_7 : decode cX9_append 7 = .ok (.aload_n 0, 1) := by decide +kernel
theorem dX9_append_8 : decode cX9_append 8 = .ok (.getfield 14, 3) := by decide +kernel
theorem dX9_append_11 : decode cX9_append 11 = .ok (.aload_n 0, 1) := by decide +kernel
theorem dX9_append_12 : decode cX9_append 12 = .ok (.getfield 35, 3) := by decide +kernel
theorem dX9_append_15 : decode cX9_append 15 = .ok (.iload_n 1, 1) := by decide +kernel
theorem dX9_append_16 : decode cX9_append 16 = .ok (.iload_n 2, 1) := by decide +kernel
theorem dX9_append_17 : decode cX9_append 17 = .ok (.ishr, 1) := by decide +kernel
theorem dX9_append_18 : decode cX9_append 18 = .ok (.sipush 255, 3) := by decide +kernel
theorem dX9_append_21 : decode cX9_append 21 = .ok (.iand, 1) := by decide +kernel
theorem dX9_append_22 : decode cX9_append 22 = .ok (.i2l, 1) := by decide +kernel
theorem dX9_append_23 : decode cX9_append 23 = .ok (.invokevirtual 66, 3) := by decide +kernel
theorem dX9_append_26 : decode cX9_append 26 = .ok (.aload_n 0, 1) := by decide +kernel
theorem dX9_append_27 : decode cX9_append 27 = .ok (.dup, 1) := by decide +kernel
theorem dX9_append_28 : decode cX9_append 28 = .ok (.getfield 35, 3) := by decide +kernel
theorem dX9_append_31 : decode cX9_append 31 = .ok (.iconst 1, 1) := by decide +kernel
theorem dX9_append_32 : decode cX9_append 32 = .ok (.iadd, 1) := by decide +kernel
theorem dX9_append_33 : decode cX9_append 33 = .ok (.putfield 35, 3) := by decide +kernel
theorem dX9_append_36 : decode cX9_append 36 = .ok (.iinc 2 (-8), 3) := by decide +kernel
theorem dX9_append_39 : decode cX9_append 39 = .ok (.goto (-36), 3) := by decide +kernel
theorem dX9_append_42 : decode cX9_append 42 = .ok (.return_, 1) := by decide +kernel
set_option maxRecDepth 100000 in
theorem c_X9_append (l : Launch) (D : q_D) (al : q_Al) (dt : q_Dt) (x0 : Nat) (x1 : Int32) (kx0 : al.1 x0 = 10) (dt0 : q_Dt) (hm : X9_append al dt x0 x1 = some dt0) : q_Mt l yX9_append cX9_append 3 (none) 1 23 D al [.ref x0, .int x1] dt 0 none dt0 := by
  refine q_Mt.of (by decide) (Nat.le_of_ble_eq_true rfl) ?_
  intro p e s m args below meth c ls C hargs hW hl
  have hx := C.1
  have hb := C.2.1
  have hown := C.2.2.2.2.2.1
  have hts := C.2.2.2.2.2.2.1
  have hS : va_S (q_A al) s.heap s.heap [] := va_S.rf
  have hl : lv_has ls 3 [(0, .ref x0), (1, .int x1)] := hl
  unfold X9_append at hm
  have hB3 : ∀ (x0_3 : Nat) (x1_3 : Int32) (kx0_3 : al.1 x0_3 = 10) (n_3 : Nat) (x2_3 : Int32) (dt : q_Dt) (H : Heap) (locs : List Loc) (ls : Array Slot) (hm : X9_append_b3 al x0_3 x1_3 n_3 x2_3 dt = some dt0) (hW : q_W D al dt H) (hS : va_S (q_A al) s.heap H locs) (hl : lv_has ls 3 [(0, .ref x0_3), (1, .int x1_3), (2, .int x2_3)]), W p l e { frames := 1, cells := 0, slots := 0, locals := 23 } s m args below meth c H locs 0 0 (MQ below (q_Q none (fun H => q_W D al dt0 H ∧ q_Rk al 0 none) (q_A al)) args s 0 0 (q_A al)) (F0 m 3 ls []) := by
    intro x0_3 x1_3 kx0_3
    intro n_3
    induction n_3 with
    | zero => intro x2_3 dt H locs ls hm hW hS hl; cases hm
    | succ n_3 ih3 =>
      intro x2_3 dt H locs ls hm hW hS hl
      rw [X9_append_b3] at hm
      refine lv_iload_n hx hb dX9_append_3 rfl (lv_at hl 2 rfl) ?_
      refine q_ifc hm (fun c3001 hm => ?_) (fun c3001 hm => ?_)
      · refine lv_if_lt (tgt := 42) hx hb dX9_append_4 (by decide) (fun _ => ?_) (fun h => absurd c3001 h)
        exact e_vD C hW hS hm dX9_append_42
      refine lv_if_lt (tgt := 42) hx hb dX9_append_4 (by decide) (fun h => absurd h c3001) (fun _ => ?_)
      refine lv_aload_n hx hb dX9_append_7 rfl (lv_at hl 0 rfl) ?_
      refine r_getF C hW (ci := 9) kx0_3 ff_9_0 cl_9 fl_RX9_14 dX9_append_8 (fun k3002 => ?_)
      refine lv_aload_n hx hb dX9_append_11 rfl (lv_at hl 0 rfl) ?_
      refine r_getI C hW (ci := 9) kx0_3 ff_9_6 cl_9 fl_RX9_35 dX9_append_12 ?_
      refine lv_iload_n hx hb dX9_append_15 rfl (lv_at hl 1 rfl) ?_
      refine lv_iload_n hx hb dX9_append_16 rfl (lv_at hl 2 rfl) ?_
      refine lv_ishr hx hb dX9_append_17 ?_
      refine lv_sipush (v := 255) hx hb dX9_append_18 (by decide) ?_
      refine lv_iand hx hb dX9_append_21 ?_
      refine lv_i2l (v := (Int32.toInt64 ((x1_3 >>> (x2_3 &&& 31)) &&& 255))) hx hb dX9_append_22 rfl ?_
      obtain ⟨dt3004, hc3003, hm⟩ := q_b1i hm
      refine q_callV C hW hS (As := [.int (dt.1 x0_3 6), .long (Int32.toInt64 ((x1_3 >>> (x2_3 &&& 31)) &&& 255))]) (rest := []) (st1 := []) (c_X5_put l D al dt (al.2.2 x0_3 0) (dt.1 x0_3 6) (Int32.toInt64 ((x1_3 >>> (x2_3 &&& 31)) &&& 255)) k3002 dt3004 hc3003) yl_X5_put vl_X5_put ml_RX9_66 (ci := 5) rfl k3002 (by decide) rfl ⟨Nat.le_of_ble_eq_true rfl, Nat.le_of_ble_eq_true rfl⟩ hl rfl (Nat.le_of_ble_eq_true rfl) dX9_append_23 ⟨Nat.le_refl _, Nat.le_refl _⟩ rfl (fun H locs k3005 hW hS => ?_)
      refine lv_aload_n hx hb dX9_append_26 rfl (lv_at hl 0 rfl) ?_
      refine lv_dup hx hb dX9_append_27 rfl ?_
      refine r_getI C hW (ci := 9) kx0_3 ff_9_6 cl_9 fl_RX9_35 dX9_append_28 ?_
      refine lv_iconst (v := 1) hx hb dX9_append_31 (by decide) ?_
      refine lv_iadd hx hb dX9_append_32 ?_
      refine r_putI C hW hS hm (ci := 9) kx0_3 ff_9_6 cl_9 fl_RX9_35 (nf_9_6) rfl dX9_append_33 (fun dt3006 H locs hm hW hS => ?_)
      refine lv_iinc (v := (x2_3 + (-8))) (lv' := [(2, .int (x2_3 + (-8))), (0, .ref x0_3), (1, .int x1_3)]) hx hb dX9_append_36 hl (k := 2) rfl rfl (by decide) rfl (fun ls hl => ?_)
      refine lv_goto (tgt := 3) hx hb dX9_append_39 (by decide) ?_
      exact ih3 (x2_3 + (-8)) dt3006 _ _ _ hm hW hS (lv_sub hl [1, 2, 0] rfl)
  refine lv_bipush (v := 24) hx hb dX9_append_0 (by decide) ?_
  refine lv_istore_n (i := 2) (lv' := [(2, .int 24), (0, .ref x0), (1, .int x1)]) hx hb dX9_append_2 rfl hl (by decide) rfl (fun ls hl => ?_)
  exact hB3 x0 x1 kx0 q_FU 24 dt _ _ _ hm hW hS (lv_sub hl [1, 2, 0] rfl)
theorem dX10_isCrowded_0 : decode cX10_isCrowded 0 = .ok (.iconst 0, 1) := by decide +kernel
theorem dX10_isCrowded_1 : decode cX10_isCrowded 1 = .ok (.istore_n 3, 1) := by decide +kernel
theorem dX10_isCrowded_2 : decode cX10_isCrowded 2 = .ok (.iconst 0, 1) := by decide +kernel
theorem dX10_isCrowded_3 : decode cX10_isCrowded 3 = .ok (.istore 4, 2) := by decide +kernel
theorem dX10_isCrowded_5 : decode cX10_isCrowded 5 = .ok (.iload 4, 2) := by decide +kernel
theorem dX10_isCrowded_7 : decode cX10_isCrowded 7 = .ok (.aload_n 0, 1) := by decide +kernel
theorem dX10_isCrowded_8 : decode cX10_isCrowded 8 = .ok (.getfield 51, 3) := by decide +kernel
theorem dX10_isCrowded_11 : decode cX10_isCrowded 11 = .ok (.if_icmp .ge 64, 3) := by decide +kernel
theorem dX10_isCrowded_14 : decode cX10_isCrowded 14 = .ok (.iload_n 1, 1) := by decide +kernel
theorem dX10_isCrowded_15 : decode cX10_isCrowded 15 = .ok (.iload 4, 2) := by decide +kernel
theorem dX10_isCrowded_17 : decode cX10_isCrowded 17 = .ok (.ishr, 1) := by decide +kernel
theorem dX10_isCrowded_18 : decode cX10_isCrowded 18 = .ok (.iconst 1, 1) := by decide +kernel
theorem dX10_isCrowded_19 : decode cX10_isCrowded 19 = .ok (.iand, 1) := by decide +kernel
theorem dX10_isCrowded_20 : decode cX10_isCrowded 20 = .ok (.iconst 1, 1) := by decide +kernel
theorem dX10_isCrowded_21 : decode cX10_isCrowded 21 = .ok (.if_icmp .ne 12, 3) := by decide +kernel
theorem dX10_isCrowded_24 : decode cX10_isCrowded 24 = .ok (.aload_n 0, 1) := by decide +kernel
theorem dX10_isCrowded_25 : decode cX10_isCrowded 25 = .ok (.iload 4, 2) := by decide +kernel
theorem dX10_isCrowded_27 : decode cX10_isCrowded 27 = .ok (.invokevirtual 79, 3) := by decide +kernel
theorem dX10_isCrowded_30 : decode cX10_isCrowded 30 = .ok (.goto 4, 3) := by decide +kernel
theorem dX10_isCrowded_33 : decode cX10_isCrowded 33 = .ok (.aconst_null, 1) := by decide +kernel
theorem dX10_isCrowded_34 : decode cX10_isCrowded 34 = .ok (.astore 5, 2) := by decide +kernel
theorem dX10_isCrowded_36 : decode cX10_isCrowded 36 = .ok (.aload 5, 2) := by decide +kernel
theorem dX10_isCrowded_38 : decode cX10_isCrowded 38 = .ok (.ifnonnull 7, 3) := by decide +kernel
theorem dX10_isCrowded_41 : decode cX10_isCrowded 41 = .ok (.iconst 0, 1) := by decide +kernel
theorem dX10_isCrowded_42 : decode cX10_isCrowded 42 = .ok (.goto 11, 3) := by decide +kernel
theorem dX10_isCrowded_45 : decode cX10_isCrowded 45 = .ok (.iconst 1, 1) := by decide +kernel
theorem dX10_isCrowded_46 : decode cX10_isCrowded 46 = .ok (.aload 5, 2) := by decide +kernel
theorem dX10_isCrowded_48 : decode cX10_isCrowded 48 = .ok (.iload_n 2, 1) := by decide +kernel
theorem dX10_isCrowded_49 : decode cX10_isCrowded 49 = .ok (.invokevirtual 91, 3) := by decide +kernel
theorem dX10_isCrowded_52 : decode cX10_isCrowded 52 = .ok (.ishl, 1) := by decide +kernel
theorem dX10_isCrowded_53 : decode cX10_isCrowded 53 = .ok (.istore 6, 2) := by decide +kernel
theorem dX10_isCrowded_55 : decode cX10_isCrowded 55 = .ok (.iload_n 3, 1) := by decide +kernel
theorem dX10_isCrowded_56 : decode cX10_isCrowded 56 = .ok (.iload 6, 2) := by decide +kernel
theorem dX10_isCrowded_58 : decode cX10_isCrowded 58 = .ok (.iand, 1) := by decide +kernel
theorem dX10_isCrowded_59 : decode cX10_isCrowded 59 = .ok (.ifCond .eq 5, 3) := by decide +kernel
theorem dX10_isCrowded_62 : decode cX10_isCrowded 62 = .ok (.iconst 1, 1) := by decide +kernel
theorem dX10_isCrowded_63 : decode cX10_isCrowded 63 = .ok (.ireturn, 1) := by decide +kernel
theorem dX10_isCrowded_64 : decode cX10_isCrowded 64 = .ok (.iload_n 3, 1) := by decide +kernel
theorem dX10_isCrowded_65 : decode cX10_isCrowded 65 = .ok (.iload 6, 2) := by decide +kernel
theorem dX10_isCrowded_67 : decode cX10_isCrowded 67 = .ok (.ior, 1) := by decide +kernel
theorem dX10_isCrowded_68 : decode cX10_isCrowded 68 = .ok (.istore_n 3, 1) := by decide +kernel
theorem dX10_isCrowded_69 : decode cX10_isCrowded 69 = .ok (.iinc 4 1, 3) := by decide +kernel
theorem dX10_isCrowded_72 : decode cX10_isCrowded 72 = .ok (.goto (-67), 3) := by decide +kernel
theorem dX10_isCrowded_75 : decode cX10_isCrowded 75 = .ok (.iconst 0, 1) := by decide +kernel
theorem dX10_isCrowded_76 : decode cX10_isCrowded 76 = .ok (.ireturn, 1) := by decide +kernel
set_option maxRecDepth 100000 in
theorem c_X10_isCrowded (l : Launch) (D : q_D) (al : q_Al) (dt : q_Dt) (x0 : Nat) (x1 : Int32) (x2 : Int32) (kx0 : al.1 x0 = 11) (r0 : Int32) (hm : X10_isCrowded al dt x0 x1 x2 = some r0) : q_Mt l yX10_isCrowded cX10_isCrowded 7 (some FieldType.boolean) 2 47 D al [.ref x0, .int x1, .int x2] dt 0 (some (.int r0)) dt := by
  refine q_Mt.of (by decide) (Nat.le_of_ble_eq_true rfl) ?_
  intro p e s m args below meth c ls C hargs hW hl
  have hx := C.1
  have hb := C.2.1
  have hown := C.2.2.2.2.2.1
  have hts := C.2.2.2.2.2.2.1
  have hS : va_S (q_A al) s.heap s.heap [] := va_S.rf
  have hl : lv_has ls 7 [(0, .ref x0), (1, .int x1), (2, .int x2)] := hl
  unfold X10_isCrowded at hm
  have hB5 : ∀ (x0_5 : Nat) (x1_5 : Int32) (x2_5 : Int32) (kx0_5 : al.1 x0_5 = 11) (n_5 : Nat) (x3_5 : Int32) (x4_5 : Int32) (H : Heap) (locs : List Loc) (ls : Array Slot) (hm : X10_isCrowded_b5 al dt x0_5 x1_5 x2_5 n_5 x3_5 x4_5 = some r0) (hW : q_W D al dt H) (hS : va_S (q_A al) s.heap H locs) (hl : lv_has ls 7 [(0, .ref x0_5), (1, .int x1_5), (2, .int x2_5), (3, .int x3_5), (4, .int x4_5)]), W p l e { frames := 2, cells := 0, slots := 0, locals := 47 } s m args below meth c H locs 0 0 (MQ below (q_Q (some (.int r0)) (fun H => q_W D al dt H ∧ q_Rk al 0 (some (.int r0))) (q_A al)) args s 0 0 (q_A al)) (F0 m 5 ls []) := by
    intro x0_5 x1_5 x2_5 kx0_5
    intro n_5
    induction n_5 with
    | zero => intro x3_5 x4_5 H locs ls hm hW hS hl; cases hm
    | succ n_5 ih5 =>
      have hB53 : ∀ (x3_53 : Int32) (x4_53 : Int32) (t0_53 : Int32) (H : Heap) (locs : List Loc) (ls : Array Slot) (hm : X10_isCrowded_b53 al dt (X10_isCrowded_b5 al dt x0_5 x1_5 x2_5 n_5) x0_5 x1_5 x2_5 x3_53 x4_53 t0_53 = some r0) (hW : q_W D al dt H) (hS : va_S (q_A al) s.heap H locs) (hl : lv_has ls 7 [(0, .ref x0_5), (1, .int x1_5), (2, .int x2_5), (3, .int x3_53), (4, .int x4_53)]), W p l e { frames := 2, cells := 0, slots := 0, locals := 47 } s m args below meth c H locs 0 0 (MQ below (q_Q (some (.int r0)) (fun H => q_W D al dt H ∧ q_Rk al 0 (some (.int r0))) (q_A al)) args s 0 0 (q_A al)) (F0 m 53 ls [.int t0_53]) := by
        intro x3_53 x4_53 t0_53 H locs ls hm hW hS hl
        unfold X10_isCrowded_b53 at hm
        refine lv_istore (i := 6) (lv' := [(6, .int t0_53), (0, .ref x0_5), (1, .int x1_5), (2, .int x2_5), (3, .int x3_53), (4, .int x4_53)]) hx hb dX10_isCrowded_53 hl (by decide) rfl (fun ls hl => ?_)
        refine lv_iload_n hx hb dX10_isCrowded_55 rfl (lv_at hl 4 rfl) ?_
        refine lv_iload hx hb dX10_isCrowded_56 (lv_at hl 0 rfl) ?_
        refine lv_iand hx hb dX10_isCrowded_58 ?_
        refine q_ifc hm (fun c53001 hm => ?_) (fun c53001 hm => ?_)
        · refine lv_if_eq (tgt := 64) hx hb dX10_isCrowded_59 (by decide) (fun _ => ?_) (fun h => absurd c53001 h)
          refine lv_iload_n hx hb dX10_isCrowded_64 rfl (lv_at hl 4 rfl) ?_
          refine lv_iload hx hb dX10_isCrowded_65 (lv_at hl 0 rfl) ?_
          refine lv_ior hx hb dX10_isCrowded_67 ?_
          refine lv_istore_n (i := 3) (lv' := [(3, .int (x3_53 ||| t0_53)), (6, .int t0_53), (0, .ref x0_5), (1, .int x1_5), (2, .int x2_5), (4, .int x4_53)]) hx hb dX10_isCrowded_68 rfl hl (by decide) rfl (fun ls hl => ?_)
          refine lv_iinc (v := (x4_53 + 1)) (lv' := [(4, .int (x4_53 + 1)), (3, .int (x3_53 ||| t0_53)), (6, .int t0_53), (0, .ref x0_5), (1, .int x1_5), (2, .int x2_5)]) hx hb dX10_isCrowded_69 hl (k := 5) rfl rfl (by decide) rfl (fun ls hl => ?_)
          refine lv_goto (tgt := 5) hx hb dX10_isCrowded_72 (by decide) ?_
          exact ih5 (x3_53 ||| t0_53) (x4_53 + 1) _ _ _ hm hW hS (lv_sub hl [3, 4, 5, 1, 0] rfl)
        refine lv_if_eq (tgt := 64) hx hb dX10_isCrowded_59 (by decide) (fun h => absurd h c53001) (fun _ => ?_)
        refine lv_iconst (v := 1) hx hb dX10_isCrowded_62 (by decide) ?_
        exact e_zl C hW hS (Or.inr rfl) hm dX10_isCrowded_63
      have hB34 : ∀ (x3_34 : Int32) (x4_34 : Int32) (t0_34 : Option Nat) (kt0_34 : ∀ b, t0_34 = some b → al.1 b = 2) (H : Heap) (locs : List Loc) (ls : Array Slot) (hm : X10_isCrowded_b34 al dt (X10_isCrowded_b5 al dt x0_5 x1_5 x2_5 n_5) x0_5 x1_5 x2_5 x3_34 x4_34 t0_34 = some r0) (hW : q_W D al dt H) (hS : va_S (q_A al) s.heap H locs) (hl : lv_has ls 7 [(0, .ref x0_5), (1, .int x1_5), (2, .int x2_5), (3, .int x3_34), (4, .int x4_34)]), W p l e { frames := 2, cells := 0, slots := 0, locals := 47 } s m args below meth c H locs 0 0 (MQ below (q_Q (some (.int r0)) (fun H => q_W D al dt H ∧ q_Rk al 0 (some (.int r0))) (q_A al)) args s 0 0 (q_A al)) (F0 m 34 ls [va_rf t0_34]) := by
        intro x3_34 x4_34 t0_34 kt0_34 H locs ls hm hW hS hl
        unfold X10_isCrowded_b34 at hm
        refine q_astoreQ (i := 5) (lv' := [(5, va_rf t0_34), (0, .ref x0_5), (1, .int x1_5), (2, .int x2_5), (3, .int x3_34), (4, .int x4_34)]) C dX10_isCrowded_34 hl (by decide) rfl (fun ls hl => ?_)
        refine q_aloadQ C dX10_isCrowded_36 (lv_at hl 0 rfl) ?_
        refine q_ifnonnull C hm (tgt := 45) dX10_isCrowded_38 (by decide) (fun e34003 hq34004 => ?_) (fun b34001 e34003 hq34004 => ?_)
        · subst e34003
          have hm := hq34004
          refine lv_iconst (v := 0) hx hb dX10_isCrowded_41 (by decide) ?_
          refine lv_goto (tgt := 53) hx hb dX10_isCrowded_42 (by decide) ?_
          exact hB53 x3_34 x4_34 0 _ _ _ hm hW hS (lv_sub hl [1, 2, 3, 4, 5] rfl)
        subst e34003
        have hm := hq34004
        have k34002 := kt0_34 b34001 rfl
        refine lv_iconst (v := 1) hx hb dX10_isCrowded_45 (by decide) ?_
        refine lv_aload hx hb dX10_isCrowded_46 (lv_at hl 0 rfl) ?_
        refine lv_iload_n hx hb dX10_isCrowded_48 rfl (lv_at hl 3 rfl) ?_
        obtain ⟨v34006, hc34005, hm⟩ := q_b1i hm
        refine q_callV C hW hS (As := [.int x2_5]) (rest := [.int 1]) (st1 := [.int v34006, .int 1]) (c_X1_channelAt l D al dt b34001 x2_5 k34002 v34006 hc34005) yl_X1_channelAt vl_X1_channelAt ml_RX10_91 (ci := 1) rfl k34002 (by decide) rfl ⟨Nat.le_of_ble_eq_true rfl, Nat.le_of_ble_eq_true rfl⟩ hl rfl (Nat.le_of_ble_eq_true rfl) dX10_isCrowded_49 ⟨Nat.le_refl _, Nat.le_refl _⟩ rfl (fun H locs k34007 hW hS => ?_)
        refine lv_ishl hx hb dX10_isCrowded_52 ?_
        exact hB53 x3_34 x4_34 (1 <<< (v34006 &&& 31)) _ _ _ hm hW hS (lv_sub hl [1, 2, 3, 4, 5] rfl)
      intro x3_5 x4_5 H locs ls hm hW hS hl
      rw [X10_isCrowded_b5] at hm
      refine lv_iload hx hb dX10_isCrowded_5 (lv_at hl 4 rfl) ?_
      refine lv_aload_n hx hb dX10_isCrowded_7 rfl (lv_at hl 0 rfl) ?_
      refine r_getI C hW (ci := 10) kx0_5 ff_10_8 cl_10 fl_RX10_51 dX10_isCrowded_8 ?_
      refine q_ifc hm (fun c5001 hm => ?_) (fun c5001 hm => ?_)
      · refine lv_icmp_ge (tgt := 75) hx hb dX10_isCrowded_11 (by decide) (fun _ => ?_) (fun h => absurd c5001 h)
        refine lv_iconst (v := 0) hx hb dX10_isCrowded_75 (by decide) ?_
        exact e_zl C hW hS (Or.inl rfl) hm dX10_isCrowded_76
      refine lv_icmp_ge (tgt := 75) hx hb dX10_isCrowded_11 (by decide) (fun h => absurd h c5001) (fun _ => ?_)
      refine lv_iload_n hx hb dX10_isCrowded_14 rfl (lv_at hl 1 rfl) ?_
      refine lv_iload hx hb dX10_isCrowded_15 (lv_at hl 4 rfl) ?_
      refine lv_ishr hx hb dX10_isCrowded_17 ?_
      refine lv_iconst (v := 1) hx hb dX10_isCrowded_18 (by decide) ?_
      refine lv_iand hx hb dX10_isCrowded_19 ?_
      refine lv_iconst (v := 1) hx hb dX10_isCrowded_20 (by decide) ?_
      refine q_ifc hm (fun c5002 hm => ?_) (fun c5002 hm => ?_)
      · refine lv_icmp_ne (tgt := 33) hx hb dX10_isCrowded_21 (by decide) (fun h => absurd c5002 h) (fun _ => ?_)
        refine lv_aload_n hx hb dX10_isCrowded_24 rfl (lv_at hl 0 rfl) ?_
        refine lv_iload hx hb dX10_isCrowded_25 (lv_at hl 4 rfl) ?_
        obtain ⟨v5004, hc5003, hm⟩ := q_b1i hm
        refine q_callV C hW hS (As := [.int x4_5]) (rest := []) (st1 := [va_rf v5004]) (c_X10_hopAt l D al dt x0_5 x4_5 kx0_5 v5004 hc5003) yl_X10_hopAt vl_X10_hopAt ml_RX10_79 (ci := 10) rfl kx0_5 (by decide) rfl ⟨Nat.le_of_ble_eq_true rfl, Nat.le_of_ble_eq_true rfl⟩ hl rfl (Nat.le_of_ble_eq_true rfl) dX10_isCrowded_27 ⟨Nat.le_refl _, Nat.le_refl _⟩ rfl (fun H locs k5005 hW hS => ?_)
        have k5005 := q_rk k5005 (by decide)
        refine lv_goto (tgt := 34) hx hb dX10_isCrowded_30 (by decide) ?_
        exact hB34 x3_5 x4_5 v5004 k5005 _ _ _ hm hW hS (lv_sub hl [0, 1, 2, 3, 4] rfl)
      refine lv_icmp_ne (tgt := 33) hx hb dX10_isCrowded_21 (by decide) (fun _ => ?_) (fun h => absurd h c5002)
      refine q_null C dX10_isCrowded_33 ?_
      exact hB34 x3_5 x4_5 none q_kn _ _ _ hm hW hS (lv_sub hl [0, 1, 2, 3, 4] rfl)
  refine lv_iconst (v := 0) hx hb dX10_isCrowded_0 (by decide) ?_
  refine lv_istore_n (i := 3) (lv' := [(3, .int 0), (0, .ref x0), (1, .int x1), (2, .int x2)]) hx hb dX10_isCrowded_1 rfl hl (by decide) rfl (fun ls hl => ?_)
  refine lv_iconst (v := 0) hx hb dX10_isCrowded_2 (by decide) ?_
  refine lv_istore (i := 4) (lv' := [(4, .int 0), (3, .int 0), (0, .ref x0), (1, .int x1), (2, .int x2)]) hx hb dX10_isCrowded_3 hl (by decide) rfl (fun ls hl => ?_)
  exact hB5 x0 x1 x2 kx0 q_FU 0 0 _ _ _ hm hW hS (lv_sub hl [2, 3, 4, 1, 0] rfl)
theorem dX11_feed_0 : decode cX11_feed 0 = .ok (.aload_n 0, 1) := by decide +kernel
theorem dX11_feed_1 : decode cX11_feed 1 = .ok (.getfield 10, 3) := by decide +kernel
theorem dX11_feed_4 : decode cX11_feed 4 = .ok (.getfield 65, 3) := by decide +kernel
theorem dX11_feed_7 : decode cX11_feed 7 = .ok (.astore 6, 2) := by decide +kernel
theorem dX11_feed_9 : decode cX11_feed 9 = .ok (.aload 6, 2) := by decide +kernel
theorem dX11_feed_11 : decode cX11_feed 11 = .ok (.getfield 69, 3) := by decide +kernel
theorem dX11_feed_14 : decode cX11_feed 14 = .ok (.bipush 20, 2) := by decide +kernel
theorem dX11_feed_16 : decode cX11_feed 16 = .ok (.iadd, 1) := by decide +kernel
theorem dX11_feed_17 : decode cX11_feed 17 = .ok (.sipush 2000, 3) := by decide +kernel
theorem dX11_feed_20 : decode cX11_feed 20 = .ok (.if_icmp .le 5, 3) := by decide +kernel
theorem dX11_feed_23 : decode cX11_feed 23 = .ok (.iconst (-1), 1) := by decide +kernel
theorem dX11_feed_24 : decode cX11_feed 24 = .ok (.ireturn, 1) := by decide +kernel
theorem dX11_feed_25 : decode cX11_feed 25 = .ok (.aload 6, 2) := by decide +kernel
theorem dX11_feed_27 : decode cX11_feed 27 = .ok (.iload_n 1, 1) := by decide +kernel
theorem dX11_feed_28 : decode cX11_feed 28 = .ok (.invokevirtual 74, 3) := by decide +kernel
theorem dX11_feed_31 : decode cX11_feed 31 = .ok (.aload 6, 2) := by decide +kernel
theorem dX11_feed_33 : decode cX11_feed 33 = .ok (.iload_n 2, 1) := by decide +kernel
theorem dX11_feed_34 : decode cX11_feed 34 = .ok (.invokevirtual 74, 3) := by decide +kernel
theorem dX11_feed_37 : decode cX11_feed 37 = .ok (.aload 6, 2) := by decide +kernel
theorem dX11_feed_39 : decode cX11_feed 39 = .ok (.iload_n 3, 1) := by decide +kernel
theorem dX11_feed_40 : decode cX11_feed 40 = .ok (.invokevirtual 74, 3) := by decide +kernel
theorem dX11_feed_43 : decode cX11_feed 43 = .ok (.aload 6, 2) := by decide +kernel
theorem dX11_feed_45 : decode cX11_feed 45 = .ok (.iload 4, 2) := by decide +kernel
theorem dX11_feed_47 : decode cX11_feed 47 = .ok (.invokevirtual 74, 3) := by decide +kernel
theorem dX11_feed_50 : decode cX11_feed 50 = .ok (.aload 6, 2) := by decide +kernel
theorem dX11_feed_52 : decode cX11_feed 52 = .ok (.iload 5, 2) := by decide +kernel
theorem dX11_feed_54 : decode cX11_feed 54 = .ok (.invokevirtual 74, 3) := by decide +kernel
theorem dX11_feed_57 : decode cX11_feed 57 = .ok (.aload 6, 2) := by decide +kernel
theorem dX11_feed_59 : decode cX11_feed 59 = .ok (.getfield 69, 3) := by decide +kernel
theorem dX11_feed_62 : decode cX11_feed 62 = .ok (.ireturn, 1) := by decide +kernel
set_option maxRecDepth 100000 in
theorem c_X11_feed (l : Launch) (D : q_D) (al : q_Al) (dt : q_Dt) (x0 : Nat) (x1 : Int32) (x2 : Int32) (x3 : Int32) (x4 : Int32) (x5 : Int32) (kx0 : al.1 x0 = 12) (r0 : Int32) (dt0 : q_Dt) (hm : X11_feed al dt x0 x1 x2 x3 x4 x5 = some (r0, dt0)) : q_Mt l yX11_feed cX11_feed 7 (some FieldType.int) 2 45 D al [.ref x0, .int x1, .int x2, .int x3, .int x4, .int x5] dt 0 (some (.int r0)) dt0 := by
  refine q_Mt.of (by decide) (Nat.le_of_ble_eq_true rfl) ?_
  intro p e s m args below meth c ls C hargs hW hl
  have hx := C.1
  have hb := C.2.1
  have hown := C.2.2.2.2.2.1
  have hts := C.2.2.2.2.2.2.1
  have hS : va_S (q_A al) s.heap s.heap [] := va_S.rf
  have hl : lv_has ls 7 [(0, .ref x0), (1, .int x1), (2, .int x2), (3, .int x3), (4, .int x4), (5, .int x5)] := hl
  unfold X11_feed at hm
  refine lv_aload_n hx hb dX11_feed_0 rfl (lv_at hl 0 rfl) ?_
  refine r_getF C hW (ci := 11) kx0 ff_11_0 cl_11 fl_RX11_10 dX11_feed_1 (fun k1000001 => ?_)
  refine r_getF C hW (ci := 3) k1000001 ff_3_0 cl_3 fl_RX11_65 dX11_feed_4 (fun k1000002 => ?_)
  refine lv_astore (i := 6) (lv' := [(6, .ref (al.2.2 (al.2.2 x0 0) 0)), (0, .ref x0), (1, .int x1), (2, .int x2), (3, .int x3), (4, .int x4), (5, .int x5)]) hx hb dX11_feed_7 hl (by decide) rfl (fun ls hl => ?_)
  refine lv_aload hx hb dX11_feed_9 (lv_at hl 0 rfl) ?_
  refine r_getI C hW (ci := 9) k1000002 ff_9_6 cl_9 fl_RX11_69 dX11_feed_11 ?_
  refine lv_bipush (v := 20) hx hb dX11_feed_14 (by decide) ?_
  refine lv_iadd hx hb dX11_feed_16 ?_
  refine lv_sipush (v := 2000) hx hb dX11_feed_17 (by decide) ?_
  refine q_ifc hm (fun c1000003 hm => ?_) (fun c1000003 hm => ?_)
  · refine lv_icmp_le (tgt := 25) hx hb dX11_feed_20 (by decide) (fun _ => ?_) (fun h => absurd c1000003 h)
    refine lv_aload hx hb dX11_feed_25 (lv_at hl 0 rfl) ?_
    refine lv_iload_n hx hb dX11_feed_27 rfl (lv_at hl 2 rfl) ?_
    obtain ⟨dt1000005, hc1000004, hm⟩ := q_b1i hm
    refine q_callV C hW hS (As := [.int x1]) (rest := []) (st1 := []) (c_X9_append l D al dt (al.2.2 (al.2.2 x0 0) 0) x1 k1000002 dt1000005 hc1000004) yl_X9_append vl_X9_append ml_RX11_74 (ci := 9) rfl k1000002 (by decide) rfl ⟨Nat.le_of_ble_eq_true rfl, Nat.le_of_ble_eq_true rfl⟩ hl rfl (Nat.le_of_ble_eq_true rfl) dX11_feed_28 ⟨Nat.le_refl _, Nat.le_refl _⟩ rfl (fun H locs k1000006 hW hS => ?_)
    refine lv_aload hx hb dX11_feed_31 (lv_at hl 0 rfl) ?_
    refine lv_iload_n hx hb dX11_feed_33 rfl (lv_at hl 3 rfl) ?_
    obtain ⟨dt1000008, hc1000007, hm⟩ := q_b1i hm
    refine q_callV C hW hS (As := [.int x2]) (rest := []) (st1 := []) (c_X9_append l D al dt1000005 (al.2.2 (al.2.2 x0 0) 0) x2 k1000002 dt1000008 hc1000007) yl_X9_append vl_X9_append ml_RX11_74 (ci := 9) rfl k1000002 (by decide) rfl ⟨Nat.le_of_ble_eq_true rfl, Nat.le_of_ble_eq_true rfl⟩ hl rfl (Nat.le_of_ble_eq_true rfl) dX11_feed_34 ⟨Nat.le_refl _, Nat.le_refl _⟩ rfl (fun H locs k1000009 hW hS => ?_)
    refine lv_aload hx hb dX11_feed_37 (lv_at hl 0 rfl) ?_
    refine lv_iload_n hx hb dX11_feed_39 rfl (lv_at hl 4 rfl) ?_
    obtain ⟨dt1000011, hc1000010, hm⟩ := q_b1i hm
    refine q_callV C hW hS (As := [.int x3]) (rest := []) (st1 := []) (c_X9_append l D al dt1000008 (al.2.2 (al.2.2 x0 0) 0) x3 k1000002 dt1000011 hc1000010) yl_X9_append vl_X9_append ml_RX11_74 (ci := 9) rfl k1000002 (by decide) rfl ⟨Nat.le_of_ble_eq_true rfl, Nat.le_of_ble_eq_true rfl⟩ hl rfl (Nat.le_of_ble_eq_true rfl) dX11_feed_40 ⟨Nat.le_refl _, Nat.le_refl _⟩ rfl (fun H locs k1000012 hW hS => ?_)
    refine lv_aload hx hb dX11_feed_43 (lv_at hl 0 rfl) ?_
    refine lv_iload hx hb dX11_feed_45 (lv_at hl 5 rfl) ?_
    obtain ⟨dt1000014, hc1000013, hm⟩ := q_b1i hm
    refine q_callV C hW hS (As := [.int x4]) (rest := []) (st1 := []) (c_X9_append l D al dt1000011 (al.2.2 (al.2.2 x0 0) 0) x4 k1000002 dt1000014 hc1000013) yl_X9_append vl_X9_append ml_RX11_74 (ci := 9) rfl k1000002 (by decide) rfl ⟨Nat.le_of_ble_eq_true rfl, Nat.le_of_ble_eq_true rfl⟩ hl rfl (Nat.le_of_ble_eq_true rfl) dX11_feed_47 ⟨Nat.le_refl _, Nat.le_refl _⟩ rfl (fun H locs k1000015 hW hS => ?_)
    refine lv_aload hx hb dX11_feed_50 (lv_at hl 0 rfl) ?_
    refine lv_iload hx hb dX11_feed_52 (lv_at hl 6 rfl) ?_
    obtain ⟨dt1000017, hc1000016, hm⟩ := q_b1i hm
    refine q_callV C hW hS (As := [.int x5]) (rest := []) (st1 := []) (c_X9_append l D al dt1000014 (al.2.2 (al.2.2 x0 0) 0) x5 k1000002 dt1000017 hc1000016) yl_X9_append vl_X9_append ml_RX11_74 (ci := 9) rfl k1000002 (by decide) rfl ⟨Nat.le_of_ble_eq_true rfl, Nat.le_of_ble_eq_true rfl⟩ hl rfl (Nat.le_of_ble_eq_true rfl) dX11_feed_54 ⟨Nat.le_refl _, Nat.le_refl _⟩ rfl (fun H locs k1000018 hW hS => ?_)
    refine lv_aload hx hb dX11_feed_57 (lv_at hl 0 rfl) ?_
    refine r_getI C hW (ci := 9) k1000002 ff_9_6 cl_9 fl_RX11_69 dX11_feed_59 ?_
    exact e_iD C hW hS hm dX11_feed_62
  refine lv_icmp_le (tgt := 25) hx hb dX11_feed_20 (by decide) (fun h => absurd h c1000003) (fun _ => ?_)
  refine lv_iconst (v := (-1)) hx hb dX11_feed_23 (by decide) ?_
  exact e_iD C hW hS hm dX11_feed_24
theorem dX11_back_0 : decode cX11_back 0 = .ok (.aload_n 0, 1) := by decide +kernel
theorem dX11_back_1 : decode cX11_back 1 = .ok (.getfield 10, 3) := by decide +kernel
theorem dX11_back_4 : decode cX11_back 4 = .ok (.getfield 65, 3) := by decide +kernel
theorem dX11_back_7 : decode cX11_back 7 = .ok (.astore_n 2, 1) := by decide +kernel
theorem dX11_back_8 : decode cX11_back 8 = .ok (.iload_n 1, 1) := by decide +kernel
theorem dX11_back_9 : decode cX11_back 9 = .ok (.ifCond .lt 11, 3) := by decide +kernel
theorem dX11_back_12 : decode cX11_back 12 = .ok (.iload_n 1, 1) := by decide +kernel
theorem dX11_back_13 : decode cX11_back 13 = .ok (.aload_n 2, 1) := by decide +kernel
theorem dX11_back_14 : decode cX11_back 14 = .ok (.getfield 69, 3) := by decide +kernel
theorem dX11_back_17 : decode cX11_back 17 = .ok (.if_icmp .le 5, 3) := by decide +kernel
theorem dX11_back_20 : decode cX11_back 20 = .ok (.iconst (-1), 1) := by decide +kernel
theorem dX11_back_21 : decode cX11_back 21 = .ok (.ireturn, 1) := by decide +kernel
theorem dX11_back_22 : decode cX11_back 22 = .ok (.aload_n 2, 1) := by decide +kernel
theorem dX11_back_23 : decode cX11_back 23 = .ok (.dup, 1) := by decide +kernel
theorem dX11_back_24 : decode cX11_back 24 = .ok (.getfield 69, 3) := by decide +kernel
theorem dX11_back_27 : decode cX11_back 27 = .ok (.iload_n 1, 1) := by decide +kernel
theorem dX11_back_28 : decode cX11_back 28 = .ok (.isub, 1) := by decide +kernel
theorem dX11_back_29 : decode cX11_back 29 = .ok (.putfield 69, 3) := by decide +kernel
theorem dX11_back_32 : decode cX11_back 32 = .ok (.aload_n 2, 1) := by decide +kernel
theorem dX11_back_33 : decode cX11_back 33 = .ok (.getfield 69, 3) := by decide +kernel
theorem dX11_back_36 : decode cX11_back 36 = .ok (.ireturn, 1) := by decide +kernel
set_option maxRecDepth 100000 in
theorem c_X11_back (l : Launch) (D : q_D) (al : q_Al) (dt : q_Dt) (x0 : Nat) (x1 : Int32) (kx0 : al.1 x0 = 12) (r0 : Int32) (dt0 : q_Dt) (hm : X11_back al dt x0 x1 = some (r0, dt0)) : q_Mt l yX11_back cX11_back 3 (some FieldType.int) 0 0 D al [.ref x0, .int x1] dt 0 (some (.int r0)) dt0 := by
  refine q_Mt.of (by decide) (Nat.le_of_ble_eq_true rfl) ?_
  intro p e s m args below meth c ls C hargs hW hl
  have hx := C.1
  have hb := C.2.1
  have hown := C.2.2.2.2.2.1
  have hts := C.2.2.2.2.2.2.1
  have hS : va_S (q_A al) s.heap s.heap [] := va_S.rf
  have hl : lv_has ls 3 [(0, .ref x0), (1, .int x1)] := hl
  unfold X11_back at hm
  refine lv_aload_n hx hb dX11_back_0 rfl (lv_at hl 0 rfl) ?_
  refine r_getF C hW (ci := 11) kx0 ff_11_0 cl_11 fl_RX11_10 dX11_back_1 (fun k1000001 => ?_)
  refine r_getF C hW (ci := 3) k1000001 ff_3_0 cl_3 fl_RX11_65 dX11_back_4 (fun k1000002 => ?_)
  refine lv_astore_n (i := 2) (lv' := [(2, .ref (al.2.2 (al.2.2 x0 0) 0)), (0, .ref x0), (1, .int x1)]) hx hb dX11_back_7 rfl hl (by decide) rfl (fun ls hl => ?_)
  refine lv_iload_n hx hb dX11_back_8 rfl (lv_at hl 2 rfl) ?_
  refine q_ifc hm (fun c1000003 hm => ?_) (fun c1000003 hm => ?_)
  · refine lv_if_lt (tgt := 20) hx hb dX11_back_9 (by decide) (fun _ => ?_) (fun h => absurd c1000003 h)
    refine lv_iconst (v := (-1)) hx hb dX11_back_20 (by decide) ?_
    exact e_iD C hW hS hm dX11_back_21
  refine lv_if_lt (tgt := 20) hx hb dX11_back_9 (by decide) (fun h => absurd h c1000003) (fun _ => ?_)
  refine lv_iload_n hx hb dX11_back_12 rfl (lv_at hl 2 rfl) ?_
  refine lv_aload_n hx hb dX11_back_13 rfl (lv_at hl 0 rfl) ?_
  refine r_getI C hW (ci := 9) k1000002 ff_9_6 cl_9 fl_RX11_69 dX11_back_14 ?_
  refine q_ifc hm (fun c1000004 hm => ?_) (fun c1000004 hm => ?_)
  · refine lv_icmp_le (tgt := 22) hx hb dX11_back_17 (by decide) (fun _ => ?_) (fun h => absurd c1000004 h)
    refine lv_aload_n hx hb dX11_back_22 rfl (lv_at hl 0 rfl) ?_
    refine lv_dup hx hb dX11_back_23 rfl ?_
    refine r_getI C hW (ci := 9) k1000002 ff_9_6 cl_9 fl_RX11_69 dX11_back_24 ?_
    refine lv_iload_n hx hb dX11_back_27 rfl (lv_at hl 2 rfl) ?_
    refine lv_isub hx hb dX11_back_28 ?_
    refine r_putI C hW hS hm (ci := 9) k1000002 ff_9_6 cl_9 fl_RX11_69 (nf_9_6) rfl dX11_back_29 (fun dt1000005 H locs hm hW hS => ?_)
    refine lv_aload_n hx hb dX11_back_32 rfl (lv_at hl 0 rfl) ?_
    refine r_getI C hW (ci := 9) k1000002 ff_9_6 cl_9 fl_RX11_69 dX11_back_33 ?_
    exact e_iD C hW hS hm dX11_back_36
  refine lv_icmp_le (tgt := 22) hx hb dX11_back_17 (by decide) (fun h => absurd h c1000004) (fun _ => ?_)
  refine lv_iconst (v := (-1)) hx hb dX11_back_20 (by decide) ?_
  exact e_iD C hW hS hm dX11_back_21
theorem dX11_read_0 : decode cX11_read 0 = .ok (.aload_n 0, 1) := by decide +kernel
theorem dX11_read_1 : decode cX11_read 1 = .ok (.getfield 10, 3) := by decide +kernel
theorem dX11_read_4 : decode cX11_read 4 = .ok (.aload_n 0, 1) := by decide +kernel
theorem dX11_read_5 : decode cX11_read 5 = .ok (.getfield 55, 3) := by decide +kernel
theorem dX11_read_8 : decode cX11_read 8 = .ok (.invokevirtual 78, 3) := by decide +kernel
theorem dX11_read_11 : decode cX11_read 11 = .ok (.istore_n 1, 1) := by decide +kernel
theorem dX11_read_12 : decode cX11_read 12 = .ok (.aload_n 0, 1) := by decide +kernel
theorem dX11_read_13 : decode cX11_read 13 = .ok (.aload_n 0, 1) := by decide +kernel
theorem dX11_read_14 : decode cX11_read 14 = .ok (.getfield 10, 3) := by decide +kernel
theorem dX11_read_17 : decode cX11_read 17 = .ok (.getfield 82, 3) := by decide +kernel
theorem dX11_read_20 : decode cX11_read 20 = .ok (.putfield 58, 3) := by decide +kernel
theorem dX11_read_23 : decode cX11_read 23 = .ok (.iload_n 1, 1) := by decide +kernel
theorem dX11_read_24 : decode cX11_read 24 = .ok (.ifCond .ne 37, 3) := by decide +kernel
theorem dX11_read_27 : decode cX11_read 27 = .ok (.aload_n 0, 1) := by decide +kernel
theorem dX11_read_28 : decode cX11_read 28 = .ok (.getfield 51, 3) := by decide +kernel
theorem dX11_read_31 : decode cX11_read 31 = .ok (.astore_n 2, 1) := by decide +kernel
theorem dX11_read_32 : decode cX11_read 32 = .ok (.aload_n 0, 1) := by decide +kernel
theorem dX11_read_33 : decode cX11_read 33 = .ok (.aload_n 0, 1) := by decide +kernel
theorem dX11_read_34 : decode cX11_read 34 = .ok (.getfield 55, 3) := by decide +kernel
theorem dX11_read_37 : decode cX11_read 37 = .ok (.putfield 51, 3) := by decide +kernel
theorem dX11_read_40 : decode cX11_read 40 = .ok (.aload_n 0, 1) := by decide +kernel
theorem dX11_read_41 : decode cX11_read 41 = .ok (.aload_n 2, 1) := by decide +kernel
theorem dX11_read_42 : decode cX11_read 42 = .ok (.putfield 55, 3) := by decide +kernel
theorem dX11_read_45 : decode cX11_read 45 = .ok (.aload_n 0, 1) := by decide +kernel
theorem dX11_read_46 : decode cX11_read 46 = .ok (.iconst 0, 1) := by decide +kernel
theorem dX11_read_47 : decode cX11_read 47 = .ok (.putfield 62, 3) := by decide +kernel
theorem dX11_read_50 : decode cX11_read 50 = .ok (.aload_n 0, 1) := by decide +kernel
theorem dX11_read_51 : decode cX11_read 51 = .ok (.getfield 19, 3) := by decide +kernel
theorem dX11_read_54 : decode cX11_read 54 = .ok (.aload_n 0, 1) := by decide +kernel
theorem dX11_read_55 : decode cX11_read 55 = .ok (.getfield 51, 3) := by decide +kernel
theorem dX11_read_58 : decode cX11_read 58 = .ok (.invokevirtual 83, 3) := by decide +kernel
theorem dX11_read_61 : decode cX11_read 61 = .ok (.iload_n 1, 1) := by decide +kernel
theorem dX11_read_62 : decode cX11_read 62 = .ok (.ireturn, 1) := by decide +kernel
set_option maxRecDepth 100000 in
theorem c_X11_read (l : Launch) (D : q_D) (al : q_Al) (dt : q_Dt) (x0 : Nat) (kx0 : al.1 x0 = 12) (r0 : Int32) (dt0 : q_Dt) (hm : X11_read al dt x0 = some (r0, dt0)) : q_Mt l yX11_read cX11_read 3 (some FieldType.int) 7 170 D al [.ref x0] dt 0 (some (.int r0)) dt0 := by
  refine q_Mt.of (by decide) (Nat.le_of_ble_eq_true rfl) ?_
  intro p e s m args below meth c ls C hargs hW hl
  have hx := C.1
  have hb := C.2.1
  have hown := C.2.2.2.2.2.1
  have hts := C.2.2.2.2.2.2.1
  have hS : va_S (q_A al) s.heap s.heap [] := va_S.rf
  have hl : lv_has ls 3 [(0, .ref x0)] := hl
  unfold X11_read at hm
  have hB61 : ∀ (x1_61 : Int32) (dt : q_Dt) (H : Heap) (locs : List Loc) (ls : Array Slot) (hm : X11_read_b61 al x1_61 dt = some (r0, dt0)) (hW : q_W D al dt H) (hS : va_S (q_A al) s.heap H locs) (hl : lv_has ls 3 [(1, .int x1_61)]), W p l e { frames := 7, cells := 0, slots := 0, locals := 170 } s m args below meth c H locs 0 0 (MQ below (q_Q (some (.int r0)) (fun H => q_W D al dt0 H ∧ q_Rk al 0 (some (.int r0))) (q_A al)) args s 0 0 (q_A al)) (F0 m 61 ls []) := by
    intro x1_61 dt H locs ls hm hW hS hl
    unfold X11_read_b61 at hm
    refine lv_iload_n hx hb dX11_read_61 rfl (lv_at hl 0 rfl) ?_
    exact e_iD C hW hS hm dX11_read_62
  refine lv_aload_n hx hb dX11_read_0 rfl (lv_at hl 0 rfl) ?_
  refine r_getF C hW (ci := 11) kx0 ff_11_0 cl_11 fl_RX11_10 dX11_read_1 (fun k1000001 => ?_)
  refine lv_aload_n hx hb dX11_read_4 rfl (lv_at hl 0 rfl) ?_
  refine r_getQ C hW hm (ci := 11) kx0 ff_11_7 cl_11 fl_RX11_55 dX11_read_5 (fun o1000002 eo1000002 k1000003 hm => ?_)
  obtain ⟨v1000005, dt1000006, hc1000004, hm⟩ := q_b2i hm
  refine q_callV C hW hS (As := [va_rf o1000002]) (rest := []) (st1 := [.int v1000005]) (c_X3_make l D al dt (al.2.2 x0 0) o1000002 k1000001 k1000003 v1000005 dt1000006 hc1000004) yl_X3_make vl_X3_make ml_RX11_78 (ci := 3) rfl k1000001 (by decide) rfl ⟨Nat.le_of_ble_eq_true rfl, Nat.le_of_ble_eq_true rfl⟩ hl rfl (Nat.le_of_ble_eq_true rfl) dX11_read_8 ⟨Nat.le_refl _, Nat.le_refl _⟩ rfl (fun H locs k1000007 hW hS => ?_)
  refine lv_istore_n (i := 1) (lv' := [(1, .int v1000005), (0, .ref x0)]) hx hb dX11_read_11 rfl hl (by decide) rfl (fun ls hl => ?_)
  refine lv_aload_n hx hb dX11_read_12 rfl (lv_at hl 1 rfl) ?_
  refine lv_aload_n hx hb dX11_read_13 rfl (lv_at hl 1 rfl) ?_
  refine r_getF C hW (ci := 11) kx0 ff_11_0 cl_11 fl_RX11_10 dX11_read_14 (fun k1000008 => ?_)
  refine r_getI C hW (ci := 3) k1000008 ff_3_7 cl_3 fl_RX11_82 dX11_read_17 ?_
  refine r_putI C hW hS hm (ci := 11) kx0 ff_11_8 cl_11 fl_RX11_58 (nf_11_8) rfl dX11_read_20 (fun dt1000009 H locs hm hW hS => ?_)
  refine lv_iload_n hx hb dX11_read_23 rfl (lv_at hl 0 rfl) ?_
  refine q_ifc hm (fun c1000010 hm => ?_) (fun c1000010 hm => ?_)
  · refine lv_if_ne (tgt := 61) hx hb dX11_read_24 (by decide) (fun h => absurd c1000010 h) (fun _ => ?_)
    refine lv_aload_n hx hb dX11_read_27 rfl (lv_at hl 1 rfl) ?_
    refine r_getQ C hW hm (ci := 11) kx0 ff_11_6 cl_11 fl_RX11_51 dX11_read_28 (fun o1000011 eo1000011 k1000012 hm => ?_)
    refine q_astoreQ_n (i := 2) (lv' := [(2, va_rf o1000011), (1, .int v1000005), (0, .ref x0)]) C dX11_read_31 rfl hl (by decide) rfl (fun ls hl => ?_)
    refine lv_aload_n hx hb dX11_read_32 rfl (lv_at hl 2 rfl) ?_
    refine lv_aload_n hx hb dX11_read_33 rfl (lv_at hl 2 rfl) ?_
    refine r_getQ C hW hm (ci := 11) kx0 ff_11_7 cl_11 fl_RX11_55 dX11_read_34 (fun o1000013 eo1000013 k1000014 hm => ?_)
    obtain ⟨b1000015, e1000016, hq1000017⟩ := q_mi hm
    subst e1000016
    have hm := hq1000017
    have k1000018 := k1000014 b1000015 rfl
    refine r_putQ C hW hS hm (ci := 11) kx0 ff_11_6 k1000018 cl_11 fl_RX11_51 (nf_11_6) rfl dX11_read_37 (fun dt1000019 H locs hm hW hS => ?_)
    refine lv_aload_n hx hb dX11_read_40 rfl (lv_at hl 2 rfl) ?_
    refine q_aloadQ_n C dX11_read_41 rfl (lv_at hl 0 rfl) ?_
    obtain ⟨b1000020, e1000021, hq1000022⟩ := q_mi hm
    subst e1000021
    have hm := hq1000022
    have k1000023 := k1000012 b1000020 rfl
    refine r_putQ C hW hS hm (ci := 11) kx0 ff_11_7 k1000023 cl_11 fl_RX11_55 (nf_11_7) rfl dX11_read_42 (fun dt1000024 H locs hm hW hS => ?_)
    refine lv_aload_n hx hb dX11_read_45 rfl (lv_at hl 2 rfl) ?_
    refine lv_iconst (v := 0) hx hb dX11_read_46 (by decide) ?_
    refine r_putI C hW hS hm (ci := 11) kx0 ff_11_9 cl_11 fl_RX11_62 (nf_11_9) rfl dX11_read_47 (fun dt1000025 H locs hm hW hS => ?_)
    refine lv_aload_n hx hb dX11_read_50 rfl (lv_at hl 2 rfl) ?_
    refine r_getF C hW (ci := 11) kx0 ff_11_1 cl_11 fl_RX11_19 dX11_read_51 (fun k1000026 => ?_)
    refine lv_aload_n hx hb dX11_read_54 rfl (lv_at hl 2 rfl) ?_
    refine r_getQ C hW hm (ci := 11) kx0 ff_11_6 cl_11 fl_RX11_51 dX11_read_55 (fun o1000027 eo1000027 k1000028 hm => ?_)
    obtain ⟨dt1000030, hc1000029, hm⟩ := q_b1i hm
    refine q_callV C hW hS (As := [va_rf o1000027]) (rest := []) (st1 := []) (c_X8_layAnew l D al dt1000025 (al.2.2 x0 1) o1000027 k1000026 k1000028 dt1000030 hc1000029) yl_X8_layAnew vl_X8_layAnew ml_RX11_83 (ci := 8) rfl k1000026 (by decide) rfl ⟨Nat.le_of_ble_eq_true rfl, Nat.le_of_ble_eq_true rfl⟩ hl rfl (Nat.le_of_ble_eq_true rfl) dX11_read_58 ⟨Nat.le_refl _, Nat.le_refl _⟩ rfl (fun H locs k1000031 hW hS => ?_)
    exact hB61 v1000005 dt1000030 _ _ _ hm hW hS (lv_sub hl [1] rfl)
  refine lv_if_ne (tgt := 61) hx hb dX11_read_24 (by decide) (fun _ => ?_) (fun h => absurd h c1000010)
  exact hB61 v1000005 dt1000009 _ _ _ hm hW hS (lv_sub hl [0] rfl)
theorem dX11_place_0 : decode cX11_place 0 = .ok (.aload_n 0, 1) := by decide +kernel
theorem dX11_place_1 : decode cX11_place 1 = .ok (.getfield 58, 3) := by decide +kernel
theorem dX11_place_4 : decode cX11_place 4 = .ok (.ireturn, 1) := by decide +kernel
set_option maxRecDepth 100000 in
theorem c_X11_place (l : Launch) (D : q_D) (al : q_Al) (dt : q_Dt) (x0 : Nat) (kx0 : al.1 x0 = 12) (r0 : Int32) (hm : X11_place al dt x0 = some r0) : q_Mt l yX11_place cX11_place 1 (some FieldType.int) 0 0 D al [.ref x0] dt 0 (some (.int r0)) dt := by
  refine q_Mt.of (by decide) (Nat.le_of_ble_eq_true rfl) ?_
  intro p e s m args below meth c ls C hargs hW hl
  have hx := C.1
  have hb := C.2.1
  have hown := C.2.2.2.2.2.1
  have hts := C.2.2.2.2.2.2.1
  have hS : va_S (q_A al) s.heap s.heap [] := va_S.rf
  have hl : lv_has ls 1 [(0, .ref x0)] := hl
  unfold X11_place at hm
  refine lv_aload_n hx hb dX11_place_0 rfl (lv_at hl 0 rfl) ?_
  refine r_getI C hW (ci := 11) kx0 ff_11_8 cl_11 fl_RX11_58 dX11_place_1 ?_
  exact e_i C hW hS hm dX11_place_4
