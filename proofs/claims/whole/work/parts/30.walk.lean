theorem dX12_takesOut_0 : decode cX12_takesOut 0 = .ok (.iconst 0, 1) := by decide +kernel
theorem dX12_takesOut_1 : decode cX12_takesOut 1 = .ok (.istore_n 2, 1) := by decide +kernel
theorem dX12_takesOut_2 : decode cX12_takesOut 2 = .ok (.iload_n 2, 1) := by decide +kernel
theorem dX12_takesOut_3 : decode cX12_takesOut 3 = .ok (.sipush 1024, 3) := by decide +kernel
theorem dX12_takesOut_6 : decode cX12_takesOut 6 = .ok (.if_icmp .ge 21, 3) := by decide +kernel
theorem dX12_takesOut_9 : decode cX12_takesOut 9 = .ok (.aload_n 0, 1) := by decide +kernel
theorem dX12_takesOut_10 : decode cX12_takesOut 10 = .ok (.getfield 136, 3) := by decide +kernel
theorem dX12_takesOut_13 : decode cX12_takesOut 13 = .ok (.iload_n 2, 1) := by decide +kernel
theorem dX12_takesOut_14 : decode cX12_takesOut 14 = .ok (.aload_n 0, 1) := by decide +kernel
theorem dX12_takesOut_15 : decode cX12_takesOut 15 = .ok (.getfield 133, 3) := by decide +kernel
theorem dX12_takesOut_18 : decode cX12_takesOut 18 = .ok (.iload_n 2, 1) := by decide +kernel
theorem dX12_takesOut_19 : decode cX12_takesOut 19 = .ok (.iaload, 1) := by decide +kernel
theorem dX12_takesOut_20 : decode cX12_takesOut 20 = .ok (.iastore, 1) := by decide +kernel
theorem dX12_takesOut_21 : decode cX12_takesOut 21 = .ok (.iinc 2 1, 3) := by decide +kernel
theorem dX12_takesOut_24 : decode cX12_takesOut 24 = .ok (.goto (-22), 3) := by decide +kernel
theorem dX12_takesOut_27 : decode cX12_takesOut 27 = .ok (.iconst 0, 1) := by decide +kernel
theorem dX12_takesOut_28 : decode cX12_takesOut 28 = .ok (.istore_n 2, 1) := by decide +kernel
theorem dX12_takesOut_29 : decode cX12_takesOut 29 = .ok (.iconst 0, 1) := by decide +kernel
theorem dX12_takesOut_30 : decode cX12_takesOut 30 = .ok (.istore_n 3, 1) := by decide +kernel
theorem dX12_takesOut_31 : decode cX12_takesOut 31 = .ok (.iload_n 3, 1) := by decide +kernel
theorem dX12_takesOut_32 : decode cX12_takesOut 32 = .ok (.iload_n 1, 1) := by decide +kernel
theorem dX12_takesOut_33 : decode cX12_takesOut 33 = .ok (.if_icmp .ge 92, 3) := by decide +kernel
theorem dX12_takesOut_36 : decode cX12_takesOut 36 = .ok (.aload_n 0, 1) := by decide +kernel
theorem dX12_takesOut_37 : decode cX12_takesOut 37 = .ok (.iload_n 3, 1) := by decide +kernel
theorem dX12_takesOut_38 : decode cX12_takesOut 38 = .ok (.invokevirtual 465, 3) := by decide +kernel
theorem dX12_takesOut_41 : decode cX12_takesOut 41 = .ok (.istore 4, 2) := by decide +kernel
theorem dX12_takesOut_43 : decode cX12_takesOut 43 = .ok (.iload_n 2, 1) := by decide +kernel
theorem dX12_takesOut_44 : decode cX12_takesOut 44 = .ok (.aload_n 0, 1) := by decide +kernel
theorem dX12_takesOut_45 : decode cX12_takesOut 45 = .ok (.aload_n 0, 1) := by decide +kernel
theorem dX12_takesOut_46 : decode cX12_takesOut 46 = .ok (.getfield 136, 3) := by decide +kernel
theorem dX12_takesOut_49 : decode cX12_takesOut 49 = .ok (.iload 4, 2) := by decide +kernel
theorem dX12_takesOut_51 : decode cX12_takesOut 51 = .ok (.invokevirtual 461, 3) := by decide +kernel
theorem dX12_takesOut_54 : decode cX12_takesOut 54 = .ok (.iadd, 1) := by decide +kernel
theorem dX12_takesOut_55 : decode cX12_takesOut 55 = .ok (.istore_n 2, 1) := by decide +kernel
theorem dX12_takesOut_56 : decode cX12_takesOut 56 = .ok (.iconst 0, 1) := by decide +kernel
theorem dX12_takesOut_57 : decode cX12_takesOut 57 = .ok (.istore 5, 2) := by decide +kernel
theorem dX12_takesOut_59 : decode cX12_takesOut 59 = .ok (.iload 5, 2) := by decide +kernel
theorem dX12_takesOut_61 : decode cX12_takesOut 61 = .ok (.sipush 512, 3) := by decide +kernel
theorem dX12_takesOut_64 : decode cX12_takesOut 64 = .ok (.if_icmp .ge 44, 3) := by decide +kernel
theorem dX12_takesOut_67 : decode cX12_takesOut 67 = .ok (.aload_n 0, 1) := by decide +kernel
theorem dX12_takesOut_68 : decode cX12_takesOut 68 = .ok (.getfield 127, 3) := by decide +kernel
theorem dX12_takesOut_71 : decode cX12_takesOut 71 = .ok (.sipush 512, 3) := by decide +kernel
theorem dX12_takesOut_74 : decode cX12_takesOut 74 = .ok (.iload 4, 2) := by decide +kernel
theorem dX12_takesOut_76 : decode cX12_takesOut 76 = .ok (.imul, 1) := by decide +kernel
theorem dX12_takesOut_77 : decode cX12_takesOut 77 = .ok (.iload 5, 2) := by decide +kernel
theorem dX12_takesOut_79 : decode cX12_takesOut 79 = .ok (.iadd, 1) := by decide +kernel
theorem dX12_takesOut_80 : decode cX12_takesOut 80 = .ok (.aload_n 0, 1) := by decide +kernel
theorem dX12_takesOut_81 : decode cX12_takesOut 81 = .ok (.getfield 161, 3) := by decide +kernel
theorem dX12_takesOut_84 : decode cX12_takesOut 84 = .ok (.iload 5, 2) := by decide +kernel
theorem dX12_takesOut_86 : decode cX12_takesOut 86 = .ok (.baload, 1) := by decide +kernel
theorem dX12_takesOut_87 : decode cX12_takesOut 87 = .ok (.ifCond .eq 12, 3) := by decide +kernel
theorem dX12_takesOut_90 : decode cX12_takesOut 90 = .ok (.aload_n 0, 1) := by decide +kernel
theorem dX12_takesOut_91 : decode cX12_takesOut 91 = .ok (.iload 5, 2) := by decide +kernel
theorem dX12_takesOut_93 : decode cX12_takesOut 93 = .ok (.invokevirtual 454, 3) := by decide +kernel
theorem dX12_takesOut_96 : decode cX12_takesOut 96 = .ok (.goto 4, 3) := by decide +kernel
theorem dX12_takesOut_99 : decode cX12_takesOut 99 = .ok (.iconst 0, 1) := by decide +kernel
theorem dX12_takesOut_100 : decode cX12_takesOut 100 = .ok (.i2b, 1) := by decide +kernel
theorem dX12_takesOut_101 : decode cX12_takesOut 101 = .ok (.bastore, 1) := by decide +kernel
theorem dX12_takesOut_102 : decode cX12_takesOut 102 = .ok (.iinc 5 1, 3) := by decide +kernel
theorem dX12_takesOut_105 : decode cX12_takesOut 105 = .ok (.goto (-46), 3) := by decide +kernel
theorem dX12_takesOut_108 : decode cX12_takesOut 108 = .ok (.aload_n 0, 1) := by decide +kernel
theorem dX12_takesOut_109 : decode cX12_takesOut 109 = .ok (.aload_n 0, 1) := by decide +kernel
theorem dX12_takesOut_110 : decode cX12_takesOut 110 = .ok (.getfield 136, 3) := by decide +kernel
theorem dX12_takesOut_113 : decode cX12_takesOut 113 = .ok (.iload 4, 2) := by decide +kernel
theorem dX12_takesOut_115 : decode cX12_takesOut 115 = .ok (.iconst (-1), 1) := by decide +kernel
theorem dX12_takesOut_116 : decode cX12_takesOut 116 = .ok (.invokevirtual 369, 3) := by decide +kernel
theorem dX12_takesOut_119 : decode cX12_takesOut 119 = .ok (.iinc 3 1, 3) := by decide +kernel
theorem dX12_takesOut_122 : decode cX12_takesOut 122 = .ok (.goto (-91), 3) := by decide +kernel
theorem dX12_takesOut_125 : decode cX12_takesOut 125 = .ok (.iload_n 2, 1) := by decide +kernel
theorem dX12_takesOut_126 : decode cX12_takesOut 126 = .ok (.ireturn, 1) := by decide +kernel
set_option maxRecDepth 100000 in
theorem c_X12_takesOut (l : Launch) (D : q_D) (al : q_Al) (dt : q_Dt) (x0 : Nat) (x1 : Int32) (kx0 : al.1 x0 = 13) (r0 : Int32) (dt0 : q_Dt) (hm : X12_takesOut al dt x0 x1 = some (r0, dt0)) : q_Mt l yX12_takesOut cX12_takesOut 6 (some FieldType.int) 5 123 D al [.ref x0, .int x1] dt 0 (some (.int r0)) dt0 := by
  refine q_Mt.of (by decide) (Nat.le_of_ble_eq_true rfl) ?_
  intro p e s m args below meth c ls C hargs hW hl
  have hx := C.1
  have hb := C.2.1
  have hown := C.2.2.2.2.2.1
  have hts := C.2.2.2.2.2.2.1
  have hS : va_S (q_A al) s.heap s.heap [] := va_S.rf
  have hl : lv_has ls 6 [(0, .ref x0), (1, .int x1)] := hl
  unfold X12_takesOut at hm
  have hB31 : ∀ (x0_31 : Nat) (x1_31 : Int32) (kx0_31 : al.1 x0_31 = 13) (n_31 : Nat) (x2_31 : Int32) (x3_31 : Int32) (dt : q_Dt) (H : Heap) (locs : List Loc) (ls : Array Slot) (hm : X12_takesOut_b31 al x0_31 x1_31 n_31 x2_31 x3_31 dt = some (r0, dt0)) (hW : q_W D al dt H) (hS : va_S (q_A al) s.heap H locs) (hl : lv_has ls 6 [(0, .ref x0_31), (1, .int x1_31), (2, .int x2_31), (3, .int x3_31)]), W p l e { frames := 5, cells := 0, slots := 0, locals := 123 } s m args below meth c H locs 0 0 (MQ below (q_Q (some (.int r0)) (fun H => q_W D al dt0 H ∧ q_Rk al 0 (some (.int r0))) (q_A al)) args s 0 0 (q_A al)) (F0 m 31 ls []) := by
    intro x0_31 x1_31 kx0_31
    intro n_31
    induction n_31 with
    | zero => intro x2_31 x3_31 dt H locs ls hm hW hS hl; cases hm
    | succ n_31 ih31 =>
      have hB59 : ∀ (x2_59 : Int32) (x3_59 : Int32) (x4_59 : Int32) (n_59 : Nat) (x5_59 : Int32) (dt : q_Dt) (H : Heap) (locs : List Loc) (ls : Array Slot) (hm : X12_takesOut_b59 al (X12_takesOut_b31 al x0_31 x1_31 n_31) x0_31 x1_31 x2_59 x3_59 x4_59 n_59 x5_59 dt = some (r0, dt0)) (hW : q_W D al dt H) (hS : va_S (q_A al) s.heap H locs) (hl : lv_has ls 6 [(0, .ref x0_31), (1, .int x1_31), (2, .int x2_59), (3, .int x3_59), (4, .int x4_59), (5, .int x5_59)]), W p l e { frames := 5, cells := 0, slots := 0, locals := 123 } s m args below meth c H locs 0 0 (MQ below (q_Q (some (.int r0)) (fun H => q_W D al dt0 H ∧ q_Rk al 0 (some (.int r0))) (q_A al)) args s 0 0 (q_A al)) (F0 m 59 ls []) := by
        intro x2_59 x3_59 x4_59
        intro n_59
        induction n_59 with
        | zero => intro x5_59 dt H locs ls hm hW hS hl; cases hm
        | succ n_59 ih59 =>
          have hB100 : ∀ (x5_100 : Int32) (t0_100 : Nat) (t1_100 : Int32) (t2_100 : Int32) (kt0_100 : al.1 t0_100 = 20) (dt : q_Dt) (H : Heap) (locs : List Loc) (ls : Array Slot) (hm : X12_takesOut_b100 al (X12_takesOut_b31 al x0_31 x1_31 n_31) (X12_takesOut_b59 al (X12_takesOut_b31 al x0_31 x1_31 n_31) x0_31 x1_31 x2_59 x3_59 x4_59 n_59) x0_31 x1_31 x2_59 x3_59 x4_59 x5_100 t0_100 t1_100 t2_100 dt = some (r0, dt0)) (hW : q_W D al dt H) (hS : va_S (q_A al) s.heap H locs) (hl : lv_has ls 6 [(0, .ref x0_31), (1, .int x1_31), (2, .int x2_59), (3, .int x3_59), (4, .int x4_59), (5, .int x5_100)]), W p l e { frames := 5, cells := 0, slots := 0, locals := 123 } s m args below meth c H locs 0 0 (MQ below (q_Q (some (.int r0)) (fun H => q_W D al dt0 H ∧ q_Rk al 0 (some (.int r0))) (q_A al)) args s 0 0 (q_A al)) (F0 m 100 ls [.int t2_100, .int t1_100, .ref t0_100]) := by
            intro x5_100 t0_100 t1_100 t2_100 kt0_100 dt H locs ls hm hW hS hl
            unfold X12_takesOut_b100 at hm
            refine lv_i2b (v := (Int8.toInt32 (Int32.toInt8 t2_100))) hx hb dX12_takesOut_100 rfl ?_
            refine r_bast C hW hS hm kt0_100 dX12_takesOut_101 (fun dt100001 H locs hm hW hS => ?_)
            refine lv_iinc (v := (x5_100 + 1)) (lv' := [(5, .int (x5_100 + 1)), (0, .ref x0_31), (1, .int x1_31), (2, .int x2_59), (3, .int x3_59), (4, .int x4_59)]) hx hb dX12_takesOut_102 hl (k := 5) rfl rfl (by decide) rfl (fun ls hl => ?_)
            refine lv_goto (tgt := 59) hx hb dX12_takesOut_105 (by decide) ?_
            exact ih59 (x5_100 + 1) dt100001 _ _ _ hm hW hS (lv_sub hl [1, 2, 3, 4, 5, 0] rfl)
          intro x5_59 dt H locs ls hm hW hS hl
          rw [X12_takesOut_b59] at hm
          refine lv_iload hx hb dX12_takesOut_59 (lv_at hl 5 rfl) ?_
          refine lv_sipush (v := 512) hx hb dX12_takesOut_61 (by decide) ?_
          refine q_ifc hm (fun c59001 hm => ?_) (fun c59001 hm => ?_)
          · refine lv_icmp_ge (tgt := 108) hx hb dX12_takesOut_64 (by decide) (fun _ => ?_) (fun h => absurd c59001 h)
            refine lv_aload_n hx hb dX12_takesOut_108 rfl (lv_at hl 0 rfl) ?_
            refine lv_aload_n hx hb dX12_takesOut_109 rfl (lv_at hl 0 rfl) ?_
            refine r_getF C hW (ci := 12) kx0_31 ff_12_54 cl_12 fl_RX12_136 dX12_takesOut_110 (fun k59002 => ?_)
            refine lv_iload hx hb dX12_takesOut_113 (lv_at hl 4 rfl) ?_
            refine lv_iconst (v := (-1)) hx hb dX12_takesOut_115 (by decide) ?_
            obtain ⟨dt59004, hc59003, hm⟩ := q_b1i hm
            refine q_callV C hW hS (As := [.ref (al.2.2 x0_31 54), .int x4_59, .int (-1)]) (rest := []) (st1 := []) (c_X12_addsWave l D al dt x0_31 (al.2.2 x0_31 54) x4_59 (-1) kx0_31 k59002 dt59004 hc59003) yl_X12_addsWave vl_X12_addsWave ml_RX12_369 (ci := 12) rfl kx0_31 (by decide) rfl ⟨Nat.le_of_ble_eq_true rfl, Nat.le_of_ble_eq_true rfl⟩ hl rfl (Nat.le_of_ble_eq_true rfl) dX12_takesOut_116 ⟨Nat.le_refl _, Nat.le_refl _⟩ rfl (fun H locs k59005 hW hS => ?_)
            refine lv_iinc (v := (x3_59 + 1)) (lv' := [(3, .int (x3_59 + 1)), (0, .ref x0_31), (1, .int x1_31), (2, .int x2_59), (4, .int x4_59), (5, .int x5_59)]) hx hb dX12_takesOut_119 hl (k := 3) rfl rfl (by decide) rfl (fun ls hl => ?_)
            refine lv_goto (tgt := 31) hx hb dX12_takesOut_122 (by decide) ?_
            exact ih31 x2_59 (x3_59 + 1) dt59004 _ _ _ hm hW hS (lv_sub hl [1, 2, 3, 0] rfl)
          refine lv_icmp_ge (tgt := 108) hx hb dX12_takesOut_64 (by decide) (fun h => absurd h c59001) (fun _ => ?_)
          refine lv_aload_n hx hb dX12_takesOut_67 rfl (lv_at hl 0 rfl) ?_
          refine r_getF C hW (ci := 12) kx0_31 ff_12_51 cl_12 fl_RX12_127 dX12_takesOut_68 (fun k59006 => ?_)
          refine lv_sipush (v := 512) hx hb dX12_takesOut_71 (by decide) ?_
          refine lv_iload hx hb dX12_takesOut_74 (lv_at hl 4 rfl) ?_
          refine lv_imul hx hb dX12_takesOut_76 ?_
          refine lv_iload hx hb dX12_takesOut_77 (lv_at hl 5 rfl) ?_
          refine lv_iadd hx hb dX12_takesOut_79 ?_
          refine lv_aload_n hx hb dX12_takesOut_80 rfl (lv_at hl 0 rfl) ?_
          refine r_getF C hW (ci := 12) kx0_31 ff_12_64 cl_12 fl_RX12_161 dX12_takesOut_81 (fun k59007 => ?_)
          refine lv_iload hx hb dX12_takesOut_84 (lv_at hl 5 rfl) ?_
          refine r_zald C hW hm k59007 dX12_takesOut_86 (fun hm => ?_)
          refine q_ifc hm (fun c59008 hm => ?_) (fun c59008 hm => ?_)
          · refine lv_if_eq (tgt := 99) hx hb dX12_takesOut_87 (by decide) (fun _ => ?_) (fun h => absurd c59008 h)
            refine lv_iconst (v := 0) hx hb dX12_takesOut_99 (by decide) ?_
            exact hB100 x5_59 (al.2.2 x0_31 51) ((512 * x4_59) + x5_59) 0 k59006 dt _ _ _ hm hW hS (lv_sub hl [0, 1, 2, 3, 4, 5] rfl)
          refine lv_if_eq (tgt := 99) hx hb dX12_takesOut_87 (by decide) (fun h => absurd h c59008) (fun _ => ?_)
          refine lv_aload_n hx hb dX12_takesOut_90 rfl (lv_at hl 0 rfl) ?_
          refine lv_iload hx hb dX12_takesOut_91 (lv_at hl 5 rfl) ?_
          obtain ⟨v59010, hc59009, hm⟩ := q_b1i hm
          refine q_callV C hW hS (As := [.int x5_59]) (rest := [.int ((512 * x4_59) + x5_59), .ref (al.2.2 x0_31 51)]) (st1 := [.int v59010, .int ((512 * x4_59) + x5_59), .ref (al.2.2 x0_31 51)]) (c_X12_bitOf l D al dt x0_31 x5_59 kx0_31 v59010 hc59009) yl_X12_bitOf vl_X12_bitOf ml_RX12_454 (ci := 12) rfl kx0_31 (by decide) rfl ⟨Nat.le_of_ble_eq_true rfl, Nat.le_of_ble_eq_true rfl⟩ hl rfl (Nat.le_of_ble_eq_true rfl) dX12_takesOut_93 ⟨Nat.le_refl _, Nat.le_refl _⟩ rfl (fun H locs k59011 hW hS => ?_)
          refine lv_goto (tgt := 100) hx hb dX12_takesOut_96 (by decide) ?_
          exact hB100 x5_59 (al.2.2 x0_31 51) ((512 * x4_59) + x5_59) v59010 k59006 dt _ _ _ hm hW hS (lv_sub hl [0, 1, 2, 3, 4, 5] rfl)
      intro x2_31 x3_31 dt H locs ls hm hW hS hl
      rw [X12_takesOut_b31] at hm
      refine lv_iload_n hx hb dX12_takesOut_31 rfl (lv_at hl 3 rfl) ?_
      refine lv_iload_n hx hb dX12_takesOut_32 rfl (lv_at hl 1 rfl) ?_
      refine q_ifc hm (fun c31001 hm => ?_) (fun c31001 hm => ?_)
      · refine lv_icmp_ge (tgt := 125) hx hb dX12_takesOut_33 (by decide) (fun _ => ?_) (fun h => absurd c31001 h)
        refine lv_iload_n hx hb dX12_takesOut_125 rfl (lv_at hl 2 rfl) ?_
        exact e_iD C hW hS hm dX12_takesOut_126
      refine lv_icmp_ge (tgt := 125) hx hb dX12_takesOut_33 (by decide) (fun h => absurd h c31001) (fun _ => ?_)
      refine lv_aload_n hx hb dX12_takesOut_36 rfl (lv_at hl 0 rfl) ?_
      refine lv_iload_n hx hb dX12_takesOut_37 rfl (lv_at hl 3 rfl) ?_
      obtain ⟨v31003, hc31002, hm⟩ := q_b1i hm
      refine q_callV C hW hS (As := [.int x3_31]) (rest := []) (st1 := [.int v31003]) (c_X12_byAmplitude l D al dt x0_31 x3_31 kx0_31 v31003 hc31002) yl_X12_byAmplitude vl_X12_byAmplitude ml_RX12_465 (ci := 12) rfl kx0_31 (by decide) rfl ⟨Nat.le_of_ble_eq_true rfl, Nat.le_of_ble_eq_true rfl⟩ hl rfl (Nat.le_of_ble_eq_true rfl) dX12_takesOut_38 ⟨Nat.le_refl _, Nat.le_refl _⟩ rfl (fun H locs k31004 hW hS => ?_)
      refine lv_istore (i := 4) (lv' := [(4, .int v31003), (0, .ref x0_31), (1, .int x1_31), (2, .int x2_31), (3, .int x3_31)]) hx hb dX12_takesOut_41 hl (by decide) rfl (fun ls hl => ?_)
      refine lv_iload_n hx hb dX12_takesOut_43 rfl (lv_at hl 3 rfl) ?_
      refine lv_aload_n hx hb dX12_takesOut_44 rfl (lv_at hl 1 rfl) ?_
      refine lv_aload_n hx hb dX12_takesOut_45 rfl (lv_at hl 1 rfl) ?_
      refine r_getF C hW (ci := 12) kx0_31 ff_12_54 cl_12 fl_RX12_136 dX12_takesOut_46 (fun k31005 => ?_)
      refine lv_iload hx hb dX12_takesOut_49 (lv_at hl 0 rfl) ?_
      obtain ⟨v31007, dt31008, hc31006, hm⟩ := q_b2i hm
      refine q_callV C hW hS (As := [.ref (al.2.2 x0_31 54), .int v31003]) (rest := [.int x2_31]) (st1 := [.int v31007, .int x2_31]) (c_X12_wrongOf l D al dt x0_31 (al.2.2 x0_31 54) v31003 kx0_31 k31005 v31007 dt31008 hc31006) yl_X12_wrongOf vl_X12_wrongOf ml_RX12_461 (ci := 12) rfl kx0_31 (by decide) rfl ⟨Nat.le_of_ble_eq_true rfl, Nat.le_of_ble_eq_true rfl⟩ hl rfl (Nat.le_of_ble_eq_true rfl) dX12_takesOut_51 ⟨Nat.le_refl _, Nat.le_refl _⟩ rfl (fun H locs k31009 hW hS => ?_)
      refine lv_iadd hx hb dX12_takesOut_54 ?_
      refine lv_istore_n (i := 2) (lv' := [(2, .int (x2_31 + v31007)), (4, .int v31003), (0, .ref x0_31), (1, .int x1_31), (3, .int x3_31)]) hx hb dX12_takesOut_55 rfl hl (by decide) rfl (fun ls hl => ?_)
      refine lv_iconst (v := 0) hx hb dX12_takesOut_56 (by decide) ?_
      refine lv_istore (i := 5) (lv' := [(5, .int 0), (2, .int (x2_31 + v31007)), (4, .int v31003), (0, .ref x0_31), (1, .int x1_31), (3, .int x3_31)]) hx hb dX12_takesOut_57 hl (by decide) rfl (fun ls hl => ?_)
      exact hB59 (x2_31 + v31007) x3_31 v31003 q_FU 0 dt31008 _ _ _ hm hW hS (lv_sub hl [3, 4, 1, 5, 2, 0] rfl)
  have hB2 : ∀ (x0_2 : Nat) (x1_2 : Int32) (kx0_2 : al.1 x0_2 = 13) (n_2 : Nat) (x2_2 : Int32) (dt : q_Dt) (H : Heap) (locs : List Loc) (ls : Array Slot) (hm : X12_takesOut_b2 al x0_2 x1_2 n_2 x2_2 dt = some (r0, dt0)) (hW : q_W D al dt H) (hS : va_S (q_A al) s.heap H locs) (hl : lv_has ls 6 [(0, .ref x0_2), (1, .int x1_2), (2, .int x2_2)]), W p l e { frames := 5, cells := 0, slots := 0, locals := 123 } s m args below meth c H locs 0 0 (MQ below (q_Q (some (.int r0)) (fun H => q_W D al dt0 H ∧ q_Rk al 0 (some (.int r0))) (q_A al)) args s 0 0 (q_A al)) (F0 m 2 ls []) := by
    intro x0_2 x1_2 kx0_2
    intro n_2
    induction n_2 with
    | zero => intro x2_2 dt H locs ls hm hW hS hl; cases hm
    | succ n_2 ih2 =>
      intro x2_2 dt H locs ls hm hW hS hl
      rw [X12_takesOut_b2] at hm
      refine lv_iload_n hx hb dX12_takesOut_2 rfl (lv_at hl 2 rfl) ?_
      refine lv_sipush (v := 1024) hx hb dX12_takesOut_3 (by decide) ?_
      refine q_ifc hm (fun c2001 hm => ?_) (fun c2001 hm => ?_)
      · refine lv_icmp_ge (tgt := 27) hx hb dX12_takesOut_6 (by decide) (fun _ => ?_) (fun h => absurd c2001 h)
        refine lv_iconst (v := 0) hx hb dX12_takesOut_27 (by decide) ?_
        refine lv_istore_n (i := 2) (lv' := [(2, .int 0), (0, .ref x0_2), (1, .int x1_2)]) hx hb dX12_takesOut_28 rfl hl (by decide) rfl (fun ls hl => ?_)
        refine lv_iconst (v := 0) hx hb dX12_takesOut_29 (by decide) ?_
        refine lv_istore_n (i := 3) (lv' := [(3, .int 0), (2, .int 0), (0, .ref x0_2), (1, .int x1_2)]) hx hb dX12_takesOut_30 rfl hl (by decide) rfl (fun ls hl => ?_)
        exact hB31 x0_2 x1_2 kx0_2 q_FU 0 0 dt _ _ _ hm hW hS (lv_sub hl [2, 3, 1, 0] rfl)
      refine lv_icmp_ge (tgt := 27) hx hb dX12_takesOut_6 (by decide) (fun h => absurd h c2001) (fun _ => ?_)
      refine lv_aload_n hx hb dX12_takesOut_9 rfl (lv_at hl 0 rfl) ?_
      refine r_getF C hW (ci := 12) kx0_2 ff_12_54 cl_12 fl_RX12_136 dX12_takesOut_10 (fun k2002 => ?_)
      refine lv_iload_n hx hb dX12_takesOut_13 rfl (lv_at hl 2 rfl) ?_
      refine lv_aload_n hx hb dX12_takesOut_14 rfl (lv_at hl 0 rfl) ?_
      refine r_getF C hW (ci := 12) kx0_2 ff_12_53 cl_12 fl_RX12_133 dX12_takesOut_15 (fun k2003 => ?_)
      refine lv_iload_n hx hb dX12_takesOut_18 rfl (lv_at hl 2 rfl) ?_
      refine r_iald C hW hm k2003 dX12_takesOut_19 (fun hm => ?_)
      refine r_iast C hW hS hm k2002 dX12_takesOut_20 (fun dt2004 H locs hm hW hS => ?_)
      refine lv_iinc (v := (x2_2 + 1)) (lv' := [(2, .int (x2_2 + 1)), (0, .ref x0_2), (1, .int x1_2)]) hx hb dX12_takesOut_21 hl (k := 2) rfl rfl (by decide) rfl (fun ls hl => ?_)
      refine lv_goto (tgt := 2) hx hb dX12_takesOut_24 (by decide) ?_
      exact ih2 (x2_2 + 1) dt2004 _ _ _ hm hW hS (lv_sub hl [1, 2, 0] rfl)
  refine lv_iconst (v := 0) hx hb dX12_takesOut_0 (by decide) ?_
  refine lv_istore_n (i := 2) (lv' := [(2, .int 0), (0, .ref x0), (1, .int x1)]) hx hb dX12_takesOut_1 rfl hl (by decide) rfl (fun ls hl => ?_)
  exact hB2 x0 x1 kx0 q_FU 0 dt _ _ _ hm hW hS (lv_sub hl [1, 2, 0] rfl)
theorem dX12_taken_0 : decode cX12_taken 0 = .ok (.iload_n 1, 1) := by decide +kernel
theorem dX12_taken_1 : decode cX12_taken 1 = .ok (.ifCond .ne 17, 3) := by decide +kernel
theorem dX12_taken_4 : decode cX12_taken 4 = .ok (.aload_n 0, 1) := by decide +kernel
theorem dX12_taken_5 : decode cX12_taken 5 = .ok (.aload_n 0, 1) := by decide +kernel
theorem dX12_taken_6 : decode cX12_taken 6 = .ok (.getfield 70, 3) := by decide +kernel
theorem dX12_taken_9 : decode cX12_taken 9 = .ok (.aload_n 0, 1) := by decide +kernel
theorem dX12_taken_10 : decode cX12_taken 10 = .ok (.getfield 242, 3) := by decide +kernel
theorem dX12_taken_13 : decode cX12_taken 13 = .ok (.iaload, 1) := by decide +kernel
theorem dX12_taken_14 : decode cX12_taken 14 = .ok (.invokevirtual 468, 3) := by decide +kernel
theorem dX12_taken_17 : decode cX12_taken 17 = .ok (.ireturn, 1) := by decide +kernel
theorem dX12_taken_18 : decode cX12_taken 18 = .ok (.iload_n 1, 1) := by decide +kernel
theorem dX12_taken_19 : decode cX12_taken 19 = .ok (.iconst 1, 1) := by decide +kernel
theorem dX12_taken_20 : decode cX12_taken 20 = .ok (.if_icmp .ne 19, 3) := by decide +kernel
theorem dX12_taken_23 : decode cX12_taken 23 = .ok (.aload_n 0, 1) := by decide +kernel
theorem dX12_taken_24 : decode cX12_taken 24 = .ok (.iload_n 2, 1) := by decide +kernel
theorem dX12_taken_25 : decode cX12_taken 25 = .ok (.invokevirtual 415, 3) := by decide +kernel
theorem dX12_taken_28 : decode cX12_taken 28 = .ok (.ifCond .eq 11, 3) := by decide +kernel
theorem dX12_taken_31 : decode cX12_taken 31 = .ok (.aload_n 0, 1) := by decide +kernel
theorem dX12_taken_32 : decode cX12_taken 32 = .ok (.iload_n 2, 1) := by decide +kernel
theorem dX12_taken_33 : decode cX12_taken 33 = .ok (.invokevirtual 465, 3) := by decide +kernel
theorem dX12_taken_36 : decode cX12_taken 36 = .ok (.goto 4, 3) := by decide +kernel
theorem dX12_taken_39 : decode cX12_taken 39 = .ok (.iconst (-1), 1) := by decide +kernel
theorem dX12_taken_40 : decode cX12_taken 40 = .ok (.ireturn, 1) := by decide +kernel
set_option maxRecDepth 100000 in
theorem c_X12_taken (l : Launch) (D : q_D) (al : q_Al) (dt : q_Dt) (x0 : Nat) (x1 : Int32) (x2 : Int32) (kx0 : al.1 x0 = 13) (r0 : Int32) (dt0 : q_Dt) (hm : X12_taken al dt x0 x1 x2 = some (r0, dt0)) : q_Mt l yX12_taken cX12_taken 3 (some FieldType.int) 6 148 D al [.ref x0, .int x1, .int x2] dt 0 (some (.int r0)) dt0 := by
  refine q_Mt.of (by decide) (Nat.le_of_ble_eq_true rfl) ?_
  intro p e s m args below meth c ls C hargs hW hl
  have hx := C.1
  have hb := C.2.1
  have hown := C.2.2.2.2.2.1
  have hts := C.2.2.2.2.2.2.1
  have hS : va_S (q_A al) s.heap s.heap [] := va_S.rf
  have hl : lv_has ls 3 [(0, .ref x0), (1, .int x1), (2, .int x2)] := hl
  unfold X12_taken at hm
  refine lv_iload_n hx hb dX12_taken_0 rfl (lv_at hl 1 rfl) ?_
  refine q_ifc hm (fun c1000001 hm => ?_) (fun c1000001 hm => ?_)
  · refine lv_if_ne (tgt := 18) hx hb dX12_taken_1 (by decide) (fun h => absurd c1000001 h) (fun _ => ?_)
    refine lv_aload_n hx hb dX12_taken_4 rfl (lv_at hl 0 rfl) ?_
    refine lv_aload_n hx hb dX12_taken_5 rfl (lv_at hl 0 rfl) ?_
    refine r_getF C hW (ci := 12) kx0 ff_12_31 cl_12 fl_RX12_70 dX12_taken_6 (fun k1000002 => ?_)
    refine lv_aload_n hx hb dX12_taken_9 rfl (lv_at hl 0 rfl) ?_
    refine r_getI C hW (ci := 12) kx0 ff_12_18 cl_12 fl_RX12_242 dX12_taken_10 ?_
    refine r_iald C hW hm k1000002 dX12_taken_13 (fun hm => ?_)
    obtain ⟨v1000004, dt1000005, hc1000003, hm⟩ := q_b2i hm
    refine q_callV C hW hS (As := [.int (dt.1 (al.2.2 x0 31) (Int32.toNatClampNeg (dt.1 x0 18)))]) (rest := []) (st1 := [.int v1000004]) (c_X12_takesOut l D al dt x0 (dt.1 (al.2.2 x0 31) (Int32.toNatClampNeg (dt.1 x0 18))) kx0 v1000004 dt1000005 hc1000003) yl_X12_takesOut vl_X12_takesOut ml_RX12_468 (ci := 12) rfl kx0 (by decide) rfl ⟨Nat.le_of_ble_eq_true rfl, Nat.le_of_ble_eq_true rfl⟩ hl rfl (Nat.le_of_ble_eq_true rfl) dX12_taken_14 ⟨Nat.le_refl _, Nat.le_refl _⟩ rfl (fun H locs k1000006 hW hS => ?_)
    exact e_iD C hW hS hm dX12_taken_17
  refine lv_if_ne (tgt := 18) hx hb dX12_taken_1 (by decide) (fun _ => ?_) (fun h => absurd h c1000001)
  refine lv_iload_n hx hb dX12_taken_18 rfl (lv_at hl 1 rfl) ?_
  refine lv_iconst (v := 1) hx hb dX12_taken_19 (by decide) ?_
  refine q_ifc hm (fun c1000007 hm => ?_) (fun c1000007 hm => ?_)
  · refine lv_icmp_ne (tgt := 39) hx hb dX12_taken_20 (by decide) (fun h => absurd c1000007 h) (fun _ => ?_)
    refine lv_aload_n hx hb dX12_taken_23 rfl (lv_at hl 0 rfl) ?_
    refine lv_iload_n hx hb dX12_taken_24 rfl (lv_at hl 2 rfl) ?_
    obtain ⟨v1000009, hc1000008, hm⟩ := q_b1i hm
    refine q_callV C hW hS (As := [.int x2]) (rest := []) (st1 := [.int v1000009]) (c_X12_isSender l D al dt x0 x2 kx0 v1000009 hc1000008) yl_X12_isSender vl_X12_isSender ml_RX12_415 (ci := 12) rfl kx0 (by decide) rfl ⟨Nat.le_of_ble_eq_true rfl, Nat.le_of_ble_eq_true rfl⟩ hl rfl (Nat.le_of_ble_eq_true rfl) dX12_taken_25 ⟨Nat.le_refl _, Nat.le_refl _⟩ rfl (fun H locs k1000010 hW hS => ?_)
    refine q_ifc hm (fun c1000011 hm => ?_) (fun c1000011 hm => ?_)
    · refine lv_if_eq (tgt := 39) hx hb dX12_taken_28 (by decide) (fun _ => ?_) (fun h => absurd c1000011 h)
      refine lv_iconst (v := (-1)) hx hb dX12_taken_39 (by decide) ?_
      exact e_iD C hW hS hm dX12_taken_40
    refine lv_if_eq (tgt := 39) hx hb dX12_taken_28 (by decide) (fun h => absurd h c1000011) (fun _ => ?_)
    refine lv_aload_n hx hb dX12_taken_31 rfl (lv_at hl 0 rfl) ?_
    refine lv_iload_n hx hb dX12_taken_32 rfl (lv_at hl 2 rfl) ?_
    obtain ⟨v1000013, hc1000012, hm⟩ := q_b1i hm
    refine q_callV C hW hS (As := [.int x2]) (rest := []) (st1 := [.int v1000013]) (c_X12_byAmplitude l D al dt x0 x2 kx0 v1000013 hc1000012) yl_X12_byAmplitude vl_X12_byAmplitude ml_RX12_465 (ci := 12) rfl kx0 (by decide) rfl ⟨Nat.le_of_ble_eq_true rfl, Nat.le_of_ble_eq_true rfl⟩ hl rfl (Nat.le_of_ble_eq_true rfl) dX12_taken_33 ⟨Nat.le_refl _, Nat.le_refl _⟩ rfl (fun H locs k1000014 hW hS => ?_)
    refine lv_goto (tgt := 40) hx hb dX12_taken_36 (by decide) ?_
    exact e_iD C hW hS hm dX12_taken_40
  refine lv_icmp_ne (tgt := 39) hx hb dX12_taken_20 (by decide) (fun _ => ?_) (fun h => absurd h c1000007)
  refine lv_iconst (v := (-1)) hx hb dX12_taken_39 (by decide) ?_
  exact e_iD C hW hS hm dX12_taken_40
theorem dX12_rest_0 : decode cX12_rest 0 = .ok (.iload_n 1, 1) := by decide +kernel
theorem dX12_rest_1 : decode cX12_rest 1 = .ok (.iconst 0, 1) := by decide +kernel
theorem dX12_rest_2 : decode cX12_rest 2 = .ok (.aload_n 0, 1) := by decide +kernel
theorem dX12_rest_3 : decode cX12_rest 3 = .ok (.getfield 70, 3) := by decide +kernel
theorem dX12_rest_6 : decode cX12_rest 6 = .ok (.aload_n 0, 1) := by decide +kernel
theorem dX12_rest_7 : decode cX12_rest 7 = .ok (.getfield 242, 3) := by decide +kernel
theorem dX12_rest_10 : decode cX12_rest 10 = .ok (.iaload, 1) := by decide +kernel
theorem dX12_rest_11 : decode cX12_rest 11 = .ok (.invokestatic 376, 3) := by decide +kernel
theorem dX12_rest_14 : decode cX12_rest 14 = .ok (.ifCond .ne 7, 3) := by decide +kernel
theorem dX12_rest_17 : decode cX12_rest 17 = .ok (.ldc2_w 413, 3) := by decide +kernel
theorem dX12_rest_20 : decode cX12_rest 20 = .ok (.lreturn, 1) := by decide +kernel
theorem dX12_rest_21 : decode cX12_rest 21 = .ok (.aload_n 0, 1) := by decide +kernel
theorem dX12_rest_22 : decode cX12_rest 22 = .ok (.iload_n 1, 1) := by decide +kernel
theorem dX12_rest_23 : decode cX12_rest 23 = .ok (.invokevirtual 468, 3) := by decide +kernel
theorem dX12_rest_26 : decode cX12_rest 26 = .ok (.ifCond .ge 9, 3) := by decide +kernel
theorem dX12_rest_29 : decode cX12_rest 29 = .ok (.ldc2_w 413, 3) := by decide +kernel
theorem dX12_rest_32 : decode cX12_rest 32 = .ok (.goto 17, 3) := by decide +kernel
theorem dX12_rest_35 : decode cX12_rest 35 = .ok (.aload_n 0, 1) := by decide +kernel
theorem dX12_rest_36 : decode cX12_rest 36 = .ok (.getfield 136, 3) := by decide +kernel
theorem dX12_rest_39 : decode cX12_rest 39 = .ok (.iconst 0, 1) := by decide +kernel
theorem dX12_rest_40 : decode cX12_rest 40 = .ok (.aload_n 0, 1) := by decide +kernel
theorem dX12_rest_41 : decode cX12_rest 41 = .ok (.invokevirtual 342, 3) := by decide +kernel
theorem dX12_rest_44 : decode cX12_rest 44 = .ok (.iconst 1, 1) := by decide +kernel
theorem dX12_rest_45 : decode cX12_rest 45 = .ok (.isub, 1) := by decide +kernel
theorem dX12_rest_46 : decode cX12_rest 46 = .ok (.invokestatic 409, 3) := by decide +kernel
theorem dX12_rest_49 : decode cX12_rest 49 = .ok (.lreturn, 1) := by decide +kernel
set_option maxRecDepth 100000 in
theorem c_X12_rest (l : Launch) (D : q_D) (al : q_Al) (dt : q_Dt) (x0 : Nat) (x1 : Int32) (kx0 : al.1 x0 = 13) (r0 : Int64) (dt0 : q_Dt) (hm : X12_rest al dt x0 x1 = some (r0, dt0)) : q_Mt l yX12_rest cX12_rest 2 (some FieldType.long) 6 148 D al [.ref x0, .int x1] dt 0 (some (.long r0)) dt0 := by
  refine q_Mt.of (by decide) (Nat.le_of_ble_eq_true rfl) ?_
  intro p e s m args below meth c ls C hargs hW hl
  have hx := C.1
  have hb := C.2.1
  have hown := C.2.2.2.2.2.1
  have hts := C.2.2.2.2.2.2.1
  have hS : va_S (q_A al) s.heap s.heap [] := va_S.rf
  have hl : lv_has ls 2 [(0, .ref x0), (1, .int x1)] := hl
  unfold X12_rest at hm
  refine lv_iload_n hx hb dX12_rest_0 rfl (lv_at hl 1 rfl) ?_
  refine lv_iconst (v := 0) hx hb dX12_rest_1 (by decide) ?_
  refine lv_aload_n hx hb dX12_rest_2 rfl (lv_at hl 0 rfl) ?_
  refine r_getF C hW (ci := 12) kx0 ff_12_31 cl_12 fl_RX12_70 dX12_rest_3 (fun k1000001 => ?_)
  refine lv_aload_n hx hb dX12_rest_6 rfl (lv_at hl 0 rfl) ?_
  refine r_getI C hW (ci := 12) kx0 ff_12_18 cl_12 fl_RX12_242 dX12_rest_7 ?_
  refine r_iald C hW hm k1000001 dX12_rest_10 (fun hm => ?_)
  obtain ⟨v1000003, hc1000002, hm⟩ := q_b1i hm
  refine q_callS C hW hS (As := [.int x1, .int 0, .int (dt.1 (al.2.2 x0 31) (Int32.toNatClampNeg (dt.1 x0 18)))]) (rest := []) (st1 := [.int v1000003]) (c_X12_in l D al dt x1 0 (dt.1 (al.2.2 x0 31) (Int32.toNatClampNeg (dt.1 x0 18))) v1000003 hc1000002) yl_X12_in sl_X12_in ml_RX12_376 rfl ⟨Nat.le_of_ble_eq_true rfl, Nat.le_of_ble_eq_true rfl⟩ hl rfl (Nat.le_of_ble_eq_true rfl) dX12_rest_11 ⟨Nat.le_refl _, Nat.le_refl _⟩ rfl (fun H locs k1000004 hW hS => ?_)
  refine q_ifc hm (fun c1000005 hm => ?_) (fun c1000005 hm => ?_)
  · refine lv_if_ne (tgt := 21) hx hb dX12_rest_14 (by decide) (fun h => absurd c1000005 h) (fun _ => ?_)
    refine lv_ldc2 (own := RX12) (v := (-1)) hx hb hown (hts _ wc_RX12_413) dX12_rest_17 ?_
    exact e_lD C hW hS hm dX12_rest_20
  refine lv_if_ne (tgt := 21) hx hb dX12_rest_14 (by decide) (fun _ => ?_) (fun h => absurd h c1000005)
  refine lv_aload_n hx hb dX12_rest_21 rfl (lv_at hl 0 rfl) ?_
  refine lv_iload_n hx hb dX12_rest_22 rfl (lv_at hl 1 rfl) ?_
  obtain ⟨v1000007, dt1000008, hc1000006, hm⟩ := q_b2i hm
  refine q_callV C hW hS (As := [.int x1]) (rest := []) (st1 := [.int v1000007]) (c_X12_takesOut l D al dt x0 x1 kx0 v1000007 dt1000008 hc1000006) yl_X12_takesOut vl_X12_takesOut ml_RX12_468 (ci := 12) rfl kx0 (by decide) rfl ⟨Nat.le_of_ble_eq_true rfl, Nat.le_of_ble_eq_true rfl⟩ hl rfl (Nat.le_of_ble_eq_true rfl) dX12_rest_23 ⟨Nat.le_refl _, Nat.le_refl _⟩ rfl (fun H locs k1000009 hW hS => ?_)
  refine q_ifc hm (fun c1000010 hm => ?_) (fun c1000010 hm => ?_)
  · refine lv_if_ge (tgt := 35) hx hb dX12_rest_26 (by decide) (fun _ => ?_) (fun h => absurd c1000010 h)
    refine lv_aload_n hx hb dX12_rest_35 rfl (lv_at hl 0 rfl) ?_
    refine r_getF C hW (ci := 12) kx0 ff_12_54 cl_12 fl_RX12_136 dX12_rest_36 (fun k1000011 => ?_)
    refine lv_iconst (v := 0) hx hb dX12_rest_39 (by decide) ?_
    refine lv_aload_n hx hb dX12_rest_40 rfl (lv_at hl 0 rfl) ?_
    obtain ⟨v1000013, hc1000012, hm⟩ := q_b1i hm
    refine q_callV C hW hS (As := []) (rest := [.int 0, .ref (al.2.2 x0 54)]) (st1 := [.int v1000013, .int 0, .ref (al.2.2 x0 54)]) (c_X12_n l D al dt1000008 x0 kx0 v1000013 hc1000012) yl_X12_n vl_X12_n ml_RX12_342 (ci := 12) rfl kx0 (by decide) rfl ⟨Nat.le_of_ble_eq_true rfl, Nat.le_of_ble_eq_true rfl⟩ hl rfl (Nat.le_of_ble_eq_true rfl) dX12_rest_41 ⟨Nat.le_refl _, Nat.le_refl _⟩ rfl (fun H locs k1000014 hW hS => ?_)
    refine lv_iconst (v := 1) hx hb dX12_rest_44 (by decide) ?_
    refine lv_isub hx hb dX12_rest_45 ?_
    obtain ⟨v1000016, hc1000015, hm⟩ := q_b1i hm
    refine q_callS C hW hS (As := [.ref (al.2.2 x0 54), .int 0, .int (v1000013 - 1)]) (rest := []) (st1 := [.long v1000016]) (c_X12_powerOf l D al dt1000008 (al.2.2 x0 54) 0 (v1000013 - 1) k1000011 v1000016 hc1000015) yl_X12_powerOf sl_X12_powerOf ml_RX12_409 rfl ⟨Nat.le_of_ble_eq_true rfl, Nat.le_of_ble_eq_true rfl⟩ hl rfl (Nat.le_of_ble_eq_true rfl) dX12_rest_46 ⟨Nat.le_refl _, Nat.le_refl _⟩ rfl (fun H locs k1000017 hW hS => ?_)
    exact e_lD C hW hS hm dX12_rest_49
  refine lv_if_ge (tgt := 35) hx hb dX12_rest_26 (by decide) (fun h => absurd h c1000010) (fun _ => ?_)
  refine lv_ldc2 (own := RX12) (v := (-1)) hx hb hown (hts _ wc_RX12_413) dX12_rest_29 ?_
  refine lv_goto (tgt := 49) hx hb dX12_rest_32 (by decide) ?_
  exact e_lD C hW hS hm dX12_rest_49
theorem dX12_readsAll_0 : decode cX12_readsAll 0 = .ok (.aload_n 0, 1) := by decide +kernel
theorem dX12_readsAll_1 : decode cX12_readsAll 1 = .ok (.aload_n 0, 1) := by decide +kernel
theorem dX12_readsAll_2 : decode cX12_readsAll 2 = .ok (.getfield 136, 3) := by decide +kernel
theorem dX12_readsAll_5 : decode cX12_readsAll 5 = .ok (.iload_n 1, 1) := by decide +kernel
theorem dX12_readsAll_6 : decode cX12_readsAll 6 = .ok (.invokevirtual 461, 3) := by decide +kernel
theorem dX12_readsAll_9 : decode cX12_readsAll 9 = .ok (.istore_n 2, 1) := by decide +kernel
theorem dX12_readsAll_10 : decode cX12_readsAll 10 = .ok (.iconst 0, 1) := by decide +kernel
theorem dX12_readsAll_11 : decode cX12_readsAll 11 = .ok (.istore_n 3, 1) := by decide +kernel
theorem dX12_readsAll_12 : decode cX12_readsAll 12 = .ok (.iload_n 3, 1) := by decide +kernel
theorem dX12_readsAll_13 : decode cX12_readsAll 13 = .ok (.sipush 512, 3) := by decide +kernel
theorem dX12_readsAll_16 : decode cX12_readsAll 16 = .ok (.if_icmp .ge 40, 3) := by decide +kernel
theorem dX12_readsAll_19 : decode cX12_readsAll 19 = .ok (.aload_n 0, 1) := by decide +kernel
theorem dX12_readsAll_20 : decode cX12_readsAll 20 = .ok (.getfield 130, 3) := by decide +kernel
theorem dX12_readsAll_23 : decode cX12_readsAll 23 = .ok (.sipush 512, 3) := by decide +kernel
theorem dX12_readsAll_26 : decode cX12_readsAll 26 = .ok (.iload_n 1, 1) := by decide +kernel
theorem dX12_readsAll_27 : decode cX12_readsAll 27 = .ok (.imul, 1) := by decide +kernel
theorem dX12_readsAll_28 : decode cX12_readsAll 28 = .ok (.iload_n 3, 1) := by decide +kernel
theorem dX12_readsAll_29 : decode cX12_readsAll 29 = .ok (.iadd, 1) := by decide +kernel
theorem dX12_readsAll_30 : decode cX12_readsAll 30 = .ok (.aload_n 0, 1) := by decide +kernel
theorem dX12_readsAll_31 : decode cX12_readsAll 31 = .ok (.getfield 161, 3) := by decide +kernel
theorem dX12_readsAll_34 : decode cX12_readsAll 34 = .ok (.iload_n 3, 1) := by decide +kernel
theorem dX12_readsAll_35 : decode cX12_readsAll 35 = .ok (.baload, 1) := by decide +kernel
theorem dX12_readsAll_36 : decode cX12_readsAll 36 = .ok (.ifCond .eq 11, 3) := by decide +kernel
theorem dX12_readsAll_39 : decode cX12_readsAll 39 = .ok (.aload_n 0, 1) := by decide +kernel
theorem dX12_readsAll_40 : decode cX12_readsAll 40 = .ok (.iload_n 3, 1) := by decide +kernel
theorem dX12_readsAll_41 : decode cX12_readsAll 41 = .ok (.invokevirtual 454, 3) := by decide +kernel
theorem dX12_readsAll_44 : decode cX12_readsAll 44 = .ok (.goto 4, 3) := by decide +kernel
theorem dX12_readsAll_47 : decode cX12_readsAll 47 = .ok (.iconst 0, 1) := by decide +kernel
theorem dX12_readsAll_48 : decode cX12_readsAll 48 = .ok (.i2b, 1) := by decide +kernel
theorem dX12_readsAll_49 : decode cX12_readsAll 49 = .ok (.bastore, 1) := by decide +kernel
theorem dX12_readsAll_50 : decode cX12_readsAll 50 = .ok (.iinc 3 1, 3) := by decide +kernel
theorem dX12_readsAll_53 : decode cX12_readsAll 53 = .ok (.goto (-41), 3) := by decide +kernel
theorem dX12_readsAll_56 : decode cX12_readsAll 56 = .ok (.iload_n 2, 1) := by decide +kernel
theorem dX12_readsAll_57 : decode cX12_readsAll 57 = .ok (.ireturn, 1) := by decide +kernel
set_option maxRecDepth 100000 in
theorem c_X12_readsAll (l : Launch) (D : q_D) (al : q_Al) (dt : q_Dt) (x0 : Nat) (x1 : Int32) (kx0 : al.1 x0 = 13) (r0 : Int32) (dt0 : q_Dt) (hm : X12_readsAll al dt x0 x1 = some (r0, dt0)) : q_Mt l yX12_readsAll cX12_readsAll 4 (some FieldType.int) 5 123 D al [.ref x0, .int x1] dt 0 (some (.int r0)) dt0 := by
  refine q_Mt.of (by decide) (Nat.le_of_ble_eq_true rfl) ?_
  intro p e s m args below meth c ls C hargs hW hl
  have hx := C.1
  have hb := C.2.1
  have hown := C.2.2.2.2.2.1
  have hts := C.2.2.2.2.2.2.1
  have hS : va_S (q_A al) s.heap s.heap [] := va_S.rf
  have hl : lv_has ls 4 [(0, .ref x0), (1, .int x1)] := hl
  unfold X12_readsAll at hm
  have hB12 : ∀ (x0_12 : Nat) (x1_12 : Int32) (x2_12 : Int32) (kx0_12 : al.1 x0_12 = 13) (n_12 : Nat) (x3_12 : Int32) (dt : q_Dt) (H : Heap) (locs : List Loc) (ls : Array Slot) (hm : X12_readsAll_b12 al x0_12 x1_12 x2_12 n_12 x3_12 dt = some (r0, dt0)) (hW : q_W D al dt H) (hS : va_S (q_A al) s.heap H locs) (hl : lv_has ls 4 [(0, .ref x0_12), (1, .int x1_12), (2, .int x2_12), (3, .int x3_12)]), W p l e { frames := 5, cells := 0, slots := 0, locals := 123 } s m args below meth c H locs 0 0 (MQ below (q_Q (some (.int r0)) (fun H => q_W D al dt0 H ∧ q_Rk al 0 (some (.int r0))) (q_A al)) args s 0 0 (q_A al)) (F0 m 12 ls []) := by
    intro x0_12 x1_12 x2_12 kx0_12
    intro n_12
    induction n_12 with
    | zero => intro x3_12 dt H locs ls hm hW hS hl; cases hm
    | succ n_12 ih12 =>
      have hB48 : ∀ (x3_48 : Int32) (t0_48 : Nat) (t1_48 : Int32) (t2_48 : Int32) (kt0_48 : al.1 t0_48 = 20) (dt : q_Dt) (H : Heap) (locs : List Loc) (ls : Array Slot) (hm : X12_readsAll_b48 al (X12_readsAll_b12 al x0_12 x1_12 x2_12 n_12) x0_12 x1_12 x2_12 x3_48 t0_48 t1_48 t2_48 dt = some (r0, dt0)) (hW : q_W D al dt H) (hS : va_S (q_A al) s.heap H locs) (hl : lv_has ls 4 [(0, .ref x0_12), (1, .int x1_12), (2, .int x2_12), (3, .int x3_48)]), W p l e { frames := 5, cells := 0, slots := 0, locals := 123 } s m args below meth c H locs 0 0 (MQ below (q_Q (some (.int r0)) (fun H => q_W D al dt0 H ∧ q_Rk al 0 (some (.int r0))) (q_A al)) args s 0 0 (q_A al)) (F0 m 48 ls [.int t2_48, .int t1_48, .ref t0_48]) := by
        intro x3_48 t0_48 t1_48 t2_48 kt0_48 dt H locs ls hm hW hS hl
        unfold X12_readsAll_b48 at hm
        refine lv_i2b (v := (Int8.toInt32 (Int32.toInt8 t2_48))) hx hb dX12_readsAll_48 rfl ?_
        refine r_bast C hW hS hm kt0_48 dX12_readsAll_49 (fun dt48001 H locs hm hW hS => ?_)
        refine lv_iinc (v := (x3_48 + 1)) (lv' := [(3, .int (x3_48 + 1)), (0, .ref x0_12), (1, .int x1_12), (2, .int x2_12)]) hx hb dX12_readsAll_50 hl (k := 3) rfl rfl (by decide) rfl (fun ls hl => ?_)
        refine lv_goto (tgt := 12) hx hb dX12_readsAll_53 (by decide) ?_
        exact ih12 (x3_48 + 1) dt48001 _ _ _ hm hW hS (lv_sub hl [1, 2, 3, 0] rfl)
      intro x3_12 dt H locs ls hm hW hS hl
      rw [X12_readsAll_b12] at hm
      refine lv_iload_n hx hb dX12_readsAll_12 rfl (lv_at hl 3 rfl) ?_
      refine lv_sipush (v := 512) hx hb dX12_readsAll_13 (by decide) ?_
      refine q_ifc hm (fun c12001 hm => ?_) (fun c12001 hm => ?_)
      · refine lv_icmp_ge (tgt := 56) hx hb dX12_readsAll_16 (by decide) (fun _ => ?_) (fun h => absurd c12001 h)
        refine lv_iload_n hx hb dX12_readsAll_56 rfl (lv_at hl 2 rfl) ?_
        exact e_iD C hW hS hm dX12_readsAll_57
      refine lv_icmp_ge (tgt := 56) hx hb dX12_readsAll_16 (by decide) (fun h => absurd h c12001) (fun _ => ?_)
      refine lv_aload_n hx hb dX12_readsAll_19 rfl (lv_at hl 0 rfl) ?_
      refine r_getF C hW (ci := 12) kx0_12 ff_12_52 cl_12 fl_RX12_130 dX12_readsAll_20 (fun k12002 => ?_)
      refine lv_sipush (v := 512) hx hb dX12_readsAll_23 (by decide) ?_
      refine lv_iload_n hx hb dX12_readsAll_26 rfl (lv_at hl 1 rfl) ?_
      refine lv_imul hx hb dX12_readsAll_27 ?_
      refine lv_iload_n hx hb dX12_readsAll_28 rfl (lv_at hl 3 rfl) ?_
      refine lv_iadd hx hb dX12_readsAll_29 ?_
      refine lv_aload_n hx hb dX12_readsAll_30 rfl (lv_at hl 0 rfl) ?_
      refine r_getF C hW (ci := 12) kx0_12 ff_12_64 cl_12 fl_RX12_161 dX12_readsAll_31 (fun k12003 => ?_)
      refine lv_iload_n hx hb dX12_readsAll_34 rfl (lv_at hl 3 rfl) ?_
      refine r_zald C hW hm k12003 dX12_readsAll_35 (fun hm => ?_)
      refine q_ifc hm (fun c12004 hm => ?_) (fun c12004 hm => ?_)
      · refine lv_if_eq (tgt := 47) hx hb dX12_readsAll_36 (by decide) (fun _ => ?_) (fun h => absurd c12004 h)
        refine lv_iconst (v := 0) hx hb dX12_readsAll_47 (by decide) ?_
        exact hB48 x3_12 (al.2.2 x0_12 52) ((512 * x1_12) + x3_12) 0 k12002 dt _ _ _ hm hW hS (lv_sub hl [0, 1, 2, 3] rfl)
      refine lv_if_eq (tgt := 47) hx hb dX12_readsAll_36 (by decide) (fun h => absurd h c12004) (fun _ => ?_)
      refine lv_aload_n hx hb dX12_readsAll_39 rfl (lv_at hl 0 rfl) ?_
      refine lv_iload_n hx hb dX12_readsAll_40 rfl (lv_at hl 3 rfl) ?_
      obtain ⟨v12006, hc12005, hm⟩ := q_b1i hm
      refine q_callV C hW hS (As := [.int x3_12]) (rest := [.int ((512 * x1_12) + x3_12), .ref (al.2.2 x0_12 52)]) (st1 := [.int v12006, .int ((512 * x1_12) + x3_12), .ref (al.2.2 x0_12 52)]) (c_X12_bitOf l D al dt x0_12 x3_12 kx0_12 v12006 hc12005) yl_X12_bitOf vl_X12_bitOf ml_RX12_454 (ci := 12) rfl kx0_12 (by decide) rfl ⟨Nat.le_of_ble_eq_true rfl, Nat.le_of_ble_eq_true rfl⟩ hl rfl (Nat.le_of_ble_eq_true rfl) dX12_readsAll_41 ⟨Nat.le_refl _, Nat.le_refl _⟩ rfl (fun H locs k12007 hW hS => ?_)
      refine lv_goto (tgt := 48) hx hb dX12_readsAll_44 (by decide) ?_
      exact hB48 x3_12 (al.2.2 x0_12 52) ((512 * x1_12) + x3_12) v12006 k12002 dt _ _ _ hm hW hS (lv_sub hl [0, 1, 2, 3] rfl)
  refine lv_aload_n hx hb dX12_readsAll_0 rfl (lv_at hl 0 rfl) ?_
  refine lv_aload_n hx hb dX12_readsAll_1 rfl (lv_at hl 0 rfl) ?_
  refine r_getF C hW (ci := 12) kx0 ff_12_54 cl_12 fl_RX12_136 dX12_readsAll_2 (fun k1000001 => ?_)
  refine lv_iload_n hx hb dX12_readsAll_5 rfl (lv_at hl 1 rfl) ?_
  obtain ⟨v1000003, dt1000004, hc1000002, hm⟩ := q_b2i hm
  refine q_callV C hW hS (As := [.ref (al.2.2 x0 54), .int x1]) (rest := []) (st1 := [.int v1000003]) (c_X12_wrongOf l D al dt x0 (al.2.2 x0 54) x1 kx0 k1000001 v1000003 dt1000004 hc1000002) yl_X12_wrongOf vl_X12_wrongOf ml_RX12_461 (ci := 12) rfl kx0 (by decide) rfl ⟨Nat.le_of_ble_eq_true rfl, Nat.le_of_ble_eq_true rfl⟩ hl rfl (Nat.le_of_ble_eq_true rfl) dX12_readsAll_6 ⟨Nat.le_refl _, Nat.le_refl _⟩ rfl (fun H locs k1000005 hW hS => ?_)
  refine lv_istore_n (i := 2) (lv' := [(2, .int v1000003), (0, .ref x0), (1, .int x1)]) hx hb dX12_readsAll_9 rfl hl (by decide) rfl (fun ls hl => ?_)
  refine lv_iconst (v := 0) hx hb dX12_readsAll_10 (by decide) ?_
  refine lv_istore_n (i := 3) (lv' := [(3, .int 0), (2, .int v1000003), (0, .ref x0), (1, .int x1)]) hx hb dX12_readsAll_11 rfl hl (by decide) rfl (fun ls hl => ?_)
  exact hB12 x0 x1 v1000003 kx0 q_FU 0 dt1000004 _ _ _ hm hW hS (lv_sub hl [2, 3, 1, 0] rfl)
theorem dX12_atOnce_0 : decode cX12_atOnce 0 = .ok (.iload_n 1, 1) := by decide +kernel
theorem dX12_atOnce_1 : decode cX12_atOnce 1 = .ok (.iconst 1, 1) := by decide +kernel
theorem dX12_atOnce_2 : decode cX12_atOnce 2 = .ok (.bipush 6, 2) := by decide +kernel
theorem dX12_atOnce_4 : decode cX12_atOnce 4 = .ok (.invokestatic 376, 3) := by decide +kernel
theorem dX12_atOnce_7 : decode cX12_atOnce 7 = .ok (.ifCond .ne 5, 3) := by decide +kernel
theorem dX12_atOnce_10 : decode cX12_atOnce 10 = .ok (.iconst (-1), 1) := by decide +kernel
theorem dX12_atOnce_11 : decode cX12_atOnce 11 = .ok (.ireturn, 1) := by decide +kernel
theorem dX12_atOnce_12 : decode cX12_atOnce 12 = .ok (.iconst 0, 1) := by decide +kernel
theorem dX12_atOnce_13 : decode cX12_atOnce 13 = .ok (.istore_n 2, 1) := by decide +kernel
theorem dX12_atOnce_14 : decode cX12_atOnce 14 = .ok (.iconst 1, 1) := by decide +kernel
theorem dX12_atOnce_15 : decode cX12_atOnce 15 = .ok (.istore_n 3, 1) := by decide +kernel
theorem dX12_atOnce_16 : decode cX12_atOnce 16 = .ok (.iload_n 3, 1) := by decide +kernel
theorem dX12_atOnce_17 : decode cX12_atOnce 17 = .ok (.iload_n 1, 1) := by decide +kernel
theorem dX12_atOnce_18 : decode cX12_atOnce 18 = .ok (.if_icmp .gt 151, 3) := by decide +kernel
theorem dX12_atOnce_21 : decode cX12_atOnce 21 = .ok (.iconst 0, 1) := by decide +kernel
theorem dX12_atOnce_22 : decode cX12_atOnce 22 = .ok (.istore_n 2, 1) := by decide +kernel
theorem dX12_atOnce_23 : decode cX12_atOnce 23 = .ok (.iconst 0, 1) := by decide +kernel
theorem dX12_atOnce_24 : decode cX12_atOnce 24 = .ok (.istore 4, 2) := by decide +kernel
theorem dX12_atOnce_26 : decode cX12_atOnce 26 = .ok (.iload 4, 2) := by decide +kernel
theorem dX12_atOnce_28 : decode cX12_atOnce 28 = .ok (.sipush 3072, 3) := by decide +kernel
theorem dX12_atOnce_31 : decode cX12_atOnce 31 = .ok (.if_icmp .ge 23, 3) := by decide +kernel
theorem dX12_atOnce_34 : decode cX12_atOnce 34 = .ok (.aload_n 0, 1) := by decide +kernel
theorem dX12_atOnce_35 : decode cX12_atOnce 35 = .ok (.getfield 127, 3) := by decide +kernel
theorem dX12_atOnce_38 : decode cX12_atOnce 38 = .ok (.iload 4, 2) := by decide +kernel
theorem dX12_atOnce_40 : decode cX12_atOnce 40 = .ok (.aload_n 0, 1) := by decide +kernel
theorem dX12_atOnce_41 : decode cX12_atOnce 41 = .ok (.getfield 130, 3) := by decide +kernel
theorem dX12_atOnce_44 : decode cX12_atOnce 44 = .ok (.iload 4, 2) := by decide +kernel
theorem dX12_atOnce_46 : decode cX12_atOnce 46 = .ok (.baload, 1) := by decide +kernel
theorem dX12_atOnce_47 : decode cX12_atOnce 47 = .ok (.bastore, 1) := by decide +kernel
theorem dX12_atOnce_48 : decode cX12_atOnce 48 = .ok (.iinc 4 1, 3) := by decide +kernel
theorem dX12_atOnce_51 : decode cX12_atOnce 51 = .ok (.goto (-25), 3) := by decide +kernel
theorem dX12_atOnce_54 : decode cX12_atOnce 54 = .ok (.iconst 0, 1) := by decide +kernel
theorem dX12_atOnce_55 : decode cX12_atOnce 55 = .ok (.istore 4, 2) := by decide +kernel
theorem dX12_atOnce_57 : decode cX12_atOnce 57 = .ok (.iload 4, 2) := by decide +kernel
theorem dX12_atOnce_59 : decode cX12_atOnce 59 = .ok (.aload_n 0, 1) := by decide +kernel
theorem dX12_atOnce_60 : decode cX12_atOnce 60 = .ok (.getfield 70, 3) := by decide +kernel
theorem dX12_atOnce_63 : decode cX12_atOnce 63 = .ok (.aload_n 0, 1) := by decide +kernel
theorem dX12_atOnce_64 : decode cX12_atOnce 64 = .ok (.getfield 242, 3) := by decide +kernel
theorem dX12_atOnce_67 : decode cX12_atOnce 67 = .ok (.iaload, 1) := by decide +kernel
theorem dX12_atOnce_68 : decode cX12_atOnce 68 = .ok (.if_icmp .ge 95, 3) := by decide +kernel
theorem dX12_atOnce_71 : decode cX12_atOnce 71 = .ok (.iconst 0, 1) := by decide +kernel
theorem dX12_atOnce_72 : decode cX12_atOnce 72 = .ok (.istore 5, 2) := by decide +kernel
theorem dX12_atOnce_74 : decode cX12_atOnce 74 = .ok (.iload 5, 2) := by decide +kernel
theorem dX12_atOnce_76 : decode cX12_atOnce 76 = .ok (.sipush 1024, 3) := by decide +kernel
theorem dX12_atOnce_79 : decode cX12_atOnce 79 = .ok (.if_icmp .ge 23, 3) := by decide +kernel
theorem dX12_atOnce_82 : decode cX12_atOnce 82 = .ok (.aload_n 0, 1) := by decide +kernel
theorem dX12_atOnce_83 : decode cX12_atOnce 83 = .ok (.getfield 136, 3) := by decide +kernel
theorem dX12_atOnce_86 : decode cX12_atOnce 86 = .ok (.iload 5, 2) := by decide +kernel
theorem dX12_atOnce_88 : decode cX12_atOnce 88 = .ok (.aload_n 0, 1) := by decide +kernel
theorem dX12_atOnce_89 : decode cX12_atOnce 89 = .ok (.getfield 133, 3) := by decide +kernel
theorem dX12_atOnce_92 : decode cX12_atOnce 92 = .ok (.iload 5, 2) := by decide +kernel
theorem dX12_atOnce_94 : decode cX12_atOnce 94 = .ok (.iaload, 1) := by decide +kernel
theorem dX12_atOnce_95 : decode cX12_atOnce 95 = .ok (.iastore, 1) := by decide +kernel
theorem dX12_atOnce_96 : decode cX12_atOnce 96 = .ok (.iinc 5 1, 3) := by decide +kernel
theorem dX12_atOnce_99 : decode cX12_atOnce 99 = .ok (.goto (-25), 3) := by decide +kernel
theorem dX12_atOnce_102 : decode cX12_atOnce 102 = .ok (.iconst 0, 1) := by decide +kernel
theorem dX12_atOnce_103 : decode cX12_atOnce 103 = .ok (.istore 5, 2) := by decide +kernel
theorem dX12_atOnce_105 : decode cX12_atOnce 105 = .ok (.iload 5, 2) := by decide +kernel
theorem dX12_atOnce_107 : decode cX12_atOnce 107 = .ok (.aload_n 0, 1) := by decide +kernel
theorem dX12_atOnce_108 : decode cX12_atOnce 108 = .ok (.getfield 70, 3) := by decide +kernel
theorem dX12_atOnce_111 : decode cX12_atOnce 111 = .ok (.aload_n 0, 1) := by decide +kernel
theorem dX12_atOnce_112 : decode cX12_atOnce 112 = .ok (.getfield 242, 3) := by decide +kernel
theorem dX12_atOnce_115 : decode cX12_atOnce 115 = .ok (.iaload, 1) := by decide +kernel
theorem dX12_atOnce_116 : decode cX12_atOnce 116 = .ok (.if_icmp .ge 32, 3) := by decide +kernel
theorem dX12_atOnce_119 : decode cX12_atOnce 119 = .ok (.iload_n 3, 1) := by decide +kernel
theorem dX12_atOnce_120 : decode cX12_atOnce 120 = .ok (.iconst 1, 1) := by decide +kernel
theorem dX12_atOnce_121 : decode cX12_atOnce 121 = .ok (.if_icmp .le 27, 3) := by decide +kernel
theorem dX12_atOnce_124 : decode cX12_atOnce 124 = .ok (.iload 5, 2) := by decide +kernel
theorem dX12_atOnce_126 : decode cX12_atOnce 126 = .ok (.iload 4, 2) := by decide +kernel
theorem dX12_atOnce_128 : decode cX12_atOnce 128 = .ok (.if_icmp .eq 14, 3) := by decide +kernel
theorem dX12_atOnce_131 : decode cX12_atOnce 131 = .ok (.aload_n 0, 1) := by decide +kernel
theorem dX12_atOnce_132 : decode cX12_atOnce 132 = .ok (.aload_n 0, 1) := by decide +kernel
theorem dX12_atOnce_133 : decode cX12_atOnce 133 = .ok (.getfield 136, 3) := by decide +kernel
theorem dX12_atOnce_136 : decode cX12_atOnce 136 = .ok (.iload 5, 2) := by decide +kernel
theorem dX12_atOnce_138 : decode cX12_atOnce 138 = .ok (.iconst (-1), 1) := by decide +kernel
theorem dX12_atOnce_139 : decode cX12_atOnce 139 = .ok (.invokevirtual 369, 3) := by decide +kernel
theorem dX12_atOnce_142 : decode cX12_atOnce 142 = .ok (.iinc 5 1, 3) := by decide +kernel
theorem dX12_atOnce_145 : decode cX12_atOnce 145 = .ok (.goto (-40), 3) := by decide +kernel
theorem dX12_atOnce_148 : decode cX12_atOnce 148 = .ok (.iload_n 2, 1) := by decide +kernel
theorem dX12_atOnce_149 : decode cX12_atOnce 149 = .ok (.aload_n 0, 1) := by decide +kernel
theorem dX12_atOnce_150 : decode cX12_atOnce 150 = .ok (.iload 4, 2) := by decide +kernel
theorem dX12_atOnce_152 : decode cX12_atOnce 152 = .ok (.invokevirtual 471, 3) := by decide +kernel
theorem dX12_atOnce_155 : decode cX12_atOnce 155 = .ok (.iadd, 1) := by decide +kernel
theorem dX12_atOnce_156 : decode cX12_atOnce 156 = .ok (.istore_n 2, 1) := by decide +kernel
theorem dX12_atOnce_157 : decode cX12_atOnce 157 = .ok (.iinc 4 1, 3) := by decide +kernel
theorem dX12_atOnce_160 : decode cX12_atOnce 160 = .ok (.goto (-103), 3) := by decide +kernel
theorem dX12_atOnce_163 : decode cX12_atOnce 163 = .ok (.iinc 3 1, 3) := by decide +kernel
theorem dX12_atOnce_166 : decode cX12_atOnce 166 = .ok (.goto (-150), 3) := by decide +kernel
theorem dX12_atOnce_169 : decode cX12_atOnce 169 = .ok (.iload_n 2, 1) := by decide +kernel
theorem dX12_atOnce_170 : decode cX12_atOnce 170 = .ok (.ireturn, 1) := by decide +kernel
set_option maxRecDepth 100000 in
theorem c_X12_atOnce (l : Launch) (D : q_D) (al : q_Al) (dt : q_Dt) (x0 : Nat) (x1 : Int32) (kx0 : al.1 x0 = 13) (r0 : Int32) (dt0 : q_Dt) (hm : X12_atOnce al dt x0 x1 = some (r0, dt0)) : q_Mt l yX12_atOnce cX12_atOnce 6 (some FieldType.int) 6 146 D al [.ref x0, .int x1] dt 0 (some (.int r0)) dt0 := by
  refine q_Mt.of (by decide) (Nat.le_of_ble_eq_true rfl) ?_
  intro p e s m args below meth c ls C hargs hW hl
  have hx := C.1
  have hb := C.2.1
  have hown := C.2.2.2.2.2.1
  have hts := C.2.2.2.2.2.2.1
  have hS : va_S (q_A al) s.heap s.heap [] := va_S.rf
  have hl : lv_has ls 6 [(0, .ref x0), (1, .int x1)] := hl
  unfold X12_atOnce at hm
  have hB16 : ∀ (x0_16 : Nat) (x1_16 : Int32) (kx0_16 : al.1 x0_16 = 13) (n_16 : Nat) (x2_16 : Int32) (x3_16 : Int32) (dt : q_Dt) (H : Heap) (locs : List Loc) (ls : Array Slot) (hm : X12_atOnce_b16 al x0_16 x1_16 n_16 x2_16 x3_16 dt = some (r0, dt0)) (hW : q_W D al dt H) (hS : va_S (q_A al) s.heap H locs) (hl : lv_has ls 6 [(0, .ref x0_16), (1, .int x1_16), (2, .int x2_16), (3, .int x3_16)]), W p l e { frames := 6, cells := 0, slots := 0, locals := 146 } s m args below meth c H locs 0 0 (MQ below (q_Q (some (.int r0)) (fun H => q_W D al dt0 H ∧ q_Rk al 0 (some (.int r0))) (q_A al)) args s 0 0 (q_A al)) (F0 m 16 ls []) := by
    intro x0_16 x1_16 kx0_16
    intro n_16
    induction n_16 with
    | zero => intro x2_16 x3_16 dt H locs ls hm hW hS hl; cases hm
    | succ n_16 ih16 =>
      have hB57 : ∀ (x3_57 : Int32) (n_57 : Nat) (x2_57 : Int32) (x4_57 : Int32) (dt : q_Dt) (H : Heap) (locs : List Loc) (ls : Array Slot) (hm : X12_atOnce_b57 al (X12_atOnce_b16 al x0_16 x1_16 n_16) x0_16 x1_16 x3_57 n_57 x2_57 x4_57 dt = some (r0, dt0)) (hW : q_W D al dt H) (hS : va_S (q_A al) s.heap H locs) (hl : lv_has ls 6 [(0, .ref x0_16), (1, .int x1_16), (2, .int x2_57), (3, .int x3_57), (4, .int x4_57)]), W p l e { frames := 6, cells := 0, slots := 0, locals := 146 } s m args below meth c H locs 0 0 (MQ below (q_Q (some (.int r0)) (fun H => q_W D al dt0 H ∧ q_Rk al 0 (some (.int r0))) (q_A al)) args s 0 0 (q_A al)) (F0 m 57 ls []) := by
        intro x3_57
        intro n_57
        induction n_57 with
        | zero => intro x2_57 x4_57 dt H locs ls hm hW hS hl; cases hm
        | succ n_57 ih57 =>
          have hB148 : ∀ (x2_148 : Int32) (x4_148 : Int32) (dt : q_Dt) (H : Heap) (locs : List Loc) (ls : Array Slot) (hm : X12_atOnce_b148 al (X12_atOnce_b16 al x0_16 x1_16 n_16) (X12_atOnce_b57 al (X12_atOnce_b16 al x0_16 x1_16 n_16) x0_16 x1_16 x3_57 n_57) x0_16 x1_16 x2_148 x3_57 x4_148 dt = some (r0, dt0)) (hW : q_W D al dt H) (hS : va_S (q_A al) s.heap H locs) (hl : lv_has ls 6 [(0, .ref x0_16), (1, .int x1_16), (2, .int x2_148), (3, .int x3_57), (4, .int x4_148)]), W p l e { frames := 6, cells := 0, slots := 0, locals := 146 } s m args below meth c H locs 0 0 (MQ below (q_Q (some (.int r0)) (fun H => q_W D al dt0 H ∧ q_Rk al 0 (some (.int r0))) (q_A al)) args s 0 0 (q_A al)) (F0 m 148 ls []) := by
            intro x2_148 x4_148 dt H locs ls hm hW hS hl
            unfold X12_atOnce_b148 at hm
            refine lv_iload_n hx hb dX12_atOnce_148 rfl (lv_at hl 2 rfl) ?_
            refine lv_aload_n hx hb dX12_atOnce_149 rfl (lv_at hl 0 rfl) ?_
            refine lv_iload hx hb dX12_atOnce_150 (lv_at hl 4 rfl) ?_
            obtain ⟨v148002, dt148003, hc148001, hm⟩ := q_b2i hm
            refine q_callV C hW hS (As := [.int x4_148]) (rest := [.int x2_148]) (st1 := [.int v148002, .int x2_148]) (c_X12_readsAll l D al dt x0_16 x4_148 kx0_16 v148002 dt148003 hc148001) yl_X12_readsAll vl_X12_readsAll ml_RX12_471 (ci := 12) rfl kx0_16 (by decide) rfl ⟨Nat.le_of_ble_eq_true rfl, Nat.le_of_ble_eq_true rfl⟩ hl rfl (Nat.le_of_ble_eq_true rfl) dX12_atOnce_152 ⟨Nat.le_refl _, Nat.le_refl _⟩ rfl (fun H locs k148004 hW hS => ?_)
            refine lv_iadd hx hb dX12_atOnce_155 ?_
            refine lv_istore_n (i := 2) (lv' := [(2, .int (x2_148 + v148002)), (0, .ref x0_16), (1, .int x1_16), (3, .int x3_57), (4, .int x4_148)]) hx hb dX12_atOnce_156 rfl hl (by decide) rfl (fun ls hl => ?_)
            refine lv_iinc (v := (x4_148 + 1)) (lv' := [(4, .int (x4_148 + 1)), (2, .int (x2_148 + v148002)), (0, .ref x0_16), (1, .int x1_16), (3, .int x3_57)]) hx hb dX12_atOnce_157 hl (k := 4) rfl rfl (by decide) rfl (fun ls hl => ?_)
            refine lv_goto (tgt := 57) hx hb dX12_atOnce_160 (by decide) ?_
            exact ih57 (x2_148 + v148002) (x4_148 + 1) dt148003 _ _ _ hm hW hS (lv_sub hl [2, 3, 1, 4, 0] rfl)
          have hB105 : ∀ (x2_105 : Int32) (x4_105 : Int32) (n_105 : Nat) (x5_105 : Int32) (dt : q_Dt) (H : Heap) (locs : List Loc) (ls : Array Slot) (hm : X12_atOnce_b105 al (X12_atOnce_b16 al x0_16 x1_16 n_16) (X12_atOnce_b57 al (X12_atOnce_b16 al x0_16 x1_16 n_16) x0_16 x1_16 x3_57 n_57) x0_16 x1_16 x2_105 x3_57 x4_105 n_105 x5_105 dt = some (r0, dt0)) (hW : q_W D al dt H) (hS : va_S (q_A al) s.heap H locs) (hl : lv_has ls 6 [(0, .ref x0_16), (1, .int x1_16), (2, .int x2_105), (3, .int x3_57), (4, .int x4_105), (5, .int x5_105)]), W p l e { frames := 6, cells := 0, slots := 0, locals := 146 } s m args below meth c H locs 0 0 (MQ below (q_Q (some (.int r0)) (fun H => q_W D al dt0 H ∧ q_Rk al 0 (some (.int r0))) (q_A al)) args s 0 0 (q_A al)) (F0 m 105 ls []) := by
            intro x2_105 x4_105
            intro n_105
            induction n_105 with
            | zero => intro x5_105 dt H locs ls hm hW hS hl; cases hm
            | succ n_105 ih105 =>
              have hB142 : ∀ (x5_142 : Int32) (dt : q_Dt) (H : Heap) (locs : List Loc) (ls : Array Slot) (hm : X12_atOnce_b142 al (X12_atOnce_b16 al x0_16 x1_16 n_16) (X12_atOnce_b57 al (X12_atOnce_b16 al x0_16 x1_16 n_16) x0_16 x1_16 x3_57 n_57) (X12_atOnce_b105 al (X12_atOnce_b16 al x0_16 x1_16 n_16) (X12_atOnce_b57 al (X12_atOnce_b16 al x0_16 x1_16 n_16) x0_16 x1_16 x3_57 n_57) x0_16 x1_16 x2_105 x3_57 x4_105 n_105) x0_16 x1_16 x2_105 x3_57 x4_105 x5_142 dt = some (r0, dt0)) (hW : q_W D al dt H) (hS : va_S (q_A al) s.heap H locs) (hl : lv_has ls 6 [(0, .ref x0_16), (1, .int x1_16), (2, .int x2_105), (3, .int x3_57), (4, .int x4_105), (5, .int x5_142)]), W p l e { frames := 6, cells := 0, slots := 0, locals := 146 } s m args below meth c H locs 0 0 (MQ below (q_Q (some (.int r0)) (fun H => q_W D al dt0 H ∧ q_Rk al 0 (some (.int r0))) (q_A al)) args s 0 0 (q_A al)) (F0 m 142 ls []) := by
                intro x5_142 dt H locs ls hm hW hS hl
                unfold X12_atOnce_b142 at hm
                refine lv_iinc (v := (x5_142 + 1)) (lv' := [(5, .int (x5_142 + 1)), (0, .ref x0_16), (1, .int x1_16), (2, .int x2_105), (3, .int x3_57), (4, .int x4_105)]) hx hb dX12_atOnce_142 hl (k := 5) rfl rfl (by decide) rfl (fun ls hl => ?_)
                refine lv_goto (tgt := 105) hx hb dX12_atOnce_145 (by decide) ?_
                exact ih105 (x5_142 + 1) dt _ _ _ hm hW hS (lv_sub hl [1, 2, 3, 4, 5, 0] rfl)
              intro x5_105 dt H locs ls hm hW hS hl
              rw [X12_atOnce_b105] at hm
              refine lv_iload hx hb dX12_atOnce_105 (lv_at hl 5 rfl) ?_
              refine lv_aload_n hx hb dX12_atOnce_107 rfl (lv_at hl 0 rfl) ?_
              refine r_getF C hW (ci := 12) kx0_16 ff_12_31 cl_12 fl_RX12_70 dX12_atOnce_108 (fun k105001 => ?_)
              refine lv_aload_n hx hb dX12_atOnce_111 rfl (lv_at hl 0 rfl) ?_
              refine r_getI C hW (ci := 12) kx0_16 ff_12_18 cl_12 fl_RX12_242 dX12_atOnce_112 ?_
              refine r_iald C hW hm k105001 dX12_atOnce_115 (fun hm => ?_)
              refine q_ifc hm (fun c105002 hm => ?_) (fun c105002 hm => ?_)
              · refine lv_icmp_ge (tgt := 148) hx hb dX12_atOnce_116 (by decide) (fun _ => ?_) (fun h => absurd c105002 h)
                exact hB148 x2_105 x4_105 dt _ _ _ hm hW hS (lv_sub hl [0, 1, 2, 3, 4] rfl)
              refine lv_icmp_ge (tgt := 148) hx hb dX12_atOnce_116 (by decide) (fun h => absurd h c105002) (fun _ => ?_)
              refine lv_iload_n hx hb dX12_atOnce_119 rfl (lv_at hl 3 rfl) ?_
              refine lv_iconst (v := 1) hx hb dX12_atOnce_120 (by decide) ?_
              refine q_ifc hm (fun c105003 hm => ?_) (fun c105003 hm => ?_)
              · refine lv_icmp_le (tgt := 148) hx hb dX12_atOnce_121 (by decide) (fun _ => ?_) (fun h => absurd c105003 h)
                exact hB148 x2_105 x4_105 dt _ _ _ hm hW hS (lv_sub hl [0, 1, 2, 3, 4] rfl)
              refine lv_icmp_le (tgt := 148) hx hb dX12_atOnce_121 (by decide) (fun h => absurd h c105003) (fun _ => ?_)
              refine lv_iload hx hb dX12_atOnce_124 (lv_at hl 5 rfl) ?_
              refine lv_iload hx hb dX12_atOnce_126 (lv_at hl 4 rfl) ?_
              refine q_ifc hm (fun c105004 hm => ?_) (fun c105004 hm => ?_)
              · refine lv_icmp_eq (tgt := 142) hx hb dX12_atOnce_128 (by decide) (fun _ => ?_) (fun h => absurd c105004 h)
                exact hB142 x5_105 dt _ _ _ hm hW hS (lv_sub hl [0, 1, 2, 3, 4, 5] rfl)
              refine lv_icmp_eq (tgt := 142) hx hb dX12_atOnce_128 (by decide) (fun h => absurd h c105004) (fun _ => ?_)
              refine lv_aload_n hx hb dX12_atOnce_131 rfl (lv_at hl 0 rfl) ?_
              refine lv_aload_n hx hb dX12_atOnce_132 rfl (lv_at hl 0 rfl) ?_
              refine r_getF C hW (ci := 12) kx0_16 ff_12_54 cl_12 fl_RX12_136 dX12_atOnce_133 (fun k105005 => ?_)
              refine lv_iload hx hb dX12_atOnce_136 (lv_at hl 5 rfl) ?_
              refine lv_iconst (v := (-1)) hx hb dX12_atOnce_138 (by decide) ?_
              obtain ⟨dt105007, hc105006, hm⟩ := q_b1i hm
              refine q_callV C hW hS (As := [.ref (al.2.2 x0_16 54), .int x5_105, .int (-1)]) (rest := []) (st1 := []) (c_X12_addsWave l D al dt x0_16 (al.2.2 x0_16 54) x5_105 (-1) kx0_16 k105005 dt105007 hc105006) yl_X12_addsWave vl_X12_addsWave ml_RX12_369 (ci := 12) rfl kx0_16 (by decide) rfl ⟨Nat.le_of_ble_eq_true rfl, Nat.le_of_ble_eq_true rfl⟩ hl rfl (Nat.le_of_ble_eq_true rfl) dX12_atOnce_139 ⟨Nat.le_refl _, Nat.le_refl _⟩ rfl (fun H locs k105008 hW hS => ?_)
              exact hB142 x5_105 dt105007 _ _ _ hm hW hS (lv_sub hl [0, 1, 2, 3, 4, 5] rfl)
          have hB74 : ∀ (x2_74 : Int32) (x4_74 : Int32) (n_74 : Nat) (x5_74 : Int32) (dt : q_Dt) (H : Heap) (locs : List Loc) (ls : Array Slot) (hm : X12_atOnce_b74 al (X12_atOnce_b16 al x0_16 x1_16 n_16) (X12_atOnce_b57 al (X12_atOnce_b16 al x0_16 x1_16 n_16) x0_16 x1_16 x3_57 n_57) x0_16 x1_16 x2_74 x3_57 x4_74 n_74 x5_74 dt = some (r0, dt0)) (hW : q_W D al dt H) (hS : va_S (q_A al) s.heap H locs) (hl : lv_has ls 6 [(0, .ref x0_16), (1, .int x1_16), (2, .int x2_74), (3, .int x3_57), (4, .int x4_74), (5, .int x5_74)]), W p l e { frames := 6, cells := 0, slots := 0, locals := 146 } s m args below meth c H locs 0 0 (MQ below (q_Q (some (.int r0)) (fun H => q_W D al dt0 H ∧ q_Rk al 0 (some (.int r0))) (q_A al)) args s 0 0 (q_A al)) (F0 m 74 ls []) := by
            intro x2_74 x4_74
            intro n_74
            induction n_74 with
            | zero => intro x5_74 dt H locs ls hm hW hS hl; cases hm
            | succ n_74 ih74 =>
              intro x5_74 dt H locs ls hm hW hS hl
              rw [X12_atOnce_b74] at hm
              refine lv_iload hx hb dX12_atOnce_74 (lv_at hl 5 rfl) ?_
              refine lv_sipush (v := 1024) hx hb dX12_atOnce_76 (by decide) ?_
              refine q_ifc hm (fun c74001 hm => ?_) (fun c74001 hm => ?_)
              · refine lv_icmp_ge (tgt := 102) hx hb dX12_atOnce_79 (by decide) (fun _ => ?_) (fun h => absurd c74001 h)
                refine lv_iconst (v := 0) hx hb dX12_atOnce_102 (by decide) ?_
                refine lv_istore (i := 5) (lv' := [(5, .int 0), (0, .ref x0_16), (1, .int x1_16), (2, .int x2_74), (3, .int x3_57), (4, .int x4_74)]) hx hb dX12_atOnce_103 hl (by decide) rfl (fun ls hl => ?_)
                exact hB105 x2_74 x4_74 q_FU 0 dt _ _ _ hm hW hS (lv_sub hl [1, 2, 3, 4, 5, 0] rfl)
              refine lv_icmp_ge (tgt := 102) hx hb dX12_atOnce_79 (by decide) (fun h => absurd h c74001) (fun _ => ?_)
              refine lv_aload_n hx hb dX12_atOnce_82 rfl (lv_at hl 0 rfl) ?_
              refine r_getF C hW (ci := 12) kx0_16 ff_12_54 cl_12 fl_RX12_136 dX12_atOnce_83 (fun k74002 => ?_)
              refine lv_iload hx hb dX12_atOnce_86 (lv_at hl 5 rfl) ?_
              refine lv_aload_n hx hb dX12_atOnce_88 rfl (lv_at hl 0 rfl) ?_
              refine r_getF C hW (ci := 12) kx0_16 ff_12_53 cl_12 fl_RX12_133 dX12_atOnce_89 (fun k74003 => ?_)
              refine lv_iload hx hb dX12_atOnce_92 (lv_at hl 5 rfl) ?_
              refine r_iald C hW hm k74003 dX12_atOnce_94 (fun hm => ?_)
              refine r_iast C hW hS hm k74002 dX12_atOnce_95 (fun dt74004 H locs hm hW hS => ?_)
              refine lv_iinc (v := (x5_74 + 1)) (lv' := [(5, .int (x5_74 + 1)), (0, .ref x0_16), (1, .int x1_16), (2, .int x2_74), (3, .int x3_57), (4, .int x4_74)]) hx hb dX12_atOnce_96 hl (k := 5) rfl rfl (by decide) rfl (fun ls hl => ?_)
              refine lv_goto (tgt := 74) hx hb dX12_atOnce_99 (by decide) ?_
              exact ih74 (x5_74 + 1) dt74004 _ _ _ hm hW hS (lv_sub hl [1, 2, 3, 4, 5, 0] rfl)
          intro x2_57 x4_57 dt H locs ls hm hW hS hl
          rw [X12_atOnce_b57] at hm
          refine lv_iload hx hb dX12_atOnce_57 (lv_at hl 4 rfl) ?_
          refine lv_aload_n hx hb dX12_atOnce_59 rfl (lv_at hl 0 rfl) ?_
          refine r_getF C hW (ci := 12) kx0_16 ff_12_31 cl_12 fl_RX12_70 dX12_atOnce_60 (fun k57001 => ?_)
          refine lv_aload_n hx hb dX12_atOnce_63 rfl (lv_at hl 0 rfl) ?_
          refine r_getI C hW (ci := 12) kx0_16 ff_12_18 cl_12 fl_RX12_242 dX12_atOnce_64 ?_
          refine r_iald C hW hm k57001 dX12_atOnce_67 (fun hm => ?_)
          refine q_ifc hm (fun c57002 hm => ?_) (fun c57002 hm => ?_)
          · refine lv_icmp_ge (tgt := 163) hx hb dX12_atOnce_68 (by decide) (fun _ => ?_) (fun h => absurd c57002 h)
            refine lv_iinc (v := (x3_57 + 1)) (lv' := [(3, .int (x3_57 + 1)), (0, .ref x0_16), (1, .int x1_16), (2, .int x2_57), (4, .int x4_57)]) hx hb dX12_atOnce_163 hl (k := 3) rfl rfl (by decide) rfl (fun ls hl => ?_)
            refine lv_goto (tgt := 16) hx hb dX12_atOnce_166 (by decide) ?_
            exact ih16 x2_57 (x3_57 + 1) dt _ _ _ hm hW hS (lv_sub hl [1, 2, 3, 0] rfl)
          refine lv_icmp_ge (tgt := 163) hx hb dX12_atOnce_68 (by decide) (fun h => absurd h c57002) (fun _ => ?_)
          refine lv_iconst (v := 0) hx hb dX12_atOnce_71 (by decide) ?_
          refine lv_istore (i := 5) (lv' := [(5, .int 0), (0, .ref x0_16), (1, .int x1_16), (2, .int x2_57), (3, .int x3_57), (4, .int x4_57)]) hx hb dX12_atOnce_72 hl (by decide) rfl (fun ls hl => ?_)
          exact hB74 x2_57 x4_57 q_FU 0 dt _ _ _ hm hW hS (lv_sub hl [1, 2, 3, 4, 5, 0] rfl)
      have hB26 : ∀ (x2_26 : Int32) (x3_26 : Int32) (n_26 : Nat) (x4_26 : Int32) (dt : q_Dt) (H : Heap) (locs : List Loc) (ls : Array Slot) (hm : X12_atOnce_b26 al (X12_atOnce_b16 al x0_16 x1_16 n_16) x0_16 x1_16 x2_26 x3_26 n_26 x4_26 dt = some (r0, dt0)) (hW : q_W D al dt H) (hS : va_S (q_A al) s.heap H locs) (hl : lv_has ls 6 [(0, .ref x0_16), (1, .int x1_16), (2, .int x2_26), (3, .int x3_26), (4, .int x4_26)]), W p l e { frames := 6, cells := 0, slots := 0, locals := 146 } s m args below meth c H locs 0 0 (MQ below (q_Q (some (.int r0)) (fun H => q_W D al dt0 H ∧ q_Rk al 0 (some (.int r0))) (q_A al)) args s 0 0 (q_A al)) (F0 m 26 ls []) := by
        intro x2_26 x3_26
        intro n_26
        induction n_26 with
        | zero => intro x4_26 dt H locs ls hm hW hS hl; cases hm
        | succ n_26 ih26 =>
          intro x4_26 dt H locs ls hm hW hS hl
          rw [X12_atOnce_b26] at hm
          refine lv_iload hx hb dX12_atOnce_26 (lv_at hl 4 rfl) ?_
          refine lv_sipush (v := 3072) hx hb dX12_atOnce_28 (by decide) ?_
          refine q_ifc hm (fun c26001 hm => ?_) (fun c26001 hm => ?_)
          · refine lv_icmp_ge (tgt := 54) hx hb dX12_atOnce_31 (by decide) (fun _ => ?_) (fun h => absurd c26001 h)
            refine lv_iconst (v := 0) hx hb dX12_atOnce_54 (by decide) ?_
            refine lv_istore (i := 4) (lv' := [(4, .int 0), (0, .ref x0_16), (1, .int x1_16), (2, .int x2_26), (3, .int x3_26)]) hx hb dX12_atOnce_55 hl (by decide) rfl (fun ls hl => ?_)
            exact hB57 x3_26 q_FU x2_26 0 dt _ _ _ hm hW hS (lv_sub hl [1, 2, 3, 4, 0] rfl)
          refine lv_icmp_ge (tgt := 54) hx hb dX12_atOnce_31 (by decide) (fun h => absurd h c26001) (fun _ => ?_)
          refine lv_aload_n hx hb dX12_atOnce_34 rfl (lv_at hl 0 rfl) ?_
          refine r_getF C hW (ci := 12) kx0_16 ff_12_51 cl_12 fl_RX12_127 dX12_atOnce_35 (fun k26002 => ?_)
          refine lv_iload hx hb dX12_atOnce_38 (lv_at hl 4 rfl) ?_
          refine lv_aload_n hx hb dX12_atOnce_40 rfl (lv_at hl 0 rfl) ?_
          refine r_getF C hW (ci := 12) kx0_16 ff_12_52 cl_12 fl_RX12_130 dX12_atOnce_41 (fun k26003 => ?_)
          refine lv_iload hx hb dX12_atOnce_44 (lv_at hl 4 rfl) ?_
          refine r_bald C hW hm k26003 dX12_atOnce_46 (fun hm => ?_)
          refine r_bast C hW hS hm k26002 dX12_atOnce_47 (fun dt26004 H locs hm hW hS => ?_)
          refine lv_iinc (v := (x4_26 + 1)) (lv' := [(4, .int (x4_26 + 1)), (0, .ref x0_16), (1, .int x1_16), (2, .int x2_26), (3, .int x3_26)]) hx hb dX12_atOnce_48 hl (k := 4) rfl rfl (by decide) rfl (fun ls hl => ?_)
          refine lv_goto (tgt := 26) hx hb dX12_atOnce_51 (by decide) ?_
          exact ih26 (x4_26 + 1) dt26004 _ _ _ hm hW hS (lv_sub hl [1, 2, 3, 4, 0] rfl)
      intro x2_16 x3_16 dt H locs ls hm hW hS hl
      rw [X12_atOnce_b16] at hm
      refine lv_iload_n hx hb dX12_atOnce_16 rfl (lv_at hl 3 rfl) ?_
      refine lv_iload_n hx hb dX12_atOnce_17 rfl (lv_at hl 1 rfl) ?_
      refine q_ifc hm (fun c16001 hm => ?_) (fun c16001 hm => ?_)
      · refine lv_icmp_gt (tgt := 169) hx hb dX12_atOnce_18 (by decide) (fun _ => ?_) (fun h => absurd c16001 h)
        refine lv_iload_n hx hb dX12_atOnce_169 rfl (lv_at hl 2 rfl) ?_
        exact e_iD C hW hS hm dX12_atOnce_170
      refine lv_icmp_gt (tgt := 169) hx hb dX12_atOnce_18 (by decide) (fun h => absurd h c16001) (fun _ => ?_)
      refine lv_iconst (v := 0) hx hb dX12_atOnce_21 (by decide) ?_
      refine lv_istore_n (i := 2) (lv' := [(2, .int 0), (0, .ref x0_16), (1, .int x1_16), (3, .int x3_16)]) hx hb dX12_atOnce_22 rfl hl (by decide) rfl (fun ls hl => ?_)
      refine lv_iconst (v := 0) hx hb dX12_atOnce_23 (by decide) ?_
      refine lv_istore (i := 4) (lv' := [(4, .int 0), (2, .int 0), (0, .ref x0_16), (1, .int x1_16), (3, .int x3_16)]) hx hb dX12_atOnce_24 hl (by decide) rfl (fun ls hl => ?_)
      exact hB26 0 x3_16 q_FU 0 dt _ _ _ hm hW hS (lv_sub hl [2, 3, 1, 4, 0] rfl)
  refine lv_iload_n hx hb dX12_atOnce_0 rfl (lv_at hl 1 rfl) ?_
  refine lv_iconst (v := 1) hx hb dX12_atOnce_1 (by decide) ?_
  refine lv_bipush (v := 6) hx hb dX12_atOnce_2 (by decide) ?_
  obtain ⟨v1000002, hc1000001, hm⟩ := q_b1i hm
  refine q_callS C hW hS (As := [.int x1, .int 1, .int 6]) (rest := []) (st1 := [.int v1000002]) (c_X12_in l D al dt x1 1 6 v1000002 hc1000001) yl_X12_in sl_X12_in ml_RX12_376 rfl ⟨Nat.le_of_ble_eq_true rfl, Nat.le_of_ble_eq_true rfl⟩ hl rfl (Nat.le_of_ble_eq_true rfl) dX12_atOnce_4 ⟨Nat.le_refl _, Nat.le_refl _⟩ rfl (fun H locs k1000003 hW hS => ?_)
  refine q_ifc hm (fun c1000004 hm => ?_) (fun c1000004 hm => ?_)
  · refine lv_if_ne (tgt := 12) hx hb dX12_atOnce_7 (by decide) (fun h => absurd c1000004 h) (fun _ => ?_)
    refine lv_iconst (v := (-1)) hx hb dX12_atOnce_10 (by decide) ?_
    exact e_iD C hW hS hm dX12_atOnce_11
  refine lv_if_ne (tgt := 12) hx hb dX12_atOnce_7 (by decide) (fun _ => ?_) (fun h => absurd h c1000004)
  refine lv_iconst (v := 0) hx hb dX12_atOnce_12 (by decide) ?_
  refine lv_istore_n (i := 2) (lv' := [(2, .int 0), (0, .ref x0), (1, .int x1)]) hx hb dX12_atOnce_13 rfl hl (by decide) rfl (fun ls hl => ?_)
  refine lv_iconst (v := 1) hx hb dX12_atOnce_14 (by decide) ?_
  refine lv_istore_n (i := 3) (lv' := [(3, .int 1), (2, .int 0), (0, .ref x0), (1, .int x1)]) hx hb dX12_atOnce_15 rfl hl (by decide) rfl (fun ls hl => ?_)
  exact hB16 x0 x1 kx0 q_FU 0 1 dt _ _ _ hm hW hS (lv_sub hl [2, 3, 1, 0] rfl)
theorem dX12_loopOf_0 : decode cX12_loopOf 0 = .ok (.iload_n 2, 1) := by decide +kernel
theorem dX12_loopOf_1 : decode cX12_loopOf 1 = .ok (.istore 6, 2) := by decide +kernel
theorem dX12_loopOf_3 : decode cX12_loopOf 3 = .ok (.aload_n 0, 1) := by decide +kernel
theorem dX12_loopOf_4 : decode cX12_loopOf 4 = .ok (.iload_n 1, 1) := by decide +kernel
theorem dX12_loopOf_5 : decode cX12_loopOf 5 = .ok (.invokevirtual 327, 3) := by decide +kernel
theorem dX12_loopOf_8 : decode cX12_loopOf 8 = .ok (.istore 7, 2) := by decide +kernel
theorem dX12_loopOf_10 : decode cX12_loopOf 10 = .ok (.iload 4, 2) := by decide +kernel
theorem dX12_loopOf_12 : decode cX12_loopOf 12 = .ok (.istore 8, 2) := by decide +kernel
theorem dX12_loopOf_14 : decode cX12_loopOf 14 = .ok (.iconst 0, 1) := by decide +kernel
theorem dX12_loopOf_15 : decode cX12_loopOf 15 = .ok (.istore 9, 2) := by decide +kernel
theorem dX12_loopOf_17 : decode cX12_loopOf 17 = .ok (.iload 9, 2) := by decide +kernel
theorem dX12_loopOf_19 : decode cX12_loopOf 19 = .ok (.iload 5, 2) := by decide +kernel
theorem dX12_loopOf_21 : decode cX12_loopOf 21 = .ok (.if_icmp .ge 128, 3) := by decide +kernel
theorem dX12_loopOf_24 : decode cX12_loopOf 24 = .ok (.iload 6, 2) := by decide +kernel
theorem dX12_loopOf_26 : decode cX12_loopOf 26 = .ok (.iload 7, 2) := by decide +kernel
theorem dX12_loopOf_28 : decode cX12_loopOf 28 = .ok (.iadd, 1) := by decide +kernel
theorem dX12_loopOf_29 : decode cX12_loopOf 29 = .ok (.iconst 1, 1) := by decide +kernel
theorem dX12_loopOf_30 : decode cX12_loopOf 30 = .ok (.isub, 1) := by decide +kernel
theorem dX12_loopOf_31 : decode cX12_loopOf 31 = .ok (.iload 7, 2) := by decide +kernel
theorem dX12_loopOf_33 : decode cX12_loopOf 33 = .ok (.irem, 1) := by decide +kernel
theorem dX12_loopOf_34 : decode cX12_loopOf 34 = .ok (.istore 10, 2) := by decide +kernel
theorem dX12_loopOf_36 : decode cX12_loopOf 36 = .ok (.iload 6, 2) := by decide +kernel
theorem dX12_loopOf_38 : decode cX12_loopOf 38 = .ok (.iconst 1, 1) := by decide +kernel
theorem dX12_loopOf_39 : decode cX12_loopOf 39 = .ok (.iadd, 1) := by decide +kernel
theorem dX12_loopOf_40 : decode cX12_loopOf 40 = .ok (.iload 7, 2) := by decide +kernel
theorem dX12_loopOf_42 : decode cX12_loopOf 42 = .ok (.irem, 1) := by decide +kernel
theorem dX12_loopOf_43 : decode cX12_loopOf 43 = .ok (.istore 11, 2) := by decide +kernel
theorem dX12_loopOf_45 : decode cX12_loopOf 45 = .ok (.aload_n 0, 1) := by decide +kernel
theorem dX12_loopOf_46 : decode cX12_loopOf 46 = .ok (.iload_n 1, 1) := by decide +kernel
theorem dX12_loopOf_47 : decode cX12_loopOf 47 = .ok (.iconst 4, 1) := by decide +kernel
theorem dX12_loopOf_48 : decode cX12_loopOf 48 = .ok (.iload 10, 2) := by decide +kernel
theorem dX12_loopOf_50 : decode cX12_loopOf 50 = .ok (.imul, 1) := by decide +kernel
theorem dX12_loopOf_51 : decode cX12_loopOf 51 = .ok (.iload_n 3, 1) := by decide +kernel
theorem dX12_loopOf_52 : decode cX12_loopOf 52 = .ok (.iadd, 1) := by decide +kernel
theorem dX12_loopOf_53 : decode cX12_loopOf 53 = .ok (.iload 8, 2) := by decide +kernel
theorem dX12_loopOf_55 : decode cX12_loopOf 55 = .ok (.iconst 1, 1) := by decide +kernel
theorem dX12_loopOf_56 : decode cX12_loopOf 56 = .ok (.invokevirtual 434, 3) := by decide +kernel
theorem dX12_loopOf_59 : decode cX12_loopOf 59 = .ok (.lstore 12, 2) := by decide +kernel
theorem dX12_loopOf_61 : decode cX12_loopOf 61 = .ok (.aload_n 0, 1) := by decide +kernel
theorem dX12_loopOf_62 : decode cX12_loopOf 62 = .ok (.iload_n 1, 1) := by decide +kernel
theorem dX12_loopOf_63 : decode cX12_loopOf 63 = .ok (.iconst 4, 1) := by decide +kernel
theorem dX12_loopOf_64 : decode cX12_loopOf 64 = .ok (.iload 6, 2) := by decide +kernel
theorem dX12_loopOf_66 : decode cX12_loopOf 66 = .ok (.imul, 1) := by decide +kernel
theorem dX12_loopOf_67 : decode cX12_loopOf 67 = .ok (.iload_n 3, 1) := by decide +kernel
theorem dX12_loopOf_68 : decode cX12_loopOf 68 = .ok (.iadd, 1) := by decide +kernel
theorem dX12_loopOf_69 : decode cX12_loopOf 69 = .ok (.iload 8, 2) := by decide +kernel
theorem dX12_loopOf_71 : decode cX12_loopOf 71 = .ok (.iconst 1, 1) := by decide +kernel
theorem dX12_loopOf_72 : decode cX12_loopOf 72 = .ok (.invokevirtual 434, 3) := by decide +kernel
theorem dX12_loopOf_75 : decode cX12_loopOf 75 = .ok (.lstore 14, 2) := by decide +kernel
theorem dX12_loopOf_77 : decode cX12_loopOf 77 = .ok (.aload_n 0, 1) := by decide +kernel
theorem dX12_loopOf_78 : decode cX12_loopOf 78 = .ok (.iload_n 1, 1) := by decide +kernel
theorem dX12_loopOf_79 : decode cX12_loopOf 79 = .ok (.iconst 4, 1) := by decide +kernel
theorem dX12_loopOf_80 : decode cX12_loopOf 80 = .ok (.iload 11, 2) := by decide +kernel
theorem dX12_loopOf_82 : decode cX12_loopOf 82 = .ok (.imul, 1) := by decide +kernel
theorem dX12_loopOf_83 : decode cX12_loopOf 83 = .ok (.iload_n 3, 1) := by decide +kernel
theorem dX12_loopOf_84 : decode cX12_loopOf 84 = .ok (.iadd, 1) := by decide +kernel
theorem dX12_loopOf_85 : decode cX12_loopOf 85 = .ok (.iload 8, 2) := by decide +kernel
theorem dX12_loopOf_87 : decode cX12_loopOf 87 = .ok (.iconst 1, 1) := by decide +kernel
theorem dX12_loopOf_88 : decode cX12_loopOf 88 = .ok (.invokevirtual 434, 3) := by decide +kernel
theorem dX12_loopOf_91 : decode cX12_loopOf 91 = .ok (.lstore 16, 2) := by decide +kernel
theorem dX12_loopOf_93 : decode cX12_loopOf 93 = .ok (.lload 16, 2) := by decide +kernel
theorem dX12_loopOf_95 : decode cX12_loopOf 95 = .ok (.lload 12, 2) := by decide +kernel
theorem dX12_loopOf_97 : decode cX12_loopOf 97 = .ok (.lcmp, 1) := by decide +kernel
theorem dX12_loopOf_98 : decode cX12_loopOf 98 = .ok (.ifCond .le 18, 3) := by decide +kernel
theorem dX12_loopOf_101 : decode cX12_loopOf 101 = .ok (.lload 16, 2) := by decide +kernel
theorem dX12_loopOf_103 : decode cX12_loopOf 103 = .ok (.lload 14, 2) := by decide +kernel
theorem dX12_loopOf_105 : decode cX12_loopOf 105 = .ok (.lcmp, 1) := by decide +kernel
theorem dX12_loopOf_106 : decode cX12_loopOf 106 = .ok (.ifCond .le 10, 3) := by decide +kernel
theorem dX12_loopOf_109 : decode cX12_loopOf 109 = .ok (.iload 11, 2) := by decide +kernel
theorem dX12_loopOf_111 : decode cX12_loopOf 111 = .ok (.istore 6, 2) := by decide +kernel
theorem dX12_loopOf_113 : decode cX12_loopOf 113 = .ok (.goto 23, 3) := by decide +kernel
theorem dX12_loopOf_116 : decode cX12_loopOf 116 = .ok (.lload 12, 2) := by decide +kernel
theorem dX12_loopOf_118 : decode cX12_loopOf 118 = .ok (.lload 14, 2) := by decide +kernel
theorem dX12_loopOf_120 : decode cX12_loopOf 120 = .ok (.lcmp, 1) := by decide +kernel
theorem dX12_loopOf_121 : decode cX12_loopOf 121 = .ok (.ifCond .le 15, 3) := by decide +kernel
theorem dX12_loopOf_124 : decode cX12_loopOf 124 = .ok (.lload 12, 2) := by decide +kernel
theorem dX12_loopOf_126 : decode cX12_loopOf 126 = .ok (.lload 16, 2) := by decide +kernel
theorem dX12_loopOf_128 : decode cX12_loopOf 128 = .ok (.lcmp, 1) := by decide +kernel
theorem dX12_loopOf_129 : decode cX12_loopOf 129 = .ok (.ifCond .le 7, 3) := by decide +kernel
theorem dX12_loopOf_132 : decode cX12_loopOf 132 = .ok (.iload 10, 2) := by decide +kernel
theorem dX12_loopOf_134 : decode cX12_loopOf 134 = .ok (.istore 6, 2) := by decide +kernel
theorem dX12_loopOf_136 : decode cX12_loopOf 136 = .ok (.iload 8, 2) := by decide +kernel
theorem dX12_loopOf_138 : decode cX12_loopOf 138 = .ok (.iload 7, 2) := by decide +kernel
theorem dX12_loopOf_140 : decode cX12_loopOf 140 = .ok (.iadd, 1) := by decide +kernel
theorem dX12_loopOf_141 : decode cX12_loopOf 141 = .ok (.istore 8, 2) := by decide +kernel
theorem dX12_loopOf_143 : decode cX12_loopOf 143 = .ok (.iinc 9 1, 3) := by decide +kernel
theorem dX12_loopOf_146 : decode cX12_loopOf 146 = .ok (.goto (-129), 3) := by decide +kernel
theorem dX12_loopOf_149 : decode cX12_loopOf 149 = .ok (.iload 6, 2) := by decide +kernel
theorem dX12_loopOf_151 : decode cX12_loopOf 151 = .ok (.ireturn, 1) := by decide +kernel
set_option maxRecDepth 100000 in
theorem c_X12_loopOf (l : Launch) (D : q_D) (al : q_Al) (dt : q_Dt) (x0 : Nat) (x1 : Int32) (x2 : Int32) (x3 : Int32) (x4 : Int32) (x5 : Int32) (kx0 : al.1 x0 = 13) (r0 : Int32) (dt0 : q_Dt) (hm : X12_loopOf al dt x0 x1 x2 x3 x4 x5 = some (r0, dt0)) : q_Mt l yX12_loopOf cX12_loopOf 18 (some FieldType.int) 3 79 D al [.ref x0, .int x1, .int x2, .int x3, .int x4, .int x5] dt 0 (some (.int r0)) dt0 := by
  refine q_Mt.of (by decide) (Nat.le_of_ble_eq_true rfl) ?_
  intro p e s m args below meth c ls C hargs hW hl
  have hx := C.1
  have hb := C.2.1
  have hown := C.2.2.2.2.2.1
  have hts := C.2.2.2.2.2.2.1
  have hS : va_S (q_A al) s.heap s.heap [] := va_S.rf
  have hl : lv_has ls 18 [(0, .ref x0), (1, .int x1), (2, .int x2), (3, .int x3), (4, .int x4), (5, .int x5)] := hl
  unfold X12_loopOf at hm
  have hB17 : ∀ (x0_17 : Nat) (x1_17 : Int32) (x3_17 : Int32) (x5_17 : Int32) (x7_17 : Int32) (kx0_17 : al.1 x0_17 = 13) (n_17 : Nat) (x6_17 : Int32) (x8_17 : Int32) (x9_17 : Int32) (dt : q_Dt) (H : Heap) (locs : List Loc) (ls : Array Slot) (hm : X12_loopOf_b17 al x0_17 x1_17 x3_17 x5_17 x7_17 n_17 x6_17 x8_17 x9_17 dt = some (r0, dt0)) (hW : q_W D al dt H) (hS : va_S (q_A al) s.heap H locs) (hl : lv_has ls 18 [(0, .ref x0_17), (1, .int x1_17), (3, .int x3_17), (5, .int x5_17), (6, .int x6_17), (7, .int x7_17), (8, .int x8_17), (9, .int x9_17)]), W p l e { frames := 3, cells := 0, slots := 0, locals := 79 } s m args below meth c H locs 0 0 (MQ below (q_Q (some (.int r0)) (fun H => q_W D al dt0 H ∧ q_Rk al 0 (some (.int r0))) (q_A al)) args s 0 0 (q_A al)) (F0 m 17 ls []) := by
    intro x0_17 x1_17 x3_17 x5_17 x7_17 kx0_17
    intro n_17
    induction n_17 with
    | zero => intro x6_17 x8_17 x9_17 dt H locs ls hm hW hS hl; cases hm
    | succ n_17 ih17 =>
      have hB136 : ∀ (x6_136 : Int32) (x8_136 : Int32) (x9_136 : Int32) (dt : q_Dt) (H : Heap) (locs : List Loc) (ls : Array Slot) (hm : X12_loopOf_b136 al (X12_loopOf_b17 al x0_17 x1_17 x3_17 x5_17 x7_17 n_17) x0_17 x1_17 x3_17 x5_17 x6_136 x7_17 x8_136 x9_136 dt = some (r0, dt0)) (hW : q_W D al dt H) (hS : va_S (q_A al) s.heap H locs) (hl : lv_has ls 18 [(0, .ref x0_17), (1, .int x1_17), (3, .int x3_17), (5, .int x5_17), (6, .int x6_136), (7, .int x7_17), (8, .int x8_136), (9, .int x9_136)]), W p l e { frames := 3, cells := 0, slots := 0, locals := 79 } s m args below meth c H locs 0 0 (MQ below (q_Q (some (.int r0)) (fun H => q_W D al dt0 H ∧ q_Rk al 0 (some (.int r0))) (q_A al)) args s 0 0 (q_A al)) (F0 m 136 ls []) := by
        intro x6_136 x8_136 x9_136 dt H locs ls hm hW hS hl
        unfold X12_loopOf_b136 at hm
        refine lv_iload hx hb dX12_loopOf_136 (lv_at hl 6 rfl) ?_
        refine lv_iload hx hb dX12_loopOf_138 (lv_at hl 5 rfl) ?_
        refine lv_iadd hx hb dX12_loopOf_140 ?_
        refine lv_istore (i := 8) (lv' := [(8, .int (x8_136 + x7_17)), (0, .ref x0_17), (1, .int x1_17), (3, .int x3_17), (5, .int x5_17), (6, .int x6_136), (7, .int x7_17), (9, .int x9_136)]) hx hb dX12_loopOf_141 hl (by decide) rfl (fun ls hl => ?_)
        refine lv_iinc (v := (x9_136 + 1)) (lv' := [(9, .int (x9_136 + 1)), (8, .int (x8_136 + x7_17)), (0, .ref x0_17), (1, .int x1_17), (3, .int x3_17), (5, .int x5_17), (6, .int x6_136), (7, .int x7_17)]) hx hb dX12_loopOf_143 hl (k := 7) rfl rfl (by decide) rfl (fun ls hl => ?_)
        refine lv_goto (tgt := 17) hx hb dX12_loopOf_146 (by decide) ?_
        exact ih17 x6_136 (x8_136 + x7_17) (x9_136 + 1) dt _ _ _ hm hW hS (lv_sub hl [2, 3, 4, 5, 6, 7, 1, 0] rfl)
      have hB116 : ∀ (x6_116 : Int32) (x8_116 : Int32) (x9_116 : Int32) (x10_116 : Int32) (x12_116 : Int64) (x14_116 : Int64) (x16_116 : Int64) (dt : q_Dt) (H : Heap) (locs : List Loc) (ls : Array Slot) (hm : X12_loopOf_b116 al (X12_loopOf_b17 al x0_17 x1_17 x3_17 x5_17 x7_17 n_17) x0_17 x1_17 x3_17 x5_17 x6_116 x7_17 x8_116 x9_116 x10_116 x12_116 x14_116 x16_116 dt = some (r0, dt0)) (hW : q_W D al dt H) (hS : va_S (q_A al) s.heap H locs) (hl : lv_has ls 18 [(0, .ref x0_17), (1, .int x1_17), (3, .int x3_17), (5, .int x5_17), (6, .int x6_116), (7, .int x7_17), (8, .int x8_116), (9, .int x9_116), (10, .int x10_116), (12, .long x12_116), (14, .long x14_116), (16, .long x16_116)]), W p l e { frames := 3, cells := 0, slots := 0, locals := 79 } s m args below meth c H locs 0 0 (MQ below (q_Q (some (.int r0)) (fun H => q_W D al dt0 H ∧ q_Rk al 0 (some (.int r0))) (q_A al)) args s 0 0 (q_A al)) (F0 m 116 ls []) := by
        intro x6_116 x8_116 x9_116 x10_116 x12_116 x14_116 x16_116 dt H locs ls hm hW hS hl
        unfold X12_loopOf_b116 at hm
        refine lv_lload hx hb dX12_loopOf_116 (lv_at hl 9 rfl) ?_
        refine lv_lload hx hb dX12_loopOf_118 (lv_at hl 10 rfl) ?_
        refine W.lcmp hx hb dX12_loopOf_120 ?_
        refine q_ifc hm (fun c116001 hm => ?_) (fun c116001 hm => ?_)
        · refine lv_if_le (tgt := 136) hx hb dX12_loopOf_121 (by decide) (fun _ => ?_) (fun h => absurd (q_cmp_le.mpr c116001) h)
          exact hB136 x6_116 x8_116 x9_116 dt _ _ _ hm hW hS (lv_sub hl [0, 1, 2, 3, 4, 5, 6, 7] rfl)
        refine lv_if_le (tgt := 136) hx hb dX12_loopOf_121 (by decide) (fun h => absurd (q_cmp_le.mp h) c116001) (fun _ => ?_)
        refine lv_lload hx hb dX12_loopOf_124 (lv_at hl 9 rfl) ?_
        refine lv_lload hx hb dX12_loopOf_126 (lv_at hl 11 rfl) ?_
        refine W.lcmp hx hb dX12_loopOf_128 ?_
        refine q_ifc hm (fun c116002 hm => ?_) (fun c116002 hm => ?_)
        · refine lv_if_le (tgt := 136) hx hb dX12_loopOf_129 (by decide) (fun _ => ?_) (fun h => absurd (q_cmp_le.mpr c116002) h)
          exact hB136 x6_116 x8_116 x9_116 dt _ _ _ hm hW hS (lv_sub hl [0, 1, 2, 3, 4, 5, 6, 7] rfl)
        refine lv_if_le (tgt := 136) hx hb dX12_loopOf_129 (by decide) (fun h => absurd (q_cmp_le.mp h) c116002) (fun _ => ?_)
        refine lv_iload hx hb dX12_loopOf_132 (lv_at hl 8 rfl) ?_
        refine lv_istore (i := 6) (lv' := [(6, .int x10_116), (0, .ref x0_17), (1, .int x1_17), (3, .int x3_17), (5, .int x5_17), (7, .int x7_17), (8, .int x8_116), (9, .int x9_116), (10, .int x10_116), (12, .long x12_116), (14, .long x14_116), (16, .long x16_116)]) hx hb dX12_loopOf_134 hl (by decide) rfl (fun ls hl => ?_)
        exact hB136 x10_116 x8_116 x9_116 dt _ _ _ hm hW hS (lv_sub hl [1, 2, 3, 4, 0, 5, 6, 7] rfl)
      intro x6_17 x8_17 x9_17 dt H locs ls hm hW hS hl
      rw [X12_loopOf_b17] at hm
      refine lv_iload hx hb dX12_loopOf_17 (lv_at hl 7 rfl) ?_
      refine lv_iload hx hb dX12_loopOf_19 (lv_at hl 3 rfl) ?_
      refine q_ifc hm (fun c17001 hm => ?_) (fun c17001 hm => ?_)
      · refine lv_icmp_ge (tgt := 149) hx hb dX12_loopOf_21 (by decide) (fun _ => ?_) (fun h => absurd c17001 h)
        refine lv_iload hx hb dX12_loopOf_149 (lv_at hl 4 rfl) ?_
        exact e_iD C hW hS hm dX12_loopOf_151
      refine lv_icmp_ge (tgt := 149) hx hb dX12_loopOf_21 (by decide) (fun h => absurd h c17001) (fun _ => ?_)
      refine lv_iload hx hb dX12_loopOf_24 (lv_at hl 4 rfl) ?_
      refine lv_iload hx hb dX12_loopOf_26 (lv_at hl 5 rfl) ?_
      refine lv_iadd hx hb dX12_loopOf_28 ?_
      refine lv_iconst (v := 1) hx hb dX12_loopOf_29 (by decide) ?_
      refine lv_isub hx hb dX12_loopOf_30 ?_
      refine lv_iload hx hb dX12_loopOf_31 (lv_at hl 5 rfl) ?_
      obtain ⟨c17002, hm⟩ := q_ini hm
      refine lv_irem hx hb dX12_loopOf_33 c17002 ?_
      refine lv_istore (i := 10) (lv' := [(10, .int (q_ir ((x6_17 + x7_17) - 1) x7_17)), (0, .ref x0_17), (1, .int x1_17), (3, .int x3_17), (5, .int x5_17), (6, .int x6_17), (7, .int x7_17), (8, .int x8_17), (9, .int x9_17)]) hx hb dX12_loopOf_34 hl (by decide) rfl (fun ls hl => ?_)
      refine lv_iload hx hb dX12_loopOf_36 (lv_at hl 5 rfl) ?_
      refine lv_iconst (v := 1) hx hb dX12_loopOf_38 (by decide) ?_
      refine lv_iadd hx hb dX12_loopOf_39 ?_
      refine lv_iload hx hb dX12_loopOf_40 (lv_at hl 6 rfl) ?_
      obtain ⟨c17003, hm⟩ := q_ini hm
      refine lv_irem hx hb dX12_loopOf_42 c17003 ?_
      refine lv_istore (i := 11) (lv' := [(11, .int (q_ir (x6_17 + 1) x7_17)), (10, .int (q_ir ((x6_17 + x7_17) - 1) x7_17)), (0, .ref x0_17), (1, .int x1_17), (3, .int x3_17), (5, .int x5_17), (6, .int x6_17), (7, .int x7_17), (8, .int x8_17), (9, .int x9_17)]) hx hb dX12_loopOf_43 hl (by decide) rfl (fun ls hl => ?_)
      refine lv_aload_n hx hb dX12_loopOf_45 rfl (lv_at hl 2 rfl) ?_
      refine lv_iload_n hx hb dX12_loopOf_46 rfl (lv_at hl 3 rfl) ?_
      refine lv_iconst (v := 4) hx hb dX12_loopOf_47 (by decide) ?_
      refine lv_iload hx hb dX12_loopOf_48 (lv_at hl 1 rfl) ?_
      refine lv_imul hx hb dX12_loopOf_50 ?_
      refine lv_iload_n hx hb dX12_loopOf_51 rfl (lv_at hl 4 rfl) ?_
      refine lv_iadd hx hb dX12_loopOf_52 ?_
      refine lv_iload hx hb dX12_loopOf_53 (lv_at hl 8 rfl) ?_
      refine lv_iconst (v := 1) hx hb dX12_loopOf_55 (by decide) ?_
      obtain ⟨v17005, dt17006, hc17004, hm⟩ := q_b2i hm
      refine q_callV C hW hS (As := [.int x1_17, .int ((4 * (q_ir ((x6_17 + x7_17) - 1) x7_17)) + x3_17), .int x8_17, .int 1]) (rest := []) (st1 := [.long v17005]) (c_X12_metricOf l D al dt x0_17 x1_17 ((4 * (q_ir ((x6_17 + x7_17) - 1) x7_17)) + x3_17) x8_17 1 kx0_17 v17005 dt17006 hc17004) yl_X12_metricOf vl_X12_metricOf ml_RX12_434 (ci := 12) rfl kx0_17 (by decide) rfl ⟨Nat.le_of_ble_eq_true rfl, Nat.le_of_ble_eq_true rfl⟩ hl rfl (Nat.le_of_ble_eq_true rfl) dX12_loopOf_56 ⟨Nat.le_refl _, Nat.le_refl _⟩ rfl (fun H locs k17007 hW hS => ?_)
      refine lv_lstore (i := 12) (lv' := [(12, .long v17005), (11, .int (q_ir (x6_17 + 1) x7_17)), (10, .int (q_ir ((x6_17 + x7_17) - 1) x7_17)), (0, .ref x0_17), (1, .int x1_17), (3, .int x3_17), (5, .int x5_17), (6, .int x6_17), (7, .int x7_17), (8, .int x8_17), (9, .int x9_17)]) hx hb dX12_loopOf_59 hl (by decide) rfl (fun ls hl => ?_)
      refine lv_aload_n hx hb dX12_loopOf_61 rfl (lv_at hl 3 rfl) ?_
      refine lv_iload_n hx hb dX12_loopOf_62 rfl (lv_at hl 4 rfl) ?_
      refine lv_iconst (v := 4) hx hb dX12_loopOf_63 (by decide) ?_
      refine lv_iload hx hb dX12_loopOf_64 (lv_at hl 7 rfl) ?_
      refine lv_imul hx hb dX12_loopOf_66 ?_
      refine lv_iload_n hx hb dX12_loopOf_67 rfl (lv_at hl 5 rfl) ?_
      refine lv_iadd hx hb dX12_loopOf_68 ?_
      refine lv_iload hx hb dX12_loopOf_69 (lv_at hl 9 rfl) ?_
      refine lv_iconst (v := 1) hx hb dX12_loopOf_71 (by decide) ?_
      obtain ⟨v17009, dt17010, hc17008, hm⟩ := q_b2i hm
      refine q_callV C hW hS (As := [.int x1_17, .int ((4 * x6_17) + x3_17), .int x8_17, .int 1]) (rest := []) (st1 := [.long v17009]) (c_X12_metricOf l D al dt17006 x0_17 x1_17 ((4 * x6_17) + x3_17) x8_17 1 kx0_17 v17009 dt17010 hc17008) yl_X12_metricOf vl_X12_metricOf ml_RX12_434 (ci := 12) rfl kx0_17 (by decide) rfl ⟨Nat.le_of_ble_eq_true rfl, Nat.le_of_ble_eq_true rfl⟩ hl rfl (Nat.le_of_ble_eq_true rfl) dX12_loopOf_72 ⟨Nat.le_refl _, Nat.le_refl _⟩ rfl (fun H locs k17011 hW hS => ?_)
      refine lv_lstore (i := 14) (lv' := [(14, .long v17009), (12, .long v17005), (11, .int (q_ir (x6_17 + 1) x7_17)), (10, .int (q_ir ((x6_17 + x7_17) - 1) x7_17)), (0, .ref x0_17), (1, .int x1_17), (3, .int x3_17), (5, .int x5_17), (6, .int x6_17), (7, .int x7_17), (8, .int x8_17), (9, .int x9_17)]) hx hb dX12_loopOf_75 hl (by decide) rfl (fun ls hl => ?_)
      refine lv_aload_n hx hb dX12_loopOf_77 rfl (lv_at hl 4 rfl) ?_
      refine lv_iload_n hx hb dX12_loopOf_78 rfl (lv_at hl 5 rfl) ?_
      refine lv_iconst (v := 4) hx hb dX12_loopOf_79 (by decide) ?_
      refine lv_iload hx hb dX12_loopOf_80 (lv_at hl 2 rfl) ?_
      refine lv_imul hx hb dX12_loopOf_82 ?_
      refine lv_iload_n hx hb dX12_loopOf_83 rfl (lv_at hl 6 rfl) ?_
      refine lv_iadd hx hb dX12_loopOf_84 ?_
      refine lv_iload hx hb dX12_loopOf_85 (lv_at hl 10 rfl) ?_
      refine lv_iconst (v := 1) hx hb dX12_loopOf_87 (by decide) ?_
      obtain ⟨v17013, dt17014, hc17012, hm⟩ := q_b2i hm
      refine q_callV C hW hS (As := [.int x1_17, .int ((4 * (q_ir (x6_17 + 1) x7_17)) + x3_17), .int x8_17, .int 1]) (rest := []) (st1 := [.long v17013]) (c_X12_metricOf l D al dt17010 x0_17 x1_17 ((4 * (q_ir (x6_17 + 1) x7_17)) + x3_17) x8_17 1 kx0_17 v17013 dt17014 hc17012) yl_X12_metricOf vl_X12_metricOf ml_RX12_434 (ci := 12) rfl kx0_17 (by decide) rfl ⟨Nat.le_of_ble_eq_true rfl, Nat.le_of_ble_eq_true rfl⟩ hl rfl (Nat.le_of_ble_eq_true rfl) dX12_loopOf_88 ⟨Nat.le_refl _, Nat.le_refl _⟩ rfl (fun H locs k17015 hW hS => ?_)
      refine lv_lstore (i := 16) (lv' := [(16, .long v17013), (14, .long v17009), (12, .long v17005), (11, .int (q_ir (x6_17 + 1) x7_17)), (10, .int (q_ir ((x6_17 + x7_17) - 1) x7_17)), (0, .ref x0_17), (1, .int x1_17), (3, .int x3_17), (5, .int x5_17), (6, .int x6_17), (7, .int x7_17), (8, .int x8_17), (9, .int x9_17)]) hx hb dX12_loopOf_91 hl (by decide) rfl (fun ls hl => ?_)
      refine lv_lload hx hb dX12_loopOf_93 (lv_at hl 0 rfl) ?_
      refine lv_lload hx hb dX12_loopOf_95 (lv_at hl 2 rfl) ?_
      refine W.lcmp hx hb dX12_loopOf_97 ?_
      refine q_ifc hm (fun c17016 hm => ?_) (fun c17016 hm => ?_)
      · refine lv_if_le (tgt := 116) hx hb dX12_loopOf_98 (by decide) (fun _ => ?_) (fun h => absurd (q_cmp_le.mpr c17016) h)
        exact hB116 x6_17 x8_17 x9_17 (q_ir ((x6_17 + x7_17) - 1) x7_17) v17005 v17009 v17013 dt17014 _ _ _ hm hW hS (lv_sub hl [5, 6, 7, 8, 9, 10, 11, 12, 4, 2, 1, 0] rfl)
      refine lv_if_le (tgt := 116) hx hb dX12_loopOf_98 (by decide) (fun h => absurd (q_cmp_le.mp h) c17016) (fun _ => ?_)
      refine lv_lload hx hb dX12_loopOf_101 (lv_at hl 0 rfl) ?_
      refine lv_lload hx hb dX12_loopOf_103 (lv_at hl 1 rfl) ?_
      refine W.lcmp hx hb dX12_loopOf_105 ?_
      refine q_ifc hm (fun c17017 hm => ?_) (fun c17017 hm => ?_)
      · refine lv_if_le (tgt := 116) hx hb dX12_loopOf_106 (by decide) (fun _ => ?_) (fun h => absurd (q_cmp_le.mpr c17017) h)
        exact hB116 x6_17 x8_17 x9_17 (q_ir ((x6_17 + x7_17) - 1) x7_17) v17005 v17009 v17013 dt17014 _ _ _ hm hW hS (lv_sub hl [5, 6, 7, 8, 9, 10, 11, 12, 4, 2, 1, 0] rfl)
      refine lv_if_le (tgt := 116) hx hb dX12_loopOf_106 (by decide) (fun h => absurd (q_cmp_le.mp h) c17017) (fun _ => ?_)
      refine lv_iload hx hb dX12_loopOf_109 (lv_at hl 3 rfl) ?_
      refine lv_istore (i := 6) (lv' := [(6, .int (q_ir (x6_17 + 1) x7_17)), (16, .long v17013), (14, .long v17009), (12, .long v17005), (11, .int (q_ir (x6_17 + 1) x7_17)), (10, .int (q_ir ((x6_17 + x7_17) - 1) x7_17)), (0, .ref x0_17), (1, .int x1_17), (3, .int x3_17), (5, .int x5_17), (7, .int x7_17), (8, .int x8_17), (9, .int x9_17)]) hx hb dX12_loopOf_111 hl (by decide) rfl (fun ls hl => ?_)
      refine lv_goto (tgt := 136) hx hb dX12_loopOf_113 (by decide) ?_
      exact hB136 (q_ir (x6_17 + 1) x7_17) x8_17 x9_17 dt17014 _ _ _ hm hW hS (lv_sub hl [6, 7, 8, 9, 0, 10, 11, 12] rfl)
  refine lv_iload_n hx hb dX12_loopOf_0 rfl (lv_at hl 2 rfl) ?_
  refine lv_istore (i := 6) (lv' := [(6, .int x2), (0, .ref x0), (1, .int x1), (2, .int x2), (3, .int x3), (4, .int x4), (5, .int x5)]) hx hb dX12_loopOf_1 hl (by decide) rfl (fun ls hl => ?_)
  refine lv_aload_n hx hb dX12_loopOf_3 rfl (lv_at hl 1 rfl) ?_
  refine lv_iload_n hx hb dX12_loopOf_4 rfl (lv_at hl 2 rfl) ?_
  obtain ⟨v1000002, hc1000001, hm⟩ := q_b1i hm
  refine q_callV C hW hS (As := [.int x1]) (rest := []) (st1 := [.int v1000002]) (c_X12_long0 l D al dt x0 x1 kx0 v1000002 hc1000001) yl_X12_long0 vl_X12_long0 ml_RX12_327 (ci := 12) rfl kx0 (by decide) rfl ⟨Nat.le_of_ble_eq_true rfl, Nat.le_of_ble_eq_true rfl⟩ hl rfl (Nat.le_of_ble_eq_true rfl) dX12_loopOf_5 ⟨Nat.le_refl _, Nat.le_refl _⟩ rfl (fun H locs k1000003 hW hS => ?_)
  refine lv_istore (i := 7) (lv' := [(7, .int v1000002), (6, .int x2), (0, .ref x0), (1, .int x1), (2, .int x2), (3, .int x3), (4, .int x4), (5, .int x5)]) hx hb dX12_loopOf_8 hl (by decide) rfl (fun ls hl => ?_)
  refine lv_iload hx hb dX12_loopOf_10 (lv_at hl 6 rfl) ?_
  refine lv_istore (i := 8) (lv' := [(8, .int x4), (7, .int v1000002), (6, .int x2), (0, .ref x0), (1, .int x1), (2, .int x2), (3, .int x3), (4, .int x4), (5, .int x5)]) hx hb dX12_loopOf_12 hl (by decide) rfl (fun ls hl => ?_)
  refine lv_iconst (v := 0) hx hb dX12_loopOf_14 (by decide) ?_
  refine lv_istore (i := 9) (lv' := [(9, .int 0), (8, .int x4), (7, .int v1000002), (6, .int x2), (0, .ref x0), (1, .int x1), (2, .int x2), (3, .int x3), (4, .int x4), (5, .int x5)]) hx hb dX12_loopOf_15 hl (by decide) rfl (fun ls hl => ?_)
  exact hB17 x0 x1 x3 x5 v1000002 kx0 q_FU x2 x4 0 dt _ _ _ hm hW hS (lv_sub hl [4, 5, 7, 9, 3, 2, 1, 0] rfl)
theorem dX12_loop_0 : decode cX12_loop 0 = .ok (.aload_n 0, 1) := by decide +kernel
theorem dX12_loop_1 : decode cX12_loop 1 = .ok (.iload_n 1, 1) := by decide +kernel
theorem dX12_loop_2 : decode cX12_loop 2 = .ok (.invokevirtual 380, 3) := by decide +kernel
theorem dX12_loop_5 : decode cX12_loop 5 = .ok (.ifCond .eq 61, 3) := by decide +kernel
theorem dX12_loop_8 : decode cX12_loop 8 = .ok (.iload_n 2, 1) := by decide +kernel
theorem dX12_loop_9 : decode cX12_loop 9 = .ok (.iconst 0, 1) := by decide +kernel
theorem dX12_loop_10 : decode cX12_loop 10 = .ok (.aload_n 0, 1) := by decide +kernel
theorem dX12_loop_11 : decode cX12_loop 11 = .ok (.iload_n 1, 1) := by decide +kernel
theorem dX12_loop_12 : decode cX12_loop 12 = .ok (.invokevirtual 327, 3) := by decide +kernel
theorem dX12_loop_15 : decode cX12_loop 15 = .ok (.iconst 1, 1) := by decide +kernel
theorem dX12_loop_16 : decode cX12_loop 16 = .ok (.isub, 1) := by decide +kernel
theorem dX12_loop_17 : decode cX12_loop 17 = .ok (.invokestatic 376, 3) := by decide +kernel
theorem dX12_loop_20 : decode cX12_loop 20 = .ok (.ifCond .eq 46, 3) := by decide +kernel
theorem dX12_loop_23 : decode cX12_loop 23 = .ok (.iload_n 3, 1) := by decide +kernel
theorem dX12_loop_24 : decode cX12_loop 24 = .ok (.iconst 0, 1) := by decide +kernel
theorem dX12_loop_25 : decode cX12_loop 25 = .ok (.iconst 3, 1) := by decide +kernel
theorem dX12_loop_26 : decode cX12_loop 26 = .ok (.invokestatic 376, 3) := by decide +kernel
theorem dX12_loop_29 : decode cX12_loop 29 = .ok (.ifCond .eq 37, 3) := by decide +kernel
theorem dX12_loop_32 : decode cX12_loop 32 = .ok (.aload_n 0, 1) := by decide +kernel
theorem dX12_loop_33 : decode cX12_loop 33 = .ok (.iload 4, 2) := by decide +kernel
theorem dX12_loop_35 : decode cX12_loop 35 = .ok (.invokevirtual 401, 3) := by decide +kernel
theorem dX12_loop_38 : decode cX12_loop 38 = .ok (.ifCond .eq 28, 3) := by decide +kernel
theorem dX12_loop_41 : decode cX12_loop 41 = .ok (.iload 5, 2) := by decide +kernel
theorem dX12_loop_43 : decode cX12_loop 43 = .ok (.iconst 0, 1) := by decide +kernel
theorem dX12_loop_44 : decode cX12_loop 44 = .ok (.bipush 40, 2) := by decide +kernel
theorem dX12_loop_46 : decode cX12_loop 46 = .ok (.invokestatic 376, 3) := by decide +kernel
theorem dX12_loop_49 : decode cX12_loop 49 = .ok (.ifCond .eq 17, 3) := by decide +kernel
theorem dX12_loop_52 : decode cX12_loop 52 = .ok (.aload_n 0, 1) := by decide +kernel
theorem dX12_loop_53 : decode cX12_loop 53 = .ok (.iload_n 1, 1) := by decide +kernel
theorem dX12_loop_54 : decode cX12_loop 54 = .ok (.iload_n 2, 1) := by decide +kernel
theorem dX12_loop_55 : decode cX12_loop 55 = .ok (.iload_n 3, 1) := by decide +kernel
theorem dX12_loop_56 : decode cX12_loop 56 = .ok (.iload 4, 2) := by decide +kernel
theorem dX12_loop_58 : decode cX12_loop 58 = .ok (.iload 5, 2) := by decide +kernel
theorem dX12_loop_60 : decode cX12_loop 60 = .ok (.invokevirtual 474, 3) := by decide +kernel
theorem dX12_loop_63 : decode cX12_loop 63 = .ok (.goto 4, 3) := by decide +kernel
theorem dX12_loop_66 : decode cX12_loop 66 = .ok (.iconst (-1), 1) := by decide +kernel
theorem dX12_loop_67 : decode cX12_loop 67 = .ok (.ireturn, 1) := by decide +kernel
set_option maxRecDepth 100000 in
theorem c_X12_loop (l : Launch) (D : q_D) (al : q_Al) (dt : q_Dt) (x0 : Nat) (x1 : Int32) (x2 : Int32) (x3 : Int32) (x4 : Int32) (x5 : Int32) (kx0 : al.1 x0 = 13) (r0 : Int32) (dt0 : q_Dt) (hm : X12_loop al dt x0 x1 x2 x3 x4 x5 = some (r0, dt0)) : q_Mt l yX12_loop cX12_loop 6 (some FieldType.int) 4 116 D al [.ref x0, .int x1, .int x2, .int x3, .int x4, .int x5] dt 0 (some (.int r0)) dt0 := by
  refine q_Mt.of (by decide) (Nat.le_of_ble_eq_true rfl) ?_
  intro p e s m args below meth c ls C hargs hW hl
  have hx := C.1
  have hb := C.2.1
  have hown := C.2.2.2.2.2.1
  have hts := C.2.2.2.2.2.2.1
  have hS : va_S (q_A al) s.heap s.heap [] := va_S.rf
  have hl : lv_has ls 6 [(0, .ref x0), (1, .int x1), (2, .int x2), (3, .int x3), (4, .int x4), (5, .int x5)] := hl
  unfold X12_loop at hm
  refine lv_aload_n hx hb dX12_loop_0 rfl (lv_at hl 0 rfl) ?_
  refine lv_iload_n hx hb dX12_loop_1 rfl (lv_at hl 1 rfl) ?_
  obtain ⟨v1000002, hc1000001, hm⟩ := q_b1i hm
  refine q_callV C hW hS (As := [.int x1]) (rest := []) (st1 := [.int v1000002]) (c_X12_isCode l D al dt x0 x1 kx0 v1000002 hc1000001) yl_X12_isCode vl_X12_isCode ml_RX12_380 (ci := 12) rfl kx0 (by decide) rfl ⟨Nat.le_of_ble_eq_true rfl, Nat.le_of_ble_eq_true rfl⟩ hl rfl (Nat.le_of_ble_eq_true rfl) dX12_loop_2 ⟨Nat.le_refl _, Nat.le_refl _⟩ rfl (fun H locs k1000003 hW hS => ?_)
  refine q_ifc hm (fun c1000004 hm => ?_) (fun c1000004 hm => ?_)
  · refine lv_if_eq (tgt := 66) hx hb dX12_loop_5 (by decide) (fun _ => ?_) (fun h => absurd c1000004 h)
    refine lv_iconst (v := (-1)) hx hb dX12_loop_66 (by decide) ?_
    exact e_iD C hW hS hm dX12_loop_67
  refine lv_if_eq (tgt := 66) hx hb dX12_loop_5 (by decide) (fun h => absurd h c1000004) (fun _ => ?_)
  refine lv_iload_n hx hb dX12_loop_8 rfl (lv_at hl 2 rfl) ?_
  refine lv_iconst (v := 0) hx hb dX12_loop_9 (by decide) ?_
  refine lv_aload_n hx hb dX12_loop_10 rfl (lv_at hl 0 rfl) ?_
  refine lv_iload_n hx hb dX12_loop_11 rfl (lv_at hl 1 rfl) ?_
  obtain ⟨v1000006, hc1000005, hm⟩ := q_b1i hm
  refine q_callV C hW hS (As := [.int x1]) (rest := [.int 0, .int x2]) (st1 := [.int v1000006, .int 0, .int x2]) (c_X12_long0 l D al dt x0 x1 kx0 v1000006 hc1000005) yl_X12_long0 vl_X12_long0 ml_RX12_327 (ci := 12) rfl kx0 (by decide) rfl ⟨Nat.le_of_ble_eq_true rfl, Nat.le_of_ble_eq_true rfl⟩ hl rfl (Nat.le_of_ble_eq_true rfl) dX12_loop_12 ⟨Nat.le_refl _, Nat.le_refl _⟩ rfl (fun H locs k1000007 hW hS => ?_)
  refine lv_iconst (v := 1) hx hb dX12_loop_15 (by decide) ?_
  refine lv_isub hx hb dX12_loop_16 ?_
  obtain ⟨v1000009, hc1000008, hm⟩ := q_b1i hm
  refine q_callS C hW hS (As := [.int x2, .int 0, .int (v1000006 - 1)]) (rest := []) (st1 := [.int v1000009]) (c_X12_in l D al dt x2 0 (v1000006 - 1) v1000009 hc1000008) yl_X12_in sl_X12_in ml_RX12_376 rfl ⟨Nat.le_of_ble_eq_true rfl, Nat.le_of_ble_eq_true rfl⟩ hl rfl (Nat.le_of_ble_eq_true rfl) dX12_loop_17 ⟨Nat.le_refl _, Nat.le_refl _⟩ rfl (fun H locs k1000010 hW hS => ?_)
  refine q_ifc hm (fun c1000011 hm => ?_) (fun c1000011 hm => ?_)
  · refine lv_if_eq (tgt := 66) hx hb dX12_loop_20 (by decide) (fun _ => ?_) (fun h => absurd c1000011 h)
    refine lv_iconst (v := (-1)) hx hb dX12_loop_66 (by decide) ?_
    exact e_iD C hW hS hm dX12_loop_67
  refine lv_if_eq (tgt := 66) hx hb dX12_loop_20 (by decide) (fun h => absurd h c1000011) (fun _ => ?_)
  refine lv_iload_n hx hb dX12_loop_23 rfl (lv_at hl 3 rfl) ?_
  refine lv_iconst (v := 0) hx hb dX12_loop_24 (by decide) ?_
  refine lv_iconst (v := 3) hx hb dX12_loop_25 (by decide) ?_
  obtain ⟨v1000013, hc1000012, hm⟩ := q_b1i hm
  refine q_callS C hW hS (As := [.int x3, .int 0, .int 3]) (rest := []) (st1 := [.int v1000013]) (c_X12_in l D al dt x3 0 3 v1000013 hc1000012) yl_X12_in sl_X12_in ml_RX12_376 rfl ⟨Nat.le_of_ble_eq_true rfl, Nat.le_of_ble_eq_true rfl⟩ hl rfl (Nat.le_of_ble_eq_true rfl) dX12_loop_26 ⟨Nat.le_refl _, Nat.le_refl _⟩ rfl (fun H locs k1000014 hW hS => ?_)
  refine q_ifc hm (fun c1000015 hm => ?_) (fun c1000015 hm => ?_)
  · refine lv_if_eq (tgt := 66) hx hb dX12_loop_29 (by decide) (fun _ => ?_) (fun h => absurd c1000015 h)
    refine lv_iconst (v := (-1)) hx hb dX12_loop_66 (by decide) ?_
    exact e_iD C hW hS hm dX12_loop_67
  refine lv_if_eq (tgt := 66) hx hb dX12_loop_29 (by decide) (fun h => absurd h c1000015) (fun _ => ?_)
  refine lv_aload_n hx hb dX12_loop_32 rfl (lv_at hl 0 rfl) ?_
  refine lv_iload hx hb dX12_loop_33 (lv_at hl 4 rfl) ?_
  obtain ⟨v1000017, hc1000016, hm⟩ := q_b1i hm
  refine q_callV C hW hS (As := [.int x4]) (rest := []) (st1 := [.int v1000017]) (c_X12_isSample l D al dt x0 x4 kx0 v1000017 hc1000016) yl_X12_isSample vl_X12_isSample ml_RX12_401 (ci := 12) rfl kx0 (by decide) rfl ⟨Nat.le_of_ble_eq_true rfl, Nat.le_of_ble_eq_true rfl⟩ hl rfl (Nat.le_of_ble_eq_true rfl) dX12_loop_35 ⟨Nat.le_refl _, Nat.le_refl _⟩ rfl (fun H locs k1000018 hW hS => ?_)
  refine q_ifc hm (fun c1000019 hm => ?_) (fun c1000019 hm => ?_)
  · refine lv_if_eq (tgt := 66) hx hb dX12_loop_38 (by decide) (fun _ => ?_) (fun h => absurd c1000019 h)
    refine lv_iconst (v := (-1)) hx hb dX12_loop_66 (by decide) ?_
    exact e_iD C hW hS hm dX12_loop_67
  refine lv_if_eq (tgt := 66) hx hb dX12_loop_38 (by decide) (fun h => absurd h c1000019) (fun _ => ?_)
  refine lv_iload hx hb dX12_loop_41 (lv_at hl 5 rfl) ?_
  refine lv_iconst (v := 0) hx hb dX12_loop_43 (by decide) ?_
  refine lv_bipush (v := 40) hx hb dX12_loop_44 (by decide) ?_
  obtain ⟨v1000021, hc1000020, hm⟩ := q_b1i hm
  refine q_callS C hW hS (As := [.int x5, .int 0, .int 40]) (rest := []) (st1 := [.int v1000021]) (c_X12_in l D al dt x5 0 40 v1000021 hc1000020) yl_X12_in sl_X12_in ml_RX12_376 rfl ⟨Nat.le_of_ble_eq_true rfl, Nat.le_of_ble_eq_true rfl⟩ hl rfl (Nat.le_of_ble_eq_true rfl) dX12_loop_46 ⟨Nat.le_refl _, Nat.le_refl _⟩ rfl (fun H locs k1000022 hW hS => ?_)
  refine q_ifc hm (fun c1000023 hm => ?_) (fun c1000023 hm => ?_)
  · refine lv_if_eq (tgt := 66) hx hb dX12_loop_49 (by decide) (fun _ => ?_) (fun h => absurd c1000023 h)
    refine lv_iconst (v := (-1)) hx hb dX12_loop_66 (by decide) ?_
    exact e_iD C hW hS hm dX12_loop_67
  refine lv_if_eq (tgt := 66) hx hb dX12_loop_49 (by decide) (fun h => absurd h c1000023) (fun _ => ?_)
  refine lv_aload_n hx hb dX12_loop_52 rfl (lv_at hl 0 rfl) ?_
  refine lv_iload_n hx hb dX12_loop_53 rfl (lv_at hl 1 rfl) ?_
  refine lv_iload_n hx hb dX12_loop_54 rfl (lv_at hl 2 rfl) ?_
  refine lv_iload_n hx hb dX12_loop_55 rfl (lv_at hl 3 rfl) ?_
  refine lv_iload hx hb dX12_loop_56 (lv_at hl 4 rfl) ?_
  refine lv_iload hx hb dX12_loop_58 (lv_at hl 5 rfl) ?_
  obtain ⟨v1000025, dt1000026, hc1000024, hm⟩ := q_b2i hm
  refine q_callV C hW hS (As := [.int x1, .int x2, .int x3, .int x4, .int x5]) (rest := []) (st1 := [.int v1000025]) (c_X12_loopOf l D al dt x0 x1 x2 x3 x4 x5 kx0 v1000025 dt1000026 hc1000024) yl_X12_loopOf vl_X12_loopOf ml_RX12_474 (ci := 12) rfl kx0 (by decide) rfl ⟨Nat.le_of_ble_eq_true rfl, Nat.le_of_ble_eq_true rfl⟩ hl rfl (Nat.le_of_ble_eq_true rfl) dX12_loop_60 ⟨Nat.le_refl _, Nat.le_refl _⟩ rfl (fun H locs k1000027 hW hS => ?_)
  refine lv_goto (tgt := 67) hx hb dX12_loop_63 (by decide) ?_
  exact e_iD C hW hS hm dX12_loop_67
theorem dX12_follows_0 : decode cX12_follows 0 = .ok (.aload_n 0, 1) := by decide +kernel
theorem dX12_follows_1 : decode cX12_follows 1 = .ok (.iload_n 1, 1) := by decide +kernel
theorem dX12_follows_2 : decode cX12_follows 2 = .ok (.invokevirtual 415, 3) := by decide +kernel
theorem dX12_follows_5 : decode cX12_follows 5 = .ok (.ifCond .eq 13, 3) := by decide +kernel
theorem dX12_follows_8 : decode cX12_follows 8 = .ok (.iload_n 2, 1) := by decide +kernel
theorem dX12_follows_9 : decode cX12_follows 9 = .ok (.iconst 0, 1) := by decide +kernel
theorem dX12_follows_10 : decode cX12_follows 10 = .ok (.bipush 40, 2) := by decide +kernel
theorem dX12_follows_12 : decode cX12_follows 12 = .ok (.invokestatic 376, 3) := by decide +kernel
theorem dX12_follows_15 : decode cX12_follows 15 = .ok (.ifCond .ne 5, 3) := by decide +kernel
theorem dX12_follows_18 : decode cX12_follows 18 = .ok (.iconst (-1), 1) := by decide +kernel
theorem dX12_follows_19 : decode cX12_follows 19 = .ok (.ireturn, 1) := by decide +kernel
theorem dX12_follows_20 : decode cX12_follows 20 = .ok (.aload_n 0, 1) := by decide +kernel
theorem dX12_follows_21 : decode cX12_follows 21 = .ok (.iload_n 1, 1) := by decide +kernel
theorem dX12_follows_22 : decode cX12_follows 22 = .ok (.invokevirtual 324, 3) := by decide +kernel
theorem dX12_follows_25 : decode cX12_follows 25 = .ok (.istore_n 3, 1) := by decide +kernel
theorem dX12_follows_26 : decode cX12_follows 26 = .ok (.aload_n 0, 1) := by decide +kernel
theorem dX12_follows_27 : decode cX12_follows 27 = .ok (.iload_n 3, 1) := by decide +kernel
theorem dX12_follows_28 : decode cX12_follows 28 = .ok (.invokevirtual 327, 3) := by decide +kernel
theorem dX12_follows_31 : decode cX12_follows 31 = .ok (.istore 4, 2) := by decide +kernel
theorem dX12_follows_33 : decode cX12_follows 33 = .ok (.aload_n 0, 1) := by decide +kernel
theorem dX12_follows_34 : decode cX12_follows 34 = .ok (.getfield 79, 3) := by decide +kernel
theorem dX12_follows_37 : decode cX12_follows 37 = .ok (.bipush 6, 2) := by decide +kernel
theorem dX12_follows_39 : decode cX12_follows 39 = .ok (.aload_n 0, 1) := by decide +kernel
theorem dX12_follows_40 : decode cX12_follows 40 = .ok (.getfield 242, 3) := by decide +kernel
theorem dX12_follows_43 : decode cX12_follows 43 = .ok (.imul, 1) := by decide +kernel
theorem dX12_follows_44 : decode cX12_follows 44 = .ok (.iload_n 1, 1) := by decide +kernel
theorem dX12_follows_45 : decode cX12_follows 45 = .ok (.iadd, 1) := by decide +kernel
theorem dX12_follows_46 : decode cX12_follows 46 = .ok (.iaload, 1) := by decide +kernel
theorem dX12_follows_47 : decode cX12_follows 47 = .ok (.istore 5, 2) := by decide +kernel
theorem dX12_follows_49 : decode cX12_follows 49 = .ok (.iconst 1, 1) := by decide +kernel
theorem dX12_follows_50 : decode cX12_follows 50 = .ok (.istore 6, 2) := by decide +kernel
theorem dX12_follows_52 : decode cX12_follows 52 = .ok (.iload 6, 2) := by decide +kernel
theorem dX12_follows_54 : decode cX12_follows 54 = .ok (.iload_n 2, 1) := by decide +kernel
theorem dX12_follows_55 : decode cX12_follows 55 = .ok (.if_icmp .gt 63, 3) := by decide +kernel
theorem dX12_follows_58 : decode cX12_follows 58 = .ok (.aload_n 0, 1) := by decide +kernel
theorem dX12_follows_59 : decode cX12_follows 59 = .ok (.iload_n 3, 1) := by decide +kernel
theorem dX12_follows_60 : decode cX12_follows 60 = .ok (.iload 5, 2) := by decide +kernel
theorem dX12_follows_62 : decode cX12_follows 62 = .ok (.aload_n 0, 1) := by decide +kernel
theorem dX12_follows_63 : decode cX12_follows 63 = .ok (.getfield 82, 3) := by decide +kernel
theorem dX12_follows_66 : decode cX12_follows 66 = .ok (.bipush 6, 2) := by decide +kernel
theorem dX12_follows_68 : decode cX12_follows 68 = .ok (.aload_n 0, 1) := by decide +kernel
theorem dX12_follows_69 : decode cX12_follows 69 = .ok (.getfield 242, 3) := by decide +kernel
theorem dX12_follows_72 : decode cX12_follows 72 = .ok (.imul, 1) := by decide +kernel
theorem dX12_follows_73 : decode cX12_follows 73 = .ok (.iload_n 1, 1) := by decide +kernel
theorem dX12_follows_74 : decode cX12_follows 74 = .ok (.iadd, 1) := by decide +kernel
theorem dX12_follows_75 : decode cX12_follows 75 = .ok (.iaload, 1) := by decide +kernel
theorem dX12_follows_76 : decode cX12_follows 76 = .ok (.iload 6, 2) := by decide +kernel
theorem dX12_follows_78 : decode cX12_follows 78 = .ok (.iconst 1, 1) := by decide +kernel
theorem dX12_follows_79 : decode cX12_follows 79 = .ok (.isub, 1) := by decide +kernel
theorem dX12_follows_80 : decode cX12_follows 80 = .ok (.iload 4, 2) := by decide +kernel
theorem dX12_follows_82 : decode cX12_follows 82 = .ok (.imul, 1) := by decide +kernel
theorem dX12_follows_83 : decode cX12_follows 83 = .ok (.iconst 1, 1) := by decide +kernel
theorem dX12_follows_84 : decode cX12_follows 84 = .ok (.invokevirtual 474, 3) := by decide +kernel
theorem dX12_follows_87 : decode cX12_follows 87 = .ok (.istore 5, 2) := by decide +kernel
theorem dX12_follows_89 : decode cX12_follows 89 = .ok (.iload 5, 2) := by decide +kernel
theorem dX12_follows_91 : decode cX12_follows 91 = .ok (.aload_n 0, 1) := by decide +kernel
theorem dX12_follows_92 : decode cX12_follows 92 = .ok (.iload_n 1, 1) := by decide +kernel
theorem dX12_follows_93 : decode cX12_follows 93 = .ok (.iload 6, 2) := by decide +kernel
theorem dX12_follows_95 : decode cX12_follows 95 = .ok (.iload 4, 2) := by decide +kernel
theorem dX12_follows_97 : decode cX12_follows 97 = .ok (.imul, 1) := by decide +kernel
theorem dX12_follows_98 : decode cX12_follows 98 = .ok (.invokevirtual 330, 3) := by decide +kernel
theorem dX12_follows_101 : decode cX12_follows 101 = .ok (.iload 4, 2) := by decide +kernel
theorem dX12_follows_103 : decode cX12_follows 103 = .ok (.invokestatic 441, 3) := by decide +kernel
theorem dX12_follows_106 : decode cX12_follows 106 = .ok (.iconst 1, 1) := by decide +kernel
theorem dX12_follows_107 : decode cX12_follows 107 = .ok (.if_icmp .le 5, 3) := by decide +kernel
theorem dX12_follows_110 : decode cX12_follows 110 = .ok (.iconst 0, 1) := by decide +kernel
theorem dX12_follows_111 : decode cX12_follows 111 = .ok (.ireturn, 1) := by decide +kernel
theorem dX12_follows_112 : decode cX12_follows 112 = .ok (.iinc 6 1, 3) := by decide +kernel
theorem dX12_follows_115 : decode cX12_follows 115 = .ok (.goto (-63), 3) := by decide +kernel
theorem dX12_follows_118 : decode cX12_follows 118 = .ok (.iconst 1, 1) := by decide +kernel
theorem dX12_follows_119 : decode cX12_follows 119 = .ok (.ireturn, 1) := by decide +kernel
set_option maxRecDepth 100000 in
theorem c_X12_follows (l : Launch) (D : q_D) (al : q_Al) (dt : q_Dt) (x0 : Nat) (x1 : Int32) (x2 : Int32) (kx0 : al.1 x0 = 13) (r0 : Int32) (dt0 : q_Dt) (hm : X12_follows al dt x0 x1 x2 = some (r0, dt0)) : q_Mt l yX12_follows cX12_follows 7 (some FieldType.int) 4 116 D al [.ref x0, .int x1, .int x2] dt 0 (some (.int r0)) dt0 := by
  refine q_Mt.of (by decide) (Nat.le_of_ble_eq_true rfl) ?_
  intro p e s m args below meth c ls C hargs hW hl
  have hx := C.1
  have hb := C.2.1
  have hown := C.2.2.2.2.2.1
  have hts := C.2.2.2.2.2.2.1
  have hS : va_S (q_A al) s.heap s.heap [] := va_S.rf
  have hl : lv_has ls 7 [(0, .ref x0), (1, .int x1), (2, .int x2)] := hl
  unfold X12_follows at hm
  have hB52 : ∀ (x0_52 : Nat) (x1_52 : Int32) (x2_52 : Int32) (x3_52 : Int32) (x4_52 : Int32) (kx0_52 : al.1 x0_52 = 13) (n_52 : Nat) (x5_52 : Int32) (x6_52 : Int32) (dt : q_Dt) (H : Heap) (locs : List Loc) (ls : Array Slot) (hm : X12_follows_b52 al x0_52 x1_52 x2_52 x3_52 x4_52 n_52 x5_52 x6_52 dt = some (r0, dt0)) (hW : q_W D al dt H) (hS : va_S (q_A al) s.heap H locs) (hl : lv_has ls 7 [(0, .ref x0_52), (1, .int x1_52), (2, .int x2_52), (3, .int x3_52), (4, .int x4_52), (5, .int x5_52), (6, .int x6_52)]), W p l e { frames := 4, cells := 0, slots := 0, locals := 116 } s m args below meth c H locs 0 0 (MQ below (q_Q (some (.int r0)) (fun H => q_W D al dt0 H ∧ q_Rk al 0 (some (.int r0))) (q_A al)) args s 0 0 (q_A al)) (F0 m 52 ls []) := by
    intro x0_52 x1_52 x2_52 x3_52 x4_52 kx0_52
    intro n_52
    induction n_52 with
    | zero => intro x5_52 x6_52 dt H locs ls hm hW hS hl; cases hm
    | succ n_52 ih52 =>
      intro x5_52 x6_52 dt H locs ls hm hW hS hl
      rw [X12_follows_b52] at hm
      refine lv_iload hx hb dX12_follows_52 (lv_at hl 6 rfl) ?_
      refine lv_iload_n hx hb dX12_follows_54 rfl (lv_at hl 2 rfl) ?_
      refine q_ifc hm (fun c52001 hm => ?_) (fun c52001 hm => ?_)
      · refine lv_icmp_gt (tgt := 118) hx hb dX12_follows_55 (by decide) (fun _ => ?_) (fun h => absurd c52001 h)
        refine lv_iconst (v := 1) hx hb dX12_follows_118 (by decide) ?_
        exact e_iD C hW hS hm dX12_follows_119
      refine lv_icmp_gt (tgt := 118) hx hb dX12_follows_55 (by decide) (fun h => absurd h c52001) (fun _ => ?_)
      refine lv_aload_n hx hb dX12_follows_58 rfl (lv_at hl 0 rfl) ?_
      refine lv_iload_n hx hb dX12_follows_59 rfl (lv_at hl 3 rfl) ?_
      refine lv_iload hx hb dX12_follows_60 (lv_at hl 5 rfl) ?_
      refine lv_aload_n hx hb dX12_follows_62 rfl (lv_at hl 0 rfl) ?_
      refine r_getF C hW (ci := 12) kx0_52 ff_12_35 cl_12 fl_RX12_82 dX12_follows_63 (fun k52002 => ?_)
      refine lv_bipush (v := 6) hx hb dX12_follows_66 (by decide) ?_
      refine lv_aload_n hx hb dX12_follows_68 rfl (lv_at hl 0 rfl) ?_
      refine r_getI C hW (ci := 12) kx0_52 ff_12_18 cl_12 fl_RX12_242 dX12_follows_69 ?_
      refine lv_imul hx hb dX12_follows_72 ?_
      refine lv_iload_n hx hb dX12_follows_73 rfl (lv_at hl 1 rfl) ?_
      refine lv_iadd hx hb dX12_follows_74 ?_
      refine r_iald C hW hm k52002 dX12_follows_75 (fun hm => ?_)
      refine lv_iload hx hb dX12_follows_76 (lv_at hl 6 rfl) ?_
      refine lv_iconst (v := 1) hx hb dX12_follows_78 (by decide) ?_
      refine lv_isub hx hb dX12_follows_79 ?_
      refine lv_iload hx hb dX12_follows_80 (lv_at hl 4 rfl) ?_
      refine lv_imul hx hb dX12_follows_82 ?_
      refine lv_iconst (v := 1) hx hb dX12_follows_83 (by decide) ?_
      obtain ⟨v52004, dt52005, hc52003, hm⟩ := q_b2i hm
      refine q_callV C hW hS (As := [.int x3_52, .int x5_52, .int (dt.1 (al.2.2 x0_52 35) (Int32.toNatClampNeg ((6 * (dt.1 x0_52 18)) + x1_52))), .int ((x6_52 - 1) * x4_52), .int 1]) (rest := []) (st1 := [.int v52004]) (c_X12_loopOf l D al dt x0_52 x3_52 x5_52 (dt.1 (al.2.2 x0_52 35) (Int32.toNatClampNeg ((6 * (dt.1 x0_52 18)) + x1_52))) ((x6_52 - 1) * x4_52) 1 kx0_52 v52004 dt52005 hc52003) yl_X12_loopOf vl_X12_loopOf ml_RX12_474 (ci := 12) rfl kx0_52 (by decide) rfl ⟨Nat.le_of_ble_eq_true rfl, Nat.le_of_ble_eq_true rfl⟩ hl rfl (Nat.le_of_ble_eq_true rfl) dX12_follows_84 ⟨Nat.le_refl _, Nat.le_refl _⟩ rfl (fun H locs k52006 hW hS => ?_)
      refine lv_istore (i := 5) (lv' := [(5, .int v52004), (0, .ref x0_52), (1, .int x1_52), (2, .int x2_52), (3, .int x3_52), (4, .int x4_52), (6, .int x6_52)]) hx hb dX12_follows_87 hl (by decide) rfl (fun ls hl => ?_)
      refine lv_iload hx hb dX12_follows_89 (lv_at hl 0 rfl) ?_
      refine lv_aload_n hx hb dX12_follows_91 rfl (lv_at hl 1 rfl) ?_
      refine lv_iload_n hx hb dX12_follows_92 rfl (lv_at hl 2 rfl) ?_
      refine lv_iload hx hb dX12_follows_93 (lv_at hl 6 rfl) ?_
      refine lv_iload hx hb dX12_follows_95 (lv_at hl 5 rfl) ?_
      refine lv_imul hx hb dX12_follows_97 ?_
      obtain ⟨v52008, hc52007, hm⟩ := q_b1i hm
      refine q_callV C hW hS (As := [.int x1_52, .int (x6_52 * x4_52)]) (rest := [.int v52004]) (st1 := [.int v52008, .int v52004]) (c_X12_delayAt l D al dt52005 x0_52 x1_52 (x6_52 * x4_52) kx0_52 v52008 hc52007) yl_X12_delayAt vl_X12_delayAt ml_RX12_330 (ci := 12) rfl kx0_52 (by decide) rfl ⟨Nat.le_of_ble_eq_true rfl, Nat.le_of_ble_eq_true rfl⟩ hl rfl (Nat.le_of_ble_eq_true rfl) dX12_follows_98 ⟨Nat.le_refl _, Nat.le_refl _⟩ rfl (fun H locs k52009 hW hS => ?_)
      refine lv_iload hx hb dX12_follows_101 (lv_at hl 5 rfl) ?_
      obtain ⟨v52011, hc52010, hm⟩ := q_b1i hm
      refine q_callS C hW hS (As := [.int v52004, .int v52008, .int x4_52]) (rest := []) (st1 := [.int v52011]) (c_X12_apart l D al dt52005 v52004 v52008 x4_52 v52011 hc52010) yl_X12_apart sl_X12_apart ml_RX12_441 rfl ⟨Nat.le_of_ble_eq_true rfl, Nat.le_of_ble_eq_true rfl⟩ hl rfl (Nat.le_of_ble_eq_true rfl) dX12_follows_103 ⟨Nat.le_refl _, Nat.le_refl _⟩ rfl (fun H locs k52012 hW hS => ?_)
      refine lv_iconst (v := 1) hx hb dX12_follows_106 (by decide) ?_
      refine q_ifc hm (fun c52013 hm => ?_) (fun c52013 hm => ?_)
      · refine lv_icmp_le (tgt := 112) hx hb dX12_follows_107 (by decide) (fun _ => ?_) (fun h => absurd c52013 h)
        refine lv_iinc (v := (x6_52 + 1)) (lv' := [(6, .int (x6_52 + 1)), (5, .int v52004), (0, .ref x0_52), (1, .int x1_52), (2, .int x2_52), (3, .int x3_52), (4, .int x4_52)]) hx hb dX12_follows_112 hl (k := 6) rfl rfl (by decide) rfl (fun ls hl => ?_)
        refine lv_goto (tgt := 52) hx hb dX12_follows_115 (by decide) ?_
        exact ih52 v52004 (x6_52 + 1) dt52005 _ _ _ hm hW hS (lv_sub hl [2, 3, 4, 5, 6, 1, 0] rfl)
      refine lv_icmp_le (tgt := 112) hx hb dX12_follows_107 (by decide) (fun h => absurd h c52013) (fun _ => ?_)
      refine lv_iconst (v := 0) hx hb dX12_follows_110 (by decide) ?_
      exact e_iD C hW hS hm dX12_follows_111
  refine lv_aload_n hx hb dX12_follows_0 rfl (lv_at hl 0 rfl) ?_
  refine lv_iload_n hx hb dX12_follows_1 rfl (lv_at hl 1 rfl) ?_
  obtain ⟨v1000002, hc1000001, hm⟩ := q_b1i hm
  refine q_callV C hW hS (As := [.int x1]) (rest := []) (st1 := [.int v1000002]) (c_X12_isSender l D al dt x0 x1 kx0 v1000002 hc1000001) yl_X12_isSender vl_X12_isSender ml_RX12_415 (ci := 12) rfl kx0 (by decide) rfl ⟨Nat.le_of_ble_eq_true rfl, Nat.le_of_ble_eq_true rfl⟩ hl rfl (Nat.le_of_ble_eq_true rfl) dX12_follows_2 ⟨Nat.le_refl _, Nat.le_refl _⟩ rfl (fun H locs k1000003 hW hS => ?_)
  refine q_ifc hm (fun c1000004 hm => ?_) (fun c1000004 hm => ?_)
  · refine lv_if_eq (tgt := 18) hx hb dX12_follows_5 (by decide) (fun _ => ?_) (fun h => absurd c1000004 h)
    refine lv_iconst (v := (-1)) hx hb dX12_follows_18 (by decide) ?_
    exact e_iD C hW hS hm dX12_follows_19
  refine lv_if_eq (tgt := 18) hx hb dX12_follows_5 (by decide) (fun h => absurd h c1000004) (fun _ => ?_)
  refine lv_iload_n hx hb dX12_follows_8 rfl (lv_at hl 2 rfl) ?_
  refine lv_iconst (v := 0) hx hb dX12_follows_9 (by decide) ?_
  refine lv_bipush (v := 40) hx hb dX12_follows_10 (by decide) ?_
  obtain ⟨v1000006, hc1000005, hm⟩ := q_b1i hm
  refine q_callS C hW hS (As := [.int x2, .int 0, .int 40]) (rest := []) (st1 := [.int v1000006]) (c_X12_in l D al dt x2 0 40 v1000006 hc1000005) yl_X12_in sl_X12_in ml_RX12_376 rfl ⟨Nat.le_of_ble_eq_true rfl, Nat.le_of_ble_eq_true rfl⟩ hl rfl (Nat.le_of_ble_eq_true rfl) dX12_follows_12 ⟨Nat.le_refl _, Nat.le_refl _⟩ rfl (fun H locs k1000007 hW hS => ?_)
  refine q_ifc hm (fun c1000008 hm => ?_) (fun c1000008 hm => ?_)
  · refine lv_if_ne (tgt := 20) hx hb dX12_follows_15 (by decide) (fun h => absurd c1000008 h) (fun _ => ?_)
    refine lv_iconst (v := (-1)) hx hb dX12_follows_18 (by decide) ?_
    exact e_iD C hW hS hm dX12_follows_19
  refine lv_if_ne (tgt := 20) hx hb dX12_follows_15 (by decide) (fun _ => ?_) (fun h => absurd h c1000008)
  refine lv_aload_n hx hb dX12_follows_20 rfl (lv_at hl 0 rfl) ?_
  refine lv_iload_n hx hb dX12_follows_21 rfl (lv_at hl 1 rfl) ?_
  obtain ⟨v1000010, hc1000009, hm⟩ := q_b1i hm
  refine q_callV C hW hS (As := [.int x1]) (rest := []) (st1 := [.int v1000010]) (c_X12_codeOf l D al dt x0 x1 kx0 v1000010 hc1000009) yl_X12_codeOf vl_X12_codeOf ml_RX12_324 (ci := 12) rfl kx0 (by decide) rfl ⟨Nat.le_of_ble_eq_true rfl, Nat.le_of_ble_eq_true rfl⟩ hl rfl (Nat.le_of_ble_eq_true rfl) dX12_follows_22 ⟨Nat.le_refl _, Nat.le_refl _⟩ rfl (fun H locs k1000011 hW hS => ?_)
  refine lv_istore_n (i := 3) (lv' := [(3, .int v1000010), (0, .ref x0), (1, .int x1), (2, .int x2)]) hx hb dX12_follows_25 rfl hl (by decide) rfl (fun ls hl => ?_)
  refine lv_aload_n hx hb dX12_follows_26 rfl (lv_at hl 1 rfl) ?_
  refine lv_iload_n hx hb dX12_follows_27 rfl (lv_at hl 0 rfl) ?_
  obtain ⟨v1000013, hc1000012, hm⟩ := q_b1i hm
  refine q_callV C hW hS (As := [.int v1000010]) (rest := []) (st1 := [.int v1000013]) (c_X12_long0 l D al dt x0 v1000010 kx0 v1000013 hc1000012) yl_X12_long0 vl_X12_long0 ml_RX12_327 (ci := 12) rfl kx0 (by decide) rfl ⟨Nat.le_of_ble_eq_true rfl, Nat.le_of_ble_eq_true rfl⟩ hl rfl (Nat.le_of_ble_eq_true rfl) dX12_follows_28 ⟨Nat.le_refl _, Nat.le_refl _⟩ rfl (fun H locs k1000014 hW hS => ?_)
  refine lv_istore (i := 4) (lv' := [(4, .int v1000013), (3, .int v1000010), (0, .ref x0), (1, .int x1), (2, .int x2)]) hx hb dX12_follows_31 hl (by decide) rfl (fun ls hl => ?_)
  refine lv_aload_n hx hb dX12_follows_33 rfl (lv_at hl 2 rfl) ?_
  refine r_getF C hW (ci := 12) kx0 ff_12_34 cl_12 fl_RX12_79 dX12_follows_34 (fun k1000015 => ?_)
  refine lv_bipush (v := 6) hx hb dX12_follows_37 (by decide) ?_
  refine lv_aload_n hx hb dX12_follows_39 rfl (lv_at hl 2 rfl) ?_
  refine r_getI C hW (ci := 12) kx0 ff_12_18 cl_12 fl_RX12_242 dX12_follows_40 ?_
  refine lv_imul hx hb dX12_follows_43 ?_
  refine lv_iload_n hx hb dX12_follows_44 rfl (lv_at hl 3 rfl) ?_
  refine lv_iadd hx hb dX12_follows_45 ?_
  refine r_iald C hW hm k1000015 dX12_follows_46 (fun hm => ?_)
  refine q_nmI hm (fun v1000016 ev1000016 hm => ?_)
  refine lv_istore (i := 5) (lv' := [(5, .int v1000016), (4, .int v1000013), (3, .int v1000010), (0, .ref x0), (1, .int x1), (2, .int x2)]) hx hb dX12_follows_47 hl (by decide) rfl (fun ls hl => ?_)
  refine lv_iconst (v := 1) hx hb dX12_follows_49 (by decide) ?_
  refine lv_istore (i := 6) (lv' := [(6, .int 1), (5, .int v1000016), (4, .int v1000013), (3, .int v1000010), (0, .ref x0), (1, .int x1), (2, .int x2)]) hx hb dX12_follows_50 hl (by decide) rfl (fun ls hl => ?_)
  exact hB52 x0 x1 x2 v1000010 v1000013 kx0 q_FU v1000016 1 dt _ _ _ hm hW hS (lv_sub hl [4, 5, 6, 3, 2, 1, 0] rfl)
theorem dX12_isRest_0 : decode cX12_isRest 0 = .ok (.aload_n 0, 1) := by decide +kernel
theorem dX12_isRest_1 : decode cX12_isRest 1 = .ok (.iload_n 1, 1) := by decide +kernel
theorem dX12_isRest_2 : decode cX12_isRest 2 = .ok (.invokevirtual 380, 3) := by decide +kernel
theorem dX12_isRest_5 : decode cX12_isRest 5 = .ok (.ifCond .eq 22, 3) := by decide +kernel
theorem dX12_isRest_8 : decode cX12_isRest 8 = .ok (.iload_n 2, 1) := by decide +kernel
theorem dX12_isRest_9 : decode cX12_isRest 9 = .ok (.iconst 0, 1) := by decide +kernel
theorem dX12_isRest_10 : decode cX12_isRest 10 = .ok (.aload_n 0, 1) := by decide +kernel
theorem dX12_isRest_11 : decode cX12_isRest 11 = .ok (.iload_n 1, 1) := by decide +kernel
theorem dX12_isRest_12 : decode cX12_isRest 12 = .ok (.invokevirtual 327, 3) := by decide +kernel
theorem dX12_isRest_15 : decode cX12_isRest 15 = .ok (.iconst 1, 1) := by decide +kernel
theorem dX12_isRest_16 : decode cX12_isRest 16 = .ok (.isub, 1) := by decide +kernel
theorem dX12_isRest_17 : decode cX12_isRest 17 = .ok (.invokestatic 376, 3) := by decide +kernel
theorem dX12_isRest_20 : decode cX12_isRest 20 = .ok (.ifCond .eq 7, 3) := by decide +kernel
theorem dX12_isRest_23 : decode cX12_isRest 23 = .ok (.iconst 1, 1) := by decide +kernel
theorem dX12_isRest_24 : decode cX12_isRest 24 = .ok (.goto 4, 3) := by decide +kernel
theorem dX12_isRest_27 : decode cX12_isRest 27 = .ok (.iconst 0, 1) := by decide +kernel
theorem dX12_isRest_28 : decode cX12_isRest 28 = .ok (.ireturn, 1) := by decide +kernel
set_option maxRecDepth 100000 in
theorem c_X12_isRest (l : Launch) (D : q_D) (al : q_Al) (dt : q_Dt) (x0 : Nat) (x1 : Int32) (x2 : Int32) (kx0 : al.1 x0 = 13) (r0 : Int32) (hm : X12_isRest al dt x0 x1 x2 = some r0) : q_Mt l yX12_isRest cX12_isRest 3 (some FieldType.boolean) 2 43 D al [.ref x0, .int x1, .int x2] dt 0 (some (.int r0)) dt := by
  refine q_Mt.of (by decide) (Nat.le_of_ble_eq_true rfl) ?_
  intro p e s m args below meth c ls C hargs hW hl
  have hx := C.1
  have hb := C.2.1
  have hown := C.2.2.2.2.2.1
  have hts := C.2.2.2.2.2.2.1
  have hS : va_S (q_A al) s.heap s.heap [] := va_S.rf
  have hl : lv_has ls 3 [(0, .ref x0), (1, .int x1), (2, .int x2)] := hl
  unfold X12_isRest at hm
  refine lv_aload_n hx hb dX12_isRest_0 rfl (lv_at hl 0 rfl) ?_
  refine lv_iload_n hx hb dX12_isRest_1 rfl (lv_at hl 1 rfl) ?_
  obtain ⟨v1000002, hc1000001, hm⟩ := q_b1i hm
  refine q_callV C hW hS (As := [.int x1]) (rest := []) (st1 := [.int v1000002]) (c_X12_isCode l D al dt x0 x1 kx0 v1000002 hc1000001) yl_X12_isCode vl_X12_isCode ml_RX12_380 (ci := 12) rfl kx0 (by decide) rfl ⟨Nat.le_of_ble_eq_true rfl, Nat.le_of_ble_eq_true rfl⟩ hl rfl (Nat.le_of_ble_eq_true rfl) dX12_isRest_2 ⟨Nat.le_refl _, Nat.le_refl _⟩ rfl (fun H locs k1000003 hW hS => ?_)
  refine q_ifc hm (fun c1000004 hm => ?_) (fun c1000004 hm => ?_)
  · refine lv_if_eq (tgt := 27) hx hb dX12_isRest_5 (by decide) (fun _ => ?_) (fun h => absurd c1000004 h)
    refine lv_iconst (v := 0) hx hb dX12_isRest_27 (by decide) ?_
    exact e_zl C hW hS (Or.inl rfl) hm dX12_isRest_28
  refine lv_if_eq (tgt := 27) hx hb dX12_isRest_5 (by decide) (fun h => absurd h c1000004) (fun _ => ?_)
  refine lv_iload_n hx hb dX12_isRest_8 rfl (lv_at hl 2 rfl) ?_
  refine lv_iconst (v := 0) hx hb dX12_isRest_9 (by decide) ?_
  refine lv_aload_n hx hb dX12_isRest_10 rfl (lv_at hl 0 rfl) ?_
  refine lv_iload_n hx hb dX12_isRest_11 rfl (lv_at hl 1 rfl) ?_
  obtain ⟨v1000006, hc1000005, hm⟩ := q_b1i hm
  refine q_callV C hW hS (As := [.int x1]) (rest := [.int 0, .int x2]) (st1 := [.int v1000006, .int 0, .int x2]) (c_X12_long0 l D al dt x0 x1 kx0 v1000006 hc1000005) yl_X12_long0 vl_X12_long0 ml_RX12_327 (ci := 12) rfl kx0 (by decide) rfl ⟨Nat.le_of_ble_eq_true rfl, Nat.le_of_ble_eq_true rfl⟩ hl rfl (Nat.le_of_ble_eq_true rfl) dX12_isRest_12 ⟨Nat.le_refl _, Nat.le_refl _⟩ rfl (fun H locs k1000007 hW hS => ?_)
  refine lv_iconst (v := 1) hx hb dX12_isRest_15 (by decide) ?_
  refine lv_isub hx hb dX12_isRest_16 ?_
  obtain ⟨v1000009, hc1000008, hm⟩ := q_b1i hm
  refine q_callS C hW hS (As := [.int x2, .int 0, .int (v1000006 - 1)]) (rest := []) (st1 := [.int v1000009]) (c_X12_in l D al dt x2 0 (v1000006 - 1) v1000009 hc1000008) yl_X12_in sl_X12_in ml_RX12_376 rfl ⟨Nat.le_of_ble_eq_true rfl, Nat.le_of_ble_eq_true rfl⟩ hl rfl (Nat.le_of_ble_eq_true rfl) dX12_isRest_17 ⟨Nat.le_refl _, Nat.le_refl _⟩ rfl (fun H locs k1000010 hW hS => ?_)
  refine q_ifc hm (fun c1000011 hm => ?_) (fun c1000011 hm => ?_)
  · refine lv_if_eq (tgt := 27) hx hb dX12_isRest_20 (by decide) (fun _ => ?_) (fun h => absurd c1000011 h)
    refine lv_iconst (v := 0) hx hb dX12_isRest_27 (by decide) ?_
    exact e_zl C hW hS (Or.inl rfl) hm dX12_isRest_28
  refine lv_if_eq (tgt := 27) hx hb dX12_isRest_20 (by decide) (fun h => absurd h c1000011) (fun _ => ?_)
  refine lv_iconst (v := 1) hx hb dX12_isRest_23 (by decide) ?_
  refine lv_goto (tgt := 28) hx hb dX12_isRest_24 (by decide) ?_
  exact e_zl C hW hS (Or.inr rfl) hm dX12_isRest_28
theorem dX12_meets_0 : decode cX12_meets 0 = .ok (.iconst 0, 1) := by decide +kernel
theorem dX12_meets_1 : decode cX12_meets 1 = .ok (.istore 6, 2) := by decide +kernel
theorem dX12_meets_3 : decode cX12_meets 3 = .ok (.iload 6, 2) := by decide +kernel
theorem dX12_meets_5 : decode cX12_meets 5 = .ok (.iload 5, 2) := by decide +kernel
theorem dX12_meets_7 : decode cX12_meets 7 = .ok (.if_icmp .ge 35, 3) := by decide +kernel
theorem dX12_meets_10 : decode cX12_meets 10 = .ok (.lload_n 0, 1) := by decide +kernel
theorem dX12_meets_11 : decode cX12_meets 11 = .ok (.iload 6, 2) := by decide +kernel
theorem dX12_meets_13 : decode cX12_meets 13 = .ok (.i2l, 1) := by decide +kernel
theorem dX12_meets_14 : decode cX12_meets 14 = .ok (.lload_n 2, 1) := by decide +kernel
theorem dX12_meets_15 : decode cX12_meets 15 = .ok (.lmul, 1) := by decide +kernel
theorem dX12_meets_16 : decode cX12_meets 16 = .ok (.ladd, 1) := by decide +kernel
theorem dX12_meets_17 : decode cX12_meets 17 = .ok (.iload 5, 2) := by decide +kernel
theorem dX12_meets_19 : decode cX12_meets 19 = .ok (.i2l, 1) := by decide +kernel
theorem dX12_meets_20 : decode cX12_meets 20 = .ok (.lrem, 1) := by decide +kernel
theorem dX12_meets_21 : decode cX12_meets 21 = .ok (.iload 4, 2) := by decide +kernel
theorem dX12_meets_23 : decode cX12_meets 23 = .ok (.i2l, 1) := by decide +kernel
theorem dX12_meets_24 : decode cX12_meets 24 = .ok (.lcmp, 1) := by decide +kernel
theorem dX12_meets_25 : decode cX12_meets 25 = .ok (.ifCond .ne 11, 3) := by decide +kernel
theorem dX12_meets_28 : decode cX12_meets 28 = .ok (.lload_n 0, 1) := by decide +kernel
theorem dX12_meets_29 : decode cX12_meets 29 = .ok (.iload 6, 2) := by decide +kernel
theorem dX12_meets_31 : decode cX12_meets 31 = .ok (.i2l, 1) := by decide +kernel
theorem dX12_meets_32 : decode cX12_meets 32 = .ok (.lload_n 2, 1) := by decide +kernel
theorem dX12_meets_33 : decode cX12_meets 33 = .ok (.lmul, 1) := by decide +kernel
theorem dX12_meets_34 : decode cX12_meets 34 = .ok (.ladd, 1) := by decide +kernel
theorem dX12_meets_35 : decode cX12_meets 35 = .ok (.lreturn, 1) := by decide +kernel
theorem dX12_meets_36 : decode cX12_meets 36 = .ok (.iinc 6 1, 3) := by decide +kernel
theorem dX12_meets_39 : decode cX12_meets 39 = .ok (.goto (-36), 3) := by decide +kernel
theorem dX12_meets_42 : decode cX12_meets 42 = .ok (.ldc2_w 485, 3) := by decide +kernel
theorem dX12_meets_45 : decode cX12_meets 45 = .ok (.lreturn, 1) := by decide +kernel
set_option maxRecDepth 100000 in
theorem c_X12_meets (l : Launch) (D : q_D) (al : q_Al) (dt : q_Dt) (x0 : Int64) (x2 : Int64) (x4 : Int32) (x5 : Int32) (r0 : Int64) (hm : X12_meets x0 x2 x4 x5 = some r0) : q_Mt l yX12_meets cX12_meets 7 (some FieldType.long) 0 0 D al [.long x0, .long x2, .int x4, .int x5] dt 0 (some (.long r0)) dt := by
  refine q_Mt.of (by decide) (Nat.le_of_ble_eq_true rfl) ?_
  intro p e s m args below meth c ls C hargs hW hl
  have hx := C.1
  have hb := C.2.1
  have hown := C.2.2.2.2.2.1
  have hts := C.2.2.2.2.2.2.1
  have hS : va_S (q_A al) s.heap s.heap [] := va_S.rf
  have hl : lv_has ls 7 [(0, .long x0), (2, .long x2), (4, .int x4), (5, .int x5)] := hl
  unfold X12_meets at hm
  have hB3 : ∀ (x0_3 : Int64) (x2_3 : Int64) (x4_3 : Int32) (x5_3 : Int32) (n_3 : Nat) (x6_3 : Int32) (H : Heap) (locs : List Loc) (ls : Array Slot) (hm : X12_meets_b3 x0_3 x2_3 x4_3 x5_3 n_3 x6_3 = some r0) (hW : q_W D al dt H) (hS : va_S (q_A al) s.heap H locs) (hl : lv_has ls 7 [(0, .long x0_3), (2, .long x2_3), (4, .int x4_3), (5, .int x5_3), (6, .int x6_3)]), W p l e { frames := 0, cells := 0, slots := 0, locals := 0 } s m args below meth c H locs 0 0 (MQ below (q_Q (some (.long r0)) (fun H => q_W D al dt H ∧ q_Rk al 0 (some (.long r0))) (q_A al)) args s 0 0 (q_A al)) (F0 m 3 ls []) := by
    intro x0_3 x2_3 x4_3 x5_3
    intro n_3
    induction n_3 with
    | zero => intro x6_3 H locs ls hm hW hS hl; cases hm
    | succ n_3 ih3 =>
      intro x6_3 H locs ls hm hW hS hl
      rw [X12_meets_b3] at hm
      refine lv_iload hx hb dX12_meets_3 (lv_at hl 4 rfl) ?_
      refine lv_iload hx hb dX12_meets_5 (lv_at hl 3 rfl) ?_
      refine q_ifc hm (fun c3001 hm => ?_) (fun c3001 hm => ?_)
      · refine lv_icmp_ge (tgt := 42) hx hb dX12_meets_7 (by decide) (fun _ => ?_) (fun h => absurd c3001 h)
        refine lv_ldc2 (own := RX12) (v := (-2)) hx hb hown (hts _ wc_RX12_485) dX12_meets_42 ?_
        exact e_l C hW hS hm dX12_meets_45
      refine lv_icmp_ge (tgt := 42) hx hb dX12_meets_7 (by decide) (fun h => absurd h c3001) (fun _ => ?_)
      refine lv_lload_n hx hb dX12_meets_10 rfl (lv_at hl 0 rfl) ?_
      refine lv_iload hx hb dX12_meets_11 (lv_at hl 4 rfl) ?_
      refine lv_i2l (v := (Int32.toInt64 x6_3)) hx hb dX12_meets_13 rfl ?_
      refine lv_lload_n hx hb dX12_meets_14 rfl (lv_at hl 1 rfl) ?_
      refine lv_lmul hx hb dX12_meets_15 ?_
      refine lv_ladd hx hb dX12_meets_16 ?_
      refine lv_iload hx hb dX12_meets_17 (lv_at hl 3 rfl) ?_
      refine lv_i2l (v := (Int32.toInt64 x5_3)) hx hb dX12_meets_19 rfl ?_
      obtain ⟨c3002, hm⟩ := q_ini hm
      refine lv_lrem hx hb dX12_meets_20 c3002 ?_
      refine lv_iload hx hb dX12_meets_21 (lv_at hl 2 rfl) ?_
      refine lv_i2l (v := (Int32.toInt64 x4_3)) hx hb dX12_meets_23 rfl ?_
      refine W.lcmp hx hb dX12_meets_24 ?_
      refine q_ifc hm (fun c3003 hm => ?_) (fun c3003 hm => ?_)
      · refine lv_if_ne (tgt := 36) hx hb dX12_meets_25 (by decide) (fun h => absurd (q_cmp_eq.mpr c3003) h) (fun _ => ?_)
        refine lv_lload_n hx hb dX12_meets_28 rfl (lv_at hl 0 rfl) ?_
        refine lv_iload hx hb dX12_meets_29 (lv_at hl 4 rfl) ?_
        refine lv_i2l (v := (Int32.toInt64 x6_3)) hx hb dX12_meets_31 rfl ?_
        refine lv_lload_n hx hb dX12_meets_32 rfl (lv_at hl 1 rfl) ?_
        refine lv_lmul hx hb dX12_meets_33 ?_
        refine lv_ladd hx hb dX12_meets_34 ?_
        exact e_l C hW hS hm dX12_meets_35
      refine lv_if_ne (tgt := 36) hx hb dX12_meets_25 (by decide) (fun _ => ?_) (fun h => absurd (q_cmp_eq.mp h) c3003)
      refine lv_iinc (v := (x6_3 + 1)) (lv' := [(6, .int (x6_3 + 1)), (0, .long x0_3), (2, .long x2_3), (4, .int x4_3), (5, .int x5_3)]) hx hb dX12_meets_36 hl (k := 4) rfl rfl (by decide) rfl (fun ls hl => ?_)
      refine lv_goto (tgt := 3) hx hb dX12_meets_39 (by decide) ?_
      exact ih3 (x6_3 + 1) _ _ _ hm hW hS (lv_sub hl [1, 2, 3, 4, 0] rfl)
  refine lv_iconst (v := 0) hx hb dX12_meets_0 (by decide) ?_
  refine lv_istore (i := 6) (lv' := [(6, .int 0), (0, .long x0), (2, .long x2), (4, .int x4), (5, .int x5)]) hx hb dX12_meets_1 hl (by decide) rfl (fun ls hl => ?_)
  exact hB3 x0 x2 x4 x5 q_FU 0 _ _ _ hm hW hS (lv_sub hl [1, 2, 3, 4, 0] rfl)
