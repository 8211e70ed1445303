theorem dX12_peak_0 : decode cX12_peak 0 = .ok (.aload_n 0, 1) := by decide +kernel
theorem dX12_peak_1 : decode cX12_peak 1 = .ok (.iload_n 1, 1) := by decide +kernel
theorem dX12_peak_2 : decode cX12_peak 2 = .ok (.iload_n 3, 1) := by decide +kernel
theorem dX12_peak_3 : decode cX12_peak 3 = .ok (.iload 4, 2) := by decide +kernel
theorem dX12_peak_5 : decode cX12_peak 5 = .ok (.invokevirtual 428, 3) := by decide +kernel
theorem dX12_peak_8 : decode cX12_peak 8 = .ok (.ifCond .eq 28, 3) := by decide +kernel
theorem dX12_peak_11 : decode cX12_peak 11 = .ok (.iload_n 2, 1) := by decide +kernel
theorem dX12_peak_12 : decode cX12_peak 12 = .ok (.iconst 0, 1) := by decide +kernel
theorem dX12_peak_13 : decode cX12_peak 13 = .ok (.iconst 3, 1) := by decide +kernel
theorem dX12_peak_14 : decode cX12_peak 14 = .ok (.invokestatic 376, 3) := by decide +kernel
theorem dX12_peak_17 : decode cX12_peak 17 = .ok (.ifCond .eq 19, 3) := by decide +kernel
theorem dX12_peak_20 : decode cX12_peak 20 = .ok (.iload 5, 2) := by decide +kernel
theorem dX12_peak_22 : decode cX12_peak 22 = .ok (.iconst 0, 1) := by decide +kernel
theorem dX12_peak_23 : decode cX12_peak 23 = .ok (.aload_n 0, 1) := by decide +kernel
theorem dX12_peak_24 : decode cX12_peak 24 = .ok (.iload_n 1, 1) := by decide +kernel
theorem dX12_peak_25 : decode cX12_peak 25 = .ok (.invokevirtual 327, 3) := by decide +kernel
theorem dX12_peak_28 : decode cX12_peak 28 = .ok (.iconst 1, 1) := by decide +kernel
theorem dX12_peak_29 : decode cX12_peak 29 = .ok (.isub, 1) := by decide +kernel
theorem dX12_peak_30 : decode cX12_peak 30 = .ok (.invokestatic 376, 3) := by decide +kernel
theorem dX12_peak_33 : decode cX12_peak 33 = .ok (.ifCond .ne 5, 3) := by decide +kernel
theorem dX12_peak_36 : decode cX12_peak 36 = .ok (.iconst (-1), 1) := by decide +kernel
theorem dX12_peak_37 : decode cX12_peak 37 = .ok (.ireturn, 1) := by decide +kernel
theorem dX12_peak_38 : decode cX12_peak 38 = .ok (.iconst 0, 1) := by decide +kernel
theorem dX12_peak_39 : decode cX12_peak 39 = .ok (.istore 6, 2) := by decide +kernel
theorem dX12_peak_41 : decode cX12_peak 41 = .ok (.iload 6, 2) := by decide +kernel
theorem dX12_peak_43 : decode cX12_peak 43 = .ok (.aload_n 0, 1) := by decide +kernel
theorem dX12_peak_44 : decode cX12_peak 44 = .ok (.iload_n 1, 1) := by decide +kernel
theorem dX12_peak_45 : decode cX12_peak 45 = .ok (.invokevirtual 327, 3) := by decide +kernel
theorem dX12_peak_48 : decode cX12_peak 48 = .ok (.if_icmp .ge 30, 3) := by decide +kernel
theorem dX12_peak_51 : decode cX12_peak 51 = .ok (.aload_n 0, 1) := by decide +kernel
theorem dX12_peak_52 : decode cX12_peak 52 = .ok (.getfield 155, 3) := by decide +kernel
theorem dX12_peak_55 : decode cX12_peak 55 = .ok (.iload 6, 2) := by decide +kernel
theorem dX12_peak_57 : decode cX12_peak 57 = .ok (.aload_n 0, 1) := by decide +kernel
theorem dX12_peak_58 : decode cX12_peak 58 = .ok (.iload_n 1, 1) := by decide +kernel
theorem dX12_peak_59 : decode cX12_peak 59 = .ok (.iconst 4, 1) := by decide +kernel
theorem dX12_peak_60 : decode cX12_peak 60 = .ok (.iload 6, 2) := by decide +kernel
theorem dX12_peak_62 : decode cX12_peak 62 = .ok (.imul, 1) := by decide +kernel
theorem dX12_peak_63 : decode cX12_peak 63 = .ok (.iload_n 2, 1) := by decide +kernel
theorem dX12_peak_64 : decode cX12_peak 64 = .ok (.iadd, 1) := by decide +kernel
theorem dX12_peak_65 : decode cX12_peak 65 = .ok (.iload_n 3, 1) := by decide +kernel
theorem dX12_peak_66 : decode cX12_peak 66 = .ok (.iload 4, 2) := by decide +kernel
theorem dX12_peak_68 : decode cX12_peak 68 = .ok (.invokevirtual 434, 3) := by decide +kernel
theorem dX12_peak_71 : decode cX12_peak 71 = .ok (.lastore, 1) := by decide +kernel
theorem dX12_peak_72 : decode cX12_peak 72 = .ok (.iinc 6 1, 3) := by decide +kernel
theorem dX12_peak_75 : decode cX12_peak 75 = .ok (.goto (-34), 3) := by decide +kernel
theorem dX12_peak_78 : decode cX12_peak 78 = .ok (.iconst 0, 1) := by decide +kernel
theorem dX12_peak_79 : decode cX12_peak 79 = .ok (.istore 6, 2) := by decide +kernel
theorem dX12_peak_81 : decode cX12_peak 81 = .ok (.iload 6, 2) := by decide +kernel
theorem dX12_peak_83 : decode cX12_peak 83 = .ok (.aload_n 0, 1) := by decide +kernel
theorem dX12_peak_84 : decode cX12_peak 84 = .ok (.iload_n 1, 1) := by decide +kernel
theorem dX12_peak_85 : decode cX12_peak 85 = .ok (.invokevirtual 327, 3) := by decide +kernel
theorem dX12_peak_88 : decode cX12_peak 88 = .ok (.if_icmp .ge 87, 3) := by decide +kernel
theorem dX12_peak_91 : decode cX12_peak 91 = .ok (.iconst 0, 1) := by decide +kernel
theorem dX12_peak_92 : decode cX12_peak 92 = .ok (.istore 7, 2) := by decide +kernel
theorem dX12_peak_94 : decode cX12_peak 94 = .ok (.iconst 0, 1) := by decide +kernel
theorem dX12_peak_95 : decode cX12_peak 95 = .ok (.istore 8, 2) := by decide +kernel
theorem dX12_peak_97 : decode cX12_peak 97 = .ok (.iload 8, 2) := by decide +kernel
theorem dX12_peak_99 : decode cX12_peak 99 = .ok (.aload_n 0, 1) := by decide +kernel
theorem dX12_peak_100 : decode cX12_peak 100 = .ok (.iload_n 1, 1) := by decide +kernel
theorem dX12_peak_101 : decode cX12_peak 101 = .ok (.invokevirtual 327, 3) := by decide +kernel
theorem dX12_peak_104 : decode cX12_peak 104 = .ok (.if_icmp .ge 55, 3) := by decide +kernel
theorem dX12_peak_107 : decode cX12_peak 107 = .ok (.aload_n 0, 1) := by decide +kernel
theorem dX12_peak_108 : decode cX12_peak 108 = .ok (.getfield 155, 3) := by decide +kernel
theorem dX12_peak_111 : decode cX12_peak 111 = .ok (.iload 8, 2) := by decide +kernel
theorem dX12_peak_113 : decode cX12_peak 113 = .ok (.laload, 1) := by decide +kernel
theorem dX12_peak_114 : decode cX12_peak 114 = .ok (.aload_n 0, 1) := by decide +kernel
theorem dX12_peak_115 : decode cX12_peak 115 = .ok (.getfield 155, 3) := by decide +kernel
theorem dX12_peak_118 : decode cX12_peak 118 = .ok (.iload 6, 2) := by decide +kernel
theorem dX12_peak_120 : decode cX12_peak 120 = .ok (.laload, 1) := by decide +kernel
theorem dX12_peak_121 : decode cX12_peak 121 = .ok (.lcmp, 1) := by decide +kernel
theorem dX12_peak_122 : decode cX12_peak 122 = .ok (.ifCond .gt 28, 3) := by decide +kernel
theorem dX12_peak_125 : decode cX12_peak 125 = .ok (.aload_n 0, 1) := by decide +kernel
theorem dX12_peak_126 : decode cX12_peak 126 = .ok (.getfield 155, 3) := by decide +kernel
theorem dX12_peak_129 : decode cX12_peak 129 = .ok (.iload 8, 2) := by decide +kernel
theorem dX12_peak_131 : decode cX12_peak 131 = .ok (.laload, 1) := by decide +kernel
theorem dX12_peak_132 : decode cX12_peak 132 = .ok (.aload_n 0, 1) := by decide +kernel
theorem dX12_peak_133 : decode cX12_peak 133 = .ok (.getfield 155, 3) := by decide +kernel
theorem dX12_peak_136 : decode cX12_peak 136 = .ok (.iload 6, 2) := by decide +kernel
theorem dX12_peak_138 : decode cX12_peak 138 = .ok (.laload, 1) := by decide +kernel
theorem dX12_peak_139 : decode cX12_peak 139 = .ok (.lcmp, 1) := by decide +kernel
theorem dX12_peak_140 : decode cX12_peak 140 = .ok (.ifCond .ne 13, 3) := by decide +kernel
theorem dX12_peak_143 : decode cX12_peak 143 = .ok (.iload 8, 2) := by decide +kernel
theorem dX12_peak_145 : decode cX12_peak 145 = .ok (.iload 6, 2) := by decide +kernel
theorem dX12_peak_147 : decode cX12_peak 147 = .ok (.if_icmp .ge 6, 3) := by decide +kernel
theorem dX12_peak_150 : decode cX12_peak 150 = .ok (.iinc 7 1, 3) := by decide +kernel
theorem dX12_peak_153 : decode cX12_peak 153 = .ok (.iinc 8 1, 3) := by decide +kernel
theorem dX12_peak_156 : decode cX12_peak 156 = .ok (.goto (-59), 3) := by decide +kernel
theorem dX12_peak_159 : decode cX12_peak 159 = .ok (.iload 7, 2) := by decide +kernel
theorem dX12_peak_161 : decode cX12_peak 161 = .ok (.iload 5, 2) := by decide +kernel
theorem dX12_peak_163 : decode cX12_peak 163 = .ok (.if_icmp .ne 6, 3) := by decide +kernel
theorem dX12_peak_166 : decode cX12_peak 166 = .ok (.iload 6, 2) := by decide +kernel
theorem dX12_peak_168 : decode cX12_peak 168 = .ok (.ireturn, 1) := by decide +kernel
theorem dX12_peak_169 : decode cX12_peak 169 = .ok (.iinc 6 1, 3) := by decide +kernel
theorem dX12_peak_172 : decode cX12_peak 172 = .ok (.goto (-91), 3) := by decide +kernel
theorem dX12_peak_175 : decode cX12_peak 175 = .ok (.iconst (-1), 1) := by decide +kernel
theorem dX12_peak_176 : decode cX12_peak 176 = .ok (.ireturn, 1) := by decide +kernel
set_option maxRecDepth 100000 in
theorem c_X12_peak (l : Launch) (D : q_D) (al : q_Al) (dt : q_Dt) (x0 : Nat) (x1 : Int32) (x2 : Int32) (x3 : Int32) (x4 : Int32) (x5 : Int32) (kx0 : al.1 x0 = 13) (r0 : Int32) (dt0 : q_Dt) (hm : X12_peak al dt x0 x1 x2 x3 x4 x5 = some (r0, dt0)) : q_Mt l yX12_peak cX12_peak 9 (some FieldType.int) 3 79 D al [.ref x0, .int x1, .int x2, .int x3, .int x4, .int x5] dt 0 (some (.int r0)) dt0 := by
  refine q_Mt.of (by decide) (Nat.le_of_ble_eq_true rfl) ?_
  intro p e s m args below meth c ls C hargs hW hl
  have hx := C.1
  have hb := C.2.1
  have hown := C.2.2.2.2.2.1
  have hts := C.2.2.2.2.2.2.1
  have hS : va_S (q_A al) s.heap s.heap [] := va_S.rf
  have hl : lv_has ls 9 [(0, .ref x0), (1, .int x1), (2, .int x2), (3, .int x3), (4, .int x4), (5, .int x5)] := hl
  unfold X12_peak at hm
  have hB81 : ∀ (x0_81 : Nat) (x1_81 : Int32) (x5_81 : Int32) (kx0_81 : al.1 x0_81 = 13) (n_81 : Nat) (x6_81 : Int32) (dt : q_Dt) (H : Heap) (locs : List Loc) (ls : Array Slot) (hm : X12_peak_b81 al x0_81 x1_81 x5_81 n_81 x6_81 dt = some (r0, dt0)) (hW : q_W D al dt H) (hS : va_S (q_A al) s.heap H locs) (hl : lv_has ls 9 [(0, .ref x0_81), (1, .int x1_81), (5, .int x5_81), (6, .int x6_81)]), W p l e { frames := 3, cells := 0, slots := 0, locals := 79 } s m args below meth c H locs 0 0 (MQ below (q_Q (some (.int r0)) (fun H => q_W D al dt0 H ∧ q_Rk al 0 (some (.int r0))) (q_A al)) args s 0 0 (q_A al)) (F0 m 81 ls []) := by
    intro x0_81 x1_81 x5_81 kx0_81
    intro n_81
    induction n_81 with
    | zero => intro x6_81 dt H locs ls hm hW hS hl; cases hm
    | succ n_81 ih81 =>
      have hB97 : ∀ (x6_97 : Int32) (n_97 : Nat) (x7_97 : Int32) (x8_97 : Int32) (dt : q_Dt) (H : Heap) (locs : List Loc) (ls : Array Slot) (hm : X12_peak_b97 al (X12_peak_b81 al x0_81 x1_81 x5_81 n_81) x0_81 x1_81 x5_81 x6_97 n_97 x7_97 x8_97 dt = some (r0, dt0)) (hW : q_W D al dt H) (hS : va_S (q_A al) s.heap H locs) (hl : lv_has ls 9 [(0, .ref x0_81), (1, .int x1_81), (5, .int x5_81), (6, .int x6_97), (7, .int x7_97), (8, .int x8_97)]), W p l e { frames := 3, cells := 0, slots := 0, locals := 79 } s m args below meth c H locs 0 0 (MQ below (q_Q (some (.int r0)) (fun H => q_W D al dt0 H ∧ q_Rk al 0 (some (.int r0))) (q_A al)) args s 0 0 (q_A al)) (F0 m 97 ls []) := by
        intro x6_97
        intro n_97
        induction n_97 with
        | zero => intro x7_97 x8_97 dt H locs ls hm hW hS hl; cases hm
        | succ n_97 ih97 =>
          have hB153 : ∀ (x7_153 : Int32) (x8_153 : Int32) (dt : q_Dt) (H : Heap) (locs : List Loc) (ls : Array Slot) (hm : X12_peak_b153 al (X12_peak_b81 al x0_81 x1_81 x5_81 n_81) (X12_peak_b97 al (X12_peak_b81 al x0_81 x1_81 x5_81 n_81) x0_81 x1_81 x5_81 x6_97 n_97) x0_81 x1_81 x5_81 x6_97 x7_153 x8_153 dt = some (r0, dt0)) (hW : q_W D al dt H) (hS : va_S (q_A al) s.heap H locs) (hl : lv_has ls 9 [(0, .ref x0_81), (1, .int x1_81), (5, .int x5_81), (6, .int x6_97), (7, .int x7_153), (8, .int x8_153)]), W p l e { frames := 3, cells := 0, slots := 0, locals := 79 } s m args below meth c H locs 0 0 (MQ below (q_Q (some (.int r0)) (fun H => q_W D al dt0 H ∧ q_Rk al 0 (some (.int r0))) (q_A al)) args s 0 0 (q_A al)) (F0 m 153 ls []) := by
            intro x7_153 x8_153 dt H locs ls hm hW hS hl
            unfold X12_peak_b153 at hm
            refine lv_iinc (v := (x8_153 + 1)) (lv' := [(8, .int (x8_153 + 1)), (0, .ref x0_81), (1, .int x1_81), (5, .int x5_81), (6, .int x6_97), (7, .int x7_153)]) hx hb dX12_peak_153 hl (k := 5) rfl rfl (by decide) rfl (fun ls hl => ?_)
            refine lv_goto (tgt := 97) hx hb dX12_peak_156 (by decide) ?_
            exact ih97 x7_153 (x8_153 + 1) dt _ _ _ hm hW hS (lv_sub hl [1, 2, 3, 4, 5, 0] rfl)
          have hB150 : ∀ (x7_150 : Int32) (x8_150 : Int32) (dt : q_Dt) (H : Heap) (locs : List Loc) (ls : Array Slot) (hm : X12_peak_b150 al (X12_peak_b81 al x0_81 x1_81 x5_81 n_81) (X12_peak_b97 al (X12_peak_b81 al x0_81 x1_81 x5_81 n_81) x0_81 x1_81 x5_81 x6_97 n_97) x0_81 x1_81 x5_81 x6_97 x7_150 x8_150 dt = some (r0, dt0)) (hW : q_W D al dt H) (hS : va_S (q_A al) s.heap H locs) (hl : lv_has ls 9 [(0, .ref x0_81), (1, .int x1_81), (5, .int x5_81), (6, .int x6_97), (7, .int x7_150), (8, .int x8_150)]), W p l e { frames := 3, cells := 0, slots := 0, locals := 79 } s m args below meth c H locs 0 0 (MQ below (q_Q (some (.int r0)) (fun H => q_W D al dt0 H ∧ q_Rk al 0 (some (.int r0))) (q_A al)) args s 0 0 (q_A al)) (F0 m 150 ls []) := by
            intro x7_150 x8_150 dt H locs ls hm hW hS hl
            unfold X12_peak_b150 at hm
            refine lv_iinc (v := (x7_150 + 1)) (lv' := [(7, .int (x7_150 + 1)), (0, .ref x0_81), (1, .int x1_81), (5, .int x5_81), (6, .int x6_97), (8, .int x8_150)]) hx hb dX12_peak_150 hl (k := 4) rfl rfl (by decide) rfl (fun ls hl => ?_)
            exact hB153 (x7_150 + 1) x8_150 dt _ _ _ hm hW hS (lv_sub hl [1, 2, 3, 4, 0, 5] rfl)
          intro x7_97 x8_97 dt H locs ls hm hW hS hl
          rw [X12_peak_b97] at hm
          refine lv_iload hx hb dX12_peak_97 (lv_at hl 5 rfl) ?_
          refine lv_aload_n hx hb dX12_peak_99 rfl (lv_at hl 0 rfl) ?_
          refine lv_iload_n hx hb dX12_peak_100 rfl (lv_at hl 1 rfl) ?_
          obtain ⟨v97002, hc97001, hm⟩ := q_b1i hm
          refine q_callV C hW hS (As := [.int x1_81]) (rest := [.int x8_97]) (st1 := [.int v97002, .int x8_97]) (c_X12_long0 l D al dt x0_81 x1_81 kx0_81 v97002 hc97001) yl_X12_long0 vl_X12_long0 ml_RX12_327 (ci := 12) rfl kx0_81 (by decide) rfl ⟨Nat.le_of_ble_eq_true rfl, Nat.le_of_ble_eq_true rfl⟩ hl rfl (Nat.le_of_ble_eq_true rfl) dX12_peak_101 ⟨Nat.le_refl _, Nat.le_refl _⟩ rfl (fun H locs k97003 hW hS => ?_)
          refine q_ifc hm (fun c97004 hm => ?_) (fun c97004 hm => ?_)
          · refine lv_icmp_ge (tgt := 159) hx hb dX12_peak_104 (by decide) (fun _ => ?_) (fun h => absurd c97004 h)
            refine lv_iload hx hb dX12_peak_159 (lv_at hl 4 rfl) ?_
            refine lv_iload hx hb dX12_peak_161 (lv_at hl 2 rfl) ?_
            refine q_ifc hm (fun c97005 hm => ?_) (fun c97005 hm => ?_)
            · refine lv_icmp_ne (tgt := 169) hx hb dX12_peak_163 (by decide) (fun h => absurd c97005 h) (fun _ => ?_)
              refine lv_iload hx hb dX12_peak_166 (lv_at hl 3 rfl) ?_
              exact e_iD C hW hS hm dX12_peak_168
            refine lv_icmp_ne (tgt := 169) hx hb dX12_peak_163 (by decide) (fun _ => ?_) (fun h => absurd h c97005)
            refine lv_iinc (v := (x6_97 + 1)) (lv' := [(6, .int (x6_97 + 1)), (0, .ref x0_81), (1, .int x1_81), (5, .int x5_81), (7, .int x7_97), (8, .int x8_97)]) hx hb dX12_peak_169 hl (k := 3) rfl rfl (by decide) rfl (fun ls hl => ?_)
            refine lv_goto (tgt := 81) hx hb dX12_peak_172 (by decide) ?_
            exact ih81 (x6_97 + 1) dt _ _ _ hm hW hS (lv_sub hl [1, 2, 3, 0] rfl)
          refine lv_icmp_ge (tgt := 159) hx hb dX12_peak_104 (by decide) (fun h => absurd h c97004) (fun _ => ?_)
          refine lv_aload_n hx hb dX12_peak_107 rfl (lv_at hl 0 rfl) ?_
          refine r_getF C hW (ci := 12) kx0_81 ff_12_62 cl_12 fl_RX12_155 dX12_peak_108 (fun k97006 => ?_)
          refine lv_iload hx hb dX12_peak_111 (lv_at hl 5 rfl) ?_
          refine r_lald C hW hm k97006 dX12_peak_113 (fun hm => ?_)
          refine lv_aload_n hx hb dX12_peak_114 rfl (lv_at hl 0 rfl) ?_
          refine r_getF C hW (ci := 12) kx0_81 ff_12_62 cl_12 fl_RX12_155 dX12_peak_115 (fun k97007 => ?_)
          refine lv_iload hx hb dX12_peak_118 (lv_at hl 3 rfl) ?_
          refine r_lald C hW hm k97007 dX12_peak_120 (fun hm => ?_)
          refine W.lcmp hx hb dX12_peak_121 ?_
          refine q_ifc hm (fun c97008 hm => ?_) (fun c97008 hm => ?_)
          · refine lv_if_gt (tgt := 150) hx hb dX12_peak_122 (by decide) (fun _ => ?_) (fun h => absurd (q_cmp_gt.mpr c97008) h)
            exact hB150 x7_97 x8_97 dt _ _ _ hm hW hS (lv_sub hl [0, 1, 2, 3, 4, 5] rfl)
          refine lv_if_gt (tgt := 150) hx hb dX12_peak_122 (by decide) (fun h => absurd (q_cmp_gt.mp h) c97008) (fun _ => ?_)
          refine lv_aload_n hx hb dX12_peak_125 rfl (lv_at hl 0 rfl) ?_
          refine r_getF C hW (ci := 12) kx0_81 ff_12_62 cl_12 fl_RX12_155 dX12_peak_126 (fun k97009 => ?_)
          refine lv_iload hx hb dX12_peak_129 (lv_at hl 5 rfl) ?_
          refine r_lald C hW hm k97009 dX12_peak_131 (fun hm => ?_)
          refine lv_aload_n hx hb dX12_peak_132 rfl (lv_at hl 0 rfl) ?_
          refine r_getF C hW (ci := 12) kx0_81 ff_12_62 cl_12 fl_RX12_155 dX12_peak_133 (fun k97010 => ?_)
          refine lv_iload hx hb dX12_peak_136 (lv_at hl 3 rfl) ?_
          refine r_lald C hW hm k97010 dX12_peak_138 (fun hm => ?_)
          refine W.lcmp hx hb dX12_peak_139 ?_
          refine q_ifc hm (fun c97011 hm => ?_) (fun c97011 hm => ?_)
          · refine lv_if_ne (tgt := 153) hx hb dX12_peak_140 (by decide) (fun h => absurd (q_cmp_eq.mpr c97011) h) (fun _ => ?_)
            refine lv_iload hx hb dX12_peak_143 (lv_at hl 5 rfl) ?_
            refine lv_iload hx hb dX12_peak_145 (lv_at hl 3 rfl) ?_
            refine q_ifc hm (fun c97012 hm => ?_) (fun c97012 hm => ?_)
            · refine lv_icmp_ge (tgt := 153) hx hb dX12_peak_147 (by decide) (fun _ => ?_) (fun h => absurd c97012 h)
              exact hB153 x7_97 x8_97 dt _ _ _ hm hW hS (lv_sub hl [0, 1, 2, 3, 4, 5] rfl)
            refine lv_icmp_ge (tgt := 153) hx hb dX12_peak_147 (by decide) (fun h => absurd h c97012) (fun _ => ?_)
            exact hB150 x7_97 x8_97 dt _ _ _ hm hW hS (lv_sub hl [0, 1, 2, 3, 4, 5] rfl)
          refine lv_if_ne (tgt := 153) hx hb dX12_peak_140 (by decide) (fun _ => ?_) (fun h => absurd (q_cmp_eq.mp h) c97011)
          exact hB153 x7_97 x8_97 dt _ _ _ hm hW hS (lv_sub hl [0, 1, 2, 3, 4, 5] rfl)
      intro x6_81 dt H locs ls hm hW hS hl
      rw [X12_peak_b81] at hm
      refine lv_iload hx hb dX12_peak_81 (lv_at hl 3 rfl) ?_
      refine lv_aload_n hx hb dX12_peak_83 rfl (lv_at hl 0 rfl) ?_
      refine lv_iload_n hx hb dX12_peak_84 rfl (lv_at hl 1 rfl) ?_
      obtain ⟨v81002, hc81001, hm⟩ := q_b1i hm
      refine q_callV C hW hS (As := [.int x1_81]) (rest := [.int x6_81]) (st1 := [.int v81002, .int x6_81]) (c_X12_long0 l D al dt x0_81 x1_81 kx0_81 v81002 hc81001) yl_X12_long0 vl_X12_long0 ml_RX12_327 (ci := 12) rfl kx0_81 (by decide) rfl ⟨Nat.le_of_ble_eq_true rfl, Nat.le_of_ble_eq_true rfl⟩ hl rfl (Nat.le_of_ble_eq_true rfl) dX12_peak_85 ⟨Nat.le_refl _, Nat.le_refl _⟩ rfl (fun H locs k81003 hW hS => ?_)
      refine q_ifc hm (fun c81004 hm => ?_) (fun c81004 hm => ?_)
      · refine lv_icmp_ge (tgt := 175) hx hb dX12_peak_88 (by decide) (fun _ => ?_) (fun h => absurd c81004 h)
        refine lv_iconst (v := (-1)) hx hb dX12_peak_175 (by decide) ?_
        exact e_iD C hW hS hm dX12_peak_176
      refine lv_icmp_ge (tgt := 175) hx hb dX12_peak_88 (by decide) (fun h => absurd h c81004) (fun _ => ?_)
      refine lv_iconst (v := 0) hx hb dX12_peak_91 (by decide) ?_
      refine lv_istore (i := 7) (lv' := [(7, .int 0), (0, .ref x0_81), (1, .int x1_81), (5, .int x5_81), (6, .int x6_81)]) hx hb dX12_peak_92 hl (by decide) rfl (fun ls hl => ?_)
      refine lv_iconst (v := 0) hx hb dX12_peak_94 (by decide) ?_
      refine lv_istore (i := 8) (lv' := [(8, .int 0), (7, .int 0), (0, .ref x0_81), (1, .int x1_81), (5, .int x5_81), (6, .int x6_81)]) hx hb dX12_peak_95 hl (by decide) rfl (fun ls hl => ?_)
      exact hB97 x6_81 q_FU 0 0 dt _ _ _ hm hW hS (lv_sub hl [2, 3, 4, 5, 1, 0] rfl)
  have hB41 : ∀ (x0_41 : Nat) (x1_41 : Int32) (x2_41 : Int32) (x3_41 : Int32) (x4_41 : Int32) (x5_41 : Int32) (kx0_41 : al.1 x0_41 = 13) (n_41 : Nat) (x6_41 : Int32) (dt : q_Dt) (H : Heap) (locs : List Loc) (ls : Array Slot) (hm : X12_peak_b41 al x0_41 x1_41 x2_41 x3_41 x4_41 x5_41 n_41 x6_41 dt = some (r0, dt0)) (hW : q_W D al dt H) (hS : va_S (q_A al) s.heap H locs) (hl : lv_has ls 9 [(0, .ref x0_41), (1, .int x1_41), (2, .int x2_41), (3, .int x3_41), (4, .int x4_41), (5, .int x5_41), (6, .int x6_41)]), W p l e { frames := 3, cells := 0, slots := 0, locals := 79 } s m args below meth c H locs 0 0 (MQ below (q_Q (some (.int r0)) (fun H => q_W D al dt0 H ∧ q_Rk al 0 (some (.int r0))) (q_A al)) args s 0 0 (q_A al)) (F0 m 41 ls []) := by
    intro x0_41 x1_41 x2_41 x3_41 x4_41 x5_41 kx0_41
    intro n_41
    induction n_41 with
    | zero => intro x6_41 dt H locs ls hm hW hS hl; cases hm
    | succ n_41 ih41 =>
      intro x6_41 dt H locs ls hm hW hS hl
      rw [X12_peak_b41] at hm
      refine lv_iload hx hb dX12_peak_41 (lv_at hl 6 rfl) ?_
      refine lv_aload_n hx hb dX12_peak_43 rfl (lv_at hl 0 rfl) ?_
      refine lv_iload_n hx hb dX12_peak_44 rfl (lv_at hl 1 rfl) ?_
      obtain ⟨v41002, hc41001, hm⟩ := q_b1i hm
      refine q_callV C hW hS (As := [.int x1_41]) (rest := [.int x6_41]) (st1 := [.int v41002, .int x6_41]) (c_X12_long0 l D al dt x0_41 x1_41 kx0_41 v41002 hc41001) yl_X12_long0 vl_X12_long0 ml_RX12_327 (ci := 12) rfl kx0_41 (by decide) rfl ⟨Nat.le_of_ble_eq_true rfl, Nat.le_of_ble_eq_true rfl⟩ hl rfl (Nat.le_of_ble_eq_true rfl) dX12_peak_45 ⟨Nat.le_refl _, Nat.le_refl _⟩ rfl (fun H locs k41003 hW hS => ?_)
      refine q_ifc hm (fun c41004 hm => ?_) (fun c41004 hm => ?_)
      · refine lv_icmp_ge (tgt := 78) hx hb dX12_peak_48 (by decide) (fun _ => ?_) (fun h => absurd c41004 h)
        refine lv_iconst (v := 0) hx hb dX12_peak_78 (by decide) ?_
        refine lv_istore (i := 6) (lv' := [(6, .int 0), (0, .ref x0_41), (1, .int x1_41), (2, .int x2_41), (3, .int x3_41), (4, .int x4_41), (5, .int x5_41)]) hx hb dX12_peak_79 hl (by decide) rfl (fun ls hl => ?_)
        exact hB81 x0_41 x1_41 x5_41 kx0_41 q_FU 0 dt _ _ _ hm hW hS (lv_sub hl [1, 2, 6, 0] rfl)
      refine lv_icmp_ge (tgt := 78) hx hb dX12_peak_48 (by decide) (fun h => absurd h c41004) (fun _ => ?_)
      refine lv_aload_n hx hb dX12_peak_51 rfl (lv_at hl 0 rfl) ?_
      refine r_getF C hW (ci := 12) kx0_41 ff_12_62 cl_12 fl_RX12_155 dX12_peak_52 (fun k41005 => ?_)
      refine lv_iload hx hb dX12_peak_55 (lv_at hl 6 rfl) ?_
      refine lv_aload_n hx hb dX12_peak_57 rfl (lv_at hl 0 rfl) ?_
      refine lv_iload_n hx hb dX12_peak_58 rfl (lv_at hl 1 rfl) ?_
      refine lv_iconst (v := 4) hx hb dX12_peak_59 (by decide) ?_
      refine lv_iload hx hb dX12_peak_60 (lv_at hl 6 rfl) ?_
      refine lv_imul hx hb dX12_peak_62 ?_
      refine lv_iload_n hx hb dX12_peak_63 rfl (lv_at hl 2 rfl) ?_
      refine lv_iadd hx hb dX12_peak_64 ?_
      refine lv_iload_n hx hb dX12_peak_65 rfl (lv_at hl 3 rfl) ?_
      refine lv_iload hx hb dX12_peak_66 (lv_at hl 4 rfl) ?_
      obtain ⟨v41007, dt41008, hc41006, hm⟩ := q_b2i hm
      refine q_callV C hW hS (As := [.int x1_41, .int ((4 * x6_41) + x2_41), .int x3_41, .int x4_41]) (rest := [.int x6_41, .ref (al.2.2 x0_41 62)]) (st1 := [.long v41007, .int x6_41, .ref (al.2.2 x0_41 62)]) (c_X12_metricOf l D al dt x0_41 x1_41 ((4 * x6_41) + x2_41) x3_41 x4_41 kx0_41 v41007 dt41008 hc41006) yl_X12_metricOf vl_X12_metricOf ml_RX12_434 (ci := 12) rfl kx0_41 (by decide) rfl ⟨Nat.le_of_ble_eq_true rfl, Nat.le_of_ble_eq_true rfl⟩ hl rfl (Nat.le_of_ble_eq_true rfl) dX12_peak_68 ⟨Nat.le_refl _, Nat.le_refl _⟩ rfl (fun H locs k41009 hW hS => ?_)
      refine r_last C hW hS hm k41005 dX12_peak_71 (fun dt41010 H locs hm hW hS => ?_)
      refine lv_iinc (v := (x6_41 + 1)) (lv' := [(6, .int (x6_41 + 1)), (0, .ref x0_41), (1, .int x1_41), (2, .int x2_41), (3, .int x3_41), (4, .int x4_41), (5, .int x5_41)]) hx hb dX12_peak_72 hl (k := 6) rfl rfl (by decide) rfl (fun ls hl => ?_)
      refine lv_goto (tgt := 41) hx hb dX12_peak_75 (by decide) ?_
      exact ih41 (x6_41 + 1) dt41010 _ _ _ hm hW hS (lv_sub hl [1, 2, 3, 4, 5, 6, 0] rfl)
  refine lv_aload_n hx hb dX12_peak_0 rfl (lv_at hl 0 rfl) ?_
  refine lv_iload_n hx hb dX12_peak_1 rfl (lv_at hl 1 rfl) ?_
  refine lv_iload_n hx hb dX12_peak_2 rfl (lv_at hl 3 rfl) ?_
  refine lv_iload hx hb dX12_peak_3 (lv_at hl 4 rfl) ?_
  obtain ⟨v1000002, hc1000001, hm⟩ := q_b1i hm
  refine q_callV C hW hS (As := [.int x1, .int x3, .int x4]) (rest := []) (st1 := [.int v1000002]) (c_X12_canLook l D al dt x0 x1 x3 x4 kx0 v1000002 hc1000001) yl_X12_canLook vl_X12_canLook ml_RX12_428 (ci := 12) rfl kx0 (by decide) rfl ⟨Nat.le_of_ble_eq_true rfl, Nat.le_of_ble_eq_true rfl⟩ hl rfl (Nat.le_of_ble_eq_true rfl) dX12_peak_5 ⟨Nat.le_refl _, Nat.le_refl _⟩ rfl (fun H locs k1000003 hW hS => ?_)
  refine q_ifc hm (fun c1000004 hm => ?_) (fun c1000004 hm => ?_)
  · refine lv_if_eq (tgt := 36) hx hb dX12_peak_8 (by decide) (fun _ => ?_) (fun h => absurd c1000004 h)
    refine lv_iconst (v := (-1)) hx hb dX12_peak_36 (by decide) ?_
    exact e_iD C hW hS hm dX12_peak_37
  refine lv_if_eq (tgt := 36) hx hb dX12_peak_8 (by decide) (fun h => absurd h c1000004) (fun _ => ?_)
  refine lv_iload_n hx hb dX12_peak_11 rfl (lv_at hl 2 rfl) ?_
  refine lv_iconst (v := 0) hx hb dX12_peak_12 (by decide) ?_
  refine lv_iconst (v := 3) hx hb dX12_peak_13 (by decide) ?_
  obtain ⟨v1000006, hc1000005, hm⟩ := q_b1i hm
  refine q_callS C hW hS (As := [.int x2, .int 0, .int 3]) (rest := []) (st1 := [.int v1000006]) (c_X12_in l D al dt x2 0 3 v1000006 hc1000005) yl_X12_in sl_X12_in ml_RX12_376 rfl ⟨Nat.le_of_ble_eq_true rfl, Nat.le_of_ble_eq_true rfl⟩ hl rfl (Nat.le_of_ble_eq_true rfl) dX12_peak_14 ⟨Nat.le_refl _, Nat.le_refl _⟩ rfl (fun H locs k1000007 hW hS => ?_)
  refine q_ifc hm (fun c1000008 hm => ?_) (fun c1000008 hm => ?_)
  · refine lv_if_eq (tgt := 36) hx hb dX12_peak_17 (by decide) (fun _ => ?_) (fun h => absurd c1000008 h)
    refine lv_iconst (v := (-1)) hx hb dX12_peak_36 (by decide) ?_
    exact e_iD C hW hS hm dX12_peak_37
  refine lv_if_eq (tgt := 36) hx hb dX12_peak_17 (by decide) (fun h => absurd h c1000008) (fun _ => ?_)
  refine lv_iload hx hb dX12_peak_20 (lv_at hl 5 rfl) ?_
  refine lv_iconst (v := 0) hx hb dX12_peak_22 (by decide) ?_
  refine lv_aload_n hx hb dX12_peak_23 rfl (lv_at hl 0 rfl) ?_
  refine lv_iload_n hx hb dX12_peak_24 rfl (lv_at hl 1 rfl) ?_
  obtain ⟨v1000010, hc1000009, hm⟩ := q_b1i hm
  refine q_callV C hW hS (As := [.int x1]) (rest := [.int 0, .int x5]) (st1 := [.int v1000010, .int 0, .int x5]) (c_X12_long0 l D al dt x0 x1 kx0 v1000010 hc1000009) yl_X12_long0 vl_X12_long0 ml_RX12_327 (ci := 12) rfl kx0 (by decide) rfl ⟨Nat.le_of_ble_eq_true rfl, Nat.le_of_ble_eq_true rfl⟩ hl rfl (Nat.le_of_ble_eq_true rfl) dX12_peak_25 ⟨Nat.le_refl _, Nat.le_refl _⟩ rfl (fun H locs k1000011 hW hS => ?_)
  refine lv_iconst (v := 1) hx hb dX12_peak_28 (by decide) ?_
  refine lv_isub hx hb dX12_peak_29 ?_
  obtain ⟨v1000013, hc1000012, hm⟩ := q_b1i hm
  refine q_callS C hW hS (As := [.int x5, .int 0, .int (v1000010 - 1)]) (rest := []) (st1 := [.int v1000013]) (c_X12_in l D al dt x5 0 (v1000010 - 1) v1000013 hc1000012) yl_X12_in sl_X12_in ml_RX12_376 rfl ⟨Nat.le_of_ble_eq_true rfl, Nat.le_of_ble_eq_true rfl⟩ hl rfl (Nat.le_of_ble_eq_true rfl) dX12_peak_30 ⟨Nat.le_refl _, Nat.le_refl _⟩ rfl (fun H locs k1000014 hW hS => ?_)
  refine q_ifc hm (fun c1000015 hm => ?_) (fun c1000015 hm => ?_)
  · refine lv_if_ne (tgt := 38) hx hb dX12_peak_33 (by decide) (fun h => absurd c1000015 h) (fun _ => ?_)
    refine lv_iconst (v := (-1)) hx hb dX12_peak_36 (by decide) ?_
    exact e_iD C hW hS hm dX12_peak_37
  refine lv_if_ne (tgt := 38) hx hb dX12_peak_33 (by decide) (fun _ => ?_) (fun h => absurd h c1000015)
  refine lv_iconst (v := 0) hx hb dX12_peak_38 (by decide) ?_
  refine lv_istore (i := 6) (lv' := [(6, .int 0), (0, .ref x0), (1, .int x1), (2, .int x2), (3, .int x3), (4, .int x4), (5, .int x5)]) hx hb dX12_peak_39 hl (by decide) rfl (fun ls hl => ?_)
  exact hB41 x0 x1 x2 x3 x4 x5 kx0 q_FU 0 dt _ _ _ hm hW hS (lv_sub hl [1, 2, 3, 4, 5, 6, 0] rfl)
theorem dX12_alarms_0 : decode cX12_alarms 0 = .ok (.aload_n 0, 1) := by decide +kernel
theorem dX12_alarms_1 : decode cX12_alarms 1 = .ok (.iload_n 1, 1) := by decide +kernel
theorem dX12_alarms_2 : decode cX12_alarms 2 = .ok (.iload_n 2, 1) := by decide +kernel
theorem dX12_alarms_3 : decode cX12_alarms 3 = .ok (.iload_n 3, 1) := by decide +kernel
theorem dX12_alarms_4 : decode cX12_alarms 4 = .ok (.invokevirtual 428, 3) := by decide +kernel
theorem dX12_alarms_7 : decode cX12_alarms 7 = .ok (.ifCond .ne 5, 3) := by decide +kernel
theorem dX12_alarms_10 : decode cX12_alarms 10 = .ok (.iconst (-1), 1) := by decide +kernel
theorem dX12_alarms_11 : decode cX12_alarms 11 = .ok (.ireturn, 1) := by decide +kernel
theorem dX12_alarms_12 : decode cX12_alarms 12 = .ok (.iconst 0, 1) := by decide +kernel
theorem dX12_alarms_13 : decode cX12_alarms 13 = .ok (.istore 6, 2) := by decide +kernel
theorem dX12_alarms_15 : decode cX12_alarms 15 = .ok (.iconst 0, 1) := by decide +kernel
theorem dX12_alarms_16 : decode cX12_alarms 16 = .ok (.istore 7, 2) := by decide +kernel
theorem dX12_alarms_18 : decode cX12_alarms 18 = .ok (.iload 7, 2) := by decide +kernel
theorem dX12_alarms_20 : decode cX12_alarms 20 = .ok (.iconst 4, 1) := by decide +kernel
theorem dX12_alarms_21 : decode cX12_alarms 21 = .ok (.aload_n 0, 1) := by decide +kernel
theorem dX12_alarms_22 : decode cX12_alarms 22 = .ok (.iload_n 1, 1) := by decide +kernel
theorem dX12_alarms_23 : decode cX12_alarms 23 = .ok (.invokevirtual 327, 3) := by decide +kernel
theorem dX12_alarms_26 : decode cX12_alarms 26 = .ok (.imul, 1) := by decide +kernel
theorem dX12_alarms_27 : decode cX12_alarms 27 = .ok (.if_icmp .ge 27, 3) := by decide +kernel
theorem dX12_alarms_30 : decode cX12_alarms 30 = .ok (.aload_n 0, 1) := by decide +kernel
theorem dX12_alarms_31 : decode cX12_alarms 31 = .ok (.iload_n 1, 1) := by decide +kernel
theorem dX12_alarms_32 : decode cX12_alarms 32 = .ok (.iload 7, 2) := by decide +kernel
theorem dX12_alarms_34 : decode cX12_alarms 34 = .ok (.iload_n 2, 1) := by decide +kernel
theorem dX12_alarms_35 : decode cX12_alarms 35 = .ok (.iload_n 3, 1) := by decide +kernel
theorem dX12_alarms_36 : decode cX12_alarms 36 = .ok (.invokevirtual 434, 3) := by decide +kernel
theorem dX12_alarms_39 : decode cX12_alarms 39 = .ok (.lload 4, 2) := by decide +kernel
theorem dX12_alarms_41 : decode cX12_alarms 41 = .ok (.lcmp, 1) := by decide +kernel
theorem dX12_alarms_42 : decode cX12_alarms 42 = .ok (.ifCond .lt 6, 3) := by decide +kernel
theorem dX12_alarms_45 : decode cX12_alarms 45 = .ok (.iinc 6 1, 3) := by decide +kernel
theorem dX12_alarms_48 : decode cX12_alarms 48 = .ok (.iinc 7 1, 3) := by decide +kernel
theorem dX12_alarms_51 : decode cX12_alarms 51 = .ok (.goto (-33), 3) := by decide +kernel
theorem dX12_alarms_54 : decode cX12_alarms 54 = .ok (.iload 6, 2) := by decide +kernel
theorem dX12_alarms_56 : decode cX12_alarms 56 = .ok (.ireturn, 1) := by decide +kernel
set_option maxRecDepth 100000 in
theorem c_X12_alarms (l : Launch) (D : q_D) (al : q_Al) (dt : q_Dt) (x0 : Nat) (x1 : Int32) (x2 : Int32) (x3 : Int32) (x4 : Int64) (kx0 : al.1 x0 = 13) (r0 : Int32) (dt0 : q_Dt) (hm : X12_alarms al dt x0 x1 x2 x3 x4 = some (r0, dt0)) : q_Mt l yX12_alarms cX12_alarms 8 (some FieldType.int) 3 79 D al [.ref x0, .int x1, .int x2, .int x3, .long x4] dt 0 (some (.int r0)) dt0 := by
  refine q_Mt.of (by decide) (Nat.le_of_ble_eq_true rfl) ?_
  intro p e s m args below meth c ls C hargs hW hl
  have hx := C.1
  have hb := C.2.1
  have hown := C.2.2.2.2.2.1
  have hts := C.2.2.2.2.2.2.1
  have hS : va_S (q_A al) s.heap s.heap [] := va_S.rf
  have hl : lv_has ls 8 [(0, .ref x0), (1, .int x1), (2, .int x2), (3, .int x3), (4, .long x4)] := hl
  unfold X12_alarms at hm
  have hB18 : ∀ (x0_18 : Nat) (x1_18 : Int32) (x2_18 : Int32) (x3_18 : Int32) (x4_18 : Int64) (kx0_18 : al.1 x0_18 = 13) (n_18 : Nat) (x6_18 : Int32) (x7_18 : Int32) (dt : q_Dt) (H : Heap) (locs : List Loc) (ls : Array Slot) (hm : X12_alarms_b18 al x0_18 x1_18 x2_18 x3_18 x4_18 n_18 x6_18 x7_18 dt = some (r0, dt0)) (hW : q_W D al dt H) (hS : va_S (q_A al) s.heap H locs) (hl : lv_has ls 8 [(0, .ref x0_18), (1, .int x1_18), (2, .int x2_18), (3, .int x3_18), (4, .long x4_18), (6, .int x6_18), (7, .int x7_18)]), W p l e { frames := 3, cells := 0, slots := 0, locals := 79 } s m args below meth c H locs 0 0 (MQ below (q_Q (some (.int r0)) (fun H => q_W D al dt0 H ∧ q_Rk al 0 (some (.int r0))) (q_A al)) args s 0 0 (q_A al)) (F0 m 18 ls []) := by
    intro x0_18 x1_18 x2_18 x3_18 x4_18 kx0_18
    intro n_18
    induction n_18 with
    | zero => intro x6_18 x7_18 dt H locs ls hm hW hS hl; cases hm
    | succ n_18 ih18 =>
      have hB48 : ∀ (x6_48 : Int32) (x7_48 : Int32) (dt : q_Dt) (H : Heap) (locs : List Loc) (ls : Array Slot) (hm : X12_alarms_b48 al (X12_alarms_b18 al x0_18 x1_18 x2_18 x3_18 x4_18 n_18) x0_18 x1_18 x2_18 x3_18 x4_18 x6_48 x7_48 dt = some (r0, dt0)) (hW : q_W D al dt H) (hS : va_S (q_A al) s.heap H locs) (hl : lv_has ls 8 [(0, .ref x0_18), (1, .int x1_18), (2, .int x2_18), (3, .int x3_18), (4, .long x4_18), (6, .int x6_48), (7, .int x7_48)]), W p l e { frames := 3, cells := 0, slots := 0, locals := 79 } s m args below meth c H locs 0 0 (MQ below (q_Q (some (.int r0)) (fun H => q_W D al dt0 H ∧ q_Rk al 0 (some (.int r0))) (q_A al)) args s 0 0 (q_A al)) (F0 m 48 ls []) := by
        intro x6_48 x7_48 dt H locs ls hm hW hS hl
        unfold X12_alarms_b48 at hm
        refine lv_iinc (v := (x7_48 + 1)) (lv' := [(7, .int (x7_48 + 1)), (0, .ref x0_18), (1, .int x1_18), (2, .int x2_18), (3, .int x3_18), (4, .long x4_18), (6, .int x6_48)]) hx hb dX12_alarms_48 hl (k := 6) rfl rfl (by decide) rfl (fun ls hl => ?_)
        refine lv_goto (tgt := 18) hx hb dX12_alarms_51 (by decide) ?_
        exact ih18 x6_48 (x7_48 + 1) dt _ _ _ hm hW hS (lv_sub hl [1, 2, 3, 4, 5, 6, 0] rfl)
      intro x6_18 x7_18 dt H locs ls hm hW hS hl
      rw [X12_alarms_b18] at hm
      refine lv_iload hx hb dX12_alarms_18 (lv_at hl 6 rfl) ?_
      refine lv_iconst (v := 4) hx hb dX12_alarms_20 (by decide) ?_
      refine lv_aload_n hx hb dX12_alarms_21 rfl (lv_at hl 0 rfl) ?_
      refine lv_iload_n hx hb dX12_alarms_22 rfl (lv_at hl 1 rfl) ?_
      obtain ⟨v18002, hc18001, hm⟩ := q_b1i hm
      refine q_callV C hW hS (As := [.int x1_18]) (rest := [.int 4, .int x7_18]) (st1 := [.int v18002, .int 4, .int x7_18]) (c_X12_long0 l D al dt x0_18 x1_18 kx0_18 v18002 hc18001) yl_X12_long0 vl_X12_long0 ml_RX12_327 (ci := 12) rfl kx0_18 (by decide) rfl ⟨Nat.le_of_ble_eq_true rfl, Nat.le_of_ble_eq_true rfl⟩ hl rfl (Nat.le_of_ble_eq_true rfl) dX12_alarms_23 ⟨Nat.le_refl _, Nat.le_refl _⟩ rfl (fun H locs k18003 hW hS => ?_)
      refine lv_imul hx hb dX12_alarms_26 ?_
      refine q_ifc hm (fun c18004 hm => ?_) (fun c18004 hm => ?_)
      · refine lv_icmp_ge (tgt := 54) hx hb dX12_alarms_27 (by decide) (fun _ => ?_) (fun h => absurd c18004 h)
        refine lv_iload hx hb dX12_alarms_54 (lv_at hl 5 rfl) ?_
        exact e_iD C hW hS hm dX12_alarms_56
      refine lv_icmp_ge (tgt := 54) hx hb dX12_alarms_27 (by decide) (fun h => absurd h c18004) (fun _ => ?_)
      refine lv_aload_n hx hb dX12_alarms_30 rfl (lv_at hl 0 rfl) ?_
      refine lv_iload_n hx hb dX12_alarms_31 rfl (lv_at hl 1 rfl) ?_
      refine lv_iload hx hb dX12_alarms_32 (lv_at hl 6 rfl) ?_
      refine lv_iload_n hx hb dX12_alarms_34 rfl (lv_at hl 2 rfl) ?_
      refine lv_iload_n hx hb dX12_alarms_35 rfl (lv_at hl 3 rfl) ?_
      obtain ⟨v18006, dt18007, hc18005, hm⟩ := q_b2i hm
      refine q_callV C hW hS (As := [.int x1_18, .int x7_18, .int x2_18, .int x3_18]) (rest := []) (st1 := [.long v18006]) (c_X12_metricOf l D al dt x0_18 x1_18 x7_18 x2_18 x3_18 kx0_18 v18006 dt18007 hc18005) yl_X12_metricOf vl_X12_metricOf ml_RX12_434 (ci := 12) rfl kx0_18 (by decide) rfl ⟨Nat.le_of_ble_eq_true rfl, Nat.le_of_ble_eq_true rfl⟩ hl rfl (Nat.le_of_ble_eq_true rfl) dX12_alarms_36 ⟨Nat.le_refl _, Nat.le_refl _⟩ rfl (fun H locs k18008 hW hS => ?_)
      refine lv_lload hx hb dX12_alarms_39 (lv_at hl 4 rfl) ?_
      refine W.lcmp hx hb dX12_alarms_41 ?_
      refine q_ifc hm (fun c18009 hm => ?_) (fun c18009 hm => ?_)
      · refine lv_if_lt (tgt := 48) hx hb dX12_alarms_42 (by decide) (fun _ => ?_) (fun h => absurd (q_cmp_lt.mpr c18009) h)
        exact hB48 x6_18 x7_18 dt18007 _ _ _ hm hW hS (lv_sub hl [0, 1, 2, 3, 4, 5, 6] rfl)
      refine lv_if_lt (tgt := 48) hx hb dX12_alarms_42 (by decide) (fun h => absurd (q_cmp_lt.mp h) c18009) (fun _ => ?_)
      refine lv_iinc (v := (x6_18 + 1)) (lv' := [(6, .int (x6_18 + 1)), (0, .ref x0_18), (1, .int x1_18), (2, .int x2_18), (3, .int x3_18), (4, .long x4_18), (7, .int x7_18)]) hx hb dX12_alarms_45 hl (k := 5) rfl rfl (by decide) rfl (fun ls hl => ?_)
      exact hB48 (x6_18 + 1) x7_18 dt18007 _ _ _ hm hW hS (lv_sub hl [1, 2, 3, 4, 5, 0, 6] rfl)
  refine lv_aload_n hx hb dX12_alarms_0 rfl (lv_at hl 0 rfl) ?_
  refine lv_iload_n hx hb dX12_alarms_1 rfl (lv_at hl 1 rfl) ?_
  refine lv_iload_n hx hb dX12_alarms_2 rfl (lv_at hl 2 rfl) ?_
  refine lv_iload_n hx hb dX12_alarms_3 rfl (lv_at hl 3 rfl) ?_
  obtain ⟨v1000002, hc1000001, hm⟩ := q_b1i hm
  refine q_callV C hW hS (As := [.int x1, .int x2, .int x3]) (rest := []) (st1 := [.int v1000002]) (c_X12_canLook l D al dt x0 x1 x2 x3 kx0 v1000002 hc1000001) yl_X12_canLook vl_X12_canLook ml_RX12_428 (ci := 12) rfl kx0 (by decide) rfl ⟨Nat.le_of_ble_eq_true rfl, Nat.le_of_ble_eq_true rfl⟩ hl rfl (Nat.le_of_ble_eq_true rfl) dX12_alarms_4 ⟨Nat.le_refl _, Nat.le_refl _⟩ rfl (fun H locs k1000003 hW hS => ?_)
  refine q_ifc hm (fun c1000004 hm => ?_) (fun c1000004 hm => ?_)
  · refine lv_if_ne (tgt := 12) hx hb dX12_alarms_7 (by decide) (fun h => absurd c1000004 h) (fun _ => ?_)
    refine lv_iconst (v := (-1)) hx hb dX12_alarms_10 (by decide) ?_
    exact e_iD C hW hS hm dX12_alarms_11
  refine lv_if_ne (tgt := 12) hx hb dX12_alarms_7 (by decide) (fun _ => ?_) (fun h => absurd h c1000004)
  refine lv_iconst (v := 0) hx hb dX12_alarms_12 (by decide) ?_
  refine lv_istore (i := 6) (lv' := [(6, .int 0), (0, .ref x0), (1, .int x1), (2, .int x2), (3, .int x3), (4, .long x4)]) hx hb dX12_alarms_13 hl (by decide) rfl (fun ls hl => ?_)
  refine lv_iconst (v := 0) hx hb dX12_alarms_15 (by decide) ?_
  refine lv_istore (i := 7) (lv' := [(7, .int 0), (6, .int 0), (0, .ref x0), (1, .int x1), (2, .int x2), (3, .int x3), (4, .long x4)]) hx hb dX12_alarms_16 hl (by decide) rfl (fun ls hl => ?_)
  exact hB18 x0 x1 x2 x3 x4 kx0 q_FU 0 0 dt _ _ _ hm hW hS (lv_sub hl [2, 3, 4, 5, 6, 1, 0] rfl)
theorem dX12_plan_0 : decode cX12_plan 0 = .ok (.aload_n 0, 1) := by decide +kernel
theorem dX12_plan_1 : decode cX12_plan 1 = .ok (.iload_n 1, 1) := by decide +kernel
theorem dX12_plan_2 : decode cX12_plan 2 = .ok (.iload_n 2, 1) := by decide +kernel
theorem dX12_plan_3 : decode cX12_plan 3 = .ok (.iload_n 3, 1) := by decide +kernel
theorem dX12_plan_4 : decode cX12_plan 4 = .ok (.invokevirtual 428, 3) := by decide +kernel
theorem dX12_plan_7 : decode cX12_plan 7 = .ok (.ifCond .eq 29, 3) := by decide +kernel
theorem dX12_plan_10 : decode cX12_plan 10 = .ok (.aload_n 0, 1) := by decide +kernel
theorem dX12_plan_11 : decode cX12_plan 11 = .ok (.iload_n 1, 1) := by decide +kernel
theorem dX12_plan_12 : decode cX12_plan 12 = .ok (.iload 4, 2) := by decide +kernel
theorem dX12_plan_14 : decode cX12_plan 14 = .ok (.invokevirtual 431, 3) := by decide +kernel
theorem dX12_plan_17 : decode cX12_plan 17 = .ok (.ifCond .eq 19, 3) := by decide +kernel
theorem dX12_plan_20 : decode cX12_plan 20 = .ok (.iload 5, 2) := by decide +kernel
theorem dX12_plan_22 : decode cX12_plan 22 = .ok (.iconst 1, 1) := by decide +kernel
theorem dX12_plan_23 : decode cX12_plan 23 = .ok (.iconst 4, 1) := by decide +kernel
theorem dX12_plan_24 : decode cX12_plan 24 = .ok (.aload_n 0, 1) := by decide +kernel
theorem dX12_plan_25 : decode cX12_plan 25 = .ok (.iload_n 1, 1) := by decide +kernel
theorem dX12_plan_26 : decode cX12_plan 26 = .ok (.invokevirtual 327, 3) := by decide +kernel
theorem dX12_plan_29 : decode cX12_plan 29 = .ok (.imul, 1) := by decide +kernel
theorem dX12_plan_30 : decode cX12_plan 30 = .ok (.invokestatic 376, 3) := by decide +kernel
theorem dX12_plan_33 : decode cX12_plan 33 = .ok (.ifCond .ne 5, 3) := by decide +kernel
theorem dX12_plan_36 : decode cX12_plan 36 = .ok (.iconst (-1), 1) := by decide +kernel
theorem dX12_plan_37 : decode cX12_plan 37 = .ok (.ireturn, 1) := by decide +kernel
theorem dX12_plan_38 : decode cX12_plan 38 = .ok (.iload 4, 2) := by decide +kernel
theorem dX12_plan_40 : decode cX12_plan 40 = .ok (.istore 8, 2) := by decide +kernel
theorem dX12_plan_42 : decode cX12_plan 42 = .ok (.iconst 1, 1) := by decide +kernel
theorem dX12_plan_43 : decode cX12_plan 43 = .ok (.istore 9, 2) := by decide +kernel
theorem dX12_plan_45 : decode cX12_plan 45 = .ok (.iload 9, 2) := by decide +kernel
theorem dX12_plan_47 : decode cX12_plan 47 = .ok (.iconst 4, 1) := by decide +kernel
theorem dX12_plan_48 : decode cX12_plan 48 = .ok (.aload_n 0, 1) := by decide +kernel
theorem dX12_plan_49 : decode cX12_plan 49 = .ok (.iload_n 1, 1) := by decide +kernel
theorem dX12_plan_50 : decode cX12_plan 50 = .ok (.invokevirtual 327, 3) := by decide +kernel
theorem dX12_plan_53 : decode cX12_plan 53 = .ok (.imul, 1) := by decide +kernel
theorem dX12_plan_54 : decode cX12_plan 54 = .ok (.if_icmp .gt 42, 3) := by decide +kernel
theorem dX12_plan_57 : decode cX12_plan 57 = .ok (.aload_n 0, 1) := by decide +kernel
theorem dX12_plan_58 : decode cX12_plan 58 = .ok (.iload_n 1, 1) := by decide +kernel
theorem dX12_plan_59 : decode cX12_plan 59 = .ok (.iload 8, 2) := by decide +kernel
theorem dX12_plan_61 : decode cX12_plan 61 = .ok (.iload_n 2, 1) := by decide +kernel
theorem dX12_plan_62 : decode cX12_plan 62 = .ok (.iload_n 3, 1) := by decide +kernel
theorem dX12_plan_63 : decode cX12_plan 63 = .ok (.invokevirtual 434, 3) := by decide +kernel
theorem dX12_plan_66 : decode cX12_plan 66 = .ok (.lload 6, 2) := by decide +kernel
theorem dX12_plan_68 : decode cX12_plan 68 = .ok (.lcmp, 1) := by decide +kernel
theorem dX12_plan_69 : decode cX12_plan 69 = .ok (.ifCond .lt 6, 3) := by decide +kernel
theorem dX12_plan_72 : decode cX12_plan 72 = .ok (.iload 9, 2) := by decide +kernel
theorem dX12_plan_74 : decode cX12_plan 74 = .ok (.ireturn, 1) := by decide +kernel
theorem dX12_plan_75 : decode cX12_plan 75 = .ok (.iload 8, 2) := by decide +kernel
theorem dX12_plan_77 : decode cX12_plan 77 = .ok (.iload 5, 2) := by decide +kernel
theorem dX12_plan_79 : decode cX12_plan 79 = .ok (.iadd, 1) := by decide +kernel
theorem dX12_plan_80 : decode cX12_plan 80 = .ok (.iconst 4, 1) := by decide +kernel
theorem dX12_plan_81 : decode cX12_plan 81 = .ok (.aload_n 0, 1) := by decide +kernel
theorem dX12_plan_82 : decode cX12_plan 82 = .ok (.iload_n 1, 1) := by decide +kernel
theorem dX12_plan_83 : decode cX12_plan 83 = .ok (.invokevirtual 327, 3) := by decide +kernel
theorem dX12_plan_86 : decode cX12_plan 86 = .ok (.imul, 1) := by decide +kernel
theorem dX12_plan_87 : decode cX12_plan 87 = .ok (.irem, 1) := by decide +kernel
theorem dX12_plan_88 : decode cX12_plan 88 = .ok (.istore 8, 2) := by decide +kernel
theorem dX12_plan_90 : decode cX12_plan 90 = .ok (.iinc 9 1, 3) := by decide +kernel
theorem dX12_plan_93 : decode cX12_plan 93 = .ok (.goto (-48), 3) := by decide +kernel
theorem dX12_plan_96 : decode cX12_plan 96 = .ok (.bipush (-2), 2) := by decide +kernel
theorem dX12_plan_98 : decode cX12_plan 98 = .ok (.ireturn, 1) := by decide +kernel
set_option maxRecDepth 100000 in
theorem c_X12_plan (l : Launch) (D : q_D) (al : q_Al) (dt : q_Dt) (x0 : Nat) (x1 : Int32) (x2 : Int32) (x3 : Int32) (x4 : Int32) (x5 : Int32) (x6 : Int64) (kx0 : al.1 x0 = 13) (r0 : Int32) (dt0 : q_Dt) (hm : X12_plan al dt x0 x1 x2 x3 x4 x5 x6 = some (r0, dt0)) : q_Mt l yX12_plan cX12_plan 10 (some FieldType.int) 3 79 D al [.ref x0, .int x1, .int x2, .int x3, .int x4, .int x5, .long x6] dt 0 (some (.int r0)) dt0 := by
  refine q_Mt.of (by decide) (Nat.le_of_ble_eq_true rfl) ?_
  intro p e s m args below meth c ls C hargs hW hl
  have hx := C.1
  have hb := C.2.1
  have hown := C.2.2.2.2.2.1
  have hts := C.2.2.2.2.2.2.1
  have hS : va_S (q_A al) s.heap s.heap [] := va_S.rf
  have hl : lv_has ls 10 [(0, .ref x0), (1, .int x1), (2, .int x2), (3, .int x3), (4, .int x4), (5, .int x5), (6, .long x6)] := hl
  unfold X12_plan at hm
  have hB45 : ∀ (x0_45 : Nat) (x1_45 : Int32) (x2_45 : Int32) (x3_45 : Int32) (x5_45 : Int32) (x6_45 : Int64) (kx0_45 : al.1 x0_45 = 13) (n_45 : Nat) (x8_45 : Int32) (x9_45 : Int32) (dt : q_Dt) (H : Heap) (locs : List Loc) (ls : Array Slot) (hm : X12_plan_b45 al x0_45 x1_45 x2_45 x3_45 x5_45 x6_45 n_45 x8_45 x9_45 dt = some (r0, dt0)) (hW : q_W D al dt H) (hS : va_S (q_A al) s.heap H locs) (hl : lv_has ls 10 [(0, .ref x0_45), (1, .int x1_45), (2, .int x2_45), (3, .int x3_45), (5, .int x5_45), (6, .long x6_45), (8, .int x8_45), (9, .int x9_45)]), W p l e { frames := 3, cells := 0, slots := 0, locals := 79 } s m args below meth c H locs 0 0 (MQ below (q_Q (some (.int r0)) (fun H => q_W D al dt0 H ∧ q_Rk al 0 (some (.int r0))) (q_A al)) args s 0 0 (q_A al)) (F0 m 45 ls []) := by
    intro x0_45 x1_45 x2_45 x3_45 x5_45 x6_45 kx0_45
    intro n_45
    induction n_45 with
    | zero => intro x8_45 x9_45 dt H locs ls hm hW hS hl; cases hm
    | succ n_45 ih45 =>
      intro x8_45 x9_45 dt H locs ls hm hW hS hl
      rw [X12_plan_b45] at hm
      refine lv_iload hx hb dX12_plan_45 (lv_at hl 7 rfl) ?_
      refine lv_iconst (v := 4) hx hb dX12_plan_47 (by decide) ?_
      refine lv_aload_n hx hb dX12_plan_48 rfl (lv_at hl 0 rfl) ?_
      refine lv_iload_n hx hb dX12_plan_49 rfl (lv_at hl 1 rfl) ?_
      obtain ⟨v45002, hc45001, hm⟩ := q_b1i hm
      refine q_callV C hW hS (As := [.int x1_45]) (rest := [.int 4, .int x9_45]) (st1 := [.int v45002, .int 4, .int x9_45]) (c_X12_long0 l D al dt x0_45 x1_45 kx0_45 v45002 hc45001) yl_X12_long0 vl_X12_long0 ml_RX12_327 (ci := 12) rfl kx0_45 (by decide) rfl ⟨Nat.le_of_ble_eq_true rfl, Nat.le_of_ble_eq_true rfl⟩ hl rfl (Nat.le_of_ble_eq_true rfl) dX12_plan_50 ⟨Nat.le_refl _, Nat.le_refl _⟩ rfl (fun H locs k45003 hW hS => ?_)
      refine lv_imul hx hb dX12_plan_53 ?_
      refine q_ifc hm (fun c45004 hm => ?_) (fun c45004 hm => ?_)
      · refine lv_icmp_gt (tgt := 96) hx hb dX12_plan_54 (by decide) (fun _ => ?_) (fun h => absurd c45004 h)
        refine lv_bipush (v := (-2)) hx hb dX12_plan_96 (by decide) ?_
        exact e_iD C hW hS hm dX12_plan_98
      refine lv_icmp_gt (tgt := 96) hx hb dX12_plan_54 (by decide) (fun h => absurd h c45004) (fun _ => ?_)
      refine lv_aload_n hx hb dX12_plan_57 rfl (lv_at hl 0 rfl) ?_
      refine lv_iload_n hx hb dX12_plan_58 rfl (lv_at hl 1 rfl) ?_
      refine lv_iload hx hb dX12_plan_59 (lv_at hl 6 rfl) ?_
      refine lv_iload_n hx hb dX12_plan_61 rfl (lv_at hl 2 rfl) ?_
      refine lv_iload_n hx hb dX12_plan_62 rfl (lv_at hl 3 rfl) ?_
      obtain ⟨v45006, dt45007, hc45005, hm⟩ := q_b2i hm
      refine q_callV C hW hS (As := [.int x1_45, .int x8_45, .int x2_45, .int x3_45]) (rest := []) (st1 := [.long v45006]) (c_X12_metricOf l D al dt x0_45 x1_45 x8_45 x2_45 x3_45 kx0_45 v45006 dt45007 hc45005) yl_X12_metricOf vl_X12_metricOf ml_RX12_434 (ci := 12) rfl kx0_45 (by decide) rfl ⟨Nat.le_of_ble_eq_true rfl, Nat.le_of_ble_eq_true rfl⟩ hl rfl (Nat.le_of_ble_eq_true rfl) dX12_plan_63 ⟨Nat.le_refl _, Nat.le_refl _⟩ rfl (fun H locs k45008 hW hS => ?_)
      refine lv_lload hx hb dX12_plan_66 (lv_at hl 5 rfl) ?_
      refine W.lcmp hx hb dX12_plan_68 ?_
      refine q_ifc hm (fun c45009 hm => ?_) (fun c45009 hm => ?_)
      · refine lv_if_lt (tgt := 75) hx hb dX12_plan_69 (by decide) (fun _ => ?_) (fun h => absurd (q_cmp_lt.mpr c45009) h)
        refine lv_iload hx hb dX12_plan_75 (lv_at hl 6 rfl) ?_
        refine lv_iload hx hb dX12_plan_77 (lv_at hl 4 rfl) ?_
        refine lv_iadd hx hb dX12_plan_79 ?_
        refine lv_iconst (v := 4) hx hb dX12_plan_80 (by decide) ?_
        refine lv_aload_n hx hb dX12_plan_81 rfl (lv_at hl 0 rfl) ?_
        refine lv_iload_n hx hb dX12_plan_82 rfl (lv_at hl 1 rfl) ?_
        obtain ⟨v45011, hc45010, hm⟩ := q_b1i hm
        refine q_callV C hW hS (As := [.int x1_45]) (rest := [.int 4, .int (x8_45 + x5_45)]) (st1 := [.int v45011, .int 4, .int (x8_45 + x5_45)]) (c_X12_long0 l D al dt45007 x0_45 x1_45 kx0_45 v45011 hc45010) yl_X12_long0 vl_X12_long0 ml_RX12_327 (ci := 12) rfl kx0_45 (by decide) rfl ⟨Nat.le_of_ble_eq_true rfl, Nat.le_of_ble_eq_true rfl⟩ hl rfl (Nat.le_of_ble_eq_true rfl) dX12_plan_83 ⟨Nat.le_refl _, Nat.le_refl _⟩ rfl (fun H locs k45012 hW hS => ?_)
        refine lv_imul hx hb dX12_plan_86 ?_
        obtain ⟨c45013, hm⟩ := q_ini hm
        refine lv_irem hx hb dX12_plan_87 c45013 ?_
        refine lv_istore (i := 8) (lv' := [(8, .int (q_ir (x8_45 + x5_45) (4 * v45011))), (0, .ref x0_45), (1, .int x1_45), (2, .int x2_45), (3, .int x3_45), (5, .int x5_45), (6, .long x6_45), (9, .int x9_45)]) hx hb dX12_plan_88 hl (by decide) rfl (fun ls hl => ?_)
        refine lv_iinc (v := (x9_45 + 1)) (lv' := [(9, .int (x9_45 + 1)), (8, .int (q_ir (x8_45 + x5_45) (4 * v45011))), (0, .ref x0_45), (1, .int x1_45), (2, .int x2_45), (3, .int x3_45), (5, .int x5_45), (6, .long x6_45)]) hx hb dX12_plan_90 hl (k := 7) rfl rfl (by decide) rfl (fun ls hl => ?_)
        refine lv_goto (tgt := 45) hx hb dX12_plan_93 (by decide) ?_
        exact ih45 (q_ir (x8_45 + x5_45) (4 * v45011)) (x9_45 + 1) dt45007 _ _ _ hm hW hS (lv_sub hl [2, 3, 4, 5, 6, 7, 1, 0] rfl)
      refine lv_if_lt (tgt := 75) hx hb dX12_plan_69 (by decide) (fun h => absurd (q_cmp_lt.mp h) c45009) (fun _ => ?_)
      refine lv_iload hx hb dX12_plan_72 (lv_at hl 7 rfl) ?_
      exact e_iD C hW hS hm dX12_plan_74
  refine lv_aload_n hx hb dX12_plan_0 rfl (lv_at hl 0 rfl) ?_
  refine lv_iload_n hx hb dX12_plan_1 rfl (lv_at hl 1 rfl) ?_
  refine lv_iload_n hx hb dX12_plan_2 rfl (lv_at hl 2 rfl) ?_
  refine lv_iload_n hx hb dX12_plan_3 rfl (lv_at hl 3 rfl) ?_
  obtain ⟨v1000002, hc1000001, hm⟩ := q_b1i hm
  refine q_callV C hW hS (As := [.int x1, .int x2, .int x3]) (rest := []) (st1 := [.int v1000002]) (c_X12_canLook l D al dt x0 x1 x2 x3 kx0 v1000002 hc1000001) yl_X12_canLook vl_X12_canLook ml_RX12_428 (ci := 12) rfl kx0 (by decide) rfl ⟨Nat.le_of_ble_eq_true rfl, Nat.le_of_ble_eq_true rfl⟩ hl rfl (Nat.le_of_ble_eq_true rfl) dX12_plan_4 ⟨Nat.le_refl _, Nat.le_refl _⟩ rfl (fun H locs k1000003 hW hS => ?_)
  refine q_ifc hm (fun c1000004 hm => ?_) (fun c1000004 hm => ?_)
  · refine lv_if_eq (tgt := 36) hx hb dX12_plan_7 (by decide) (fun _ => ?_) (fun h => absurd c1000004 h)
    refine lv_iconst (v := (-1)) hx hb dX12_plan_36 (by decide) ?_
    exact e_iD C hW hS hm dX12_plan_37
  refine lv_if_eq (tgt := 36) hx hb dX12_plan_7 (by decide) (fun h => absurd h c1000004) (fun _ => ?_)
  refine lv_aload_n hx hb dX12_plan_10 rfl (lv_at hl 0 rfl) ?_
  refine lv_iload_n hx hb dX12_plan_11 rfl (lv_at hl 1 rfl) ?_
  refine lv_iload hx hb dX12_plan_12 (lv_at hl 4 rfl) ?_
  obtain ⟨v1000006, hc1000005, hm⟩ := q_b1i hm
  refine q_callV C hW hS (As := [.int x1, .int x4]) (rest := []) (st1 := [.int v1000006]) (c_X12_isCell l D al dt x0 x1 x4 kx0 v1000006 hc1000005) yl_X12_isCell vl_X12_isCell ml_RX12_431 (ci := 12) rfl kx0 (by decide) rfl ⟨Nat.le_of_ble_eq_true rfl, Nat.le_of_ble_eq_true rfl⟩ hl rfl (Nat.le_of_ble_eq_true rfl) dX12_plan_14 ⟨Nat.le_refl _, Nat.le_refl _⟩ rfl (fun H locs k1000007 hW hS => ?_)
  refine q_ifc hm (fun c1000008 hm => ?_) (fun c1000008 hm => ?_)
  · refine lv_if_eq (tgt := 36) hx hb dX12_plan_17 (by decide) (fun _ => ?_) (fun h => absurd c1000008 h)
    refine lv_iconst (v := (-1)) hx hb dX12_plan_36 (by decide) ?_
    exact e_iD C hW hS hm dX12_plan_37
  refine lv_if_eq (tgt := 36) hx hb dX12_plan_17 (by decide) (fun h => absurd h c1000008) (fun _ => ?_)
  refine lv_iload hx hb dX12_plan_20 (lv_at hl 5 rfl) ?_
  refine lv_iconst (v := 1) hx hb dX12_plan_22 (by decide) ?_
  refine lv_iconst (v := 4) hx hb dX12_plan_23 (by decide) ?_
  refine lv_aload_n hx hb dX12_plan_24 rfl (lv_at hl 0 rfl) ?_
  refine lv_iload_n hx hb dX12_plan_25 rfl (lv_at hl 1 rfl) ?_
  obtain ⟨v1000010, hc1000009, hm⟩ := q_b1i hm
  refine q_callV C hW hS (As := [.int x1]) (rest := [.int 4, .int 1, .int x5]) (st1 := [.int v1000010, .int 4, .int 1, .int x5]) (c_X12_long0 l D al dt x0 x1 kx0 v1000010 hc1000009) yl_X12_long0 vl_X12_long0 ml_RX12_327 (ci := 12) rfl kx0 (by decide) rfl ⟨Nat.le_of_ble_eq_true rfl, Nat.le_of_ble_eq_true rfl⟩ hl rfl (Nat.le_of_ble_eq_true rfl) dX12_plan_26 ⟨Nat.le_refl _, Nat.le_refl _⟩ rfl (fun H locs k1000011 hW hS => ?_)
  refine lv_imul hx hb dX12_plan_29 ?_
  obtain ⟨v1000013, hc1000012, hm⟩ := q_b1i hm
  refine q_callS C hW hS (As := [.int x5, .int 1, .int (4 * v1000010)]) (rest := []) (st1 := [.int v1000013]) (c_X12_in l D al dt x5 1 (4 * v1000010) v1000013 hc1000012) yl_X12_in sl_X12_in ml_RX12_376 rfl ⟨Nat.le_of_ble_eq_true rfl, Nat.le_of_ble_eq_true rfl⟩ hl rfl (Nat.le_of_ble_eq_true rfl) dX12_plan_30 ⟨Nat.le_refl _, Nat.le_refl _⟩ rfl (fun H locs k1000014 hW hS => ?_)
  refine q_ifc hm (fun c1000015 hm => ?_) (fun c1000015 hm => ?_)
  · refine lv_if_ne (tgt := 38) hx hb dX12_plan_33 (by decide) (fun h => absurd c1000015 h) (fun _ => ?_)
    refine lv_iconst (v := (-1)) hx hb dX12_plan_36 (by decide) ?_
    exact e_iD C hW hS hm dX12_plan_37
  refine lv_if_ne (tgt := 38) hx hb dX12_plan_33 (by decide) (fun _ => ?_) (fun h => absurd h c1000015)
  refine lv_iload hx hb dX12_plan_38 (lv_at hl 4 rfl) ?_
  refine lv_istore (i := 8) (lv' := [(8, .int x4), (0, .ref x0), (1, .int x1), (2, .int x2), (3, .int x3), (4, .int x4), (5, .int x5), (6, .long x6)]) hx hb dX12_plan_40 hl (by decide) rfl (fun ls hl => ?_)
  refine lv_iconst (v := 1) hx hb dX12_plan_42 (by decide) ?_
  refine lv_istore (i := 9) (lv' := [(9, .int 1), (8, .int x4), (0, .ref x0), (1, .int x1), (2, .int x2), (3, .int x3), (4, .int x4), (5, .int x5), (6, .long x6)]) hx hb dX12_plan_43 hl (by decide) rfl (fun ls hl => ?_)
  exact hB45 x0 x1 x2 x3 x5 x6 kx0 q_FU x4 1 dt _ _ _ hm hW hS (lv_sub hl [2, 3, 4, 5, 7, 8, 1, 0] rfl)
theorem dX12_common_0 : decode cX12_common 0 = .ok (.lload_n 0, 1) := by decide +kernel
theorem dX12_common_1 : decode cX12_common 1 = .ok (.lstore 4, 2) := by decide +kernel
theorem dX12_common_3 : decode cX12_common 3 = .ok (.lload_n 2, 1) := by decide +kernel
theorem dX12_common_4 : decode cX12_common 4 = .ok (.lstore 6, 2) := by decide +kernel
theorem dX12_common_6 : decode cX12_common 6 = .ok (.lload 6, 2) := by decide +kernel
theorem dX12_common_8 : decode cX12_common 8 = .ok (.lconst 0, 1) := by decide +kernel
theorem dX12_common_9 : decode cX12_common 9 = .ok (.lcmp, 1) := by decide +kernel
theorem dX12_common_10 : decode cX12_common 10 = .ok (.ifCond .eq 21, 3) := by decide +kernel
theorem dX12_common_13 : decode cX12_common 13 = .ok (.lload 4, 2) := by decide +kernel
theorem dX12_common_15 : decode cX12_common 15 = .ok (.lload 6, 2) := by decide +kernel
theorem dX12_common_17 : decode cX12_common 17 = .ok (.lrem, 1) := by decide +kernel
theorem dX12_common_18 : decode cX12_common 18 = .ok (.lstore 8, 2) := by decide +kernel
theorem dX12_common_20 : decode cX12_common 20 = .ok (.lload 6, 2) := by decide +kernel
theorem dX12_common_22 : decode cX12_common 22 = .ok (.lstore 4, 2) := by decide +kernel
theorem dX12_common_24 : decode cX12_common 24 = .ok (.lload 8, 2) := by decide +kernel
theorem dX12_common_26 : decode cX12_common 26 = .ok (.lstore 6, 2) := by decide +kernel
theorem dX12_common_28 : decode cX12_common 28 = .ok (.goto (-22), 3) := by decide +kernel
theorem dX12_common_31 : decode cX12_common 31 = .ok (.lload 4, 2) := by decide +kernel
theorem dX12_common_33 : decode cX12_common 33 = .ok (.lreturn, 1) := by decide +kernel
set_option maxRecDepth 100000 in
theorem c_X12_common (l : Launch) (D : q_D) (al : q_Al) (dt : q_Dt) (x0 : Int64) (x2 : Int64) (r0 : Int64) (hm : X12_common x0 x2 = some r0) : q_Mt l yX12_common cX12_common 10 (some FieldType.long) 0 0 D al [.long x0, .long x2] dt 0 (some (.long r0)) dt := by
  refine q_Mt.of (by decide) (Nat.le_of_ble_eq_true rfl) ?_
  intro p e s m args below meth c ls C hargs hW hl
  have hx := C.1
  have hb := C.2.1
  have hown := C.2.2.2.2.2.1
  have hts := C.2.2.2.2.2.2.1
  have hS : va_S (q_A al) s.heap s.heap [] := va_S.rf
  have hl : lv_has ls 10 [(0, .long x0), (2, .long x2)] := hl
  unfold X12_common at hm
  have hB6 : ∀ (n_6 : Nat) (x4_6 : Int64) (x6_6 : Int64) (H : Heap) (locs : List Loc) (ls : Array Slot) (hm : X12_common_b6 n_6 x4_6 x6_6 = some r0) (hW : q_W D al dt H) (hS : va_S (q_A al) s.heap H locs) (hl : lv_has ls 10 [(4, .long x4_6), (6, .long x6_6)]), W p l e { frames := 0, cells := 0, slots := 0, locals := 0 } s m args below meth c H locs 0 0 (MQ below (q_Q (some (.long r0)) (fun H => q_W D al dt H ∧ q_Rk al 0 (some (.long r0))) (q_A al)) args s 0 0 (q_A al)) (F0 m 6 ls []) := by
    intro n_6
    induction n_6 with
    | zero => intro x4_6 x6_6 H locs ls hm hW hS hl; cases hm
    | succ n_6 ih6 =>
      intro x4_6 x6_6 H locs ls hm hW hS hl
      rw [X12_common_b6] at hm
      refine lv_lload hx hb dX12_common_6 (lv_at hl 1 rfl) ?_
      refine lv_lconst (v := 0) hx hb dX12_common_8 rfl ?_
      refine W.lcmp hx hb dX12_common_9 ?_
      refine q_ifc hm (fun c6001 hm => ?_) (fun c6001 hm => ?_)
      · refine lv_if_eq (tgt := 31) hx hb dX12_common_10 (by decide) (fun _ => ?_) (fun h => absurd (q_cmp_eq.mpr c6001) h)
        refine lv_lload hx hb dX12_common_31 (lv_at hl 0 rfl) ?_
        exact e_l C hW hS hm dX12_common_33
      refine lv_if_eq (tgt := 31) hx hb dX12_common_10 (by decide) (fun h => absurd (q_cmp_eq.mp h) c6001) (fun _ => ?_)
      refine lv_lload hx hb dX12_common_13 (lv_at hl 0 rfl) ?_
      refine lv_lload hx hb dX12_common_15 (lv_at hl 1 rfl) ?_
      obtain ⟨c6002, hm⟩ := q_ini hm
      refine lv_lrem hx hb dX12_common_17 c6002 ?_
      refine lv_lstore (i := 8) (lv' := [(8, .long (q_lr x4_6 x6_6)), (4, .long x4_6), (6, .long x6_6)]) hx hb dX12_common_18 hl (by decide) rfl (fun ls hl => ?_)
      refine lv_lload hx hb dX12_common_20 (lv_at hl 2 rfl) ?_
      refine lv_lstore (i := 4) (lv' := [(4, .long x6_6), (8, .long (q_lr x4_6 x6_6)), (6, .long x6_6)]) hx hb dX12_common_22 hl (by decide) rfl (fun ls hl => ?_)
      refine lv_lload hx hb dX12_common_24 (lv_at hl 1 rfl) ?_
      refine lv_lstore (i := 6) (lv' := [(6, .long (q_lr x4_6 x6_6)), (4, .long x6_6), (8, .long (q_lr x4_6 x6_6))]) hx hb dX12_common_26 hl (by decide) rfl (fun ls hl => ?_)
      refine lv_goto (tgt := 6) hx hb dX12_common_28 (by decide) ?_
      exact ih6 x6_6 (q_lr x4_6 x6_6) _ _ _ hm hW hS (lv_sub hl [1, 0] rfl)
  refine lv_lload_n hx hb dX12_common_0 rfl (lv_at hl 0 rfl) ?_
  refine lv_lstore (i := 4) (lv' := [(4, .long x0), (0, .long x0), (2, .long x2)]) hx hb dX12_common_1 hl (by decide) rfl (fun ls hl => ?_)
  refine lv_lload_n hx hb dX12_common_3 rfl (lv_at hl 2 rfl) ?_
  refine lv_lstore (i := 6) (lv' := [(6, .long x2), (4, .long x0), (0, .long x0), (2, .long x2)]) hx hb dX12_common_4 hl (by decide) rfl (fun ls hl => ?_)
  exact hB6 q_FU x0 x2 _ _ _ hm hW hS (lv_sub hl [1, 0] rfl)
theorem dX12_mean_0 : decode cX12_mean 0 = .ok (.iload_n 1, 1) := by decide +kernel
theorem dX12_mean_1 : decode cX12_mean 1 = .ok (.iconst 2, 1) := by decide +kernel
theorem dX12_mean_2 : decode cX12_mean 2 = .ok (.sipush 1000, 3) := by decide +kernel
theorem dX12_mean_5 : decode cX12_mean 5 = .ok (.invokestatic 376, 3) := by decide +kernel
theorem dX12_mean_8 : decode cX12_mean 8 = .ok (.ifCond .eq 46, 3) := by decide +kernel
theorem dX12_mean_11 : decode cX12_mean 11 = .ok (.iload 4, 2) := by decide +kernel
theorem dX12_mean_13 : decode cX12_mean 13 = .ok (.iconst 1, 1) := by decide +kernel
theorem dX12_mean_14 : decode cX12_mean 14 = .ok (.bipush 100, 2) := by decide +kernel
theorem dX12_mean_16 : decode cX12_mean 16 = .ok (.invokestatic 376, 3) := by decide +kernel
theorem dX12_mean_19 : decode cX12_mean 19 = .ok (.ifCond .eq 35, 3) := by decide +kernel
theorem dX12_mean_22 : decode cX12_mean 22 = .ok (.iload_n 2, 1) := by decide +kernel
theorem dX12_mean_23 : decode cX12_mean 23 = .ok (.iconst 1, 1) := by decide +kernel
theorem dX12_mean_24 : decode cX12_mean 24 = .ok (.iload 4, 2) := by decide +kernel
theorem dX12_mean_26 : decode cX12_mean 26 = .ok (.invokestatic 376, 3) := by decide +kernel
theorem dX12_mean_29 : decode cX12_mean 29 = .ok (.ifCond .eq 25, 3) := by decide +kernel
theorem dX12_mean_32 : decode cX12_mean 32 = .ok (.iload_n 3, 1) := by decide +kernel
theorem dX12_mean_33 : decode cX12_mean 33 = .ok (.iconst 0, 1) := by decide +kernel
theorem dX12_mean_34 : decode cX12_mean 34 = .ok (.iload 4, 2) := by decide +kernel
theorem dX12_mean_36 : decode cX12_mean 36 = .ok (.invokestatic 376, 3) := by decide +kernel
theorem dX12_mean_39 : decode cX12_mean 39 = .ok (.ifCond .eq 15, 3) := by decide +kernel
theorem dX12_mean_42 : decode cX12_mean 42 = .ok (.iload 5, 2) := by decide +kernel
theorem dX12_mean_44 : decode cX12_mean 44 = .ok (.iconst 0, 1) := by decide +kernel
theorem dX12_mean_45 : decode cX12_mean 45 = .ok (.sipush 1000, 3) := by decide +kernel
theorem dX12_mean_48 : decode cX12_mean 48 = .ok (.invokestatic 376, 3) := by decide +kernel
theorem dX12_mean_51 : decode cX12_mean 51 = .ok (.ifCond .ne 7, 3) := by decide +kernel
theorem dX12_mean_54 : decode cX12_mean 54 = .ok (.ldc2_w 413, 3) := by decide +kernel
theorem dX12_mean_57 : decode cX12_mean 57 = .ok (.lreturn, 1) := by decide +kernel
theorem dX12_mean_58 : decode cX12_mean 58 = .ok (.ldc2_w 444, 3) := by decide +kernel
theorem dX12_mean_61 : decode cX12_mean 61 = .ok (.iload 4, 2) := by decide +kernel
theorem dX12_mean_63 : decode cX12_mean 63 = .ok (.i2l, 1) := by decide +kernel
theorem dX12_mean_64 : decode cX12_mean 64 = .ok (.lmul, 1) := by decide +kernel
theorem dX12_mean_65 : decode cX12_mean 65 = .ok (.iload_n 2, 1) := by decide +kernel
theorem dX12_mean_66 : decode cX12_mean 66 = .ok (.i2l, 1) := by decide +kernel
theorem dX12_mean_67 : decode cX12_mean 67 = .ok (.lsub, 1) := by decide +kernel
theorem dX12_mean_68 : decode cX12_mean 68 = .ok (.iload_n 1, 1) := by decide +kernel
theorem dX12_mean_69 : decode cX12_mean 69 = .ok (.iconst 1, 1) := by decide +kernel
theorem dX12_mean_70 : decode cX12_mean 70 = .ok (.isub, 1) := by decide +kernel
theorem dX12_mean_71 : decode cX12_mean 71 = .ok (.i2l, 1) := by decide +kernel
theorem dX12_mean_72 : decode cX12_mean 72 = .ok (.lmul, 1) := by decide +kernel
theorem dX12_mean_73 : decode cX12_mean 73 = .ok (.iload 4, 2) := by decide +kernel
theorem dX12_mean_75 : decode cX12_mean 75 = .ok (.i2l, 1) := by decide +kernel
theorem dX12_mean_76 : decode cX12_mean 76 = .ok (.iload 5, 2) := by decide +kernel
theorem dX12_mean_78 : decode cX12_mean 78 = .ok (.i2l, 1) := by decide +kernel
theorem dX12_mean_79 : decode cX12_mean 79 = .ok (.iload_n 3, 1) := by decide +kernel
theorem dX12_mean_80 : decode cX12_mean 80 = .ok (.i2l, 1) := by decide +kernel
theorem dX12_mean_81 : decode cX12_mean 81 = .ok (.lmul, 1) := by decide +kernel
theorem dX12_mean_82 : decode cX12_mean 82 = .ok (.ladd, 1) := by decide +kernel
theorem dX12_mean_83 : decode cX12_mean 83 = .ok (.lmul, 1) := by decide +kernel
theorem dX12_mean_84 : decode cX12_mean 84 = .ok (.ldc2_w 444, 3) := by decide +kernel
theorem dX12_mean_87 : decode cX12_mean 87 = .ok (.iload 4, 2) := by decide +kernel
theorem dX12_mean_89 : decode cX12_mean 89 = .ok (.i2l, 1) := by decide +kernel
theorem dX12_mean_90 : decode cX12_mean 90 = .ok (.lmul, 1) := by decide +kernel
theorem dX12_mean_91 : decode cX12_mean 91 = .ok (.iload 4, 2) := by decide +kernel
theorem dX12_mean_93 : decode cX12_mean 93 = .ok (.i2l, 1) := by decide +kernel
theorem dX12_mean_94 : decode cX12_mean 94 = .ok (.lmul, 1) := by decide +kernel
theorem dX12_mean_95 : decode cX12_mean 95 = .ok (.ladd, 1) := by decide +kernel
theorem dX12_mean_96 : decode cX12_mean 96 = .ok (.lstore 7, 2) := by decide +kernel
theorem dX12_mean_98 : decode cX12_mean 98 = .ok (.ldc2_w 444, 3) := by decide +kernel
theorem dX12_mean_101 : decode cX12_mean 101 = .ok (.iload_n 2, 1) := by decide +kernel
theorem dX12_mean_102 : decode cX12_mean 102 = .ok (.i2l, 1) := by decide +kernel
theorem dX12_mean_103 : decode cX12_mean 103 = .ok (.lmul, 1) := by decide +kernel
theorem dX12_mean_104 : decode cX12_mean 104 = .ok (.iload 4, 2) := by decide +kernel
theorem dX12_mean_106 : decode cX12_mean 106 = .ok (.i2l, 1) := by decide +kernel
theorem dX12_mean_107 : decode cX12_mean 107 = .ok (.lmul, 1) := by decide +kernel
theorem dX12_mean_108 : decode cX12_mean 108 = .ok (.lstore 9, 2) := by decide +kernel
theorem dX12_mean_110 : decode cX12_mean 110 = .ok (.lload 7, 2) := by decide +kernel
theorem dX12_mean_112 : decode cX12_mean 112 = .ok (.lload 9, 2) := by decide +kernel
theorem dX12_mean_114 : decode cX12_mean 114 = .ok (.invokestatic 446, 3) := by decide +kernel
theorem dX12_mean_117 : decode cX12_mean 117 = .ok (.lstore 11, 2) := by decide +kernel
theorem dX12_mean_119 : decode cX12_mean 119 = .ok (.iload 6, 2) := by decide +kernel
theorem dX12_mean_121 : decode cX12_mean 121 = .ok (.ifCond .eq 11, 3) := by decide +kernel
theorem dX12_mean_124 : decode cX12_mean 124 = .ok (.lload 9, 2) := by decide +kernel
theorem dX12_mean_126 : decode cX12_mean 126 = .ok (.lload 11, 2) := by decide +kernel
theorem dX12_mean_128 : decode cX12_mean 128 = .ok (.ldiv, 1) := by decide +kernel
theorem dX12_mean_129 : decode cX12_mean 129 = .ok (.goto 8, 3) := by decide +kernel
theorem dX12_mean_132 : decode cX12_mean 132 = .ok (.lload 7, 2) := by decide +kernel
theorem dX12_mean_134 : decode cX12_mean 134 = .ok (.lload 11, 2) := by decide +kernel
theorem dX12_mean_136 : decode cX12_mean 136 = .ok (.ldiv, 1) := by decide +kernel
theorem dX12_mean_137 : decode cX12_mean 137 = .ok (.lreturn, 1) := by decide +kernel
set_option maxRecDepth 100000 in
theorem c_X12_mean (l : Launch) (D : q_D) (al : q_Al) (dt : q_Dt) (x0 : Nat) (x1 : Int32) (x2 : Int32) (x3 : Int32) (x4 : Int32) (x5 : Int32) (x6 : Int32) (kx0 : al.1 x0 = 13) (r0 : Int64) (hm : X12_mean x0 x1 x2 x3 x4 x5 x6 = some r0) : q_Mt l yX12_mean cX12_mean 13 (some FieldType.long) 1 29 D al [.ref x0, .int x1, .int x2, .int x3, .int x4, .int x5, .int x6] dt 0 (some (.long r0)) dt := by
  refine q_Mt.of (by decide) (Nat.le_of_ble_eq_true rfl) ?_
  intro p e s m args below meth c ls C hargs hW hl
  have hx := C.1
  have hb := C.2.1
  have hown := C.2.2.2.2.2.1
  have hts := C.2.2.2.2.2.2.1
  have hS : va_S (q_A al) s.heap s.heap [] := va_S.rf
  have hl : lv_has ls 13 [(0, .ref x0), (1, .int x1), (2, .int x2), (3, .int x3), (4, .int x4), (5, .int x5), (6, .int x6)] := hl
  unfold X12_mean at hm
  have hB54 : ∀ (H : Heap) (locs : List Loc) (ls : Array Slot) (hm : X12_mean_b54 = some r0) (hW : q_W D al dt H) (hS : va_S (q_A al) s.heap H locs) (hl : lv_has ls 13 []), W p l e { frames := 1, cells := 0, slots := 0, locals := 29 } s m args below meth c H locs 0 0 (MQ below (q_Q (some (.long r0)) (fun H => q_W D al dt H ∧ q_Rk al 0 (some (.long r0))) (q_A al)) args s 0 0 (q_A al)) (F0 m 54 ls []) := by
    intro H locs ls hm hW hS hl
    unfold X12_mean_b54 at hm
    refine lv_ldc2 (own := RX12) (v := (-1)) hx hb hown (hts _ wc_RX12_413) dX12_mean_54 ?_
    exact e_l C hW hS hm dX12_mean_57
  refine lv_iload_n hx hb dX12_mean_0 rfl (lv_at hl 1 rfl) ?_
  refine lv_iconst (v := 2) hx hb dX12_mean_1 (by decide) ?_
  refine lv_sipush (v := 1000) hx hb dX12_mean_2 (by decide) ?_
  obtain ⟨v1000002, hc1000001, hm⟩ := q_b1i hm
  refine q_callS C hW hS (As := [.int x1, .int 2, .int 1000]) (rest := []) (st1 := [.int v1000002]) (c_X12_in l D al dt x1 2 1000 v1000002 hc1000001) yl_X12_in sl_X12_in ml_RX12_376 rfl ⟨Nat.le_of_ble_eq_true rfl, Nat.le_of_ble_eq_true rfl⟩ hl rfl (Nat.le_of_ble_eq_true rfl) dX12_mean_5 ⟨Nat.le_refl _, Nat.le_refl _⟩ rfl (fun H locs k1000003 hW hS => ?_)
  refine q_ifc hm (fun c1000004 hm => ?_) (fun c1000004 hm => ?_)
  · refine lv_if_eq (tgt := 54) hx hb dX12_mean_8 (by decide) (fun _ => ?_) (fun h => absurd c1000004 h)
    exact hB54 _ _ _ hm hW hS (lv_sub hl [] rfl)
  refine lv_if_eq (tgt := 54) hx hb dX12_mean_8 (by decide) (fun h => absurd h c1000004) (fun _ => ?_)
  refine lv_iload hx hb dX12_mean_11 (lv_at hl 4 rfl) ?_
  refine lv_iconst (v := 1) hx hb dX12_mean_13 (by decide) ?_
  refine lv_bipush (v := 100) hx hb dX12_mean_14 (by decide) ?_
  obtain ⟨v1000006, hc1000005, hm⟩ := q_b1i hm
  refine q_callS C hW hS (As := [.int x4, .int 1, .int 100]) (rest := []) (st1 := [.int v1000006]) (c_X12_in l D al dt x4 1 100 v1000006 hc1000005) yl_X12_in sl_X12_in ml_RX12_376 rfl ⟨Nat.le_of_ble_eq_true rfl, Nat.le_of_ble_eq_true rfl⟩ hl rfl (Nat.le_of_ble_eq_true rfl) dX12_mean_16 ⟨Nat.le_refl _, Nat.le_refl _⟩ rfl (fun H locs k1000007 hW hS => ?_)
  refine q_ifc hm (fun c1000008 hm => ?_) (fun c1000008 hm => ?_)
  · refine lv_if_eq (tgt := 54) hx hb dX12_mean_19 (by decide) (fun _ => ?_) (fun h => absurd c1000008 h)
    exact hB54 _ _ _ hm hW hS (lv_sub hl [] rfl)
  refine lv_if_eq (tgt := 54) hx hb dX12_mean_19 (by decide) (fun h => absurd h c1000008) (fun _ => ?_)
  refine lv_iload_n hx hb dX12_mean_22 rfl (lv_at hl 2 rfl) ?_
  refine lv_iconst (v := 1) hx hb dX12_mean_23 (by decide) ?_
  refine lv_iload hx hb dX12_mean_24 (lv_at hl 4 rfl) ?_
  obtain ⟨v1000010, hc1000009, hm⟩ := q_b1i hm
  refine q_callS C hW hS (As := [.int x2, .int 1, .int x4]) (rest := []) (st1 := [.int v1000010]) (c_X12_in l D al dt x2 1 x4 v1000010 hc1000009) yl_X12_in sl_X12_in ml_RX12_376 rfl ⟨Nat.le_of_ble_eq_true rfl, Nat.le_of_ble_eq_true rfl⟩ hl rfl (Nat.le_of_ble_eq_true rfl) dX12_mean_26 ⟨Nat.le_refl _, Nat.le_refl _⟩ rfl (fun H locs k1000011 hW hS => ?_)
  refine q_ifc hm (fun c1000012 hm => ?_) (fun c1000012 hm => ?_)
  · refine lv_if_eq (tgt := 54) hx hb dX12_mean_29 (by decide) (fun _ => ?_) (fun h => absurd c1000012 h)
    exact hB54 _ _ _ hm hW hS (lv_sub hl [] rfl)
  refine lv_if_eq (tgt := 54) hx hb dX12_mean_29 (by decide) (fun h => absurd h c1000012) (fun _ => ?_)
  refine lv_iload_n hx hb dX12_mean_32 rfl (lv_at hl 3 rfl) ?_
  refine lv_iconst (v := 0) hx hb dX12_mean_33 (by decide) ?_
  refine lv_iload hx hb dX12_mean_34 (lv_at hl 4 rfl) ?_
  obtain ⟨v1000014, hc1000013, hm⟩ := q_b1i hm
  refine q_callS C hW hS (As := [.int x3, .int 0, .int x4]) (rest := []) (st1 := [.int v1000014]) (c_X12_in l D al dt x3 0 x4 v1000014 hc1000013) yl_X12_in sl_X12_in ml_RX12_376 rfl ⟨Nat.le_of_ble_eq_true rfl, Nat.le_of_ble_eq_true rfl⟩ hl rfl (Nat.le_of_ble_eq_true rfl) dX12_mean_36 ⟨Nat.le_refl _, Nat.le_refl _⟩ rfl (fun H locs k1000015 hW hS => ?_)
  refine q_ifc hm (fun c1000016 hm => ?_) (fun c1000016 hm => ?_)
  · refine lv_if_eq (tgt := 54) hx hb dX12_mean_39 (by decide) (fun _ => ?_) (fun h => absurd c1000016 h)
    exact hB54 _ _ _ hm hW hS (lv_sub hl [] rfl)
  refine lv_if_eq (tgt := 54) hx hb dX12_mean_39 (by decide) (fun h => absurd h c1000016) (fun _ => ?_)
  refine lv_iload hx hb dX12_mean_42 (lv_at hl 5 rfl) ?_
  refine lv_iconst (v := 0) hx hb dX12_mean_44 (by decide) ?_
  refine lv_sipush (v := 1000) hx hb dX12_mean_45 (by decide) ?_
  obtain ⟨v1000018, hc1000017, hm⟩ := q_b1i hm
  refine q_callS C hW hS (As := [.int x5, .int 0, .int 1000]) (rest := []) (st1 := [.int v1000018]) (c_X12_in l D al dt x5 0 1000 v1000018 hc1000017) yl_X12_in sl_X12_in ml_RX12_376 rfl ⟨Nat.le_of_ble_eq_true rfl, Nat.le_of_ble_eq_true rfl⟩ hl rfl (Nat.le_of_ble_eq_true rfl) dX12_mean_48 ⟨Nat.le_refl _, Nat.le_refl _⟩ rfl (fun H locs k1000019 hW hS => ?_)
  refine q_ifc hm (fun c1000020 hm => ?_) (fun c1000020 hm => ?_)
  · refine lv_if_ne (tgt := 58) hx hb dX12_mean_51 (by decide) (fun h => absurd c1000020 h) (fun _ => ?_)
    exact hB54 _ _ _ hm hW hS (lv_sub hl [] rfl)
  refine lv_if_ne (tgt := 58) hx hb dX12_mean_51 (by decide) (fun _ => ?_) (fun h => absurd h c1000020)
  refine lv_ldc2 (own := RX12) (v := 2) hx hb hown (hts _ wc_RX12_444) dX12_mean_58 ?_
  refine lv_iload hx hb dX12_mean_61 (lv_at hl 4 rfl) ?_
  refine lv_i2l (v := (Int32.toInt64 x4)) hx hb dX12_mean_63 rfl ?_
  refine lv_lmul hx hb dX12_mean_64 ?_
  refine lv_iload_n hx hb dX12_mean_65 rfl (lv_at hl 2 rfl) ?_
  refine lv_i2l (v := (Int32.toInt64 x2)) hx hb dX12_mean_66 rfl ?_
  refine lv_lsub hx hb dX12_mean_67 ?_
  refine lv_iload_n hx hb dX12_mean_68 rfl (lv_at hl 1 rfl) ?_
  refine lv_iconst (v := 1) hx hb dX12_mean_69 (by decide) ?_
  refine lv_isub hx hb dX12_mean_70 ?_
  refine lv_i2l (v := (Int32.toInt64 (x1 - 1))) hx hb dX12_mean_71 rfl ?_
  refine lv_lmul hx hb dX12_mean_72 ?_
  refine lv_iload hx hb dX12_mean_73 (lv_at hl 4 rfl) ?_
  refine lv_i2l (v := (Int32.toInt64 x4)) hx hb dX12_mean_75 rfl ?_
  refine lv_iload hx hb dX12_mean_76 (lv_at hl 5 rfl) ?_
  refine lv_i2l (v := (Int32.toInt64 x5)) hx hb dX12_mean_78 rfl ?_
  refine lv_iload_n hx hb dX12_mean_79 rfl (lv_at hl 3 rfl) ?_
  refine lv_i2l (v := (Int32.toInt64 x3)) hx hb dX12_mean_80 rfl ?_
  refine lv_lmul hx hb dX12_mean_81 ?_
  refine lv_ladd hx hb dX12_mean_82 ?_
  refine lv_lmul hx hb dX12_mean_83 ?_
  refine lv_ldc2 (own := RX12) (v := 2) hx hb hown (hts _ wc_RX12_444) dX12_mean_84 ?_
  refine lv_iload hx hb dX12_mean_87 (lv_at hl 4 rfl) ?_
  refine lv_i2l (v := (Int32.toInt64 x4)) hx hb dX12_mean_89 rfl ?_
  refine lv_lmul hx hb dX12_mean_90 ?_
  refine lv_iload hx hb dX12_mean_91 (lv_at hl 4 rfl) ?_
  refine lv_i2l (v := (Int32.toInt64 x4)) hx hb dX12_mean_93 rfl ?_
  refine lv_lmul hx hb dX12_mean_94 ?_
  refine lv_ladd hx hb dX12_mean_95 ?_
  refine q_nmL hm (fun v1000021 ev1000021 hm => ?_)
  refine lv_lstore (i := 7) (lv' := [(7, .long v1000021), (0, .ref x0), (1, .int x1), (2, .int x2), (3, .int x3), (4, .int x4), (5, .int x5), (6, .int x6)]) hx hb dX12_mean_96 hl (by decide) rfl (fun ls hl => ?_)
  refine lv_ldc2 (own := RX12) (v := 2) hx hb hown (hts _ wc_RX12_444) dX12_mean_98 ?_
  refine lv_iload_n hx hb dX12_mean_101 rfl (lv_at hl 3 rfl) ?_
  refine lv_i2l (v := (Int32.toInt64 x2)) hx hb dX12_mean_102 rfl ?_
  refine lv_lmul hx hb dX12_mean_103 ?_
  refine lv_iload hx hb dX12_mean_104 (lv_at hl 5 rfl) ?_
  refine lv_i2l (v := (Int32.toInt64 x4)) hx hb dX12_mean_106 rfl ?_
  refine lv_lmul hx hb dX12_mean_107 ?_
  refine q_nmL hm (fun v1000022 ev1000022 hm => ?_)
  refine lv_lstore (i := 9) (lv' := [(9, .long v1000022), (7, .long v1000021), (0, .ref x0), (1, .int x1), (2, .int x2), (3, .int x3), (4, .int x4), (5, .int x5), (6, .int x6)]) hx hb dX12_mean_108 hl (by decide) rfl (fun ls hl => ?_)
  refine lv_lload hx hb dX12_mean_110 (lv_at hl 1 rfl) ?_
  refine lv_lload hx hb dX12_mean_112 (lv_at hl 0 rfl) ?_
  obtain ⟨v1000024, hc1000023, hm⟩ := q_b1i hm
  refine q_callS C hW hS (As := [.long v1000021, .long v1000022]) (rest := []) (st1 := [.long v1000024]) (c_X12_common l D al dt v1000021 v1000022 v1000024 hc1000023) yl_X12_common sl_X12_common ml_RX12_446 rfl ⟨Nat.le_of_ble_eq_true rfl, Nat.le_of_ble_eq_true rfl⟩ hl rfl (Nat.le_of_ble_eq_true rfl) dX12_mean_114 ⟨Nat.le_refl _, Nat.le_refl _⟩ rfl (fun H locs k1000025 hW hS => ?_)
  refine lv_lstore (i := 11) (lv' := [(11, .long v1000024), (9, .long v1000022), (7, .long v1000021), (0, .ref x0), (1, .int x1), (2, .int x2), (3, .int x3), (4, .int x4), (5, .int x5), (6, .int x6)]) hx hb dX12_mean_117 hl (by decide) rfl (fun ls hl => ?_)
  refine lv_iload hx hb dX12_mean_119 (lv_at hl 9 rfl) ?_
  refine q_ifc hm (fun c1000026 hm => ?_) (fun c1000026 hm => ?_)
  · refine lv_if_eq (tgt := 132) hx hb dX12_mean_121 (by decide) (fun _ => ?_) (fun h => absurd c1000026 h)
    refine lv_lload hx hb dX12_mean_132 (lv_at hl 2 rfl) ?_
    refine lv_lload hx hb dX12_mean_134 (lv_at hl 0 rfl) ?_
    obtain ⟨c1000027, hm⟩ := q_ini hm
    refine lv_ldiv hx hb dX12_mean_136 c1000027 ?_
    exact e_l C hW hS hm dX12_mean_137
  refine lv_if_eq (tgt := 132) hx hb dX12_mean_121 (by decide) (fun h => absurd h c1000026) (fun _ => ?_)
  refine lv_lload hx hb dX12_mean_124 (lv_at hl 1 rfl) ?_
  refine lv_lload hx hb dX12_mean_126 (lv_at hl 0 rfl) ?_
  obtain ⟨c1000028, hm⟩ := q_ini hm
  refine lv_ldiv hx hb dX12_mean_128 c1000028 ?_
  refine lv_goto (tgt := 137) hx hb dX12_mean_129 (by decide) ?_
  exact e_l C hW hS hm dX12_mean_137
theorem dX12_over_0 : decode cX12_over 0 = .ok (.iload_n 1, 1) := by decide +kernel
theorem dX12_over_1 : decode cX12_over 1 = .ok (.iconst 2, 1) := by decide +kernel
theorem dX12_over_2 : decode cX12_over 2 = .ok (.sipush 1000, 3) := by decide +kernel
theorem dX12_over_5 : decode cX12_over 5 = .ok (.invokestatic 376, 3) := by decide +kernel
theorem dX12_over_8 : decode cX12_over 8 = .ok (.ifCond .eq 45, 3) := by decide +kernel
theorem dX12_over_11 : decode cX12_over 11 = .ok (.iload_n 3, 1) := by decide +kernel
theorem dX12_over_12 : decode cX12_over 12 = .ok (.iconst 1, 1) := by decide +kernel
theorem dX12_over_13 : decode cX12_over 13 = .ok (.bipush 10, 2) := by decide +kernel
theorem dX12_over_15 : decode cX12_over 15 = .ok (.invokestatic 376, 3) := by decide +kernel
theorem dX12_over_18 : decode cX12_over 18 = .ok (.ifCond .eq 35, 3) := by decide +kernel
theorem dX12_over_21 : decode cX12_over 21 = .ok (.iload_n 2, 1) := by decide +kernel
theorem dX12_over_22 : decode cX12_over 22 = .ok (.iconst 1, 1) := by decide +kernel
theorem dX12_over_23 : decode cX12_over 23 = .ok (.iload_n 3, 1) := by decide +kernel
theorem dX12_over_24 : decode cX12_over 24 = .ok (.invokestatic 376, 3) := by decide +kernel
theorem dX12_over_27 : decode cX12_over 27 = .ok (.ifCond .eq 26, 3) := by decide +kernel
theorem dX12_over_30 : decode cX12_over 30 = .ok (.iload 4, 2) := by decide +kernel
theorem dX12_over_32 : decode cX12_over 32 = .ok (.iconst 0, 1) := by decide +kernel
theorem dX12_over_33 : decode cX12_over 33 = .ok (.iload_n 1, 1) := by decide +kernel
theorem dX12_over_34 : decode cX12_over 34 = .ok (.iconst 1, 1) := by decide +kernel
theorem dX12_over_35 : decode cX12_over 35 = .ok (.isub, 1) := by decide +kernel
theorem dX12_over_36 : decode cX12_over 36 = .ok (.invokestatic 376, 3) := by decide +kernel
theorem dX12_over_39 : decode cX12_over 39 = .ok (.ifCond .eq 14, 3) := by decide +kernel
theorem dX12_over_42 : decode cX12_over 42 = .ok (.iload 5, 2) := by decide +kernel
theorem dX12_over_44 : decode cX12_over 44 = .ok (.iconst 0, 1) := by decide +kernel
theorem dX12_over_45 : decode cX12_over 45 = .ok (.bipush 18, 2) := by decide +kernel
theorem dX12_over_47 : decode cX12_over 47 = .ok (.invokestatic 376, 3) := by decide +kernel
theorem dX12_over_50 : decode cX12_over 50 = .ok (.ifCond .ne 7, 3) := by decide +kernel
theorem dX12_over_53 : decode cX12_over 53 = .ok (.ldc2_w 413, 3) := by decide +kernel
theorem dX12_over_56 : decode cX12_over 56 = .ok (.lreturn, 1) := by decide +kernel
theorem dX12_over_57 : decode cX12_over 57 = .ok (.lconst 1, 1) := by decide +kernel
theorem dX12_over_58 : decode cX12_over 58 = .ok (.lstore 6, 2) := by decide +kernel
theorem dX12_over_60 : decode cX12_over 60 = .ok (.lconst 1, 1) := by decide +kernel
theorem dX12_over_61 : decode cX12_over 61 = .ok (.lstore 8, 2) := by decide +kernel
theorem dX12_over_63 : decode cX12_over 63 = .ok (.iconst 1, 1) := by decide +kernel
theorem dX12_over_64 : decode cX12_over 64 = .ok (.istore 10, 2) := by decide +kernel
theorem dX12_over_66 : decode cX12_over 66 = .ok (.iload 10, 2) := by decide +kernel
theorem dX12_over_68 : decode cX12_over 68 = .ok (.iload 5, 2) := by decide +kernel
theorem dX12_over_70 : decode cX12_over 70 = .ok (.if_icmp .gt 49, 3) := by decide +kernel
theorem dX12_over_73 : decode cX12_over 73 = .ok (.lload 6, 2) := by decide +kernel
theorem dX12_over_75 : decode cX12_over 75 = .ok (.iload_n 3, 1) := by decide +kernel
theorem dX12_over_76 : decode cX12_over 76 = .ok (.i2l, 1) := by decide +kernel
theorem dX12_over_77 : decode cX12_over 77 = .ok (.lmul, 1) := by decide +kernel
theorem dX12_over_78 : decode cX12_over 78 = .ok (.lstore 6, 2) := by decide +kernel
theorem dX12_over_80 : decode cX12_over 80 = .ok (.lload 8, 2) := by decide +kernel
theorem dX12_over_82 : decode cX12_over 82 = .ok (.iload 10, 2) := by decide +kernel
theorem dX12_over_84 : decode cX12_over 84 = .ok (.iload 4, 2) := by decide +kernel
theorem dX12_over_86 : decode cX12_over 86 = .ok (.if_icmp .le 22, 3) := by decide +kernel
theorem dX12_over_89 : decode cX12_over 89 = .ok (.iload 10, 2) := by decide +kernel
theorem dX12_over_91 : decode cX12_over 91 = .ok (.iconst 1, 1) := by decide +kernel
theorem dX12_over_92 : decode cX12_over 92 = .ok (.isub, 1) := by decide +kernel
theorem dX12_over_93 : decode cX12_over 93 = .ok (.iload 4, 2) := by decide +kernel
theorem dX12_over_95 : decode cX12_over 95 = .ok (.isub, 1) := by decide +kernel
theorem dX12_over_96 : decode cX12_over 96 = .ok (.iload_n 1, 1) := by decide +kernel
theorem dX12_over_97 : decode cX12_over 97 = .ok (.irem, 1) := by decide +kernel
theorem dX12_over_98 : decode cX12_over 98 = .ok (.ifCond .ne 10, 3) := by decide +kernel
theorem dX12_over_101 : decode cX12_over 101 = .ok (.iload_n 3, 1) := by decide +kernel
theorem dX12_over_102 : decode cX12_over 102 = .ok (.iload_n 2, 1) := by decide +kernel
theorem dX12_over_103 : decode cX12_over 103 = .ok (.isub, 1) := by decide +kernel
theorem dX12_over_104 : decode cX12_over 104 = .ok (.i2l, 1) := by decide +kernel
theorem dX12_over_105 : decode cX12_over 105 = .ok (.goto 5, 3) := by decide +kernel
theorem dX12_over_108 : decode cX12_over 108 = .ok (.iload_n 3, 1) := by decide +kernel
theorem dX12_over_109 : decode cX12_over 109 = .ok (.i2l, 1) := by decide +kernel
theorem dX12_over_110 : decode cX12_over 110 = .ok (.lmul, 1) := by decide +kernel
theorem dX12_over_111 : decode cX12_over 111 = .ok (.lstore 8, 2) := by decide +kernel
theorem dX12_over_113 : decode cX12_over 113 = .ok (.iinc 10 1, 3) := by decide +kernel
theorem dX12_over_116 : decode cX12_over 116 = .ok (.goto (-50), 3) := by decide +kernel
theorem dX12_over_119 : decode cX12_over 119 = .ok (.lload 6, 2) := by decide +kernel
theorem dX12_over_121 : decode cX12_over 121 = .ok (.lload 8, 2) := by decide +kernel
theorem dX12_over_123 : decode cX12_over 123 = .ok (.lsub, 1) := by decide +kernel
theorem dX12_over_124 : decode cX12_over 124 = .ok (.lreturn, 1) := by decide +kernel
set_option maxRecDepth 100000 in
theorem c_X12_over (l : Launch) (D : q_D) (al : q_Al) (dt : q_Dt) (x0 : Nat) (x1 : Int32) (x2 : Int32) (x3 : Int32) (x4 : Int32) (x5 : Int32) (kx0 : al.1 x0 = 13) (r0 : Int64) (hm : X12_over x0 x1 x2 x3 x4 x5 = some r0) : q_Mt l yX12_over cX12_over 11 (some FieldType.long) 1 22 D al [.ref x0, .int x1, .int x2, .int x3, .int x4, .int x5] dt 0 (some (.long r0)) dt := by
  refine q_Mt.of (by decide) (Nat.le_of_ble_eq_true rfl) ?_
  intro p e s m args below meth c ls C hargs hW hl
  have hx := C.1
  have hb := C.2.1
  have hown := C.2.2.2.2.2.1
  have hts := C.2.2.2.2.2.2.1
  have hS : va_S (q_A al) s.heap s.heap [] := va_S.rf
  have hl : lv_has ls 11 [(0, .ref x0), (1, .int x1), (2, .int x2), (3, .int x3), (4, .int x4), (5, .int x5)] := hl
  unfold X12_over at hm
  have hB53 : ∀ (H : Heap) (locs : List Loc) (ls : Array Slot) (hm : X12_over_b53 = some r0) (hW : q_W D al dt H) (hS : va_S (q_A al) s.heap H locs) (hl : lv_has ls 11 []), W p l e { frames := 1, cells := 0, slots := 0, locals := 22 } s m args below meth c H locs 0 0 (MQ below (q_Q (some (.long r0)) (fun H => q_W D al dt H ∧ q_Rk al 0 (some (.long r0))) (q_A al)) args s 0 0 (q_A al)) (F0 m 53 ls []) := by
    intro H locs ls hm hW hS hl
    unfold X12_over_b53 at hm
    refine lv_ldc2 (own := RX12) (v := (-1)) hx hb hown (hts _ wc_RX12_413) dX12_over_53 ?_
    exact e_l C hW hS hm dX12_over_56
  have hB66 : ∀ (x1_66 : Int32) (x2_66 : Int32) (x3_66 : Int32) (x4_66 : Int32) (x5_66 : Int32) (n_66 : Nat) (x6_66 : Int64) (x8_66 : Int64) (x10_66 : Int32) (H : Heap) (locs : List Loc) (ls : Array Slot) (hm : X12_over_b66 x1_66 x2_66 x3_66 x4_66 x5_66 n_66 x6_66 x8_66 x10_66 = some r0) (hW : q_W D al dt H) (hS : va_S (q_A al) s.heap H locs) (hl : lv_has ls 11 [(1, .int x1_66), (2, .int x2_66), (3, .int x3_66), (4, .int x4_66), (5, .int x5_66), (6, .long x6_66), (8, .long x8_66), (10, .int x10_66)]), W p l e { frames := 1, cells := 0, slots := 0, locals := 22 } s m args below meth c H locs 0 0 (MQ below (q_Q (some (.long r0)) (fun H => q_W D al dt H ∧ q_Rk al 0 (some (.long r0))) (q_A al)) args s 0 0 (q_A al)) (F0 m 66 ls []) := by
    intro x1_66 x2_66 x3_66 x4_66 x5_66
    intro n_66
    induction n_66 with
    | zero => intro x6_66 x8_66 x10_66 H locs ls hm hW hS hl; cases hm
    | succ n_66 ih66 =>
      have hB110 : ∀ (x6_110 : Int64) (x10_110 : Int32) (t0_110 : Int64) (t1_110 : Int64) (H : Heap) (locs : List Loc) (ls : Array Slot) (hm : X12_over_b110 (X12_over_b66 x1_66 x2_66 x3_66 x4_66 x5_66 n_66) x1_66 x2_66 x3_66 x4_66 x5_66 x6_110 x10_110 t0_110 t1_110 = some r0) (hW : q_W D al dt H) (hS : va_S (q_A al) s.heap H locs) (hl : lv_has ls 11 [(1, .int x1_66), (2, .int x2_66), (3, .int x3_66), (4, .int x4_66), (5, .int x5_66), (6, .long x6_110), (10, .int x10_110)]), W p l e { frames := 1, cells := 0, slots := 0, locals := 22 } s m args below meth c H locs 0 0 (MQ below (q_Q (some (.long r0)) (fun H => q_W D al dt H ∧ q_Rk al 0 (some (.long r0))) (q_A al)) args s 0 0 (q_A al)) (F0 m 110 ls [.long t1_110, .long t0_110]) := by
        intro x6_110 x10_110 t0_110 t1_110 H locs ls hm hW hS hl
        unfold X12_over_b110 at hm
        refine lv_lmul hx hb dX12_over_110 ?_
        refine lv_lstore (i := 8) (lv' := [(8, .long (t0_110 * t1_110)), (1, .int x1_66), (2, .int x2_66), (3, .int x3_66), (4, .int x4_66), (5, .int x5_66), (6, .long x6_110), (10, .int x10_110)]) hx hb dX12_over_111 hl (by decide) rfl (fun ls hl => ?_)
        refine lv_iinc (v := (x10_110 + 1)) (lv' := [(10, .int (x10_110 + 1)), (8, .long (t0_110 * t1_110)), (1, .int x1_66), (2, .int x2_66), (3, .int x3_66), (4, .int x4_66), (5, .int x5_66), (6, .long x6_110)]) hx hb dX12_over_113 hl (k := 7) rfl rfl (by decide) rfl (fun ls hl => ?_)
        refine lv_goto (tgt := 66) hx hb dX12_over_116 (by decide) ?_
        exact ih66 x6_110 (t0_110 * t1_110) (x10_110 + 1) _ _ _ hm hW hS (lv_sub hl [2, 3, 4, 5, 6, 7, 1, 0] rfl)
      have hB108 : ∀ (x6_108 : Int64) (x10_108 : Int32) (t0_108 : Int64) (H : Heap) (locs : List Loc) (ls : Array Slot) (hm : X12_over_b108 (X12_over_b66 x1_66 x2_66 x3_66 x4_66 x5_66 n_66) x1_66 x2_66 x3_66 x4_66 x5_66 x6_108 x10_108 t0_108 = some r0) (hW : q_W D al dt H) (hS : va_S (q_A al) s.heap H locs) (hl : lv_has ls 11 [(1, .int x1_66), (2, .int x2_66), (3, .int x3_66), (4, .int x4_66), (5, .int x5_66), (6, .long x6_108), (10, .int x10_108)]), W p l e { frames := 1, cells := 0, slots := 0, locals := 22 } s m args below meth c H locs 0 0 (MQ below (q_Q (some (.long r0)) (fun H => q_W D al dt H ∧ q_Rk al 0 (some (.long r0))) (q_A al)) args s 0 0 (q_A al)) (F0 m 108 ls [.long t0_108]) := by
        intro x6_108 x10_108 t0_108 H locs ls hm hW hS hl
        unfold X12_over_b108 at hm
        refine lv_iload_n hx hb dX12_over_108 rfl (lv_at hl 2 rfl) ?_
        refine lv_i2l (v := (Int32.toInt64 x3_66)) hx hb dX12_over_109 rfl ?_
        exact hB110 x6_108 x10_108 t0_108 (Int32.toInt64 x3_66) _ _ _ hm hW hS (lv_sub hl [0, 1, 2, 3, 4, 5, 6] rfl)
      intro x6_66 x8_66 x10_66 H locs ls hm hW hS hl
      rw [X12_over_b66] at hm
      refine lv_iload hx hb dX12_over_66 (lv_at hl 7 rfl) ?_
      refine lv_iload hx hb dX12_over_68 (lv_at hl 4 rfl) ?_
      refine q_ifc hm (fun c66001 hm => ?_) (fun c66001 hm => ?_)
      · refine lv_icmp_gt (tgt := 119) hx hb dX12_over_70 (by decide) (fun _ => ?_) (fun h => absurd c66001 h)
        refine lv_lload hx hb dX12_over_119 (lv_at hl 5 rfl) ?_
        refine lv_lload hx hb dX12_over_121 (lv_at hl 6 rfl) ?_
        refine lv_lsub hx hb dX12_over_123 ?_
        exact e_l C hW hS hm dX12_over_124
      refine lv_icmp_gt (tgt := 119) hx hb dX12_over_70 (by decide) (fun h => absurd h c66001) (fun _ => ?_)
      refine lv_lload hx hb dX12_over_73 (lv_at hl 5 rfl) ?_
      refine lv_iload_n hx hb dX12_over_75 rfl (lv_at hl 2 rfl) ?_
      refine lv_i2l (v := (Int32.toInt64 x3_66)) hx hb dX12_over_76 rfl ?_
      refine lv_lmul hx hb dX12_over_77 ?_
      refine lv_lstore (i := 6) (lv' := [(6, .long (x6_66 * (Int32.toInt64 x3_66))), (1, .int x1_66), (2, .int x2_66), (3, .int x3_66), (4, .int x4_66), (5, .int x5_66), (8, .long x8_66), (10, .int x10_66)]) hx hb dX12_over_78 hl (by decide) rfl (fun ls hl => ?_)
      refine lv_lload hx hb dX12_over_80 (lv_at hl 6 rfl) ?_
      refine lv_iload hx hb dX12_over_82 (lv_at hl 7 rfl) ?_
      refine lv_iload hx hb dX12_over_84 (lv_at hl 4 rfl) ?_
      refine q_ifc hm (fun c66002 hm => ?_) (fun c66002 hm => ?_)
      · refine lv_icmp_le (tgt := 108) hx hb dX12_over_86 (by decide) (fun _ => ?_) (fun h => absurd c66002 h)
        exact hB108 (x6_66 * (Int32.toInt64 x3_66)) x10_66 x8_66 _ _ _ hm hW hS (lv_sub hl [1, 2, 3, 4, 5, 0, 7] rfl)
      refine lv_icmp_le (tgt := 108) hx hb dX12_over_86 (by decide) (fun h => absurd h c66002) (fun _ => ?_)
      refine lv_iload hx hb dX12_over_89 (lv_at hl 7 rfl) ?_
      refine lv_iconst (v := 1) hx hb dX12_over_91 (by decide) ?_
      refine lv_isub hx hb dX12_over_92 ?_
      refine lv_iload hx hb dX12_over_93 (lv_at hl 4 rfl) ?_
      refine lv_isub hx hb dX12_over_95 ?_
      refine lv_iload_n hx hb dX12_over_96 rfl (lv_at hl 1 rfl) ?_
      obtain ⟨c66003, hm⟩ := q_ini hm
      refine lv_irem hx hb dX12_over_97 c66003 ?_
      refine q_ifc hm (fun c66004 hm => ?_) (fun c66004 hm => ?_)
      · refine lv_if_ne (tgt := 108) hx hb dX12_over_98 (by decide) (fun h => absurd c66004 h) (fun _ => ?_)
        refine lv_iload_n hx hb dX12_over_101 rfl (lv_at hl 3 rfl) ?_
        refine lv_iload_n hx hb dX12_over_102 rfl (lv_at hl 2 rfl) ?_
        refine lv_isub hx hb dX12_over_103 ?_
        refine lv_i2l (v := (Int32.toInt64 (x3_66 - x2_66))) hx hb dX12_over_104 rfl ?_
        refine lv_goto (tgt := 110) hx hb dX12_over_105 (by decide) ?_
        exact hB110 (x6_66 * (Int32.toInt64 x3_66)) x10_66 x8_66 (Int32.toInt64 (x3_66 - x2_66)) _ _ _ hm hW hS (lv_sub hl [1, 2, 3, 4, 5, 0, 7] rfl)
      refine lv_if_ne (tgt := 108) hx hb dX12_over_98 (by decide) (fun _ => ?_) (fun h => absurd h c66004)
      exact hB108 (x6_66 * (Int32.toInt64 x3_66)) x10_66 x8_66 _ _ _ hm hW hS (lv_sub hl [1, 2, 3, 4, 5, 0, 7] rfl)
  refine lv_iload_n hx hb dX12_over_0 rfl (lv_at hl 1 rfl) ?_
  refine lv_iconst (v := 2) hx hb dX12_over_1 (by decide) ?_
  refine lv_sipush (v := 1000) hx hb dX12_over_2 (by decide) ?_
  obtain ⟨v1000002, hc1000001, hm⟩ := q_b1i hm
  refine q_callS C hW hS (As := [.int x1, .int 2, .int 1000]) (rest := []) (st1 := [.int v1000002]) (c_X12_in l D al dt x1 2 1000 v1000002 hc1000001) yl_X12_in sl_X12_in ml_RX12_376 rfl ⟨Nat.le_of_ble_eq_true rfl, Nat.le_of_ble_eq_true rfl⟩ hl rfl (Nat.le_of_ble_eq_true rfl) dX12_over_5 ⟨Nat.le_refl _, Nat.le_refl _⟩ rfl (fun H locs k1000003 hW hS => ?_)
  refine q_ifc hm (fun c1000004 hm => ?_) (fun c1000004 hm => ?_)
  · refine lv_if_eq (tgt := 53) hx hb dX12_over_8 (by decide) (fun _ => ?_) (fun h => absurd c1000004 h)
    exact hB53 _ _ _ hm hW hS (lv_sub hl [] rfl)
  refine lv_if_eq (tgt := 53) hx hb dX12_over_8 (by decide) (fun h => absurd h c1000004) (fun _ => ?_)
  refine lv_iload_n hx hb dX12_over_11 rfl (lv_at hl 3 rfl) ?_
  refine lv_iconst (v := 1) hx hb dX12_over_12 (by decide) ?_
  refine lv_bipush (v := 10) hx hb dX12_over_13 (by decide) ?_
  obtain ⟨v1000006, hc1000005, hm⟩ := q_b1i hm
  refine q_callS C hW hS (As := [.int x3, .int 1, .int 10]) (rest := []) (st1 := [.int v1000006]) (c_X12_in l D al dt x3 1 10 v1000006 hc1000005) yl_X12_in sl_X12_in ml_RX12_376 rfl ⟨Nat.le_of_ble_eq_true rfl, Nat.le_of_ble_eq_true rfl⟩ hl rfl (Nat.le_of_ble_eq_true rfl) dX12_over_15 ⟨Nat.le_refl _, Nat.le_refl _⟩ rfl (fun H locs k1000007 hW hS => ?_)
  refine q_ifc hm (fun c1000008 hm => ?_) (fun c1000008 hm => ?_)
  · refine lv_if_eq (tgt := 53) hx hb dX12_over_18 (by decide) (fun _ => ?_) (fun h => absurd c1000008 h)
    exact hB53 _ _ _ hm hW hS (lv_sub hl [] rfl)
  refine lv_if_eq (tgt := 53) hx hb dX12_over_18 (by decide) (fun h => absurd h c1000008) (fun _ => ?_)
  refine lv_iload_n hx hb dX12_over_21 rfl (lv_at hl 2 rfl) ?_
  refine lv_iconst (v := 1) hx hb dX12_over_22 (by decide) ?_
  refine lv_iload_n hx hb dX12_over_23 rfl (lv_at hl 3 rfl) ?_
  obtain ⟨v1000010, hc1000009, hm⟩ := q_b1i hm
  refine q_callS C hW hS (As := [.int x2, .int 1, .int x3]) (rest := []) (st1 := [.int v1000010]) (c_X12_in l D al dt x2 1 x3 v1000010 hc1000009) yl_X12_in sl_X12_in ml_RX12_376 rfl ⟨Nat.le_of_ble_eq_true rfl, Nat.le_of_ble_eq_true rfl⟩ hl rfl (Nat.le_of_ble_eq_true rfl) dX12_over_24 ⟨Nat.le_refl _, Nat.le_refl _⟩ rfl (fun H locs k1000011 hW hS => ?_)
  refine q_ifc hm (fun c1000012 hm => ?_) (fun c1000012 hm => ?_)
  · refine lv_if_eq (tgt := 53) hx hb dX12_over_27 (by decide) (fun _ => ?_) (fun h => absurd c1000012 h)
    exact hB53 _ _ _ hm hW hS (lv_sub hl [] rfl)
  refine lv_if_eq (tgt := 53) hx hb dX12_over_27 (by decide) (fun h => absurd h c1000012) (fun _ => ?_)
  refine lv_iload hx hb dX12_over_30 (lv_at hl 4 rfl) ?_
  refine lv_iconst (v := 0) hx hb dX12_over_32 (by decide) ?_
  refine lv_iload_n hx hb dX12_over_33 rfl (lv_at hl 1 rfl) ?_
  refine lv_iconst (v := 1) hx hb dX12_over_34 (by decide) ?_
  refine lv_isub hx hb dX12_over_35 ?_
  obtain ⟨v1000014, hc1000013, hm⟩ := q_b1i hm
  refine q_callS C hW hS (As := [.int x4, .int 0, .int (x1 - 1)]) (rest := []) (st1 := [.int v1000014]) (c_X12_in l D al dt x4 0 (x1 - 1) v1000014 hc1000013) yl_X12_in sl_X12_in ml_RX12_376 rfl ⟨Nat.le_of_ble_eq_true rfl, Nat.le_of_ble_eq_true rfl⟩ hl rfl (Nat.le_of_ble_eq_true rfl) dX12_over_36 ⟨Nat.le_refl _, Nat.le_refl _⟩ rfl (fun H locs k1000015 hW hS => ?_)
  refine q_ifc hm (fun c1000016 hm => ?_) (fun c1000016 hm => ?_)
  · refine lv_if_eq (tgt := 53) hx hb dX12_over_39 (by decide) (fun _ => ?_) (fun h => absurd c1000016 h)
    exact hB53 _ _ _ hm hW hS (lv_sub hl [] rfl)
  refine lv_if_eq (tgt := 53) hx hb dX12_over_39 (by decide) (fun h => absurd h c1000016) (fun _ => ?_)
  refine lv_iload hx hb dX12_over_42 (lv_at hl 5 rfl) ?_
  refine lv_iconst (v := 0) hx hb dX12_over_44 (by decide) ?_
  refine lv_bipush (v := 18) hx hb dX12_over_45 (by decide) ?_
  obtain ⟨v1000018, hc1000017, hm⟩ := q_b1i hm
  refine q_callS C hW hS (As := [.int x5, .int 0, .int 18]) (rest := []) (st1 := [.int v1000018]) (c_X12_in l D al dt x5 0 18 v1000018 hc1000017) yl_X12_in sl_X12_in ml_RX12_376 rfl ⟨Nat.le_of_ble_eq_true rfl, Nat.le_of_ble_eq_true rfl⟩ hl rfl (Nat.le_of_ble_eq_true rfl) dX12_over_47 ⟨Nat.le_refl _, Nat.le_refl _⟩ rfl (fun H locs k1000019 hW hS => ?_)
  refine q_ifc hm (fun c1000020 hm => ?_) (fun c1000020 hm => ?_)
  · refine lv_if_ne (tgt := 57) hx hb dX12_over_50 (by decide) (fun h => absurd c1000020 h) (fun _ => ?_)
    exact hB53 _ _ _ hm hW hS (lv_sub hl [] rfl)
  refine lv_if_ne (tgt := 57) hx hb dX12_over_50 (by decide) (fun _ => ?_) (fun h => absurd h c1000020)
  refine lv_lconst (v := 1) hx hb dX12_over_57 rfl ?_
  refine lv_lstore (i := 6) (lv' := [(6, .long 1), (0, .ref x0), (1, .int x1), (2, .int x2), (3, .int x3), (4, .int x4), (5, .int x5)]) hx hb dX12_over_58 hl (by decide) rfl (fun ls hl => ?_)
  refine lv_lconst (v := 1) hx hb dX12_over_60 rfl ?_
  refine lv_lstore (i := 8) (lv' := [(8, .long 1), (6, .long 1), (0, .ref x0), (1, .int x1), (2, .int x2), (3, .int x3), (4, .int x4), (5, .int x5)]) hx hb dX12_over_61 hl (by decide) rfl (fun ls hl => ?_)
  refine lv_iconst (v := 1) hx hb dX12_over_63 (by decide) ?_
  refine lv_istore (i := 10) (lv' := [(10, .int 1), (8, .long 1), (6, .long 1), (0, .ref x0), (1, .int x1), (2, .int x2), (3, .int x3), (4, .int x4), (5, .int x5)]) hx hb dX12_over_64 hl (by decide) rfl (fun ls hl => ?_)
  exact hB66 x1 x2 x3 x4 x5 q_FU 1 1 1 _ _ _ hm hW hS (lv_sub hl [4, 5, 6, 7, 8, 2, 1, 0] rfl)
theorem dX12_sumsUp_0 : decode cX12_sumsUp 0 = .ok (.iconst 0, 1) := by decide +kernel
theorem dX12_sumsUp_1 : decode cX12_sumsUp 1 = .ok (.istore 4, 2) := by decide +kernel
theorem dX12_sumsUp_3 : decode cX12_sumsUp 3 = .ok (.iload 4, 2) := by decide +kernel
theorem dX12_sumsUp_5 : decode cX12_sumsUp 5 = .ok (.sipush 512, 3) := by decide +kernel
theorem dX12_sumsUp_8 : decode cX12_sumsUp 8 = .ok (.if_icmp .ge 25, 3) := by decide +kernel
theorem dX12_sumsUp_11 : decode cX12_sumsUp 11 = .ok (.aload_n 0, 1) := by decide +kernel
theorem dX12_sumsUp_12 : decode cX12_sumsUp 12 = .ok (.getfield 158, 3) := by decide +kernel
theorem dX12_sumsUp_15 : decode cX12_sumsUp 15 = .ok (.iload 4, 2) := by decide +kernel
theorem dX12_sumsUp_17 : decode cX12_sumsUp 17 = .ok (.lconst 0, 1) := by decide +kernel
theorem dX12_sumsUp_18 : decode cX12_sumsUp 18 = .ok (.lastore, 1) := by decide +kernel
theorem dX12_sumsUp_19 : decode cX12_sumsUp 19 = .ok (.aload_n 0, 1) := by decide +kernel
theorem dX12_sumsUp_20 : decode cX12_sumsUp 20 = .ok (.getfield 161, 3) := by decide +kernel
theorem dX12_sumsUp_23 : decode cX12_sumsUp 23 = .ok (.iload 4, 2) := by decide +kernel
theorem dX12_sumsUp_25 : decode cX12_sumsUp 25 = .ok (.iconst 0, 1) := by decide +kernel
theorem dX12_sumsUp_26 : decode cX12_sumsUp 26 = .ok (.bastore, 1) := by decide +kernel
theorem dX12_sumsUp_27 : decode cX12_sumsUp 27 = .ok (.iinc 4 1, 3) := by decide +kernel
theorem dX12_sumsUp_30 : decode cX12_sumsUp 30 = .ok (.goto (-27), 3) := by decide +kernel
theorem dX12_sumsUp_33 : decode cX12_sumsUp 33 = .ok (.iconst 0, 1) := by decide +kernel
theorem dX12_sumsUp_34 : decode cX12_sumsUp 34 = .ok (.istore 4, 2) := by decide +kernel
theorem dX12_sumsUp_36 : decode cX12_sumsUp 36 = .ok (.iload 4, 2) := by decide +kernel
theorem dX12_sumsUp_38 : decode cX12_sumsUp 38 = .ok (.aload_n 0, 1) := by decide +kernel
theorem dX12_sumsUp_39 : decode cX12_sumsUp 39 = .ok (.invokevirtual 342, 3) := by decide +kernel
theorem dX12_sumsUp_42 : decode cX12_sumsUp 42 = .ok (.if_icmp .ge 226, 3) := by decide +kernel
theorem dX12_sumsUp_45 : decode cX12_sumsUp 45 = .ok (.aload_n 0, 1) := by decide +kernel
theorem dX12_sumsUp_46 : decode cX12_sumsUp 46 = .ok (.iload_n 2, 1) := by decide +kernel
theorem dX12_sumsUp_47 : decode cX12_sumsUp 47 = .ok (.iload 4, 2) := by decide +kernel
theorem dX12_sumsUp_49 : decode cX12_sumsUp 49 = .ok (.invokevirtual 345, 3) := by decide +kernel
theorem dX12_sumsUp_52 : decode cX12_sumsUp 52 = .ok (.istore 5, 2) := by decide +kernel
theorem dX12_sumsUp_54 : decode cX12_sumsUp 54 = .ok (.iload 5, 2) := by decide +kernel
theorem dX12_sumsUp_56 : decode cX12_sumsUp 56 = .ok (.ifCond .ge 6, 3) := by decide +kernel
theorem dX12_sumsUp_59 : decode cX12_sumsUp 59 = .ok (.goto 203, 3) := by decide +kernel
theorem dX12_sumsUp_62 : decode cX12_sumsUp 62 = .ok (.aload_n 0, 1) := by decide +kernel
theorem dX12_sumsUp_63 : decode cX12_sumsUp 63 = .ok (.getfield 161, 3) := by decide +kernel
theorem dX12_sumsUp_66 : decode cX12_sumsUp 66 = .ok (.iload 5, 2) := by decide +kernel
theorem dX12_sumsUp_68 : decode cX12_sumsUp 68 = .ok (.iconst 1, 1) := by decide +kernel
theorem dX12_sumsUp_69 : decode cX12_sumsUp 69 = .ok (.bastore, 1) := by decide +kernel
theorem dX12_sumsUp_70 : decode cX12_sumsUp 70 = .ok (.aload_n 0, 1) := by decide +kernel
theorem dX12_sumsUp_71 : decode cX12_sumsUp 71 = .ok (.iload_n 2, 1) := by decide +kernel
theorem dX12_sumsUp_72 : decode cX12_sumsUp 72 = .ok (.iload 4, 2) := by decide +kernel
theorem dX12_sumsUp_74 : decode cX12_sumsUp 74 = .ok (.invokevirtual 351, 3) := by decide +kernel
theorem dX12_sumsUp_77 : decode cX12_sumsUp 77 = .ok (.ifCond .eq 9, 3) := by decide +kernel
theorem dX12_sumsUp_80 : decode cX12_sumsUp 80 = .ok (.sipush 512, 3) := by decide +kernel
theorem dX12_sumsUp_83 : decode cX12_sumsUp 83 = .ok (.goto 4, 3) := by decide +kernel
theorem dX12_sumsUp_86 : decode cX12_sumsUp 86 = .ok (.iconst 0, 1) := by decide +kernel
theorem dX12_sumsUp_87 : decode cX12_sumsUp 87 = .ok (.istore 6, 2) := by decide +kernel
theorem dX12_sumsUp_89 : decode cX12_sumsUp 89 = .ok (.aload_n 0, 1) := by decide +kernel
theorem dX12_sumsUp_90 : decode cX12_sumsUp 90 = .ok (.iload_n 2, 1) := by decide +kernel
theorem dX12_sumsUp_91 : decode cX12_sumsUp 91 = .ok (.iload 4, 2) := by decide +kernel
theorem dX12_sumsUp_93 : decode cX12_sumsUp 93 = .ok (.invokevirtual 348, 3) := by decide +kernel
theorem dX12_sumsUp_96 : decode cX12_sumsUp 96 = .ok (.istore 7, 2) := by decide +kernel
theorem dX12_sumsUp_98 : decode cX12_sumsUp 98 = .ok (.iload_n 3, 1) := by decide +kernel
theorem dX12_sumsUp_99 : decode cX12_sumsUp 99 = .ok (.ifCond .ne 28, 3) := by decide +kernel
theorem dX12_sumsUp_102 : decode cX12_sumsUp 102 = .ok (.aload_n 0, 1) := by decide +kernel
theorem dX12_sumsUp_103 : decode cX12_sumsUp 103 = .ok (.getfield 158, 3) := by decide +kernel
theorem dX12_sumsUp_106 : decode cX12_sumsUp 106 = .ok (.iload 5, 2) := by decide +kernel
theorem dX12_sumsUp_108 : decode cX12_sumsUp 108 = .ok (.dup2, 1) := by decide +kernel
theorem dX12_sumsUp_109 : decode cX12_sumsUp 109 = .ok (.laload, 1) := by decide +kernel
theorem dX12_sumsUp_110 : decode cX12_sumsUp 110 = .ok (.iload 7, 2) := by decide +kernel
theorem dX12_sumsUp_112 : decode cX12_sumsUp 112 = .ok (.i2l, 1) := by decide +kernel
theorem dX12_sumsUp_113 : decode cX12_sumsUp 113 = .ok (.aload_n 1, 1) := by decide +kernel
theorem dX12_sumsUp_114 : decode cX12_sumsUp 114 = .ok (.iload 6, 2) := by decide +kernel
theorem dX12_sumsUp_116 : decode cX12_sumsUp 116 = .ok (.iload 4, 2) := by decide +kernel
theorem dX12_sumsUp_118 : decode cX12_sumsUp 118 = .ok (.iadd, 1) := by decide +kernel
theorem dX12_sumsUp_119 : decode cX12_sumsUp 119 = .ok (.iaload, 1) := by decide +kernel
theorem dX12_sumsUp_120 : decode cX12_sumsUp 120 = .ok (.i2l, 1) := by decide +kernel
theorem dX12_sumsUp_121 : decode cX12_sumsUp 121 = .ok (.lmul, 1) := by decide +kernel
theorem dX12_sumsUp_122 : decode cX12_sumsUp 122 = .ok (.ladd, 1) := by decide +kernel
theorem dX12_sumsUp_123 : decode cX12_sumsUp 123 = .ok (.lastore, 1) := by decide +kernel
theorem dX12_sumsUp_124 : decode cX12_sumsUp 124 = .ok (.goto 138, 3) := by decide +kernel
theorem dX12_sumsUp_127 : decode cX12_sumsUp 127 = .ok (.aload_n 1, 1) := by decide +kernel
theorem dX12_sumsUp_128 : decode cX12_sumsUp 128 = .ok (.iload 6, 2) := by decide +kernel
theorem dX12_sumsUp_130 : decode cX12_sumsUp 130 = .ok (.iload 4, 2) := by decide +kernel
theorem dX12_sumsUp_132 : decode cX12_sumsUp 132 = .ok (.iadd, 1) := by decide +kernel
theorem dX12_sumsUp_133 : decode cX12_sumsUp 133 = .ok (.iaload, 1) := by decide +kernel
theorem dX12_sumsUp_134 : decode cX12_sumsUp 134 = .ok (.i2l, 1) := by decide +kernel
theorem dX12_sumsUp_135 : decode cX12_sumsUp 135 = .ok (.aload_n 0, 1) := by decide +kernel
theorem dX12_sumsUp_136 : decode cX12_sumsUp 136 = .ok (.getfield 76, 3) := by decide +kernel
theorem dX12_sumsUp_139 : decode cX12_sumsUp 139 = .ok (.bipush 6, 2) := by decide +kernel
theorem dX12_sumsUp_141 : decode cX12_sumsUp 141 = .ok (.aload_n 0, 1) := by decide +kernel
theorem dX12_sumsUp_142 : decode cX12_sumsUp 142 = .ok (.getfield 242, 3) := by decide +kernel
theorem dX12_sumsUp_145 : decode cX12_sumsUp 145 = .ok (.imul, 1) := by decide +kernel
theorem dX12_sumsUp_146 : decode cX12_sumsUp 146 = .ok (.iload_n 2, 1) := by decide +kernel
theorem dX12_sumsUp_147 : decode cX12_sumsUp 147 = .ok (.iadd, 1) := by decide +kernel
theorem dX12_sumsUp_148 : decode cX12_sumsUp 148 = .ok (.iaload, 1) := by decide +kernel
theorem dX12_sumsUp_149 : decode cX12_sumsUp 149 = .ok (.i2l, 1) := by decide +kernel
theorem dX12_sumsUp_150 : decode cX12_sumsUp 150 = .ok (.lmul, 1) := by decide +kernel
theorem dX12_sumsUp_151 : decode cX12_sumsUp 151 = .ok (.lstore 8, 2) := by decide +kernel
theorem dX12_sumsUp_153 : decode cX12_sumsUp 153 = .ok (.iconst 0, 1) := by decide +kernel
theorem dX12_sumsUp_154 : decode cX12_sumsUp 154 = .ok (.istore 10, 2) := by decide +kernel
theorem dX12_sumsUp_156 : decode cX12_sumsUp 156 = .ok (.iload 10, 2) := by decide +kernel
theorem dX12_sumsUp_158 : decode cX12_sumsUp 158 = .ok (.aload_n 0, 1) := by decide +kernel
theorem dX12_sumsUp_159 : decode cX12_sumsUp 159 = .ok (.getfield 91, 3) := by decide +kernel
theorem dX12_sumsUp_162 : decode cX12_sumsUp 162 = .ok (.aload_n 0, 1) := by decide +kernel
theorem dX12_sumsUp_163 : decode cX12_sumsUp 163 = .ok (.getfield 242, 3) := by decide +kernel
theorem dX12_sumsUp_166 : decode cX12_sumsUp 166 = .ok (.iaload, 1) := by decide +kernel
theorem dX12_sumsUp_167 : decode cX12_sumsUp 167 = .ok (.if_icmp .ge 79, 3) := by decide +kernel
theorem dX12_sumsUp_170 : decode cX12_sumsUp 170 = .ok (.bipush 6, 2) := by decide +kernel
theorem dX12_sumsUp_172 : decode cX12_sumsUp 172 = .ok (.aload_n 0, 1) := by decide +kernel
theorem dX12_sumsUp_173 : decode cX12_sumsUp 173 = .ok (.getfield 242, 3) := by decide +kernel
theorem dX12_sumsUp_176 : decode cX12_sumsUp 176 = .ok (.imul, 1) := by decide +kernel
theorem dX12_sumsUp_177 : decode cX12_sumsUp 177 = .ok (.iload 10, 2) := by decide +kernel
theorem dX12_sumsUp_179 : decode cX12_sumsUp 179 = .ok (.iadd, 1) := by decide +kernel
theorem dX12_sumsUp_180 : decode cX12_sumsUp 180 = .ok (.istore 11, 2) := by decide +kernel
theorem dX12_sumsUp_182 : decode cX12_sumsUp 182 = .ok (.aload_n 0, 1) := by decide +kernel
theorem dX12_sumsUp_183 : decode cX12_sumsUp 183 = .ok (.getfield 94, 3) := by decide +kernel
theorem dX12_sumsUp_186 : decode cX12_sumsUp 186 = .ok (.iload 11, 2) := by decide +kernel
theorem dX12_sumsUp_188 : decode cX12_sumsUp 188 = .ok (.iaload, 1) := by decide +kernel
theorem dX12_sumsUp_189 : decode cX12_sumsUp 189 = .ok (.iload_n 2, 1) := by decide +kernel
theorem dX12_sumsUp_190 : decode cX12_sumsUp 190 = .ok (.if_icmp .ne 50, 3) := by decide +kernel
theorem dX12_sumsUp_193 : decode cX12_sumsUp 193 = .ok (.iload 4, 2) := by decide +kernel
theorem dX12_sumsUp_195 : decode cX12_sumsUp 195 = .ok (.aload_n 0, 1) := by decide +kernel
theorem dX12_sumsUp_196 : decode cX12_sumsUp 196 = .ok (.getfield 97, 3) := by decide +kernel
theorem dX12_sumsUp_199 : decode cX12_sumsUp 199 = .ok (.iload 11, 2) := by decide +kernel
theorem dX12_sumsUp_201 : decode cX12_sumsUp 201 = .ok (.iaload, 1) := by decide +kernel
theorem dX12_sumsUp_202 : decode cX12_sumsUp 202 = .ok (.iadd, 1) := by decide +kernel
theorem dX12_sumsUp_203 : decode cX12_sumsUp 203 = .ok (.aload_n 0, 1) := by decide +kernel
theorem dX12_sumsUp_204 : decode cX12_sumsUp 204 = .ok (.invokevirtual 342, 3) := by decide +kernel
theorem dX12_sumsUp_207 : decode cX12_sumsUp 207 = .ok (.if_icmp .ge 33, 3) := by decide +kernel
theorem dX12_sumsUp_210 : decode cX12_sumsUp 210 = .ok (.lload 8, 2) := by decide +kernel
theorem dX12_sumsUp_212 : decode cX12_sumsUp 212 = .ok (.aload_n 1, 1) := by decide +kernel
theorem dX12_sumsUp_213 : decode cX12_sumsUp 213 = .ok (.iload 6, 2) := by decide +kernel
theorem dX12_sumsUp_215 : decode cX12_sumsUp 215 = .ok (.iload 4, 2) := by decide +kernel
theorem dX12_sumsUp_217 : decode cX12_sumsUp 217 = .ok (.iadd, 1) := by decide +kernel
theorem dX12_sumsUp_218 : decode cX12_sumsUp 218 = .ok (.aload_n 0, 1) := by decide +kernel
theorem dX12_sumsUp_219 : decode cX12_sumsUp 219 = .ok (.getfield 97, 3) := by decide +kernel
theorem dX12_sumsUp_222 : decode cX12_sumsUp 222 = .ok (.iload 11, 2) := by decide +kernel
theorem dX12_sumsUp_224 : decode cX12_sumsUp 224 = .ok (.iaload, 1) := by decide +kernel
theorem dX12_sumsUp_225 : decode cX12_sumsUp 225 = .ok (.iadd, 1) := by decide +kernel
theorem dX12_sumsUp_226 : decode cX12_sumsUp 226 = .ok (.iaload, 1) := by decide +kernel
theorem dX12_sumsUp_227 : decode cX12_sumsUp 227 = .ok (.i2l, 1) := by decide +kernel
theorem dX12_sumsUp_228 : decode cX12_sumsUp 228 = .ok (.aload_n 0, 1) := by decide +kernel
theorem dX12_sumsUp_229 : decode cX12_sumsUp 229 = .ok (.getfield 100, 3) := by decide +kernel
theorem dX12_sumsUp_232 : decode cX12_sumsUp 232 = .ok (.iload 11, 2) := by decide +kernel
theorem dX12_sumsUp_234 : decode cX12_sumsUp 234 = .ok (.iaload, 1) := by decide +kernel
theorem dX12_sumsUp_235 : decode cX12_sumsUp 235 = .ok (.i2l, 1) := by decide +kernel
theorem dX12_sumsUp_236 : decode cX12_sumsUp 236 = .ok (.lmul, 1) := by decide +kernel
theorem dX12_sumsUp_237 : decode cX12_sumsUp 237 = .ok (.ladd, 1) := by decide +kernel
theorem dX12_sumsUp_238 : decode cX12_sumsUp 238 = .ok (.lstore 8, 2) := by decide +kernel
theorem dX12_sumsUp_240 : decode cX12_sumsUp 240 = .ok (.iinc 10 1, 3) := by decide +kernel
theorem dX12_sumsUp_243 : decode cX12_sumsUp 243 = .ok (.goto (-87), 3) := by decide +kernel
theorem dX12_sumsUp_246 : decode cX12_sumsUp 246 = .ok (.aload_n 0, 1) := by decide +kernel
theorem dX12_sumsUp_247 : decode cX12_sumsUp 247 = .ok (.getfield 158, 3) := by decide +kernel
theorem dX12_sumsUp_250 : decode cX12_sumsUp 250 = .ok (.iload 5, 2) := by decide +kernel
theorem dX12_sumsUp_252 : decode cX12_sumsUp 252 = .ok (.dup2, 1) := by decide +kernel
theorem dX12_sumsUp_253 : decode cX12_sumsUp 253 = .ok (.laload, 1) := by decide +kernel
theorem dX12_sumsUp_254 : decode cX12_sumsUp 254 = .ok (.iload 7, 2) := by decide +kernel
theorem dX12_sumsUp_256 : decode cX12_sumsUp 256 = .ok (.i2l, 1) := by decide +kernel
theorem dX12_sumsUp_257 : decode cX12_sumsUp 257 = .ok (.lload 8, 2) := by decide +kernel
theorem dX12_sumsUp_259 : decode cX12_sumsUp 259 = .ok (.lmul, 1) := by decide +kernel
theorem dX12_sumsUp_260 : decode cX12_sumsUp 260 = .ok (.ladd, 1) := by decide +kernel
theorem dX12_sumsUp_261 : decode cX12_sumsUp 261 = .ok (.lastore, 1) := by decide +kernel
theorem dX12_sumsUp_262 : decode cX12_sumsUp 262 = .ok (.iinc 4 1, 3) := by decide +kernel
theorem dX12_sumsUp_265 : decode cX12_sumsUp 265 = .ok (.goto (-229), 3) := by decide +kernel
theorem dX12_sumsUp_268 : decode cX12_sumsUp 268 = .ok (.return_, 1) := by decide +kernel
set_option maxRecDepth 100000 in
theorem c_X12_sumsUp (l : Launch) (D : q_D) (al : q_Al) (dt : q_Dt) (x0 : Nat) (x1 : Nat) (x2 : Int32) (x3 : Int32) (kx0 : al.1 x0 = 13) (kx1 : al.1 x1 = 21) (dt0 : q_Dt) (hm : X12_sumsUp al dt x0 x1 x2 x3 = some dt0) : q_Mt l yX12_sumsUp cX12_sumsUp 12 (none) 3 68 D al [.ref x0, .ref x1, .int x2, .int x3] dt 0 none dt0 := by
  refine q_Mt.of (by decide) (Nat.le_of_ble_eq_true rfl) ?_
  intro p e s m args below meth c ls C hargs hW hl
  have hx := C.1
  have hb := C.2.1
  have hown := C.2.2.2.2.2.1
  have hts := C.2.2.2.2.2.2.1
  have hS : va_S (q_A al) s.heap s.heap [] := va_S.rf
  have hl : lv_has ls 12 [(0, .ref x0), (1, .ref x1), (2, .int x2), (3, .int x3)] := hl
  unfold X12_sumsUp at hm
  have hB36 : ∀ (x0_36 : Nat) (x1_36 : Nat) (x2_36 : Int32) (x3_36 : Int32) (kx0_36 : al.1 x0_36 = 13) (kx1_36 : al.1 x1_36 = 21) (n_36 : Nat) (x4_36 : Int32) (dt : q_Dt) (H : Heap) (locs : List Loc) (ls : Array Slot) (hm : X12_sumsUp_b36 al x0_36 x1_36 x2_36 x3_36 n_36 x4_36 dt = some dt0) (hW : q_W D al dt H) (hS : va_S (q_A al) s.heap H locs) (hl : lv_has ls 12 [(0, .ref x0_36), (1, .ref x1_36), (2, .int x2_36), (3, .int x3_36), (4, .int x4_36)]), W p l e { frames := 3, cells := 0, slots := 0, locals := 68 } s m args below meth c H locs 0 0 (MQ below (q_Q none (fun H => q_W D al dt0 H ∧ q_Rk al 0 none) (q_A al)) args s 0 0 (q_A al)) (F0 m 36 ls []) := by
    intro x0_36 x1_36 x2_36 x3_36 kx0_36 kx1_36
    intro n_36
    induction n_36 with
    | zero => intro x4_36 dt H locs ls hm hW hS hl; cases hm
    | succ n_36 ih36 =>
      have hB262 : ∀ (x4_262 : Int32) (dt : q_Dt) (H : Heap) (locs : List Loc) (ls : Array Slot) (hm : X12_sumsUp_b262 al (X12_sumsUp_b36 al x0_36 x1_36 x2_36 x3_36 n_36) x0_36 x1_36 x2_36 x3_36 x4_262 dt = some dt0) (hW : q_W D al dt H) (hS : va_S (q_A al) s.heap H locs) (hl : lv_has ls 12 [(0, .ref x0_36), (1, .ref x1_36), (2, .int x2_36), (3, .int x3_36), (4, .int x4_262)]), W p l e { frames := 3, cells := 0, slots := 0, locals := 68 } s m args below meth c H locs 0 0 (MQ below (q_Q none (fun H => q_W D al dt0 H ∧ q_Rk al 0 none) (q_A al)) args s 0 0 (q_A al)) (F0 m 262 ls []) := by
        intro x4_262 dt H locs ls hm hW hS hl
        unfold X12_sumsUp_b262 at hm
        refine lv_iinc (v := (x4_262 + 1)) (lv' := [(4, .int (x4_262 + 1)), (0, .ref x0_36), (1, .ref x1_36), (2, .int x2_36), (3, .int x3_36)]) hx hb dX12_sumsUp_262 hl (k := 4) rfl rfl (by decide) rfl (fun ls hl => ?_)
        refine lv_goto (tgt := 36) hx hb dX12_sumsUp_265 (by decide) ?_
        exact ih36 (x4_262 + 1) dt _ _ _ hm hW hS (lv_sub hl [1, 2, 3, 4, 0] rfl)
      have hB156 : ∀ (x4_156 : Int32) (x5_156 : Int32) (x6_156 : Int32) (x7_156 : Int32) (n_156 : Nat) (x8_156 : Int64) (x10_156 : Int32) (dt : q_Dt) (H : Heap) (locs : List Loc) (ls : Array Slot) (hm : X12_sumsUp_b156 al (X12_sumsUp_b36 al x0_36 x1_36 x2_36 x3_36 n_36) x0_36 x1_36 x2_36 x3_36 x4_156 x5_156 x6_156 x7_156 n_156 x8_156 x10_156 dt = some dt0) (hW : q_W D al dt H) (hS : va_S (q_A al) s.heap H locs) (hl : lv_has ls 12 [(0, .ref x0_36), (1, .ref x1_36), (2, .int x2_36), (3, .int x3_36), (4, .int x4_156), (5, .int x5_156), (6, .int x6_156), (7, .int x7_156), (8, .long x8_156), (10, .int x10_156)]), W p l e { frames := 3, cells := 0, slots := 0, locals := 68 } s m args below meth c H locs 0 0 (MQ below (q_Q none (fun H => q_W D al dt0 H ∧ q_Rk al 0 none) (q_A al)) args s 0 0 (q_A al)) (F0 m 156 ls []) := by
        intro x4_156 x5_156 x6_156 x7_156
        intro n_156
        induction n_156 with
        | zero => intro x8_156 x10_156 dt H locs ls hm hW hS hl; cases hm
        | succ n_156 ih156 =>
          have hB240 : ∀ (x8_240 : Int64) (x10_240 : Int32) (dt : q_Dt) (H : Heap) (locs : List Loc) (ls : Array Slot) (hm : X12_sumsUp_b240 al (X12_sumsUp_b36 al x0_36 x1_36 x2_36 x3_36 n_36) (X12_sumsUp_b156 al (X12_sumsUp_b36 al x0_36 x1_36 x2_36 x3_36 n_36) x0_36 x1_36 x2_36 x3_36 x4_156 x5_156 x6_156 x7_156 n_156) x0_36 x1_36 x2_36 x3_36 x4_156 x5_156 x6_156 x7_156 x8_240 x10_240 dt = some dt0) (hW : q_W D al dt H) (hS : va_S (q_A al) s.heap H locs) (hl : lv_has ls 12 [(0, .ref x0_36), (1, .ref x1_36), (2, .int x2_36), (3, .int x3_36), (4, .int x4_156), (5, .int x5_156), (6, .int x6_156), (7, .int x7_156), (8, .long x8_240), (10, .int x10_240)]), W p l e { frames := 3, cells := 0, slots := 0, locals := 68 } s m args below meth c H locs 0 0 (MQ below (q_Q none (fun H => q_W D al dt0 H ∧ q_Rk al 0 none) (q_A al)) args s 0 0 (q_A al)) (F0 m 240 ls []) := by
            intro x8_240 x10_240 dt H locs ls hm hW hS hl
            unfold X12_sumsUp_b240 at hm
            refine lv_iinc (v := (x10_240 + 1)) (lv' := [(10, .int (x10_240 + 1)), (0, .ref x0_36), (1, .ref x1_36), (2, .int x2_36), (3, .int x3_36), (4, .int x4_156), (5, .int x5_156), (6, .int x6_156), (7, .int x7_156), (8, .long x8_240)]) hx hb dX12_sumsUp_240 hl (k := 9) rfl rfl (by decide) rfl (fun ls hl => ?_)
            refine lv_goto (tgt := 156) hx hb dX12_sumsUp_243 (by decide) ?_
            exact ih156 x8_240 (x10_240 + 1) dt _ _ _ hm hW hS (lv_sub hl [1, 2, 3, 4, 5, 6, 7, 8, 9, 0] rfl)
          intro x8_156 x10_156 dt H locs ls hm hW hS hl
          rw [X12_sumsUp_b156] at hm
          refine lv_iload hx hb dX12_sumsUp_156 (lv_at hl 9 rfl) ?_
          refine lv_aload_n hx hb dX12_sumsUp_158 rfl (lv_at hl 0 rfl) ?_
          refine r_getF C hW (ci := 12) kx0_36 ff_12_38 cl_12 fl_RX12_91 dX12_sumsUp_159 (fun k156001 => ?_)
          refine lv_aload_n hx hb dX12_sumsUp_162 rfl (lv_at hl 0 rfl) ?_
          refine r_getI C hW (ci := 12) kx0_36 ff_12_18 cl_12 fl_RX12_242 dX12_sumsUp_163 ?_
          refine r_iald C hW hm k156001 dX12_sumsUp_166 (fun hm => ?_)
          refine q_ifc hm (fun c156002 hm => ?_) (fun c156002 hm => ?_)
          · refine lv_icmp_ge (tgt := 246) hx hb dX12_sumsUp_167 (by decide) (fun _ => ?_) (fun h => absurd c156002 h)
            refine lv_aload_n hx hb dX12_sumsUp_246 rfl (lv_at hl 0 rfl) ?_
            refine r_getF C hW (ci := 12) kx0_36 ff_12_63 cl_12 fl_RX12_158 dX12_sumsUp_247 (fun k156003 => ?_)
            refine lv_iload hx hb dX12_sumsUp_250 (lv_at hl 5 rfl) ?_
            refine lv_dup2_11 hx hb dX12_sumsUp_252 rfl rfl ?_
            refine r_lald C hW hm k156003 dX12_sumsUp_253 (fun hm => ?_)
            refine lv_iload hx hb dX12_sumsUp_254 (lv_at hl 7 rfl) ?_
            refine lv_i2l (v := (Int32.toInt64 x7_156)) hx hb dX12_sumsUp_256 rfl ?_
            refine lv_lload hx hb dX12_sumsUp_257 (lv_at hl 8 rfl) ?_
            refine lv_lmul hx hb dX12_sumsUp_259 ?_
            refine lv_ladd hx hb dX12_sumsUp_260 ?_
            refine r_last C hW hS hm k156003 dX12_sumsUp_261 (fun dt156004 H locs hm hW hS => ?_)
            exact hB262 x4_156 dt156004 _ _ _ hm hW hS (lv_sub hl [0, 1, 2, 3, 4] rfl)
          refine lv_icmp_ge (tgt := 246) hx hb dX12_sumsUp_167 (by decide) (fun h => absurd h c156002) (fun _ => ?_)
          refine lv_bipush (v := 6) hx hb dX12_sumsUp_170 (by decide) ?_
          refine lv_aload_n hx hb dX12_sumsUp_172 rfl (lv_at hl 0 rfl) ?_
          refine r_getI C hW (ci := 12) kx0_36 ff_12_18 cl_12 fl_RX12_242 dX12_sumsUp_173 ?_
          refine lv_imul hx hb dX12_sumsUp_176 ?_
          refine lv_iload hx hb dX12_sumsUp_177 (lv_at hl 9 rfl) ?_
          refine lv_iadd hx hb dX12_sumsUp_179 ?_
          refine lv_istore (i := 11) (lv' := [(11, .int ((6 * (dt.1 x0_36 18)) + x10_156)), (0, .ref x0_36), (1, .ref x1_36), (2, .int x2_36), (3, .int x3_36), (4, .int x4_156), (5, .int x5_156), (6, .int x6_156), (7, .int x7_156), (8, .long x8_156), (10, .int x10_156)]) hx hb dX12_sumsUp_180 hl (by decide) rfl (fun ls hl => ?_)
          refine lv_aload_n hx hb dX12_sumsUp_182 rfl (lv_at hl 1 rfl) ?_
          refine r_getF C hW (ci := 12) kx0_36 ff_12_39 cl_12 fl_RX12_94 dX12_sumsUp_183 (fun k156005 => ?_)
          refine lv_iload hx hb dX12_sumsUp_186 (lv_at hl 0 rfl) ?_
          refine r_iald C hW hm k156005 dX12_sumsUp_188 (fun hm => ?_)
          refine lv_iload_n hx hb dX12_sumsUp_189 rfl (lv_at hl 3 rfl) ?_
          refine q_ifc hm (fun c156006 hm => ?_) (fun c156006 hm => ?_)
          · refine lv_icmp_ne (tgt := 240) hx hb dX12_sumsUp_190 (by decide) (fun h => absurd c156006 h) (fun _ => ?_)
            refine lv_iload hx hb dX12_sumsUp_193 (lv_at hl 5 rfl) ?_
            refine lv_aload_n hx hb dX12_sumsUp_195 rfl (lv_at hl 1 rfl) ?_
            refine r_getF C hW (ci := 12) kx0_36 ff_12_40 cl_12 fl_RX12_97 dX12_sumsUp_196 (fun k156007 => ?_)
            refine lv_iload hx hb dX12_sumsUp_199 (lv_at hl 0 rfl) ?_
            refine r_iald C hW hm k156007 dX12_sumsUp_201 (fun hm => ?_)
            refine lv_iadd hx hb dX12_sumsUp_202 ?_
            refine lv_aload_n hx hb dX12_sumsUp_203 rfl (lv_at hl 1 rfl) ?_
            obtain ⟨v156009, hc156008, hm⟩ := q_b1i hm
            refine q_callV C hW hS (As := []) (rest := [.int (x4_156 + (dt.1 (al.2.2 x0_36 40) (Int32.toNatClampNeg ((6 * (dt.1 x0_36 18)) + x10_156))))]) (st1 := [.int v156009, .int (x4_156 + (dt.1 (al.2.2 x0_36 40) (Int32.toNatClampNeg ((6 * (dt.1 x0_36 18)) + x10_156))))]) (c_X12_n l D al dt x0_36 kx0_36 v156009 hc156008) yl_X12_n vl_X12_n ml_RX12_342 (ci := 12) rfl kx0_36 (by decide) rfl ⟨Nat.le_of_ble_eq_true rfl, Nat.le_of_ble_eq_true rfl⟩ hl rfl (Nat.le_of_ble_eq_true rfl) dX12_sumsUp_204 ⟨Nat.le_refl _, Nat.le_refl _⟩ rfl (fun H locs k156010 hW hS => ?_)
            refine q_ifc hm (fun c156011 hm => ?_) (fun c156011 hm => ?_)
            · refine lv_icmp_ge (tgt := 240) hx hb dX12_sumsUp_207 (by decide) (fun _ => ?_) (fun h => absurd c156011 h)
              exact hB240 x8_156 x10_156 dt _ _ _ hm hW hS (lv_sub hl [1, 2, 3, 4, 5, 6, 7, 8, 9, 10] rfl)
            refine lv_icmp_ge (tgt := 240) hx hb dX12_sumsUp_207 (by decide) (fun h => absurd h c156011) (fun _ => ?_)
            refine lv_lload hx hb dX12_sumsUp_210 (lv_at hl 9 rfl) ?_
            refine lv_aload_n hx hb dX12_sumsUp_212 rfl (lv_at hl 2 rfl) ?_
            refine lv_iload hx hb dX12_sumsUp_213 (lv_at hl 7 rfl) ?_
            refine lv_iload hx hb dX12_sumsUp_215 (lv_at hl 5 rfl) ?_
            refine lv_iadd hx hb dX12_sumsUp_217 ?_
            refine lv_aload_n hx hb dX12_sumsUp_218 rfl (lv_at hl 1 rfl) ?_
            refine r_getF C hW (ci := 12) kx0_36 ff_12_40 cl_12 fl_RX12_97 dX12_sumsUp_219 (fun k156012 => ?_)
            refine lv_iload hx hb dX12_sumsUp_222 (lv_at hl 0 rfl) ?_
            refine r_iald C hW hm k156012 dX12_sumsUp_224 (fun hm => ?_)
            refine lv_iadd hx hb dX12_sumsUp_225 ?_
            refine r_iald C hW hm kx1_36 dX12_sumsUp_226 (fun hm => ?_)
            refine lv_i2l (v := (Int32.toInt64 (dt.1 x1_36 (Int32.toNatClampNeg ((x6_156 + x4_156) + (dt.1 (al.2.2 x0_36 40) (Int32.toNatClampNeg ((6 * (dt.1 x0_36 18)) + x10_156)))))))) hx hb dX12_sumsUp_227 rfl ?_
            refine lv_aload_n hx hb dX12_sumsUp_228 rfl (lv_at hl 1 rfl) ?_
            refine r_getF C hW (ci := 12) kx0_36 ff_12_41 cl_12 fl_RX12_100 dX12_sumsUp_229 (fun k156013 => ?_)
            refine lv_iload hx hb dX12_sumsUp_232 (lv_at hl 0 rfl) ?_
            refine r_iald C hW hm k156013 dX12_sumsUp_234 (fun hm => ?_)
            refine lv_i2l (v := (Int32.toInt64 (dt.1 (al.2.2 x0_36 41) (Int32.toNatClampNeg ((6 * (dt.1 x0_36 18)) + x10_156))))) hx hb dX12_sumsUp_235 rfl ?_
            refine lv_lmul hx hb dX12_sumsUp_236 ?_
            refine lv_ladd hx hb dX12_sumsUp_237 ?_
            refine q_nmL hm (fun v156014 ev156014 hm => ?_)
            refine lv_lstore (i := 8) (lv' := [(8, .long v156014), (11, .int ((6 * (dt.1 x0_36 18)) + x10_156)), (0, .ref x0_36), (1, .ref x1_36), (2, .int x2_36), (3, .int x3_36), (4, .int x4_156), (5, .int x5_156), (6, .int x6_156), (7, .int x7_156), (10, .int x10_156)]) hx hb dX12_sumsUp_238 hl (by decide) rfl (fun ls hl => ?_)
            exact hB240 v156014 x10_156 dt _ _ _ hm hW hS (lv_sub hl [2, 3, 4, 5, 6, 7, 8, 9, 0, 10] rfl)
          refine lv_icmp_ne (tgt := 240) hx hb dX12_sumsUp_190 (by decide) (fun _ => ?_) (fun h => absurd h c156006)
          exact hB240 x8_156 x10_156 dt _ _ _ hm hW hS (lv_sub hl [1, 2, 3, 4, 5, 6, 7, 8, 9, 10] rfl)
      have hB87 : ∀ (x4_87 : Int32) (x5_87 : Int32) (t0_87 : Int32) (dt : q_Dt) (H : Heap) (locs : List Loc) (ls : Array Slot) (hm : X12_sumsUp_b87 al (X12_sumsUp_b36 al x0_36 x1_36 x2_36 x3_36 n_36) x0_36 x1_36 x2_36 x3_36 x4_87 x5_87 t0_87 dt = some dt0) (hW : q_W D al dt H) (hS : va_S (q_A al) s.heap H locs) (hl : lv_has ls 12 [(0, .ref x0_36), (1, .ref x1_36), (2, .int x2_36), (3, .int x3_36), (4, .int x4_87), (5, .int x5_87)]), W p l e { frames := 3, cells := 0, slots := 0, locals := 68 } s m args below meth c H locs 0 0 (MQ below (q_Q none (fun H => q_W D al dt0 H ∧ q_Rk al 0 none) (q_A al)) args s 0 0 (q_A al)) (F0 m 87 ls [.int t0_87]) := by
        intro x4_87 x5_87 t0_87 dt H locs ls hm hW hS hl
        unfold X12_sumsUp_b87 at hm
        refine lv_istore (i := 6) (lv' := [(6, .int t0_87), (0, .ref x0_36), (1, .ref x1_36), (2, .int x2_36), (3, .int x3_36), (4, .int x4_87), (5, .int x5_87)]) hx hb dX12_sumsUp_87 hl (by decide) rfl (fun ls hl => ?_)
        refine lv_aload_n hx hb dX12_sumsUp_89 rfl (lv_at hl 1 rfl) ?_
        refine lv_iload_n hx hb dX12_sumsUp_90 rfl (lv_at hl 3 rfl) ?_
        refine lv_iload hx hb dX12_sumsUp_91 (lv_at hl 5 rfl) ?_
        obtain ⟨v87002, hc87001, hm⟩ := q_b1i hm
        refine q_callV C hW hS (As := [.int x2_36, .int x4_87]) (rest := []) (st1 := [.int v87002]) (c_X12_signAt l D al dt x0_36 x2_36 x4_87 kx0_36 v87002 hc87001) yl_X12_signAt vl_X12_signAt ml_RX12_348 (ci := 12) rfl kx0_36 (by decide) rfl ⟨Nat.le_of_ble_eq_true rfl, Nat.le_of_ble_eq_true rfl⟩ hl rfl (Nat.le_of_ble_eq_true rfl) dX12_sumsUp_93 ⟨Nat.le_refl _, Nat.le_refl _⟩ rfl (fun H locs k87003 hW hS => ?_)
        refine lv_istore (i := 7) (lv' := [(7, .int v87002), (6, .int t0_87), (0, .ref x0_36), (1, .ref x1_36), (2, .int x2_36), (3, .int x3_36), (4, .int x4_87), (5, .int x5_87)]) hx hb dX12_sumsUp_96 hl (by decide) rfl (fun ls hl => ?_)
        refine lv_iload_n hx hb dX12_sumsUp_98 rfl (lv_at hl 5 rfl) ?_
        refine q_ifc hm (fun c87004 hm => ?_) (fun c87004 hm => ?_)
        · refine lv_if_ne (tgt := 127) hx hb dX12_sumsUp_99 (by decide) (fun h => absurd c87004 h) (fun _ => ?_)
          refine lv_aload_n hx hb dX12_sumsUp_102 rfl (lv_at hl 2 rfl) ?_
          refine r_getF C hW (ci := 12) kx0_36 ff_12_63 cl_12 fl_RX12_158 dX12_sumsUp_103 (fun k87005 => ?_)
          refine lv_iload hx hb dX12_sumsUp_106 (lv_at hl 7 rfl) ?_
          refine lv_dup2_11 hx hb dX12_sumsUp_108 rfl rfl ?_
          refine r_lald C hW hm k87005 dX12_sumsUp_109 (fun hm => ?_)
          refine lv_iload hx hb dX12_sumsUp_110 (lv_at hl 0 rfl) ?_
          refine lv_i2l (v := (Int32.toInt64 v87002)) hx hb dX12_sumsUp_112 rfl ?_
          refine lv_aload_n hx hb dX12_sumsUp_113 rfl (lv_at hl 3 rfl) ?_
          refine lv_iload hx hb dX12_sumsUp_114 (lv_at hl 1 rfl) ?_
          refine lv_iload hx hb dX12_sumsUp_116 (lv_at hl 6 rfl) ?_
          refine lv_iadd hx hb dX12_sumsUp_118 ?_
          refine r_iald C hW hm kx1_36 dX12_sumsUp_119 (fun hm => ?_)
          refine lv_i2l (v := (Int32.toInt64 (dt.1 x1_36 (Int32.toNatClampNeg (t0_87 + x4_87))))) hx hb dX12_sumsUp_120 rfl ?_
          refine lv_lmul hx hb dX12_sumsUp_121 ?_
          refine lv_ladd hx hb dX12_sumsUp_122 ?_
          refine r_last C hW hS hm k87005 dX12_sumsUp_123 (fun dt87006 H locs hm hW hS => ?_)
          refine lv_goto (tgt := 262) hx hb dX12_sumsUp_124 (by decide) ?_
          exact hB262 x4_87 dt87006 _ _ _ hm hW hS (lv_sub hl [2, 3, 4, 5, 6] rfl)
        refine lv_if_ne (tgt := 127) hx hb dX12_sumsUp_99 (by decide) (fun _ => ?_) (fun h => absurd h c87004)
        refine lv_aload_n hx hb dX12_sumsUp_127 rfl (lv_at hl 3 rfl) ?_
        refine lv_iload hx hb dX12_sumsUp_128 (lv_at hl 1 rfl) ?_
        refine lv_iload hx hb dX12_sumsUp_130 (lv_at hl 6 rfl) ?_
        refine lv_iadd hx hb dX12_sumsUp_132 ?_
        refine r_iald C hW hm kx1_36 dX12_sumsUp_133 (fun hm => ?_)
        refine lv_i2l (v := (Int32.toInt64 (dt.1 x1_36 (Int32.toNatClampNeg (t0_87 + x4_87))))) hx hb dX12_sumsUp_134 rfl ?_
        refine lv_aload_n hx hb dX12_sumsUp_135 rfl (lv_at hl 2 rfl) ?_
        refine r_getF C hW (ci := 12) kx0_36 ff_12_33 cl_12 fl_RX12_76 dX12_sumsUp_136 (fun k87007 => ?_)
        refine lv_bipush (v := 6) hx hb dX12_sumsUp_139 (by decide) ?_
        refine lv_aload_n hx hb dX12_sumsUp_141 rfl (lv_at hl 2 rfl) ?_
        refine r_getI C hW (ci := 12) kx0_36 ff_12_18 cl_12 fl_RX12_242 dX12_sumsUp_142 ?_
        refine lv_imul hx hb dX12_sumsUp_145 ?_
        refine lv_iload_n hx hb dX12_sumsUp_146 rfl (lv_at hl 4 rfl) ?_
        refine lv_iadd hx hb dX12_sumsUp_147 ?_
        refine r_iald C hW hm k87007 dX12_sumsUp_148 (fun hm => ?_)
        refine lv_i2l (v := (Int32.toInt64 (dt.1 (al.2.2 x0_36 33) (Int32.toNatClampNeg ((6 * (dt.1 x0_36 18)) + x2_36))))) hx hb dX12_sumsUp_149 rfl ?_
        refine lv_lmul hx hb dX12_sumsUp_150 ?_
        refine q_nmL hm (fun v87008 ev87008 hm => ?_)
        refine lv_lstore (i := 8) (lv' := [(8, .long v87008), (7, .int v87002), (6, .int t0_87), (0, .ref x0_36), (1, .ref x1_36), (2, .int x2_36), (3, .int x3_36), (4, .int x4_87), (5, .int x5_87)]) hx hb dX12_sumsUp_151 hl (by decide) rfl (fun ls hl => ?_)
        refine lv_iconst (v := 0) hx hb dX12_sumsUp_153 (by decide) ?_
        refine lv_istore (i := 10) (lv' := [(10, .int 0), (8, .long v87008), (7, .int v87002), (6, .int t0_87), (0, .ref x0_36), (1, .ref x1_36), (2, .int x2_36), (3, .int x3_36), (4, .int x4_87), (5, .int x5_87)]) hx hb dX12_sumsUp_154 hl (by decide) rfl (fun ls hl => ?_)
        exact hB156 x4_87 x5_87 t0_87 v87002 q_FU v87008 0 dt _ _ _ hm hW hS (lv_sub hl [4, 5, 6, 7, 8, 9, 3, 2, 1, 0] rfl)
      intro x4_36 dt H locs ls hm hW hS hl
      rw [X12_sumsUp_b36] at hm
      refine lv_iload hx hb dX12_sumsUp_36 (lv_at hl 4 rfl) ?_
      refine lv_aload_n hx hb dX12_sumsUp_38 rfl (lv_at hl 0 rfl) ?_
      obtain ⟨v36002, hc36001, hm⟩ := q_b1i hm
      refine q_callV C hW hS (As := []) (rest := [.int x4_36]) (st1 := [.int v36002, .int x4_36]) (c_X12_n l D al dt x0_36 kx0_36 v36002 hc36001) yl_X12_n vl_X12_n ml_RX12_342 (ci := 12) rfl kx0_36 (by decide) rfl ⟨Nat.le_of_ble_eq_true rfl, Nat.le_of_ble_eq_true rfl⟩ hl rfl (Nat.le_of_ble_eq_true rfl) dX12_sumsUp_39 ⟨Nat.le_refl _, Nat.le_refl _⟩ rfl (fun H locs k36003 hW hS => ?_)
      refine q_ifc hm (fun c36004 hm => ?_) (fun c36004 hm => ?_)
      · refine lv_icmp_ge (tgt := 268) hx hb dX12_sumsUp_42 (by decide) (fun _ => ?_) (fun h => absurd c36004 h)
        exact e_vD C hW hS hm dX12_sumsUp_268
      refine lv_icmp_ge (tgt := 268) hx hb dX12_sumsUp_42 (by decide) (fun h => absurd h c36004) (fun _ => ?_)
      refine lv_aload_n hx hb dX12_sumsUp_45 rfl (lv_at hl 0 rfl) ?_
      refine lv_iload_n hx hb dX12_sumsUp_46 rfl (lv_at hl 2 rfl) ?_
      refine lv_iload hx hb dX12_sumsUp_47 (lv_at hl 4 rfl) ?_
      obtain ⟨v36006, hc36005, hm⟩ := q_b1i hm
      refine q_callV C hW hS (As := [.int x2_36, .int x4_36]) (rest := []) (st1 := [.int v36006]) (c_X12_periodAt l D al dt x0_36 x2_36 x4_36 kx0_36 v36006 hc36005) yl_X12_periodAt vl_X12_periodAt ml_RX12_345 (ci := 12) rfl kx0_36 (by decide) rfl ⟨Nat.le_of_ble_eq_true rfl, Nat.le_of_ble_eq_true rfl⟩ hl rfl (Nat.le_of_ble_eq_true rfl) dX12_sumsUp_49 ⟨Nat.le_refl _, Nat.le_refl _⟩ rfl (fun H locs k36007 hW hS => ?_)
      refine lv_istore (i := 5) (lv' := [(5, .int v36006), (0, .ref x0_36), (1, .ref x1_36), (2, .int x2_36), (3, .int x3_36), (4, .int x4_36)]) hx hb dX12_sumsUp_52 hl (by decide) rfl (fun ls hl => ?_)
      refine lv_iload hx hb dX12_sumsUp_54 (lv_at hl 0 rfl) ?_
      refine q_ifc hm (fun c36008 hm => ?_) (fun c36008 hm => ?_)
      · refine lv_if_ge (tgt := 62) hx hb dX12_sumsUp_56 (by decide) (fun _ => ?_) (fun h => absurd c36008 h)
        refine lv_aload_n hx hb dX12_sumsUp_62 rfl (lv_at hl 1 rfl) ?_
        refine r_getF C hW (ci := 12) kx0_36 ff_12_64 cl_12 fl_RX12_161 dX12_sumsUp_63 (fun k36009 => ?_)
        refine lv_iload hx hb dX12_sumsUp_66 (lv_at hl 0 rfl) ?_
        refine lv_iconst (v := 1) hx hb dX12_sumsUp_68 (by decide) ?_
        refine r_zast C hW hS hm k36009 dX12_sumsUp_69 (fun dt36010 H locs hm hW hS => ?_)
        refine lv_aload_n hx hb dX12_sumsUp_70 rfl (lv_at hl 1 rfl) ?_
        refine lv_iload_n hx hb dX12_sumsUp_71 rfl (lv_at hl 3 rfl) ?_
        refine lv_iload hx hb dX12_sumsUp_72 (lv_at hl 5 rfl) ?_
        obtain ⟨v36012, hc36011, hm⟩ := q_b1i hm
        refine q_callV C hW hS (As := [.int x2_36, .int x4_36]) (rest := []) (st1 := [.int v36012]) (c_X12_isIm l D al dt36010 x0_36 x2_36 x4_36 kx0_36 v36012 hc36011) yl_X12_isIm vl_X12_isIm ml_RX12_351 (ci := 12) rfl kx0_36 (by decide) rfl ⟨Nat.le_of_ble_eq_true rfl, Nat.le_of_ble_eq_true rfl⟩ hl rfl (Nat.le_of_ble_eq_true rfl) dX12_sumsUp_74 ⟨Nat.le_refl _, Nat.le_refl _⟩ rfl (fun H locs k36013 hW hS => ?_)
        refine q_ifc hm (fun c36014 hm => ?_) (fun c36014 hm => ?_)
        · refine lv_if_eq (tgt := 86) hx hb dX12_sumsUp_77 (by decide) (fun _ => ?_) (fun h => absurd c36014 h)
          refine lv_iconst (v := 0) hx hb dX12_sumsUp_86 (by decide) ?_
          exact hB87 x4_36 v36006 0 dt36010 _ _ _ hm hW hS (lv_sub hl [1, 2, 3, 4, 5, 0] rfl)
        refine lv_if_eq (tgt := 86) hx hb dX12_sumsUp_77 (by decide) (fun h => absurd h c36014) (fun _ => ?_)
        refine lv_sipush (v := 512) hx hb dX12_sumsUp_80 (by decide) ?_
        refine lv_goto (tgt := 87) hx hb dX12_sumsUp_83 (by decide) ?_
        exact hB87 x4_36 v36006 512 dt36010 _ _ _ hm hW hS (lv_sub hl [1, 2, 3, 4, 5, 0] rfl)
      refine lv_if_ge (tgt := 62) hx hb dX12_sumsUp_56 (by decide) (fun h => absurd h c36008) (fun _ => ?_)
      refine lv_goto (tgt := 262) hx hb dX12_sumsUp_59 (by decide) ?_
      exact hB262 x4_36 dt _ _ _ hm hW hS (lv_sub hl [1, 2, 3, 4, 5] rfl)
  have hB3 : ∀ (x0_3 : Nat) (x1_3 : Nat) (x2_3 : Int32) (x3_3 : Int32) (kx0_3 : al.1 x0_3 = 13) (kx1_3 : al.1 x1_3 = 21) (n_3 : Nat) (x4_3 : Int32) (dt : q_Dt) (H : Heap) (locs : List Loc) (ls : Array Slot) (hm : X12_sumsUp_b3 al x0_3 x1_3 x2_3 x3_3 n_3 x4_3 dt = some dt0) (hW : q_W D al dt H) (hS : va_S (q_A al) s.heap H locs) (hl : lv_has ls 12 [(0, .ref x0_3), (1, .ref x1_3), (2, .int x2_3), (3, .int x3_3), (4, .int x4_3)]), W p l e { frames := 3, cells := 0, slots := 0, locals := 68 } s m args below meth c H locs 0 0 (MQ below (q_Q none (fun H => q_W D al dt0 H ∧ q_Rk al 0 none) (q_A al)) args s 0 0 (q_A al)) (F0 m 3 ls []) := by
    intro x0_3 x1_3 x2_3 x3_3 kx0_3 kx1_3
    intro n_3
    induction n_3 with
    | zero => intro x4_3 dt H locs ls hm hW hS hl; cases hm
    | succ n_3 ih3 =>
      intro x4_3 dt H locs ls hm hW hS hl
      rw [X12_sumsUp_b3] at hm
      refine lv_iload hx hb dX12_sumsUp_3 (lv_at hl 4 rfl) ?_
      refine lv_sipush (v := 512) hx hb dX12_sumsUp_5 (by decide) ?_
      refine q_ifc hm (fun c3001 hm => ?_) (fun c3001 hm => ?_)
      · refine lv_icmp_ge (tgt := 33) hx hb dX12_sumsUp_8 (by decide) (fun _ => ?_) (fun h => absurd c3001 h)
        refine lv_iconst (v := 0) hx hb dX12_sumsUp_33 (by decide) ?_
        refine lv_istore (i := 4) (lv' := [(4, .int 0), (0, .ref x0_3), (1, .ref x1_3), (2, .int x2_3), (3, .int x3_3)]) hx hb dX12_sumsUp_34 hl (by decide) rfl (fun ls hl => ?_)
        exact hB36 x0_3 x1_3 x2_3 x3_3 kx0_3 kx1_3 q_FU 0 dt _ _ _ hm hW hS (lv_sub hl [1, 2, 3, 4, 0] rfl)
      refine lv_icmp_ge (tgt := 33) hx hb dX12_sumsUp_8 (by decide) (fun h => absurd h c3001) (fun _ => ?_)
      refine lv_aload_n hx hb dX12_sumsUp_11 rfl (lv_at hl 0 rfl) ?_
      refine r_getF C hW (ci := 12) kx0_3 ff_12_63 cl_12 fl_RX12_158 dX12_sumsUp_12 (fun k3002 => ?_)
      refine lv_iload hx hb dX12_sumsUp_15 (lv_at hl 4 rfl) ?_
      refine lv_lconst (v := 0) hx hb dX12_sumsUp_17 rfl ?_
      refine r_last C hW hS hm k3002 dX12_sumsUp_18 (fun dt3003 H locs hm hW hS => ?_)
      refine lv_aload_n hx hb dX12_sumsUp_19 rfl (lv_at hl 0 rfl) ?_
      refine r_getF C hW (ci := 12) kx0_3 ff_12_64 cl_12 fl_RX12_161 dX12_sumsUp_20 (fun k3004 => ?_)
      refine lv_iload hx hb dX12_sumsUp_23 (lv_at hl 4 rfl) ?_
      refine lv_iconst (v := 0) hx hb dX12_sumsUp_25 (by decide) ?_
      refine r_zast C hW hS hm k3004 dX12_sumsUp_26 (fun dt3005 H locs hm hW hS => ?_)
      refine lv_iinc (v := (x4_3 + 1)) (lv' := [(4, .int (x4_3 + 1)), (0, .ref x0_3), (1, .ref x1_3), (2, .int x2_3), (3, .int x3_3)]) hx hb dX12_sumsUp_27 hl (k := 4) rfl rfl (by decide) rfl (fun ls hl => ?_)
      refine lv_goto (tgt := 3) hx hb dX12_sumsUp_30 (by decide) ?_
      exact ih3 (x4_3 + 1) dt3005 _ _ _ hm hW hS (lv_sub hl [1, 2, 3, 4, 0] rfl)
  refine lv_iconst (v := 0) hx hb dX12_sumsUp_0 (by decide) ?_
  refine lv_istore (i := 4) (lv' := [(4, .int 0), (0, .ref x0), (1, .ref x1), (2, .int x2), (3, .int x3)]) hx hb dX12_sumsUp_1 hl (by decide) rfl (fun ls hl => ?_)
  exact hB3 x0 x1 x2 x3 kx0 kx1 q_FU 0 dt _ _ _ hm hW hS (lv_sub hl [1, 2, 3, 4, 0] rfl)
theorem dX12_bitOf_0 : decode cX12_bitOf 0 = .ok (.aload_n 0, 1) := by decide +kernel
theorem dX12_bitOf_1 : decode cX12_bitOf 1 = .ok (.getfield 161, 3) := by decide +kernel
theorem dX12_bitOf_4 : decode cX12_bitOf 4 = .ok (.iload_n 1, 1) := by decide +kernel
theorem dX12_bitOf_5 : decode cX12_bitOf 5 = .ok (.baload, 1) := by decide +kernel
theorem dX12_bitOf_6 : decode cX12_bitOf 6 = .ok (.ifCond .ne 8, 3) := by decide +kernel
theorem dX12_bitOf_9 : decode cX12_bitOf 9 = .ok (.bipush (-2), 2) := by decide +kernel
theorem dX12_bitOf_11 : decode cX12_bitOf 11 = .ok (.goto 19, 3) := by decide +kernel
theorem dX12_bitOf_14 : decode cX12_bitOf 14 = .ok (.aload_n 0, 1) := by decide +kernel
theorem dX12_bitOf_15 : decode cX12_bitOf 15 = .ok (.getfield 158, 3) := by decide +kernel
theorem dX12_bitOf_18 : decode cX12_bitOf 18 = .ok (.iload_n 1, 1) := by decide +kernel
theorem dX12_bitOf_19 : decode cX12_bitOf 19 = .ok (.laload, 1) := by decide +kernel
theorem dX12_bitOf_20 : decode cX12_bitOf 20 = .ok (.lconst 0, 1) := by decide +kernel
theorem dX12_bitOf_21 : decode cX12_bitOf 21 = .ok (.lcmp, 1) := by decide +kernel
theorem dX12_bitOf_22 : decode cX12_bitOf 22 = .ok (.ifCond .ge 7, 3) := by decide +kernel
theorem dX12_bitOf_25 : decode cX12_bitOf 25 = .ok (.iconst 1, 1) := by decide +kernel
theorem dX12_bitOf_26 : decode cX12_bitOf 26 = .ok (.goto 4, 3) := by decide +kernel
theorem dX12_bitOf_29 : decode cX12_bitOf 29 = .ok (.iconst 0, 1) := by decide +kernel
theorem dX12_bitOf_30 : decode cX12_bitOf 30 = .ok (.ireturn, 1) := by decide +kernel
set_option maxRecDepth 100000 in
theorem c_X12_bitOf (l : Launch) (D : q_D) (al : q_Al) (dt : q_Dt) (x0 : Nat) (x1 : Int32) (kx0 : al.1 x0 = 13) (r0 : Int32) (hm : X12_bitOf al dt x0 x1 = some r0) : q_Mt l yX12_bitOf cX12_bitOf 2 (some FieldType.int) 0 0 D al [.ref x0, .int x1] dt 0 (some (.int r0)) dt := by
  refine q_Mt.of (by decide) (Nat.le_of_ble_eq_true rfl) ?_
  intro p e s m args below meth c ls C hargs hW hl
  have hx := C.1
  have hb := C.2.1
  have hown := C.2.2.2.2.2.1
  have hts := C.2.2.2.2.2.2.1
  have hS : va_S (q_A al) s.heap s.heap [] := va_S.rf
  have hl : lv_has ls 2 [(0, .ref x0), (1, .int x1)] := hl
  unfold X12_bitOf at hm
  refine lv_aload_n hx hb dX12_bitOf_0 rfl (lv_at hl 0 rfl) ?_
  refine r_getF C hW (ci := 12) kx0 ff_12_64 cl_12 fl_RX12_161 dX12_bitOf_1 (fun k1000001 => ?_)
  refine lv_iload_n hx hb dX12_bitOf_4 rfl (lv_at hl 1 rfl) ?_
  refine r_zald C hW hm k1000001 dX12_bitOf_5 (fun hm => ?_)
  refine q_ifc hm (fun c1000002 hm => ?_) (fun c1000002 hm => ?_)
  · refine lv_if_ne (tgt := 14) hx hb dX12_bitOf_6 (by decide) (fun h => absurd c1000002 h) (fun _ => ?_)
    refine lv_bipush (v := (-2)) hx hb dX12_bitOf_9 (by decide) ?_
    refine lv_goto (tgt := 30) hx hb dX12_bitOf_11 (by decide) ?_
    exact e_i C hW hS hm dX12_bitOf_30
  refine lv_if_ne (tgt := 14) hx hb dX12_bitOf_6 (by decide) (fun _ => ?_) (fun h => absurd h c1000002)
  refine lv_aload_n hx hb dX12_bitOf_14 rfl (lv_at hl 0 rfl) ?_
  refine r_getF C hW (ci := 12) kx0 ff_12_63 cl_12 fl_RX12_158 dX12_bitOf_15 (fun k1000003 => ?_)
  refine lv_iload_n hx hb dX12_bitOf_18 rfl (lv_at hl 1 rfl) ?_
  refine r_lald C hW hm k1000003 dX12_bitOf_19 (fun hm => ?_)
  refine lv_lconst (v := 0) hx hb dX12_bitOf_20 rfl ?_
  refine W.lcmp hx hb dX12_bitOf_21 ?_
  refine q_ifc hm (fun c1000004 hm => ?_) (fun c1000004 hm => ?_)
  · refine lv_if_ge (tgt := 29) hx hb dX12_bitOf_22 (by decide) (fun _ => ?_) (fun h => absurd (q_cmp_ge.mpr c1000004) h)
    refine lv_iconst (v := 0) hx hb dX12_bitOf_29 (by decide) ?_
    exact e_i C hW hS hm dX12_bitOf_30
  refine lv_if_ge (tgt := 29) hx hb dX12_bitOf_22 (by decide) (fun h => absurd (q_cmp_ge.mp h) c1000004) (fun _ => ?_)
  refine lv_iconst (v := 1) hx hb dX12_bitOf_25 (by decide) ?_
  refine lv_goto (tgt := 30) hx hb dX12_bitOf_26 (by decide) ?_
  exact e_i C hW hS hm dX12_bitOf_30
