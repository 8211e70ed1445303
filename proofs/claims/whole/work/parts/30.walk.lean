theorem dX12_atOnce_0 : decode cX12_atOnce 0 = .ok (.iload_n 1, 1) := by decide +kernel
theorem dX12_atOnce_1 : decode cX12_atOnce 1 = .ok (.iconst 1, 1) := by decide +kernel
theorem dX12_atOnce_2 : decode cX12_atOnce 2 = .ok (.bipush 6, 2) := by decide +kernel
theorem dX12_atOnce_4 : decode cX12_atOnce 4 = .ok (.invokestatic 376, 3) := by decide +kernel
theorem dX12_atOnce_7 : decode cX12_atOnce 7 = .ok (.ifCond .ne 5, 3) := by decide +kernel
theorem dX12_atOnce_10 : decode cX12_atOnce 10 = .ok (.iconst (-1), 1) := by decide +kernel
theorem dX12_atOnce_11 : decode cX12_atOnce 11 = .ok (.ireturn, 1) := by decide +kernel
theorem dX12_atOnce_12 : decode cX12_atOnce 12 = .ok (.iconst 0, 1) := by decide +kernel
theorem dX12_atOnce_13 : decode cX12_atOnce 13 = .ok (.istore_n 2, 1) := by decide +kernel
theorem dX12_atOnce_14 : decode cX12_atOnce 14 = .ok (.iconst 1, 1) := by decide +kernel
theorem dX12_atOnce_15 : decode cX12_atOnce 15 = .ok (.istore_n 3, 1) := by decide +kernel
theorem dX12_atOnce_16 : decode cX12_atOnce 16 = .ok (.iload_n 3, 1) := by decide +kernel
theorem dX12_atOnce_17 : decode cX12_atOnce 17 = .ok (.iload_n 1, 1) := by decide +kernel
theorem dX12_atOnce_18 : decode cX12_atOnce 18 = .ok (.if_icmp .gt 151, 3) := by decide +kernel
theorem dX12_atOnce_21 : decode cX12_atOnce 21 = .ok (.iconst 0, 1) := by decide +kernel
theorem dX12_atOnce_22 : decode cX12_atOnce 22 = .ok (.istore_n 2, 1) := by decide +kernel
theorem dX12_atOnce_23 : decode cX12_atOnce 23 = .ok (.iconst 0, 1) := by decide +kernel
theorem dX12_atOnce_24 : decode cX12_atOnce 24 = .ok (.istore 4, 2) := by decide +kernel
theorem dX12_atOnce_26 : decode cX12_atOnce 26 = .ok (.iload 4, 2) := by decide +kernel
theorem dX12_atOnce_28 : decode cX12_atOnce 28 = .ok (.sipush 3072, 3) := by decide +kernel
theorem dX12_atOnce_31 : decode cX12_atOnce 31 = .ok (.if_icmp .ge 23, 3) := by decide +kernel
theorem dX12_atOnce_34 : decode cX12_atOnce 34 = .ok (.aload_n 0, 1) := by decide +kernel
theorem dX12_atOnce_35 : decode cX12_atOnce 35 = .ok (.getfield 127, 3) := by decide +kernel
theorem dX12_atOnce_38 : decode cX12_atOnce 38 = .ok (.iload 4, 2) := by decide +kernel
theorem dX12_atOnce_40 : decode cX12_atOnce 40 = .ok (.aload_n 0, 1) := by decide +kernel
theorem dX12_atOnce_41 : decode cX12_atOnce 41 = .ok (.getfield 130, 3) := by decide +kernel
theorem dX12_atOnce_44 : decode cX12_atOnce 44 = .ok (.iload 4, 2) := by decide +kernel
theorem dX12_atOnce_46 : decode cX12_atOnce 46 = .ok (.baload, 1) := by decide +kernel
theorem dX12_atOnce_47 : decode cX12_atOnce 47 = .ok (.bastore, 1) := by decide +kernel
theorem dX12_atOnce_48 : decode cX12_atOnce 48 = .ok (.iinc 4 1, 3) := by decide +kernel
theorem dX12_atOnce_51 : decode cX12_atOnce 51 = .ok (.goto (-25), 3) := by decide +kernel
theorem dX12_atOnce_54 : decode cX12_atOnce 54 = .ok (.iconst 0, 1) := by decide +kernel
theorem dX12_atOnce_55 : decode cX12_atOnce 55 = .ok (.istore 4, 2) := by decide +kernel
theorem dX12_atOnce_57 : decode cX12_atOnce 57 = .ok (.iload 4, 2) := by decide +kernel
theorem dX12_atOnce_59 : decode cX12_atOnce 59 = .ok (.aload_n 0, 1) := by decide +kernel
theorem dX12_atOnce_60 : decode cX12_atOnce 60 = .ok (.getfield 70, 3) := by decide +kernel
theorem dX12_atOnce_63 : decode cX12_atOnce 63 = .ok (.aload_n 0, 1) := by decide +kernel
theorem dX12_atOnce_64 : decode cX12_atOnce 64 = .ok (.getfield 242, 3) := by decide +kernel
theorem dX12_atOnce_67 : decode cX12_atOnce 67 = .ok (.iaload, 1) := by decide +kernel
theorem dX12_atOnce_68 : decode cX12_atOnce 68 = .ok (.if_icmp .ge 95, 3) := by decide +kernel
theorem dX12_atOnce_71 : decode cX12_atOnce 71 = .ok (.iconst 0, 1) := by decide +kernel
theorem dX12_atOnce_72 : decode cX12_atOnce 72 = .ok (.istore 5, 2) := by decide +kernel
theorem dX12_atOnce_74 : decode cX12_atOnce 74 = .ok (.iload 5, 2) := by decide +kernel
theorem dX12_atOnce_76 : decode cX12_atOnce 76 = .ok (.sipush 1024, 3) := by decide +kernel
theorem dX12_atOnce_79 : decode cX12_atOnce 79 = .ok (.if_icmp .ge 23, 3) := by decide +kernel
theorem dX12_atOnce_82 : decode cX12_atOnce 82 = .ok (.aload_n 0, 1) := by decide +kernel
theorem dX12_atOnce_83 : decode cX12_atOnce 83 = .ok (.getfield 136, 3) := by decide +kernel
theorem dX12_atOnce_86 : decode cX12_atOnce 86 = .ok (.iload 5, 2) := by decide +kernel
theorem dX12_atOnce_88 : decode cX12_atOnce 88 = .ok (.aload_n 0, 1) := by decide +kernel
theorem dX12_atOnce_89 : decode cX12_atOnce 89 = .ok (.getfield 133, 3) := by decide +kernel
theorem dX12_atOnce_92 : decode cX12_atOnce 92 = .ok (.iload 5, 2) := by decide +kernel
theorem dX12_atOnce_94 : decode cX12_atOnce 94 = .ok (.iaload, 1) := by decide +kernel
theorem dX12_atOnce_95 : decode cX12_atOnce 95 = .ok (.iastore, 1) := by decide +kernel
theorem dX12_atOnce_96 : decode cX12_atOnce 96 = .ok (.iinc 5 1, 3) := by decide +kernel
theorem dX12_atOnce_99 : decode cX12_atOnce 99 = .ok (.goto (-25), 3) := by decide +kernel
theorem dX12_atOnce_102 : decode cX12_atOnce 102 = .ok (.iconst 0, 1) := by decide +kernel
theorem dX12_atOnce_103 : decode cX12_atOnce 103 = .ok (.istore 5, 2) := by decide +kernel
theorem dX12_atOnce_105 : decode cX12_atOnce 105 = .ok (.iload 5, 2) := by decide +kernel
theorem dX12_atOnce_107 : decode cX12_atOnce 107 = .ok (.aload_n 0, 1) := by decide +kernel
theorem dX12_atOnce_108 : decode cX12_atOnce 108 = .ok (.getfield 70, 3) := by decide +kernel
theorem dX12_atOnce_111 : decode cX12_atOnce 111 = .ok (.aload_n 0, 1) := by decide +kernel
theorem dX12_atOnce_112 : decode cX12_atOnce 112 = .ok (.getfield 242, 3) := by decide +kernel
theorem dX12_atOnce_115 : decode cX12_atOnce 115 = .ok (.iaload, 1) := by decide +kernel
theorem dX12_atOnce_116 : decode cX12_atOnce 116 = .ok (.if_icmp .ge 32, 3) := by decide +kernel
theorem dX12_atOnce_119 : decode cX12_atOnce 119 = .ok (.iload_n 3, 1) := by decide +kernel
theorem dX12_atOnce_120 : decode cX12_atOnce 120 = .ok (.iconst 1, 1) := by decide +kernel
theorem dX12_atOnce_121 : decode cX12_atOnce 121 = .ok (.if_icmp .le 27, 3) := by decide +kernel
theorem dX12_atOnce_124 : decode cX12_atOnce 124 = .ok (.iload 5, 2) := by decide +kernel
theorem dX12_atOnce_126 : decode cX12_atOnce 126 = .ok (.iload 4, 2) := by decide +kernel
theorem dX12_atOnce_128 : decode cX12_atOnce 128 = .ok (.if_icmp .eq 14, 3) := by decide +kernel
theorem dX12_atOnce_131 : decode cX12_atOnce 131 = .ok (.aload_n 0, 1) := by decide +kernel
theorem dX12_atOnce_132 : decode cX12_atOnce 132 = .ok (.aload_n 0, 1) := by decide +kernel
theorem dX12_atOnce_133 : decode cX12_atOnce 133 = .ok (.getfield 136, 3) := by decide +kernel
theorem dX12_atOnce_136 : decode cX12_atOnce 136 = .ok (.iload 5, 2) := by decide +kernel
theorem dX12_atOnce_138 : decode cX12_atOnce 138 = .ok (.iconst (-1), 1) := by decide +kernel
theorem dX12_atOnce_139 : decode cX12_atOnce 139 = .ok (.invokevirtual 369, 3) := by decide +kernel
theorem dX12_atOnce_142 : decode cX12_atOnce 142 = .ok (.iinc 5 1, 3) := by decide +kernel
theorem dX12_atOnce_145 : decode cX12_atOnce 145 = .ok (.goto (-40), 3) := by decide +kernel
theorem dX12_atOnce_148 : decode cX12_atOnce 148 = .ok (.iload_n 2, 1) := by decide +kernel
theorem dX12_atOnce_149 : decode cX12_atOnce 149 = .ok (.aload_n 0, 1) := by decide +kernel
theorem dX12_atOnce_150 : decode cX12_atOnce 150 = .ok (.iload 4, 2) := by decide +kernel
theorem dX12_atOnce_152 : decode cX12_atOnce 152 = .ok (.invokevirtual 471, 3) := by decide +kernel
theorem dX12_atOnce_155 : decode cX12_atOnce 155 = .ok (.iadd, 1) := by decide +kernel
theorem dX12_atOnce_156 : decode cX12_atOnce 156 = .ok (.istore_n 2, 1) := by decide +kernel
theorem dX12_atOnce_157 : decode cX12_atOnce 157 = .ok (.iinc 4 1, 3) := by decide +kernel
theorem dX12_atOnce_160 : decode cX12_atOnce 160 = .ok (.goto (-103), 3) := by decide +kernel
theorem dX12_atOnce_163 : decode cX12_atOnce 163 = .ok (.iinc 3 1, 3) := by decide +kernel
theorem dX12_atOnce_166 : decode cX12_atOnce 166 = .ok (.goto (-150), 3) := by decide +kernel
theorem dX12_atOnce_169 : decode cX12_atOnce 169 = .ok (.iload_n 2, 1) := by decide +kernel
theorem dX12_atOnce_170 : decode cX12_atOnce 170 = .ok (.ireturn, 1) := by decide +kernel
set_option maxRecDepth 100000 in
theorem c_X12_atOnce (l : Launch) (D : q_D) (al : q_Al) (dt : q_Dt) (x0 : Nat) (x1 : Int32) (kx0 : al.1 x0 = 13) (r0 : Int32) (dt0 : q_Dt) (hm : X12_atOnce al dt x0 x1 = some (r0, dt0)) : q_Mt l yX12_atOnce cX12_atOnce 6 (some FieldType.int) 6 146 D al [.ref x0, .int x1] dt 0 (some (.int r0)) dt0 := by
  refine q_Mt.of (by decide) (Nat.le_of_ble_eq_true rfl) ?_
  intro p e s m args below meth c ls C hargs hW hl
  have hx := C.1
  have hb := C.2.1
  have hown := C.2.2.2.2.2.1
  have hts := C.2.2.2.2.2.2.1
  have hS : va_S (q_A al) s.heap s.heap [] := va_S.rf
  have hl : lv_has ls 6 [(0, .ref x0), (1, .int x1)] := hl
  unfold X12_atOnce at hm
  have hB16 : ∀ (x0_16 : Nat) (x1_16 : Int32) (kx0_16 : al.1 x0_16 = 13) (n_16 : Nat) (x2_16 : Int32) (x3_16 : Int32) (dt : q_Dt) (H : Heap) (locs : List Loc) (ls : Array Slot) (hm : X12_atOnce_b16 al x0_16 x1_16 n_16 x2_16 x3_16 dt = some (r0, dt0)) (hW : q_W D al dt H) (hS : va_S (q_A al) s.heap H locs) (hl : lv_has ls 6 [(0, .ref x0_16), (1, .int x1_16), (2, .int x2_16), (3, .int x3_16)]), W p l e { frames := 6, cells := 0, slots := 0, locals := 146 } s m args below meth c H locs 0 0 (MQ below (q_Q (some (.int r0)) (fun H => q_W D al dt0 H ∧ q_Rk al 0 (some (.int r0))) (q_A al)) args s 0 0 (q_A al)) (F0 m 16 ls []) := by
    intro x0_16 x1_16 kx0_16
    intro n_16
    induction n_16 with
    | zero => intro x2_16 x3_16 dt H locs ls hm hW hS hl; cases hm
    | succ n_16 ih16 =>
      have hB57 : ∀ (x3_57 : Int32) (n_57 : Nat) (x2_57 : Int32) (x4_57 : Int32) (dt : q_Dt) (H : Heap) (locs : List Loc) (ls : Array Slot) (hm : X12_atOnce_b57 al (X12_atOnce_b16 al x0_16 x1_16 n_16) x0_16 x1_16 x3_57 n_57 x2_57 x4_57 dt = some (r0, dt0)) (hW : q_W D al dt H) (hS : va_S (q_A al) s.heap H locs) (hl : lv_has ls 6 [(0, .ref x0_16), (1, .int x1_16), (2, .int x2_57), (3, .int x3_57), (4, .int x4_57)]), W p l e { frames := 6, cells := 0, slots := 0, locals := 146 } s m args below meth c H locs 0 0 (MQ below (q_Q (some (.int r0)) (fun H => q_W D al dt0 H ∧ q_Rk al 0 (some (.int r0))) (q_A al)) args s 0 0 (q_A al)) (F0 m 57 ls []) := by
        intro x3_57
        intro n_57
        induction n_57 with
        | zero => intro x2_57 x4_57 dt H locs ls hm hW hS hl; cases hm
        | succ n_57 ih57 =>
          have hB148 : ∀ (x2_148 : Int32) (x4_148 : Int32) (dt : q_Dt) (H : Heap) (locs : List Loc) (ls : Array Slot) (hm : X12_atOnce_b148 al (X12_atOnce_b16 al x0_16 x1_16 n_16) (X12_atOnce_b57 al (X12_atOnce_b16 al x0_16 x1_16 n_16) x0_16 x1_16 x3_57 n_57) x0_16 x1_16 x2_148 x3_57 x4_148 dt = some (r0, dt0)) (hW : q_W D al dt H) (hS : va_S (q_A al) s.heap H locs) (hl : lv_has ls 6 [(0, .ref x0_16), (1, .int x1_16), (2, .int x2_148), (3, .int x3_57), (4, .int x4_148)]), W p l e { frames := 6, cells := 0, slots := 0, locals := 146 } s m args below meth c H locs 0 0 (MQ below (q_Q (some (.int r0)) (fun H => q_W D al dt0 H ∧ q_Rk al 0 (some (.int r0))) (q_A al)) args s 0 0 (q_A al)) (F0 m 148 ls []) := by
            intro x2_148 x4_148 dt H locs ls hm hW hS hl
            unfold X12_atOnce_b148 at hm
            refine lv_iload_n hx hb dX12_atOnce_148 rfl (lv_at hl 2 rfl) ?_
            refine lv_aload_n hx hb dX12_atOnce_149 rfl (lv_at hl 0 rfl) ?_
            refine lv_iload hx hb dX12_atOnce_150 (lv_at hl 4 rfl) ?_
            obtain ⟨v148002, dt148003, hc148001, hm⟩ := q_b2i hm
            refine q_callV C hW hS (As := [.int x4_148]) (rest := [.int x2_148]) (st1 := [.int v148002, .int x2_148]) (c_X12_readsAll l D al dt x0_16 x4_148 kx0_16 v148002 dt148003 hc148001) yl_X12_readsAll vl_X12_readsAll ml_RX12_471 (ci := 12) rfl kx0_16 (by decide) rfl ⟨Nat.le_of_ble_eq_true rfl, Nat.le_of_ble_eq_true rfl⟩ hl rfl (Nat.le_of_ble_eq_true rfl) dX12_atOnce_152 ⟨Nat.le_refl _, Nat.le_refl _⟩ rfl (fun H locs k148004 hW hS => ?_)
            refine lv_iadd hx hb dX12_atOnce_155 ?_
            refine lv_istore_n (i := 2) (lv' := [(2, .int (x2_148 + v148002)), (0, .ref x0_16), (1, .int x1_16), (3, .int x3_57), (4, .int x4_148)]) hx hb dX12_atOnce_156 rfl hl (by decide) rfl (fun ls hl => ?_)
            refine lv_iinc (v := (x4_148 + 1)) (lv' := [(4, .int (x4_148 + 1)), (2, .int (x2_148 + v148002)), (0, .ref x0_16), (1, .int x1_16), (3, .int x3_57)]) hx hb dX12_atOnce_157 hl (k := 4) rfl rfl (by decide) rfl (fun ls hl => ?_)
            refine lv_goto (tgt := 57) hx hb dX12_atOnce_160 (by decide) ?_
            exact ih57 (x2_148 + v148002) (x4_148 + 1) dt148003 _ _ _ hm hW hS (lv_sub hl [2, 3, 1, 4, 0] rfl)
          have hB105 : ∀ (x2_105 : Int32) (x4_105 : Int32) (n_105 : Nat) (x5_105 : Int32) (dt : q_Dt) (H : Heap) (locs : List Loc) (ls : Array Slot) (hm : X12_atOnce_b105 al (X12_atOnce_b16 al x0_16 x1_16 n_16) (X12_atOnce_b57 al (X12_atOnce_b16 al x0_16 x1_16 n_16) x0_16 x1_16 x3_57 n_57) x0_16 x1_16 x2_105 x3_57 x4_105 n_105 x5_105 dt = some (r0, dt0)) (hW : q_W D al dt H) (hS : va_S (q_A al) s.heap H locs) (hl : lv_has ls 6 [(0, .ref x0_16), (1, .int x1_16), (2, .int x2_105), (3, .int x3_57), (4, .int x4_105), (5, .int x5_105)]), W p l e { frames := 6, cells := 0, slots := 0, locals := 146 } s m args below meth c H locs 0 0 (MQ below (q_Q (some (.int r0)) (fun H => q_W D al dt0 H ∧ q_Rk al 0 (some (.int r0))) (q_A al)) args s 0 0 (q_A al)) (F0 m 105 ls []) := by
            intro x2_105 x4_105
            intro n_105
            induction n_105 with
            | zero => intro x5_105 dt H locs ls hm hW hS hl; cases hm
            | succ n_105 ih105 =>
              have hB142 : ∀ (x5_142 : Int32) (dt : q_Dt) (H : Heap) (locs : List Loc) (ls : Array Slot) (hm : X12_atOnce_b142 al (X12_atOnce_b16 al x0_16 x1_16 n_16) (X12_atOnce_b57 al (X12_atOnce_b16 al x0_16 x1_16 n_16) x0_16 x1_16 x3_57 n_57) (X12_atOnce_b105 al (X12_atOnce_b16 al x0_16 x1_16 n_16) (X12_atOnce_b57 al (X12_atOnce_b16 al x0_16 x1_16 n_16) x0_16 x1_16 x3_57 n_57) x0_16 x1_16 x2_105 x3_57 x4_105 n_105) x0_16 x1_16 x2_105 x3_57 x4_105 x5_142 dt = some (r0, dt0)) (hW : q_W D al dt H) (hS : va_S (q_A al) s.heap H locs) (hl : lv_has ls 6 [(0, .ref x0_16), (1, .int x1_16), (2, .int x2_105), (3, .int x3_57), (4, .int x4_105), (5, .int x5_142)]), W p l e { frames := 6, cells := 0, slots := 0, locals := 146 } s m args below meth c H locs 0 0 (MQ below (q_Q (some (.int r0)) (fun H => q_W D al dt0 H ∧ q_Rk al 0 (some (.int r0))) (q_A al)) args s 0 0 (q_A al)) (F0 m 142 ls []) := by
                intro x5_142 dt H locs ls hm hW hS hl
                unfold X12_atOnce_b142 at hm
                refine lv_iinc (v := (x5_142 + 1)) (lv' := [(5, .int (x5_142 + 1)), (0, .ref x0_16), (1, .int x1_16), (2, .int x2_105), (3, .int x3_57), (4, .int x4_105)]) hx hb dX12_atOnce_142 hl (k := 5) rfl rfl (by decide) rfl (fun ls hl => ?_)
                refine lv_goto (tgt := 105) hx hb dX12_atOnce_145 (by decide) ?_
                exact ih105 (x5_142 + 1) dt _ _ _ hm hW hS (lv_sub hl [1, 2, 3, 4, 5, 0] rfl)
              intro x5_105 dt H locs ls hm hW hS hl
              rw [X12_atOnce_b105] at hm
              refine lv_iload hx hb dX12_atOnce_105 (lv_at hl 5 rfl) ?_
              refine lv_aload_n hx hb dX12_atOnce_107 rfl (lv_at hl 0 rfl) ?_
              refine r_getF C hW (ci := 12) kx0_16 ff_12_31 cl_12 fl_RX12_70 dX12_atOnce_108 (fun k105001 => ?_)
              refine lv_aload_n hx hb dX12_atOnce_111 rfl (lv_at hl 0 rfl) ?_
              refine r_getI C hW (ci := 12) kx0_16 ff_12_18 cl_12 fl_RX12_242 dX12_atOnce_112 ?_
              refine r_iald C hW hm k105001 dX12_atOnce_115 (fun hm => ?_)
              refine q_ifc hm (fun c105002 hm => ?_) (fun c105002 hm => ?_)
              · refine lv_icmp_ge (tgt := 148) hx hb dX12_atOnce_116 (by decide) (fun _ => ?_) (fun h => absurd c105002 h)
                exact hB148 x2_105 x4_105 dt _ _ _ hm hW hS (lv_sub hl [0, 1, 2, 3, 4] rfl)
              refine lv_icmp_ge (tgt := 148) hx hb dX12_atOnce_116 (by decide) (fun h => absurd h c105002) (fun _ => ?_)
              refine lv_iload_n hx hb dX12_atOnce_119 rfl (lv_at hl 3 rfl) ?_
              refine lv_iconst (v := 1) hx hb dX12_atOnce_120 (by decide) ?_
              refine q_ifc hm (fun c105003 hm => ?_) (fun c105003 hm => ?_)
              · refine lv_icmp_le (tgt := 148) hx hb dX12_atOnce_121 (by decide) (fun _ => ?_) (fun h => absurd c105003 h)
                exact hB148 x2_105 x4_105 dt _ _ _ hm hW hS (lv_sub hl [0, 1, 2, 3, 4] rfl)
              refine lv_icmp_le (tgt := 148) hx hb dX12_atOnce_121 (by decide) (fun h => absurd h c105003) (fun _ => ?_)
              refine lv_iload hx hb dX12_atOnce_124 (lv_at hl 5 rfl) ?_
              refine lv_iload hx hb dX12_atOnce_126 (lv_at hl 4 rfl) ?_
              refine q_ifc hm (fun c105004 hm => ?_) (fun c105004 hm => ?_)
              · refine lv_icmp_eq (tgt := 142) hx hb dX12_atOnce_128 (by decide) (fun _ => ?_) (fun h => absurd c105004 h)
                exact hB142 x5_105 dt _ _ _ hm hW hS (lv_sub hl [0, 1, 2, 3, 4, 5] rfl)
              refine lv_icmp_eq (tgt := 142) hx hb dX12_atOnce_128 (by decide) (fun h => absurd h c105004) (fun _ => ?_)
              refine lv_aload_n hx hb dX12_atOnce_131 rfl (lv_at hl 0 rfl) ?_
              refine lv_aload_n hx hb dX12_atOnce_132 rfl (lv_at hl 0 rfl) ?_
              refine r_getF C hW (ci := 12) kx0_16 ff_12_54 cl_12 fl_RX12_136 dX12_atOnce_133 (fun k105005 => ?_)
              refine lv_iload hx hb dX12_atOnce_136 (lv_at hl 5 rfl) ?_
              refine lv_iconst (v := (-1)) hx hb dX12_atOnce_138 (by decide) ?_
              obtain ⟨dt105007, hc105006, hm⟩ := q_b1i hm
              refine q_callV C hW hS (As := [.ref (al.2.2 x0_16 54), .int x5_105, .int (-1)]) (rest := []) (st1 := []) (c_X12_addsWave l D al dt x0_16 (al.2.2 x0_16 54) x5_105 (-1) kx0_16 k105005 dt105007 hc105006) yl_X12_addsWave vl_X12_addsWave ml_RX12_369 (ci := 12) rfl kx0_16 (by decide) rfl ⟨Nat.le_of_ble_eq_true rfl, Nat.le_of_ble_eq_true rfl⟩ hl rfl (Nat.le_of_ble_eq_true rfl) dX12_atOnce_139 ⟨Nat.le_refl _, Nat.le_refl _⟩ rfl (fun H locs k105008 hW hS => ?_)
              exact hB142 x5_105 dt105007 _ _ _ hm hW hS (lv_sub hl [0, 1, 2, 3, 4, 5] rfl)
          have hB74 : ∀ (x2_74 : Int32) (x4_74 : Int32) (n_74 : Nat) (x5_74 : Int32) (dt : q_Dt) (H : Heap) (locs : List Loc) (ls : Array Slot) (hm : X12_atOnce_b74 al (X12_atOnce_b16 al x0_16 x1_16 n_16) (X12_atOnce_b57 al (X12_atOnce_b16 al x0_16 x1_16 n_16) x0_16 x1_16 x3_57 n_57) x0_16 x1_16 x2_74 x3_57 x4_74 n_74 x5_74 dt = some (r0, dt0)) (hW : q_W D al dt H) (hS : va_S (q_A al) s.heap H locs) (hl : lv_has ls 6 [(0, .ref x0_16), (1, .int x1_16), (2, .int x2_74), (3, .int x3_57), (4, .int x4_74), (5, .int x5_74)]), W p l e { frames := 6, cells := 0, slots := 0, locals := 146 } s m args below meth c H locs 0 0 (MQ below (q_Q (some (.int r0)) (fun H => q_W D al dt0 H ∧ q_Rk al 0 (some (.int r0))) (q_A al)) args s 0 0 (q_A al)) (F0 m 74 ls []) := by
            intro x2_74 x4_74
            intro n_74
            induction n_74 with
            | zero => intro x5_74 dt H locs ls hm hW hS hl; cases hm
            | succ n_74 ih74 =>
              intro x5_74 dt H locs ls hm hW hS hl
              rw [X12_atOnce_b74] at hm
              refine lv_iload hx hb dX12_atOnce_74 (lv_at hl 5 rfl) ?_
              refine lv_sipush (v := 1024) hx hb dX12_atOnce_76 (by decide) ?_
              refine q_ifc hm (fun c74001 hm => ?_) (fun c74001 hm => ?_)
              · refine lv_icmp_ge (tgt := 102) hx hb dX12_atOnce_79 (by decide) (fun _ => ?_) (fun h => absurd c74001 h)
                refine lv_iconst (v := 0) hx hb dX12_atOnce_102 (by decide) ?_
                refine lv_istore (i := 5) (lv' := [(5, .int 0), (0, .ref x0_16), (1, .int x1_16), (2, .int x2_74), (3, .int x3_57), (4, .int x4_74)]) hx hb dX12_atOnce_103 hl (by decide) rfl (fun ls hl => ?_)
                exact hB105 x2_74 x4_74 q_FU 0 dt _ _ _ hm hW hS (lv_sub hl [1, 2, 3, 4, 5, 0] rfl)
              refine lv_icmp_ge (tgt := 102) hx hb dX12_atOnce_79 (by decide) (fun h => absurd h c74001) (fun _ => ?_)
              refine lv_aload_n hx hb dX12_atOnce_82 rfl (lv_at hl 0 rfl) ?_
              refine r_getF C hW (ci := 12) kx0_16 ff_12_54 cl_12 fl_RX12_136 dX12_atOnce_83 (fun k74002 => ?_)
              refine lv_iload hx hb dX12_atOnce_86 (lv_at hl 5 rfl) ?_
              refine lv_aload_n hx hb dX12_atOnce_88 rfl (lv_at hl 0 rfl) ?_
              refine r_getF C hW (ci := 12) kx0_16 ff_12_53 cl_12 fl_RX12_133 dX12_atOnce_89 (fun k74003 => ?_)
              refine lv_iload hx hb dX12_atOnce_92 (lv_at hl 5 rfl) ?_
              refine r_iald C hW hm k74003 dX12_atOnce_94 (fun hm => ?_)
              refine r_iast C hW hS hm k74002 dX12_atOnce_95 (fun dt74004 H locs hm hW hS => ?_)
              refine lv_iinc (v := (x5_74 + 1)) (lv' := [(5, .int (x5_74 + 1)), (0, .ref x0_16), (1, .int x1_16), (2, .int x2_74), (3, .int x3_57), (4, .int x4_74)]) hx hb dX12_atOnce_96 hl (k := 5) rfl rfl (by decide) rfl (fun ls hl => ?_)
              refine lv_goto (tgt := 74) hx hb dX12_atOnce_99 (by decide) ?_
              exact ih74 (x5_74 + 1) dt74004 _ _ _ hm hW hS (lv_sub hl [1, 2, 3, 4, 5, 0] rfl)
          intro x2_57 x4_57 dt H locs ls hm hW hS hl
          rw [X12_atOnce_b57] at hm
          refine lv_iload hx hb dX12_atOnce_57 (lv_at hl 4 rfl) ?_
          refine lv_aload_n hx hb dX12_atOnce_59 rfl (lv_at hl 0 rfl) ?_
          refine r_getF C hW (ci := 12) kx0_16 ff_12_31 cl_12 fl_RX12_70 dX12_atOnce_60 (fun k57001 => ?_)
          refine lv_aload_n hx hb dX12_atOnce_63 rfl (lv_at hl 0 rfl) ?_
          refine r_getI C hW (ci := 12) kx0_16 ff_12_18 cl_12 fl_RX12_242 dX12_atOnce_64 ?_
          refine r_iald C hW hm k57001 dX12_atOnce_67 (fun hm => ?_)
          refine q_ifc hm (fun c57002 hm => ?_) (fun c57002 hm => ?_)
          · refine lv_icmp_ge (tgt := 163) hx hb dX12_atOnce_68 (by decide) (fun _ => ?_) (fun h => absurd c57002 h)
            refine lv_iinc (v := (x3_57 + 1)) (lv' := [(3, .int (x3_57 + 1)), (0, .ref x0_16), (1, .int x1_16), (2, .int x2_57), (4, .int x4_57)]) hx hb dX12_atOnce_163 hl (k := 3) rfl rfl (by decide) rfl (fun ls hl => ?_)
            refine lv_goto (tgt := 16) hx hb dX12_atOnce_166 (by decide) ?_
            exact ih16 x2_57 (x3_57 + 1) dt _ _ _ hm hW hS (lv_sub hl [1, 2, 3, 0] rfl)
          refine lv_icmp_ge (tgt := 163) hx hb dX12_atOnce_68 (by decide) (fun h => absurd h c57002) (fun _ => ?_)
          refine lv_iconst (v := 0) hx hb dX12_atOnce_71 (by decide) ?_
          refine lv_istore (i := 5) (lv' := [(5, .int 0), (0, .ref x0_16), (1, .int x1_16), (2, .int x2_57), (3, .int x3_57), (4, .int x4_57)]) hx hb dX12_atOnce_72 hl (by decide) rfl (fun ls hl => ?_)
          exact hB74 x2_57 x4_57 q_FU 0 dt _ _ _ hm hW hS (lv_sub hl [1, 2, 3, 4, 5, 0] rfl)
      have hB26 : ∀ (x2_26 : Int32) (x3_26 : Int32) (n_26 : Nat) (x4_26 : Int32) (dt : q_Dt) (H : Heap) (locs : List Loc) (ls : Array Slot) (hm : X12_atOnce_b26 al (X12_atOnce_b16 al x0_16 x1_16 n_16) x0_16 x1_16 x2_26 x3_26 n_26 x4_26 dt = some (r0, dt0)) (hW : q_W D al dt H) (hS : va_S (q_A al) s.heap H locs) (hl : lv_has ls 6 [(0, .ref x0_16), (1, .int x1_16), (2, .int x2_26), (3, .int x3_26), (4, .int x4_26)]), W p l e { frames := 6, cells := 0, slots := 0, locals := 146 } s m args below meth c H locs 0 0 (MQ below (q_Q (some (.int r0)) (fun H => q_W D al dt0 H ∧ q_Rk al 0 (some (.int r0))) (q_A al)) args s 0 0 (q_A al)) (F0 m 26 ls []) := by
        intro x2_26 x3_26
        intro n_26
        induction n_26 with
        | zero => intro x4_26 dt H locs ls hm hW hS hl; cases hm
        | succ n_26 ih26 =>
          intro x4_26 dt H locs ls hm hW hS hl
          rw [X12_atOnce_b26] at hm
          refine lv_iload hx hb dX12_atOnce_26 (lv_at hl 4 rfl) ?_
          refine lv_sipush (v := 3072) hx hb dX12_atOnce_28 (by decide) ?_
          refine q_ifc hm (fun c26001 hm => ?_) (fun c26001 hm => ?_)
          · refine lv_icmp_ge (tgt := 54) hx hb dX12_atOnce_31 (by decide) (fun _ => ?_) (fun h => absurd c26001 h)
            refine lv_iconst (v := 0) hx hb dX12_atOnce_54 (by decide) ?_
            refine lv_istore (i := 4) (lv' := [(4, .int 0), (0, .ref x0_16), (1, .int x1_16), (2, .int x2_26), (3, .int x3_26)]) hx hb dX12_atOnce_55 hl (by decide) rfl (fun ls hl => ?_)
            exact hB57 x3_26 q_FU x2_26 0 dt _ _ _ hm hW hS (lv_sub hl [1, 2, 3, 4, 0] rfl)
          refine lv_icmp_ge (tgt := 54) hx hb dX12_atOnce_31 (by decide) (fun h => absurd h c26001) (fun _ => ?_)
          refine lv_aload_n hx hb dX12_atOnce_34 rfl (lv_at hl 0 rfl) ?_
          refine r_getF C hW (ci := 12) kx0_16 ff_12_51 cl_12 fl_RX12_127 dX12_atOnce_35 (fun k26002 => ?_)
          refine lv_iload hx hb dX12_atOnce_38 (lv_at hl 4 rfl) ?_
          refine lv_aload_n hx hb dX12_atOnce_40 rfl (lv_at hl 0 rfl) ?_
          refine r_getF C hW (ci := 12) kx0_16 ff_12_52 cl_12 fl_RX12_130 dX12_atOnce_41 (fun k26003 => ?_)
          refine lv_iload hx hb dX12_atOnce_44 (lv_at hl 4 rfl) ?_
          refine r_bald C hW hm k26003 dX12_atOnce_46 (fun hm => ?_)
          refine r_bast C hW hS hm k26002 dX12_atOnce_47 (fun dt26004 H locs hm hW hS => ?_)
          refine lv_iinc (v := (x4_26 + 1)) (lv' := [(4, .int (x4_26 + 1)), (0, .ref x0_16), (1, .int x1_16), (2, .int x2_26), (3, .int x3_26)]) hx hb dX12_atOnce_48 hl (k := 4) rfl rfl (by decide) rfl (fun ls hl => ?_)
          refine lv_goto (tgt := 26) hx hb dX12_atOnce_51 (by decide) ?_
          exact ih26 (x4_26 + 1) dt26004 _ _ _ hm hW hS (lv_sub hl [1, 2, 3, 4, 0] rfl)
      intro x2_16 x3_16 dt H locs ls hm hW hS hl
      rw [X12_atOnce_b16] at hm
      refine lv_iload_n hx hb dX12_atOnce_16 rfl (lv_at hl 3 rfl) ?_
      refine lv_iload_n hx hb dX12_atOnce_17 rfl (lv_at hl 1 rfl) ?_
      refine q_ifc hm (fun c16001 hm => ?_) (fun c16001 hm => ?_)
      · refine lv_icmp_gt (tgt := 169) hx hb dX12_atOnce_18 (by decide) (fun _ => ?_) (fun h => absurd c16001 h)
        refine lv_iload_n hx hb dX12_atOnce_169 rfl (lv_at hl 2 rfl) ?_
        exact e_iD C hW hS hm dX12_atOnce_170
      refine lv_icmp_gt (tgt := 169) hx hb dX12_atOnce_18 (by decide) (fun h => absurd h c16001) (fun _ => ?_)
      refine lv_iconst (v := 0) hx hb dX12_atOnce_21 (by decide) ?_
      refine lv_istore_n (i := 2) (lv' := [(2, .int 0), (0, .ref x0_16), (1, .int x1_16), (3, .int x3_16)]) hx hb dX12_atOnce_22 rfl hl (by decide) rfl (fun ls hl => ?_)
      refine lv_iconst (v := 0) hx hb dX12_atOnce_23 (by decide) ?_
      refine lv_istore (i := 4) (lv' := [(4, .int 0), (2, .int 0), (0, .ref x0_16), (1, .int x1_16), (3, .int x3_16)]) hx hb dX12_atOnce_24 hl (by decide) rfl (fun ls hl => ?_)
      exact hB26 0 x3_16 q_FU 0 dt _ _ _ hm hW hS (lv_sub hl [2, 3, 1, 4, 0] rfl)
  refine lv_iload_n hx hb dX12_atOnce_0 rfl (lv_at hl 1 rfl) ?_
  refine lv_iconst (v := 1) hx hb dX12_atOnce_1 (by decide) ?_
  refine lv_bipush (v := 6) hx hb dX12_atOnce_2 (by decide) ?_
  obtain ⟨v1000002, hc1000001, hm⟩ := q_b1i hm
  refine q_callS C hW hS (As := [.int x1, .int 1, .int 6]) (rest := []) (st1 := [.int v1000002]) (c_X12_in l D al dt x1 1 6 v1000002 hc1000001) yl_X12_in sl_X12_in ml_RX12_376 rfl ⟨Nat.le_of_ble_eq_true rfl, Nat.le_of_ble_eq_true rfl⟩ hl rfl (Nat.le_of_ble_eq_true rfl) dX12_atOnce_4 ⟨Nat.le_refl _, Nat.le_refl _⟩ rfl (fun H locs k1000003 hW hS => ?_)
  refine q_ifc hm (fun c1000004 hm => ?_) (fun c1000004 hm => ?_)
  · refine lv_if_ne (tgt := 12) hx hb dX12_atOnce_7 (by decide) (fun h => absurd c1000004 h) (fun _ => ?_)
    refine lv_iconst (v := (-1)) hx hb dX12_atOnce_10 (by decide) ?_
    exact e_iD C hW hS hm dX12_atOnce_11
  refine lv_if_ne (tgt := 12) hx hb dX12_atOnce_7 (by decide) (fun _ => ?_) (fun h => absurd h c1000004)
  refine lv_iconst (v := 0) hx hb dX12_atOnce_12 (by decide) ?_
  refine lv_istore_n (i := 2) (lv' := [(2, .int 0), (0, .ref x0), (1, .int x1)]) hx hb dX12_atOnce_13 rfl hl (by decide) rfl (fun ls hl => ?_)
  refine lv_iconst (v := 1) hx hb dX12_atOnce_14 (by decide) ?_
  refine lv_istore_n (i := 3) (lv' := [(3, .int 1), (2, .int 0), (0, .ref x0), (1, .int x1)]) hx hb dX12_atOnce_15 rfl hl (by decide) rfl (fun ls hl => ?_)
  exact hB16 x0 x1 kx0 q_FU 0 1 dt _ _ _ hm hW hS (lv_sub hl [2, 3, 1, 0] rfl)
theorem dX12_loopOf_0 : decode cX12_loopOf 0 = .ok (.iload_n 2, 1) := by decide +kernel
theorem dX12_loopOf_1 : decode cX12_loopOf 1 = .ok (.istore 6, 2) := by decide +kernel
theorem dX12_loopOf_3 : decode cX12_loopOf 3 = .ok (.aload_n 0, 1) := by decide +kernel
theorem dX12_loopOf_4 : decode cX12_loopOf 4 = .ok (.iload_n 1, 1) := by decide +kernel
theorem dX12_loopOf_5 : decode cX12_loopOf 5 = .ok (.invokevirtual 327, 3) := by decide +kernel
theorem dX12_loopOf_8 : decode cX12_loopOf 8 = .ok (.istore 7, 2) := by decide +kernel
theorem dX12_loopOf_10 : decode cX12_loopOf 10 = .ok (.iload 4, 2) := by decide +kernel
theorem dX12_loopOf_12 : decode cX12_loopOf 12 = .ok (.istore 8, 2) := by decide +kernel
theorem dX12_loopOf_14 : decode cX12_loopOf 14 = .ok (.iconst 0, 1) := by decide +kernel
theorem dX12_loopOf_15 : decode cX12_loopOf 15 = .ok (.istore 9, 2) := by decide +kernel
theorem dX12_loopOf_17 : decode cX12_loopOf 17 = .ok (.iload 9, 2) := by decide +kernel
theorem dX12_loopOf_19 : decode cX12_loopOf 19 = .ok (.iload 5, 2) := by decide +kernel
theorem dX12_loopOf_21 : decode cX12_loopOf 21 = .ok (.if_icmp .ge 128, 3) := by decide +kernel
theorem dX12_loopOf_24 : decode cX12_loopOf 24 = .ok (.iload 6, 2) := by decide +kernel
theorem dX12_loopOf_26 : decode cX12_loopOf 26 = .ok (.iload 7, 2) := by decide +kernel
theorem dX12_loopOf_28 : decode cX12_loopOf 28 = .ok (.iadd, 1) := by decide +kernel
theorem dX12_loopOf_29 : decode cX12_loopOf 29 = .ok (.iconst 1, 1) := by decide +kernel
theorem dX12_loopOf_30 : decode cX12_loopOf 30 = .ok (.isub, 1) := by decide +kernel
theorem dX12_loopOf_31 : decode cX12_loopOf 31 = .ok (.iload 7, 2) := by decide +kernel
theorem dX12_loopOf_33 : decode cX12_loopOf 33 = .ok (.irem, 1) := by decide +kernel
theorem dX12_loopOf_34 : decode cX12_loopOf 34 = .ok (.istore 10, 2) := by decide +kernel
theorem dX12_loopOf_36 : decode cX12_loopOf 36 = .ok (.iload 6, 2) := by decide +kernel
theorem dX12_loopOf_38 : decode cX12_loopOf 38 = .ok (.iconst 1, 1) := by decide +kernel
theorem dX12_loopOf_39 : decode cX12_loopOf 39 = .ok (.iadd, 1) := by decide +kernel
theorem dX12_loopOf_40 : decode cX12_loopOf 40 = .ok (.iload 7, 2) := by decide +kernel
theorem dX12_loopOf_42 : decode cX12_loopOf 42 = .ok (.irem, 1) := by decide +kernel
theorem dX12_loopOf_43 : decode cX12_loopOf 43 = .ok (.istore 11, 2) := by decide +kernel
theorem dX12_loopOf_45 : decode cX12_loopOf 45 = .ok (.aload_n 0, 1) := by decide +kernel
theorem dX12_loopOf_46 : decode cX12_loopOf 46 = .ok (.iload_n 1, 1) := by decide +kernel
theorem dX12_loopOf_47 : decode cX12_loopOf 47 = .ok (.iconst 4, 1) := by decide +kernel
theorem dX12_loopOf_48 : decode cX12_loopOf 48 = .ok (.iload 10, 2) := by decide +kernel
theorem dX12_loopOf_50 : decode cX12_loopOf 50 = .ok (.imul, 1) := by decide +kernel
theorem dX12_loopOf_51 : decode cX12_loopOf 51 = .ok (.iload_n 3, 1) := by decide +kernel
theorem dX12_loopOf_52 : decode cX12_loopOf 52 = .ok (.iadd, 1) := by decide +kernel
theorem dX12_loopOf_53 : decode cX12_loopOf 53 = .ok (.iload 8, 2) := by decide +kernel
theorem dX12_loopOf_55 : decode cX12_loopOf 55 = .ok (.iconst 1, 1) := by decide +kernel
theorem dX12_loopOf_56 : decode cX12_loopOf 56 = .ok (.invokevirtual 434, 3) := by decide +kernel
theorem dX12_loopOf_59 : decode cX12_loopOf 59 = .ok (.lstore 12, 2) := by decide +kernel
theorem dX12_loopOf_61 : decode cX12_loopOf 61 = .ok (.aload_n 0, 1) := by decide +kernel
theorem dX12_loopOf_62 : decode cX12_loopOf 62 = .ok (.iload_n 1, 1) := by decide +kernel
theorem dX12_loopOf_63 : decode cX12_loopOf 63 = .ok (.iconst 4, 1) := by decide +kernel
theorem dX12_loopOf_64 : decode cX12_loopOf 64 = .ok (.iload 6, 2) := by decide +kernel
theorem dX12_loopOf_66 : decode cX12_loopOf 66 = .ok (.imul, 1) := by decide +kernel
theorem dX12_loopOf_67 : decode cX12_loopOf 67 = .ok (.iload_n 3, 1) := by decide +kernel
theorem dX12_loopOf_68 : decode cX12_loopOf 68 = .ok (.iadd, 1) := by decide +kernel
theorem dX12_loopOf_69 : decode cX12_loopOf 69 = .ok (.iload 8, 2) := by decide +kernel
theorem dX12_loopOf_71 : decode cX12_loopOf 71 = .ok (.iconst 1, 1) := by decide +kernel
theorem dX12_loopOf_72 : decode cX12_loopOf 72 = .ok (.invokevirtual 434, 3) := by decide +kernel
theorem dX12_loopOf_75 : decode cX12_loopOf 75 = .ok (.lstore 14, 2) := by decide +kernel
theorem dX12_loopOf_77 : decode cX12_loopOf 77 = .ok (.aload_n 0, 1) := by decide +kernel
theorem dX12_loopOf_78 : decode cX12_loopOf 78 = .ok (.iload_n 1, 1) := by decide +kernel
theorem dX12_loopOf_79 : decode cX12_loopOf 79 = .ok (.iconst 4, 1) := by decide +kernel
theorem dX12_loopOf_80 : decode cX12_loopOf 80 = .ok (.iload 11, 2) := by decide +kernel
theorem dX12_loopOf_82 : decode cX12_loopOf 82 = .ok (.imul, 1) := by decide +kernel
theorem dX12_loopOf_83 : decode cX12_loopOf 83 = .ok (.iload_n 3, 1) := by decide +kernel
theorem dX12_loopOf_84 : decode cX12_loopOf 84 = .ok (.iadd, 1) := by decide +kernel
theorem dX12_loopOf_85 : decode cX12_loopOf 85 = .ok (.iload 8, 2) := by decide +kernel
theorem dX12_loopOf_87 : decode cX12_loopOf 87 = .ok (.iconst 1, 1) := by decide +kernel
theorem dX12_loopOf_88 : decode cX12_loopOf 88 = .ok (.invokevirtual 434, 3) := by decide +kernel
theorem dX12_loopOf_91 : decode cX12_loopOf 91 = .ok (.lstore 16, 2) := by decide +kernel
theorem dX12_loopOf_93 : decode cX12_loopOf 93 = .ok (.lload 16, 2) := by decide +kernel
theorem dX12_loopOf_95 : decode cX12_loopOf 95 = .ok (.lload 12, 2) := by decide +kernel
theorem dX12_loopOf_97 : decode cX12_loopOf 97 = .ok (.lcmp, 1) := by decide +kernel
theorem dX12_loopOf_98 : decode cX12_loopOf 98 = .ok (.ifCond .le 18, 3) := by decide +kernel
theorem dX12_loopOf_101 : decode cX12_loopOf 101 = .ok (.lload 16, 2) := by decide +kernel
theorem dX12_loopOf_103 : decode cX12_loopOf 103 = .ok (.lload 14, 2) := by decide +kernel
theorem dX12_loopOf_105 : decode cX12_loopOf 105 = .ok (.lcmp, 1) := by decide +kernel
theorem dX12_loopOf_106 : decode cX12_loopOf 106 = .ok (.ifCond .le 10, 3) := by decide +kernel
theorem dX12_loopOf_109 : decode cX12_loopOf 109 = .ok (.iload 11, 2) := by decide +kernel
theorem dX12_loopOf_111 : decode cX12_loopOf 111 = .ok (.istore 6, 2) := by decide +kernel
theorem dX12_loopOf_113 : decode cX12_loopOf 113 = .ok (.goto 23, 3) := by decide +kernel
theorem dX12_loopOf_116 : decode cX12_loopOf 116 = .ok (.lload 12, 2) := by decide +kernel
theorem dX12_loopOf_118 : decode cX12_loopOf 118 = .ok (.lload 14, 2) := by decide +kernel
theorem dX12_loopOf_120 : decode cX12_loopOf 120 = .ok (.lcmp, 1) := by decide +kernel
theorem dX12_loopOf_121 : decode cX12_loopOf 121 = .ok (.ifCond .le 15, 3) := by decide +kernel
theorem dX12_loopOf_124 : decode cX12_loopOf 124 = .ok (.lload 12, 2) := by decide +kernel
theorem dX12_loopOf_126 : decode cX12_loopOf 126 = .ok (.lload 16, 2) := by decide +kernel
theorem dX12_loopOf_128 : decode cX12_loopOf 128 = .ok (.lcmp, 1) := by decide +kernel
theorem dX12_loopOf_129 : decode cX12_loopOf 129 = .ok (.ifCond .le 7, 3) := by decide +kernel
theorem dX12_loopOf_132 : decode cX12_loopOf 132 = .ok (.iload 10, 2) := by decide +kernel
theorem dX12_loopOf_134 : decode cX12_loopOf 134 = .ok (.istore 6, 2) := by decide +kernel
theorem dX12_loopOf_136 : decode cX12_loopOf 136 = .ok (.iload 8, 2) := by decide +kernel
theorem dX12_loopOf_138 : decode cX12_loopOf 138 = .ok (.iload 7, 2) := by decide +kernel
theorem dX12_loopOf_140 : decode cX12_loopOf 140 = .ok (.iadd, 1) := by decide +kernel
theorem dX12_loopOf_141 : decode cX12_loopOf 141 = .ok (.istore 8, 2) := by decide +kernel
theorem dX12_loopOf_143 : decode cX12_loopOf 143 = .ok (.iinc 9 1, 3) := by decide +kernel
theorem dX12_loopOf_146 : decode cX12_loopOf 146 = .ok (.goto (-129), 3) := by decide +kernel
theorem dX12_loopOf_149 : decode cX12_loopOf 149 = .ok (.iload 6, 2) := by decide +kernel
theorem dX12_loopOf_151 : decode cX12_loopOf 151 = .ok (.ireturn, 1) := by decide +kernel
set_option maxRecDepth 100000 in
theorem c_X12_loopOf (l : Launch) (D : q_D) (al : q_Al) (dt : q_Dt) (x0 : Nat) (x1 : Int32) (x2 : Int32) (x3 : Int32) (x4 : Int32) (x5 : Int32) (kx0 : al.1 x0 = 13) (r0 : Int32) (dt0 : q_Dt) (hm : X12_loopOf al dt x0 x1 x2 x3 x4 x5 = some (r0, dt0)) : q_Mt l yX12_loopOf cX12_loopOf 18 (some FieldType.int) 3 79 D al [.ref x0, .int x1, .int x2, .int x3, .int x4, .int x5] dt 0 (some (.int r0)) dt0 := by
  refine q_Mt.of (by decide) (Nat.le_of_ble_eq_true rfl) ?_
  intro p e s m args below meth c ls C hargs hW hl
  have hx := C.1
  have hb := C.2.1
  have hown := C.2.2.2.2.2.1
  have hts := C.2.2.2.2.2.2.1
  have hS : va_S (q_A al) s.heap s.heap [] := va_S.rf
  have hl : lv_has ls 18 [(0, .ref x0), (1, .int x1), (2, .int x2), (3, .int x3), (4, .int x4), (5, .int x5)] := hl
  unfold X12_loopOf at hm
  have hB17 : ∀ (x0_17 : Nat) (x1_17 : Int32) (x3_17 : Int32) (x5_17 : Int32) (x7_17 : Int32) (kx0_17 : al.1 x0_17 = 13) (n_17 : Nat) (x6_17 : Int32) (x8_17 : Int32) (x9_17 : Int32) (dt : q_Dt) (H : Heap) (locs : List Loc) (ls : Array Slot) (hm : X12_loopOf_b17 al x0_17 x1_17 x3_17 x5_17 x7_17 n_17 x6_17 x8_17 x9_17 dt = some (r0, dt0)) (hW : q_W D al dt H) (hS : va_S (q_A al) s.heap H locs) (hl : lv_has ls 18 [(0, .ref x0_17), (1, .int x1_17), (3, .int x3_17), (5, .int x5_17), (6, .int x6_17), (7, .int x7_17), (8, .int x8_17), (9, .int x9_17)]), W p l e { frames := 3, cells := 0, slots := 0, locals := 79 } s m args below meth c H locs 0 0 (MQ below (q_Q (some (.int r0)) (fun H => q_W D al dt0 H ∧ q_Rk al 0 (some (.int r0))) (q_A al)) args s 0 0 (q_A al)) (F0 m 17 ls []) := by
    intro x0_17 x1_17 x3_17 x5_17 x7_17 kx0_17
    intro n_17
    induction n_17 with
    | zero => intro x6_17 x8_17 x9_17 dt H locs ls hm hW hS hl; cases hm
    | succ n_17 ih17 =>
      have hB136 : ∀ (x6_136 : Int32) (x8_136 : Int32) (x9_136 : Int32) (dt : q_Dt) (H : Heap) (locs : List Loc) (ls : Array Slot) (hm : X12_loopOf_b136 al (X12_loopOf_b17 al x0_17 x1_17 x3_17 x5_17 x7_17 n_17) x0_17 x1_17 x3_17 x5_17 x6_136 x7_17 x8_136 x9_136 dt = some (r0, dt0)) (hW : q_W D al dt H) (hS : va_S (q_A al) s.heap H locs) (hl : lv_has ls 18 [(0, .ref x0_17), (1, .int x1_17), (3, .int x3_17), (5, .int x5_17), (6, .int x6_136), (7, .int x7_17), (8, .int x8_136), (9, .int x9_136)]), W p l e { frames := 3, cells := 0, slots := 0, locals := 79 } s m args below meth c H locs 0 0 (MQ below (q_Q (some (.int r0)) (fun H => q_W D al dt0 H ∧ q_Rk al 0 (some (.int r0))) (q_A al)) args s 0 0 (q_A al)) (F0 m 136 ls []) := by
        intro x6_136 x8_136 x9_136 dt H locs ls hm hW hS hl
        unfold X12_loopOf_b136 at hm
        refine lv_iload hx hb dX12_loopOf_136 (lv_at hl 6 rfl) ?_
        refine lv_iload hx hb dX12_loopOf_138 (lv_at hl 5 rfl) ?_
        refine lv_iadd hx hb dX12_loopOf_140 ?_
        refine lv_istore (i := 8) (lv' := [(8, .int (x8_136 + x7_17)), (0, .ref x0_17), (1, .int x1_17), (3, .int x3_17), (5, .int x5_17), (6, .int x6_136), (7, .int x7_17), (9, .int x9_136)]) hx hb dX12_loopOf_141 hl (by decide) rfl (fun ls hl => ?_)
        refine lv_iinc (v := (x9_136 + 1)) (lv' := [(9, .int (x9_136 + 1)), (8, .int (x8_136 + x7_17)), (0, .ref x0_17), (1, .int x1_17), (3, .int x3_17), (5, .int x5_17), (6, .int x6_136), (7, .int x7_17)]) hx hb dX12_loopOf_143 hl (k := 7) rfl rfl (by decide) rfl (fun ls hl => ?_)
        refine lv_goto (tgt := 17) hx hb dX12_loopOf_146 (by decide) ?_
        exact ih17 x6_136 (x8_136 + x7_17) (x9_136 + 1) dt _ _ _ hm hW hS (lv_sub hl [2, 3, 4, 5, 6, 7, 1, 0] rfl)
      have hB116 : ∀ (x6_116 : Int32) (x8_116 : Int32) (x9_116 : Int32) (x10_116 : Int32) (x12_116 : Int64) (x14_116 : Int64) (x16_116 : Int64) (dt : q_Dt) (H : Heap) (locs : List Loc) (ls : Array Slot) (hm : X12_loopOf_b116 al (X12_loopOf_b17 al x0_17 x1_17 x3_17 x5_17 x7_17 n_17) x0_17 x1_17 x3_17 x5_17 x6_116 x7_17 x8_116 x9_116 x10_116 x12_116 x14_116 x16_116 dt = some (r0, dt0)) (hW : q_W D al dt H) (hS : va_S (q_A al) s.heap H locs) (hl : lv_has ls 18 [(0, .ref x0_17), (1, .int x1_17), (3, .int x3_17), (5, .int x5_17), (6, .int x6_116), (7, .int x7_17), (8, .int x8_116), (9, .int x9_116), (10, .int x10_116), (12, .long x12_116), (14, .long x14_116), (16, .long x16_116)]), W p l e { frames := 3, cells := 0, slots := 0, locals := 79 } s m args below meth c H locs 0 0 (MQ below (q_Q (some (.int r0)) (fun H => q_W D al dt0 H ∧ q_Rk al 0 (some (.int r0))) (q_A al)) args s 0 0 (q_A al)) (F0 m 116 ls []) := by
        intro x6_116 x8_116 x9_116 x10_116 x12_116 x14_116 x16_116 dt H locs ls hm hW hS hl
        unfold X12_loopOf_b116 at hm
        refine lv_lload hx hb dX12_loopOf_116 (lv_at hl 9 rfl) ?_
        refine lv_lload hx hb dX12_loopOf_118 (lv_at hl 10 rfl) ?_
        refine W.lcmp hx hb dX12_loopOf_120 ?_
        refine q_ifc hm (fun c116001 hm => ?_) (fun c116001 hm => ?_)
        · refine lv_if_le (tgt := 136) hx hb dX12_loopOf_121 (by decide) (fun _ => ?_) (fun h => absurd (q_cmp_le.mpr c116001) h)
          exact hB136 x6_116 x8_116 x9_116 dt _ _ _ hm hW hS (lv_sub hl [0, 1, 2, 3, 4, 5, 6, 7] rfl)
        refine lv_if_le (tgt := 136) hx hb dX12_loopOf_121 (by decide) (fun h => absurd (q_cmp_le.mp h) c116001) (fun _ => ?_)
        refine lv_lload hx hb dX12_loopOf_124 (lv_at hl 9 rfl) ?_
        refine lv_lload hx hb dX12_loopOf_126 (lv_at hl 11 rfl) ?_
        refine W.lcmp hx hb dX12_loopOf_128 ?_
        refine q_ifc hm (fun c116002 hm => ?_) (fun c116002 hm => ?_)
        · refine lv_if_le (tgt := 136) hx hb dX12_loopOf_129 (by decide) (fun _ => ?_) (fun h => absurd (q_cmp_le.mpr c116002) h)
          exact hB136 x6_116 x8_116 x9_116 dt _ _ _ hm hW hS (lv_sub hl [0, 1, 2, 3, 4, 5, 6, 7] rfl)
        refine lv_if_le (tgt := 136) hx hb dX12_loopOf_129 (by decide) (fun h => absurd (q_cmp_le.mp h) c116002) (fun _ => ?_)
        refine lv_iload hx hb dX12_loopOf_132 (lv_at hl 8 rfl) ?_
        refine lv_istore (i := 6) (lv' := [(6, .int x10_116), (0, .ref x0_17), (1, .int x1_17), (3, .int x3_17), (5, .int x5_17), (7, .int x7_17), (8, .int x8_116), (9, .int x9_116), (10, .int x10_116), (12, .long x12_116), (14, .long x14_116), (16, .long x16_116)]) hx hb dX12_loopOf_134 hl (by decide) rfl (fun ls hl => ?_)
        exact hB136 x10_116 x8_116 x9_116 dt _ _ _ hm hW hS (lv_sub hl [1, 2, 3, 4, 0, 5, 6, 7] rfl)
      intro x6_17 x8_17 x9_17 dt H locs ls hm hW hS hl
      rw [X12_loopOf_b17] at hm
      refine lv_iload hx hb dX12_loopOf_17 (lv_at hl 7 rfl) ?_
      refine lv_iload hx hb dX12_loopOf_19 (lv_at hl 3 rfl) ?_
      refine q_ifc hm (fun c17001 hm => ?_) (fun c17001 hm => ?_)
      · refine lv_icmp_ge (tgt := 149) hx hb dX12_loopOf_21 (by decide) (fun _ => ?_) (fun h => absurd c17001 h)
        refine lv_iload hx hb dX12_loopOf_149 (lv_at hl 4 rfl) ?_
        exact e_iD C hW hS hm dX12_loopOf_151
      refine lv_icmp_ge (tgt := 149) hx hb dX12_loopOf_21 (by decide) (fun h => absurd h c17001) (fun _ => ?_)
      refine lv_iload hx hb dX12_loopOf_24 (lv_at hl 4 rfl) ?_
      refine lv_iload hx hb dX12_loopOf_26 (lv_at hl 5 rfl) ?_
      refine lv_iadd hx hb dX12_loopOf_28 ?_
      refine lv_iconst (v := 1) hx hb dX12_loopOf_29 (by decide) ?_
      refine lv_isub hx hb dX12_loopOf_30 ?_
      refine lv_iload hx hb dX12_loopOf_31 (lv_at hl 5 rfl) ?_
      obtain ⟨c17002, hm⟩ := q_ini hm
      refine lv_irem hx hb dX12_loopOf_33 c17002 ?_
      refine lv_istore (i := 10) (lv' := [(10, .int (q_ir ((x6_17 + x7_17) - 1) x7_17)), (0, .ref x0_17), (1, .int x1_17), (3, .int x3_17), (5, .int x5_17), (6, .int x6_17), (7, .int x7_17), (8, .int x8_17), (9, .int x9_17)]) hx hb dX12_loopOf_34 hl (by decide) rfl (fun ls hl => ?_)
      refine lv_iload hx hb dX12_loopOf_36 (lv_at hl 5 rfl) ?_
      refine lv_iconst (v := 1) hx hb dX12_loopOf_38 (by decide) ?_
      refine lv_iadd hx hb dX12_loopOf_39 ?_
      refine lv_iload hx hb dX12_loopOf_40 (lv_at hl 6 rfl) ?_
      obtain ⟨c17003, hm⟩ := q_ini hm
      refine lv_irem hx hb dX12_loopOf_42 c17003 ?_
      refine lv_istore (i := 11) (lv' := [(11, .int (q_ir (x6_17 + 1) x7_17)), (10, .int (q_ir ((x6_17 + x7_17) - 1) x7_17)), (0, .ref x0_17), (1, .int x1_17), (3, .int x3_17), (5, .int x5_17), (6, .int x6_17), (7, .int x7_17), (8, .int x8_17), (9, .int x9_17)]) hx hb dX12_loopOf_43 hl (by decide) rfl (fun ls hl => ?_)
      refine lv_aload_n hx hb dX12_loopOf_45 rfl (lv_at hl 2 rfl) ?_
      refine lv_iload_n hx hb dX12_loopOf_46 rfl (lv_at hl 3 rfl) ?_
      refine lv_iconst (v := 4) hx hb dX12_loopOf_47 (by decide) ?_
      refine lv_iload hx hb dX12_loopOf_48 (lv_at hl 1 rfl) ?_
      refine lv_imul hx hb dX12_loopOf_50 ?_
      refine lv_iload_n hx hb dX12_loopOf_51 rfl (lv_at hl 4 rfl) ?_
      refine lv_iadd hx hb dX12_loopOf_52 ?_
      refine lv_iload hx hb dX12_loopOf_53 (lv_at hl 8 rfl) ?_
      refine lv_iconst (v := 1) hx hb dX12_loopOf_55 (by decide) ?_
      obtain ⟨v17005, dt17006, hc17004, hm⟩ := q_b2i hm
      refine q_callV C hW hS (As := [.int x1_17, .int ((4 * (q_ir ((x6_17 + x7_17) - 1) x7_17)) + x3_17), .int x8_17, .int 1]) (rest := []) (st1 := [.long v17005]) (c_X12_metricOf l D al dt x0_17 x1_17 ((4 * (q_ir ((x6_17 + x7_17) - 1) x7_17)) + x3_17) x8_17 1 kx0_17 v17005 dt17006 hc17004) yl_X12_metricOf vl_X12_metricOf ml_RX12_434 (ci := 12) rfl kx0_17 (by decide) rfl ⟨Nat.le_of_ble_eq_true rfl, Nat.le_of_ble_eq_true rfl⟩ hl rfl (Nat.le_of_ble_eq_true rfl) dX12_loopOf_56 ⟨Nat.le_refl _, Nat.le_refl _⟩ rfl (fun H locs k17007 hW hS => ?_)
      refine lv_lstore (i := 12) (lv' := [(12, .long v17005), (11, .int (q_ir (x6_17 + 1) x7_17)), (10, .int (q_ir ((x6_17 + x7_17) - 1) x7_17)), (0, .ref x0_17), (1, .int x1_17), (3, .int x3_17), (5, .int x5_17), (6, .int x6_17), (7, .int x7_17), (8, .int x8_17), (9, .int x9_17)]) hx hb dX12_loopOf_59 hl (by decide) rfl (fun ls hl => ?_)
      refine lv_aload_n hx hb dX12_loopOf_61 rfl (lv_at hl 3 rfl) ?_
      refine lv_iload_n hx hb dX12_loopOf_62 rfl (lv_at hl 4 rfl) ?_
      refine lv_iconst (v := 4) hx hb dX12_loopOf_63 (by decide) ?_
      refine lv_iload hx hb dX12_loopOf_64 (lv_at hl 7 rfl) ?_
      refine lv_imul hx hb dX12_loopOf_66 ?_
      refine lv_iload_n hx hb dX12_loopOf_67 rfl (lv_at hl 5 rfl) ?_
      refine lv_iadd hx hb dX12_loopOf_68 ?_
      refine lv_iload hx hb dX12_loopOf_69 (lv_at hl 9 rfl) ?_
      refine lv_iconst (v := 1) hx hb dX12_loopOf_71 (by decide) ?_
      obtain ⟨v17009, dt17010, hc17008, hm⟩ := q_b2i hm
      refine q_callV C hW hS (As := [.int x1_17, .int ((4 * x6_17) + x3_17), .int x8_17, .int 1]) (rest := []) (st1 := [.long v17009]) (c_X12_metricOf l D al dt17006 x0_17 x1_17 ((4 * x6_17) + x3_17) x8_17 1 kx0_17 v17009 dt17010 hc17008) yl_X12_metricOf vl_X12_metricOf ml_RX12_434 (ci := 12) rfl kx0_17 (by decide) rfl ⟨Nat.le_of_ble_eq_true rfl, Nat.le_of_ble_eq_true rfl⟩ hl rfl (Nat.le_of_ble_eq_true rfl) dX12_loopOf_72 ⟨Nat.le_refl _, Nat.le_refl _⟩ rfl (fun H locs k17011 hW hS => ?_)
      refine lv_lstore (i := 14) (lv' := [(14, .long v17009), (12, .long v17005), (11, .int (q_ir (x6_17 + 1) x7_17)), (10, .int (q_ir ((x6_17 + x7_17) - 1) x7_17)), (0, .ref x0_17), (1, .int x1_17), (3, .int x3_17), (5, .int x5_17), (6, .int x6_17), (7, .int x7_17), (8, .int x8_17), (9, .int x9_17)]) hx hb dX12_loopOf_75 hl (by decide) rfl (fun ls hl => ?_)
      refine lv_aload_n hx hb dX12_loopOf_77 rfl (lv_at hl 4 rfl) ?_
      refine lv_iload_n hx hb dX12_loopOf_78 rfl (lv_at hl 5 rfl) ?_
      refine lv_iconst (v := 4) hx hb dX12_loopOf_79 (by decide) ?_
      refine lv_iload hx hb dX12_loopOf_80 (lv_at hl 2 rfl) ?_
      refine lv_imul hx hb dX12_loopOf_82 ?_
      refine lv_iload_n hx hb dX12_loopOf_83 rfl (lv_at hl 6 rfl) ?_
      refine lv_iadd hx hb dX12_loopOf_84 ?_
      refine lv_iload hx hb dX12_loopOf_85 (lv_at hl 10 rfl) ?_
      refine lv_iconst (v := 1) hx hb dX12_loopOf_87 (by decide) ?_
      obtain ⟨v17013, dt17014, hc17012, hm⟩ := q_b2i hm
      refine q_callV C hW hS (As := [.int x1_17, .int ((4 * (q_ir (x6_17 + 1) x7_17)) + x3_17), .int x8_17, .int 1]) (rest := []) (st1 := [.long v17013]) (c_X12_metricOf l D al dt17010 x0_17 x1_17 ((4 * (q_ir (x6_17 + 1) x7_17)) + x3_17) x8_17 1 kx0_17 v17013 dt17014 hc17012) yl_X12_metricOf vl_X12_metricOf ml_RX12_434 (ci := 12) rfl kx0_17 (by decide) rfl ⟨Nat.le_of_ble_eq_true rfl, Nat.le_of_ble_eq_true rfl⟩ hl rfl (Nat.le_of_ble_eq_true rfl) dX12_loopOf_88 ⟨Nat.le_refl _, Nat.le_refl _⟩ rfl (fun H locs k17015 hW hS => ?_)
      refine lv_lstore (i := 16) (lv' := [(16, .long v17013), (14, .long v17009), (12, .long v17005), (11, .int (q_ir (x6_17 + 1) x7_17)), (10, .int (q_ir ((x6_17 + x7_17) - 1) x7_17)), (0, .ref x0_17), (1, .int x1_17), (3, .int x3_17), (5, .int x5_17), (6, .int x6_17), (7, .int x7_17), (8, .int x8_17), (9, .int x9_17)]) hx hb dX12_loopOf_91 hl (by decide) rfl (fun ls hl => ?_)
      refine lv_lload hx hb dX12_loopOf_93 (lv_at hl 0 rfl) ?_
      refine lv_lload hx hb dX12_loopOf_95 (lv_at hl 2 rfl) ?_
      refine W.lcmp hx hb dX12_loopOf_97 ?_
      refine q_ifc hm (fun c17016 hm => ?_) (fun c17016 hm => ?_)
      · refine lv_if_le (tgt := 116) hx hb dX12_loopOf_98 (by decide) (fun _ => ?_) (fun h => absurd (q_cmp_le.mpr c17016) h)
        exact hB116 x6_17 x8_17 x9_17 (q_ir ((x6_17 + x7_17) - 1) x7_17) v17005 v17009 v17013 dt17014 _ _ _ hm hW hS (lv_sub hl [5, 6, 7, 8, 9, 10, 11, 12, 4, 2, 1, 0] rfl)
      refine lv_if_le (tgt := 116) hx hb dX12_loopOf_98 (by decide) (fun h => absurd (q_cmp_le.mp h) c17016) (fun _ => ?_)
      refine lv_lload hx hb dX12_loopOf_101 (lv_at hl 0 rfl) ?_
      refine lv_lload hx hb dX12_loopOf_103 (lv_at hl 1 rfl) ?_
      refine W.lcmp hx hb dX12_loopOf_105 ?_
      refine q_ifc hm (fun c17017 hm => ?_) (fun c17017 hm => ?_)
      · refine lv_if_le (tgt := 116) hx hb dX12_loopOf_106 (by decide) (fun _ => ?_) (fun h => absurd (q_cmp_le.mpr c17017) h)
        exact hB116 x6_17 x8_17 x9_17 (q_ir ((x6_17 + x7_17) - 1) x7_17) v17005 v17009 v17013 dt17014 _ _ _ hm hW hS (lv_sub hl [5, 6, 7, 8, 9, 10, 11, 12, 4, 2, 1, 0] rfl)
      refine lv_if_le (tgt := 116) hx hb dX12_loopOf_106 (by decide) (fun h => absurd (q_cmp_le.mp h) c17017) (fun _ => ?_)
      refine lv_iload hx hb dX12_loopOf_109 (lv_at hl 3 rfl) ?_
      refine lv_istore (i := 6) (lv' := [(6, .int (q_ir (x6_17 + 1) x7_17)), (16, .long v17013), (14, .long v17009), (12, .long v17005), (11, .int (q_ir (x6_17 + 1) x7_17)), (10, .int (q_ir ((x6_17 + x7_17) - 1) x7_17)), (0, .ref x0_17), (1, .int x1_17), (3, .int x3_17), (5, .int x5_17), (7, .int x7_17), (8, .int x8_17), (9, .int x9_17)]) hx hb dX12_loopOf_111 hl (by decide) rfl (fun ls hl => ?_)
      refine lv_goto (tgt := 136) hx hb dX12_loopOf_113 (by decide) ?_
      exact hB136 (q_ir (x6_17 + 1) x7_17) x8_17 x9_17 dt17014 _ _ _ hm hW hS (lv_sub hl [6, 7, 8, 9, 0, 10, 11, 12] rfl)
  refine lv_iload_n hx hb dX12_loopOf_0 rfl (lv_at hl 2 rfl) ?_
  refine lv_istore (i := 6) (lv' := [(6, .int x2), (0, .ref x0), (1, .int x1), (2, .int x2), (3, .int x3), (4, .int x4), (5, .int x5)]) hx hb dX12_loopOf_1 hl (by decide) rfl (fun ls hl => ?_)
  refine lv_aload_n hx hb dX12_loopOf_3 rfl (lv_at hl 1 rfl) ?_
  refine lv_iload_n hx hb dX12_loopOf_4 rfl (lv_at hl 2 rfl) ?_
  obtain ⟨v1000002, hc1000001, hm⟩ := q_b1i hm
  refine q_callV C hW hS (As := [.int x1]) (rest := []) (st1 := [.int v1000002]) (c_X12_long0 l D al dt x0 x1 kx0 v1000002 hc1000001) yl_X12_long0 vl_X12_long0 ml_RX12_327 (ci := 12) rfl kx0 (by decide) rfl ⟨Nat.le_of_ble_eq_true rfl, Nat.le_of_ble_eq_true rfl⟩ hl rfl (Nat.le_of_ble_eq_true rfl) dX12_loopOf_5 ⟨Nat.le_refl _, Nat.le_refl _⟩ rfl (fun H locs k1000003 hW hS => ?_)
  refine lv_istore (i := 7) (lv' := [(7, .int v1000002), (6, .int x2), (0, .ref x0), (1, .int x1), (2, .int x2), (3, .int x3), (4, .int x4), (5, .int x5)]) hx hb dX12_loopOf_8 hl (by decide) rfl (fun ls hl => ?_)
  refine lv_iload hx hb dX12_loopOf_10 (lv_at hl 6 rfl) ?_
  refine lv_istore (i := 8) (lv' := [(8, .int x4), (7, .int v1000002), (6, .int x2), (0, .ref x0), (1, .int x1), (2, .int x2), (3, .int x3), (4, .int x4), (5, .int x5)]) hx hb dX12_loopOf_12 hl (by decide) rfl (fun ls hl => ?_)
  refine lv_iconst (v := 0) hx hb dX12_loopOf_14 (by decide) ?_
  refine lv_istore (i := 9) (lv' := [(9, .int 0), (8, .int x4), (7, .int v1000002), (6, .int x2), (0, .ref x0), (1, .int x1), (2, .int x2), (3, .int x3), (4, .int x4), (5, .int x5)]) hx hb dX12_loopOf_15 hl (by decide) rfl (fun ls hl => ?_)
  exact hB17 x0 x1 x3 x5 v1000002 kx0 q_FU x2 x4 0 dt _ _ _ hm hW hS (lv_sub hl [4, 5, 7, 9, 3, 2, 1, 0] rfl)
theorem dX12_loop_0 : decode cX12_loop 0 = .ok (.aload_n 0, 1) := by decide +kernel
theorem dX12_loop_1 : decode cX12_loop 1 = .ok (.iload_n 1, 1) := by decide +kernel
theorem dX12_loop_2 : decode cX12_loop 2 = .ok (.invokevirtual 380, 3) := by decide +kernel
theorem dX12_loop_5 : decode cX12_loop 5 = .ok (.ifCond .eq 61, 3) := by decide +kernel
theorem dX12_loop_8 : decode cX12_loop 8 = .ok (.iload_n 2, 1) := by decide +kernel
theorem dX12_loop_9 : decode cX12_loop 9 = .ok (.iconst 0, 1) := by decide +kernel
theorem dX12_loop_10 : decode cX12_loop 10 = .ok (.aload_n 0, 1) := by decide +kernel
theorem dX12_loop_11 : decode cX12_loop 11 = .ok (.iload_n 1, 1) := by decide +kernel
theorem dX12_loop_12 : decode cX12_loop 12 = .ok (.invokevirtual 327, 3) := by decide +kernel
theorem dX12_loop_15 : decode cX12_loop 15 = .ok (.iconst 1, 1) := by decide +kernel
theorem dX12_loop_16 : decode cX12_loop 16 = .ok (.isub, 1) := by decide +kernel
theorem dX12_loop_17 : decode cX12_loop 17 = .ok (.invokestatic 376, 3) := by decide +kernel
theorem dX12_loop_20 : decode cX12_loop 20 = .ok (.ifCond .eq 46, 3) := by decide +kernel
theorem dX12_loop_23 : decode cX12_loop 23 = .ok (.iload_n 3, 1) := by decide +kernel
theorem dX12_loop_24 : decode cX12_loop 24 = .ok (.iconst 0, 1) := by decide +kernel
theorem dX12_loop_25 : decode cX12_loop 25 = .ok (.iconst 3, 1) := by decide +kernel
theorem dX12_loop_26 : decode cX12_loop 26 = .ok (.invokestatic 376, 3) := by decide +kernel
theorem dX12_loop_29 : decode cX12_loop 29 = .ok (.ifCond .eq 37, 3) := by decide +kernel
theorem dX12_loop_32 : decode cX12_loop 32 = .ok (.aload_n 0, 1) := by decide +kernel
theorem dX12_loop_33 : decode cX12_loop 33 = .ok (.iload 4, 2) := by decide +kernel
theorem dX12_loop_35 : decode cX12_loop 35 = .ok (.invokevirtual 401, 3) := by decide +kernel
theorem dX12_loop_38 : decode cX12_loop 38 = .ok (.ifCond .eq 28, 3) := by decide +kernel
theorem dX12_loop_41 : decode cX12_loop 41 = .ok (.iload 5, 2) := by decide +kernel
theorem dX12_loop_43 : decode cX12_loop 43 = .ok (.iconst 0, 1) := by decide +kernel
theorem dX12_loop_44 : decode cX12_loop 44 = .ok (.bipush 40, 2) := by decide +kernel
theorem dX12_loop_46 : decode cX12_loop 46 = .ok (.invokestatic 376, 3) := by decide +kernel
theorem dX12_loop_49 : decode cX12_loop 49 = .ok (.ifCond .eq 17, 3) := by decide +kernel
theorem dX12_loop_52 : decode cX12_loop 52 = .ok (.aload_n 0, 1) := by decide +kernel
theorem dX12_loop_53 : decode cX12_loop 53 = .ok (.iload_n 1, 1) := by decide +kernel
theorem dX12_loop_54 : decode cX12_loop 54 = .ok (.iload_n 2, 1) := by decide +kernel
theorem dX12_loop_55 : decode cX12_loop 55 = .ok (.iload_n 3, 1) := by decide +kernel
theorem dX12_loop_56 : decode cX12_loop 56 = .ok (.iload 4, 2) := by decide +kernel
theorem dX12_loop_58 : decode cX12_loop 58 = .ok (.iload 5, 2) := by decide +kernel
theorem dX12_loop_60 : decode cX12_loop 60 = .ok (.invokevirtual 474, 3) := by decide +kernel
theorem dX12_loop_63 : decode cX12_loop 63 = .ok (.goto 4, 3) := by decide +kernel
theorem dX12_loop_66 : decode cX12_loop 66 = .ok (.iconst (-1), 1) := by decide +kernel
theorem dX12_loop_67 : decode cX12_loop 67 = .ok (.ireturn, 1) := by decide +kernel
set_option maxRecDepth 100000 in
theorem c_X12_loop (l : Launch) (D : q_D) (al : q_Al) (dt : q_Dt) (x0 : Nat) (x1 : Int32) (x2 : Int32) (x3 : Int32) (x4 : Int32) (x5 : Int32) (kx0 : al.1 x0 = 13) (r0 : Int32) (dt0 : q_Dt) (hm : X12_loop al dt x0 x1 x2 x3 x4 x5 = some (r0, dt0)) : q_Mt l yX12_loop cX12_loop 6 (some FieldType.int) 4 116 D al [.ref x0, .int x1, .int x2, .int x3, .int x4, .int x5] dt 0 (some (.int r0)) dt0 := by
  refine q_Mt.of (by decide) (Nat.le_of_ble_eq_true rfl) ?_
  intro p e s m args below meth c ls C hargs hW hl
  have hx := C.1
  have hb := C.2.1
  have hown := C.2.2.2.2.2.1
  have hts := C.2.2.2.2.2.2.1
  have hS : va_S (q_A al) s.heap s.heap [] := va_S.rf
  have hl : lv_has ls 6 [(0, .ref x0), (1, .int x1), (2, .int x2), (3, .int x3), (4, .int x4), (5, .int x5)] := hl
  unfold X12_loop at hm
  refine lv_aload_n hx hb dX12_loop_0 rfl (lv_at hl 0 rfl) ?_
  refine lv_iload_n hx hb dX12_loop_1 rfl (lv_at hl 1 rfl) ?_
  obtain ⟨v1000002, hc1000001, hm⟩ := q_b1i hm
  refine q_callV C hW hS (As := [.int x1]) (rest := []) (st1 := [.int v1000002]) (c_X12_isCode l D al dt x0 x1 kx0 v1000002 hc1000001) yl_X12_isCode vl_X12_isCode ml_RX12_380 (ci := 12) rfl kx0 (by decide) rfl ⟨Nat.le_of_ble_eq_true rfl, Nat.le_of_ble_eq_true rfl⟩ hl rfl (Nat.le_of_ble_eq_true rfl) dX12_loop_2 ⟨Nat.le_refl _, Nat.le_refl _⟩ rfl (fun H locs k1000003 hW hS => ?_)
  refine q_ifc hm (fun c1000004 hm => ?_) (fun c1000004 hm => ?_)
  · refine lv_if_eq (tgt := 66) hx hb dX12_loop_5 (by decide) (fun _ => ?_) (fun h => absurd c1000004 h)
    refine lv_iconst (v := (-1)) hx hb dX12_loop_66 (by decide) ?_
    exact e_iD C hW hS hm dX12_loop_67
  refine lv_if_eq (tgt := 66) hx hb dX12_loop_5 (by decide) (fun h => absurd h c1000004) (fun _ => ?_)
  refine lv_iload_n hx hb dX12_loop_8 rfl (lv_at hl 2 rfl) ?_
  refine lv_iconst (v := 0) hx hb dX12_loop_9 (by decide) ?_
  refine lv_aload_n hx hb dX12_loop_10 rfl (lv_at hl 0 rfl) ?_
  refine lv_iload_n hx hb dX12_loop_11 rfl (lv_at hl 1 rfl) ?_
  obtain ⟨v1000006, hc1000005, hm⟩ := q_b1i hm
  refine q_callV C hW hS (As := [.int x1]) (rest := [.int 0, .int x2]) (st1 := [.int v1000006, .int 0, .int x2]) (c_X12_long0 l D al dt x0 x1 kx0 v1000006 hc1000005) yl_X12_long0 vl_X12_long0 ml_RX12_327 (ci := 12) rfl kx0 (by decide) rfl ⟨Nat.le_of_ble_eq_true rfl, Nat.le_of_ble_eq_true rfl⟩ hl rfl (Nat.le_of_ble_eq_true rfl) dX12_loop_12 ⟨Nat.le_refl _, Nat.le_refl _⟩ rfl (fun H locs k1000007 hW hS => ?_)
  refine lv_iconst (v := 1) hx hb dX12_loop_15 (by decide) ?_
  refine lv_isub hx hb dX12_loop_16 ?_
  obtain ⟨v1000009, hc1000008, hm⟩ := q_b1i hm
  refine q_callS C hW hS (As := [.int x2, .int 0, .int (v1000006 - 1)]) (rest := []) (st1 := [.int v1000009]) (c_X12_in l D al dt x2 0 (v1000006 - 1) v1000009 hc1000008) yl_X12_in sl_X12_in ml_RX12_376 rfl ⟨Nat.le_of_ble_eq_true rfl, Nat.le_of_ble_eq_true rfl⟩ hl rfl (Nat.le_of_ble_eq_true rfl) dX12_loop_17 ⟨Nat.le_refl _, Nat.le_refl _⟩ rfl (fun H locs k1000010 hW hS => ?_)
  refine q_ifc hm (fun c1000011 hm => ?_) (fun c1000011 hm => ?_)
  · refine lv_if_eq (tgt := 66) hx hb dX12_loop_20 (by decide) (fun _ => ?_) (fun h => absurd c1000011 h)
    refine lv_iconst (v := (-1)) hx hb dX12_loop_66 (by decide) ?_
    exact e_iD C hW hS hm dX12_loop_67
  refine lv_if_eq (tgt := 66) hx hb dX12_loop_20 (by decide) (fun h => absurd h c1000011) (fun _ => ?_)
  refine lv_iload_n hx hb dX12_loop_23 rfl (lv_at hl 3 rfl) ?_
  refine lv_iconst (v := 0) hx hb dX12_loop_24 (by decide) ?_
  refine lv_iconst (v := 3) hx hb dX12_loop_25 (by decide) ?_
  obtain ⟨v1000013, hc1000012, hm⟩ := q_b1i hm
  refine q_callS C hW hS (As := [.int x3, .int 0, .int 3]) (rest := []) (st1 := [.int v1000013]) (c_X12_in l D al dt x3 0 3 v1000013 hc1000012) yl_X12_in sl_X12_in ml_RX12_376 rfl ⟨Nat.le_of_ble_eq_true rfl, Nat.le_of_ble_eq_true rfl⟩ hl rfl (Nat.le_of_ble_eq_true rfl) dX12_loop_26 ⟨Nat.le_refl _, Nat.le_refl _⟩ rfl (fun H locs k1000014 hW hS => ?_)
  refine q_ifc hm (fun c1000015 hm => ?_) (fun c1000015 hm => ?_)
  · refine lv_if_eq (tgt := 66) hx hb dX12_loop_29 (by decide) (fun _ => ?_) (fun h => absurd c1000015 h)
    refine lv_iconst (v := (-1)) hx hb dX12_loop_66 (by decide) ?_
    exact e_iD C hW hS hm dX12_loop_67
  refine lv_if_eq (tgt := 66) hx hb dX12_loop_29 (by decide) (fun h => absurd h c1000015) (fun _ => ?_)
  refine lv_aload_n hx hb dX12_loop_32 rfl (lv_at hl 0 rfl) ?_
  refine lv_iload hx hb dX12_loop_33 (lv_at hl 4 rfl) ?_
  obtain ⟨v1000017, hc1000016, hm⟩ := q_b1i hm
  refine q_callV C hW hS (As := [.int x4]) (rest := []) (st1 := [.int v1000017]) (c_X12_isSample l D al dt x0 x4 kx0 v1000017 hc1000016) yl_X12_isSample vl_X12_isSample ml_RX12_401 (ci := 12) rfl kx0 (by decide) rfl ⟨Nat.le_of_ble_eq_true rfl, Nat.le_of_ble_eq_true rfl⟩ hl rfl (Nat.le_of_ble_eq_true rfl) dX12_loop_35 ⟨Nat.le_refl _, Nat.le_refl _⟩ rfl (fun H locs k1000018 hW hS => ?_)
  refine q_ifc hm (fun c1000019 hm => ?_) (fun c1000019 hm => ?_)
  · refine lv_if_eq (tgt := 66) hx hb dX12_loop_38 (by decide) (fun _ => ?_) (fun h => absurd c1000019 h)
    refine lv_iconst (v := (-1)) hx hb dX12_loop_66 (by decide) ?_
    exact e_iD C hW hS hm dX12_loop_67
  refine lv_if_eq (tgt := 66) hx hb dX12_loop_38 (by decide) (fun h => absurd h c1000019) (fun _ => ?_)
  refine lv_iload hx hb dX12_loop_41 (lv_at hl 5 rfl) ?_
  refine lv_iconst (v := 0) hx hb dX12_loop_43 (by decide) ?_
  refine lv_bipush (v := 40) hx hb dX12_loop_44 (by decide) ?_
  obtain ⟨v1000021, hc1000020, hm⟩ := q_b1i hm
  refine q_callS C hW hS (As := [.int x5, .int 0, .int 40]) (rest := []) (st1 := [.int v1000021]) (c_X12_in l D al dt x5 0 40 v1000021 hc1000020) yl_X12_in sl_X12_in ml_RX12_376 rfl ⟨Nat.le_of_ble_eq_true rfl, Nat.le_of_ble_eq_true rfl⟩ hl rfl (Nat.le_of_ble_eq_true rfl) dX12_loop_46 ⟨Nat.le_refl _, Nat.le_refl _⟩ rfl (fun H locs k1000022 hW hS => ?_)
  refine q_ifc hm (fun c1000023 hm => ?_) (fun c1000023 hm => ?_)
  · refine lv_if_eq (tgt := 66) hx hb dX12_loop_49 (by decide) (fun _ => ?_) (fun h => absurd c1000023 h)
    refine lv_iconst (v := (-1)) hx hb dX12_loop_66 (by decide) ?_
    exact e_iD C hW hS hm dX12_loop_67
  refine lv_if_eq (tgt := 66) hx hb dX12_loop_49 (by decide) (fun h => absurd h c1000023) (fun _ => ?_)
  refine lv_aload_n hx hb dX12_loop_52 rfl (lv_at hl 0 rfl) ?_
  refine lv_iload_n hx hb dX12_loop_53 rfl (lv_at hl 1 rfl) ?_
  refine lv_iload_n hx hb dX12_loop_54 rfl (lv_at hl 2 rfl) ?_
  refine lv_iload_n hx hb dX12_loop_55 rfl (lv_at hl 3 rfl) ?_
  refine lv_iload hx hb dX12_loop_56 (lv_at hl 4 rfl) ?_
  refine lv_iload hx hb dX12_loop_58 (lv_at hl 5 rfl) ?_
  obtain ⟨v1000025, dt1000026, hc1000024, hm⟩ := q_b2i hm
  refine q_callV C hW hS (As := [.int x1, .int x2, .int x3, .int x4, .int x5]) (rest := []) (st1 := [.int v1000025]) (c_X12_loopOf l D al dt x0 x1 x2 x3 x4 x5 kx0 v1000025 dt1000026 hc1000024) yl_X12_loopOf vl_X12_loopOf ml_RX12_474 (ci := 12) rfl kx0 (by decide) rfl ⟨Nat.le_of_ble_eq_true rfl, Nat.le_of_ble_eq_true rfl⟩ hl rfl (Nat.le_of_ble_eq_true rfl) dX12_loop_60 ⟨Nat.le_refl _, Nat.le_refl _⟩ rfl (fun H locs k1000027 hW hS => ?_)
  refine lv_goto (tgt := 67) hx hb dX12_loop_63 (by decide) ?_
  exact e_iD C hW hS hm dX12_loop_67
theorem dX12_follows_0 : decode cX12_follows 0 = .ok (.aload_n 0, 1) := by decide +kernel
theorem dX12_follows_1 : decode cX12_follows 1 = .ok (.iload_n 1, 1) := by decide +kernel
theorem dX12_follows_2 : decode cX12_follows 2 = .ok (.invokevirtual 415, 3) := by decide +kernel
theorem dX12_follows_5 : decode cX12_follows 5 = .ok (.ifCond .eq 13, 3) := by decide +kernel
theorem dX12_follows_8 : decode cX12_follows 8 = .ok (.iload_n 2, 1) := by decide +kernel
theorem dX12_follows_9 : decode cX12_follows 9 = .ok (.iconst 0, 1) := by decide +kernel
theorem dX12_follows_10 : decode cX12_follows 10 = .ok (.bipush 40, 2) := by decide +kernel
theorem dX12_follows_12 : decode cX12_follows 12 = .ok (.invokestatic 376, 3) := by decide +kernel
theorem dX12_follows_15 : decode cX12_follows 15 = .ok (.ifCond .ne 5, 3) := by decide +kernel
theorem dX12_follows_18 : decode cX12_follows 18 = .ok (.iconst (-1), 1) := by decide +kernel
theorem dX12_follows_19 : decode cX12_follows 19 = .ok (.ireturn, 1) := by decide +kernel
theorem dX12_follows_20 : decode cX12_follows 20 = .ok (.aload_n 0, 1) := by decide +kernel
theorem dX12_follows_21 : decode cX12_follows 21 = .ok (.iload_n 1, 1) := by decide +kernel
theorem dX12_follows_22 : decode cX12_follows 22 = .ok (.invokevirtual 324, 3) := by decide +kernel
theorem dX12_follows_25 : decode cX12_follows 25 = .ok (.istore_n 3, 1) := by decide +kernel
theorem dX12_follows_26 : decode cX12_follows 26 = .ok (.aload_n 0, 1) := by decide +kernel
theorem dX12_follows_27 : decode cX12_follows 27 = .ok (.iload_n 3, 1) := by decide +kernel
theorem dX12_follows_28 : decode cX12_follows 28 = .ok (.invokevirtual 327, 3) := by decide +kernel
theorem dX12_follows_31 : decode cX12_follows 31 = .ok (.istore 4, 2) := by decide +kernel
theorem dX12_follows_33 : decode cX12_follows 33 = .ok (.aload_n 0, 1) := by decide +kernel
theorem dX12_follows_34 : decode cX12_follows 34 = .ok (.getfield 79, 3) := by decide +kernel
theorem dX12_follows_37 : decode cX12_follows 37 = .ok (.bipush 6, 2) := by decide +kernel
theorem dX12_follows_39 : decode cX12_follows 39 = .ok (.aload_n 0, 1) := by decide +kernel
theorem dX12_follows_40 : decode cX12_follows 40 = .ok (.getfield 242, 3) := by decide +kernel
theorem dX12_follows_43 : decode cX12_follows 43 = .ok (.imul, 1) := by decide +kernel
theorem dX12_follows_44 : decode cX12_follows 44 = .ok (.iload_n 1, 1) := by decide +kernel
theorem dX12_follows_45 : decode cX12_follows 45 = .ok (.iadd, 1) := by decide +kernel
theorem dX12_follows_46 : decode cX12_follows 46 = .ok (.iaload, 1) := by decide +kernel
theorem dX12_follows_47 : decode cX12_follows 47 = .ok (.istore 5, 2) := by decide +kernel
theorem dX12_follows_49 : decode cX12_follows 49 = .ok (.iconst 1, 1) := by decide +kernel
theorem dX12_follows_50 : decode cX12_follows 50 = .ok (.istore 6, 2) := by decide +kernel
theorem dX12_follows_52 : decode cX12_follows 52 = .ok (.iload 6, 2) := by decide +kernel
theorem dX12_follows_54 : decode cX12_follows 54 = .ok (.iload_n 2, 1) := by decide +kernel
theorem dX12_follows_55 : decode cX12_follows 55 = .ok (.if_icmp .gt 63, 3) := by decide +kernel
theorem dX12_follows_58 : decode cX12_follows 58 = .ok (.aload_n 0, 1) := by decide +kernel
theorem dX12_follows_59 : decode cX12_follows 59 = .ok (.iload_n 3, 1) := by decide +kernel
theorem dX12_follows_60 : decode cX12_follows 60 = .ok (.iload 5, 2) := by decide +kernel
theorem dX12_follows_62 : decode cX12_follows 62 = .ok (.aload_n 0, 1) := by decide +kernel
theorem dX12_follows_63 : decode cX12_follows 63 = .ok (.getfield 82, 3) := by decide +kernel
theorem dX12_follows_66 : decode cX12_follows 66 = .ok (.bipush 6, 2) := by decide +kernel
theorem dX12_follows_68 : decode cX12_follows 68 = .ok (.aload_n 0, 1) := by decide +kernel
theorem dX12_follows_69 : decode cX12_follows 69 = .ok (.getfield 242, 3) := by decide +kernel
theorem dX12_follows_72 : decode cX12_follows 72 = .ok (.imul, 1) := by decide +kernel
theorem dX12_follows_73 : decode cX12_follows 73 = .ok (.iload_n 1, 1) := by decide +kernel
theorem dX12_follows_74 : decode cX12_follows 74 = .ok (.iadd, 1) := by decide +kernel
theorem dX12_follows_75 : decode cX12_follows 75 = .ok (.iaload, 1) := by decide +kernel
theorem dX12_follows_76 : decode cX12_follows 76 = .ok (.iload 6, 2) := by decide +kernel
theorem dX12_follows_78 : decode cX12_follows 78 = .ok (.iconst 1, 1) := by decide +kernel
theorem dX12_follows_79 : decode cX12_follows 79 = .ok (.isub, 1) := by decide +kernel
theorem dX12_follows_80 : decode cX12_follows 80 = .ok (.iload 4, 2) := by decide +kernel
theorem dX12_follows_82 : decode cX12_follows 82 = .ok (.imul, 1) := by decide +kernel
theorem dX12_follows_83 : decode cX12_follows 83 = .ok (.iconst 1, 1) := by decide +kernel
theorem dX12_follows_84 : decode cX12_follows 84 = .ok (.invokevirtual 474, 3) := by decide +kernel
theorem dX12_follows_87 : decode cX12_follows 87 = .ok (.istore 5, 2) := by decide +kernel
theorem dX12_follows_89 : decode cX12_follows 89 = .ok (.iload 5, 2) := by decide +kernel
theorem dX12_follows_91 : decode cX12_follows 91 = .ok (.aload_n 0, 1) := by decide +kernel
theorem dX12_follows_92 : decode cX12_follows 92 = .ok (.iload_n 1, 1) := by decide +kernel
theorem dX12_follows_93 : decode cX12_follows 93 = .ok (.iload 6, 2) := by decide +kernel
theorem dX12_follows_95 : decode cX12_follows 95 = .ok (.iload 4, 2) := by decide +kernel
theorem dX12_follows_97 : decode cX12_follows 97 = .ok (.imul, 1) := by decide +kernel
theorem dX12_follows_98 : decode cX12_follows 98 = .ok (.invokevirtual 330, 3) := by decide +kernel
theorem dX12_follows_101 : decode cX12_follows 101 = .ok (.iload 4, 2) := by decide +kernel
theorem dX12_follows_103 : decode cX12_follows 103 = .ok (.invokestatic 441, 3) := by decide +kernel
theorem dX12_follows_106 : decode cX12_follows 106 = .ok (.iconst 1, 1) := by decide +kernel
theorem dX12_follows_107 : decode cX12_follows 107 = .ok (.if_icmp .le 5, 3) := by decide +kernel
theorem dX12_follows_110 : decode cX12_follows 110 = .ok (.iconst 0, 1) := by decide +kernel
theorem dX12_follows_111 : decode cX12_follows 111 = .ok (.ireturn, 1) := by decide +kernel
theorem dX12_follows_112 : decode cX12_follows 112 = .ok (.iinc 6 1, 3) := by decide +kernel
theorem dX12_follows_115 : decode cX12_follows 115 = .ok (.goto (-63), 3) := by decide +kernel
theorem dX12_follows_118 : decode cX12_follows 118 = .ok (.iconst 1, 1) := by decide +kernel
theorem dX12_follows_119 : decode cX12_follows 119 = .ok (.ireturn, 1) := by decide +kernel
set_option maxRecDepth 100000 in
theorem c_X12_follows (l : Launch) (D : q_D) (al : q_Al) (dt : q_Dt) (x0 : Nat) (x1 : Int32) (x2 : Int32) (kx0 : al.1 x0 = 13) (r0 : Int32) (dt0 : q_Dt) (hm : X12_follows al dt x0 x1 x2 = some (r0, dt0)) : q_Mt l yX12_follows cX12_follows 7 (some FieldType.int) 4 116 D al [.ref x0, .int x1, .int x2] dt 0 (some (.int r0)) dt0 := by
  refine q_Mt.of (by decide) (Nat.le_of_ble_eq_true rfl) ?_
  intro p e s m args below meth c ls C hargs hW hl
  have hx := C.1
  have hb := C.2.1
  have hown := C.2.2.2.2.2.1
  have hts := C.2.2.2.2.2.2.1
  have hS : va_S (q_A al) s.heap s.heap [] := va_S.rf
  have hl : lv_has ls 7 [(0, .ref x0), (1, .int x1), (2, .int x2)] := hl
  unfold X12_follows at hm
  have hB52 : ∀ (x0_52 : Nat) (x1_52 : Int32) (x2_52 : Int32) (x3_52 : Int32) (x4_52 : Int32) (kx0_52 : al.1 x0_52 = 13) (n_52 : Nat) (x5_52 : Int32) (x6_52 : Int32) (dt : q_Dt) (H : Heap) (locs : List Loc) (ls : Array Slot) (hm : X12_follows_b52 al x0_52 x1_52 x2_52 x3_52 x4_52 n_52 x5_52 x6_52 dt = some (r0, dt0)) (hW : q_W D al dt H) (hS : va_S (q_A al) s.heap H locs) (hl : lv_has ls 7 [(0, .ref x0_52), (1, .int x1_52), (2, .int x2_52), (3, .int x3_52), (4, .int x4_52), (5, .int x5_52), (6, .int x6_52)]), W p l e { frames := 4, cells := 0, slots := 0, locals := 116 } s m args below meth c H locs 0 0 (MQ below (q_Q (some (.int r0)) (fun H => q_W D al dt0 H ∧ q_Rk al 0 (some (.int r0))) (q_A al)) args s 0 0 (q_A al)) (F0 m 52 ls []) := by
    intro x0_52 x1_52 x2_52 x3_52 x4_52 kx0_52
    intro n_52
    induction n_52 with
    | zero => intro x5_52 x6_52 dt H locs ls hm hW hS hl; cases hm
    | succ n_52 ih52 =>
      intro x5_52 x6_52 dt H locs ls hm hW hS hl
      rw [X12_follows_b52] at hm
      refine lv_iload hx hb dX12_follows_52 (lv_at hl 6 rfl) ?_
      refine lv_iload_n hx hb dX12_follows_54 rfl (lv_at hl 2 rfl) ?_
      refine q_ifc hm (fun c52001 hm => ?_) (fun c52001 hm => ?_)
      · refine lv_icmp_gt (tgt := 118) hx hb dX12_follows_55 (by decide) (fun _ => ?_) (fun h => absurd c52001 h)
        refine lv_iconst (v := 1) hx hb dX12_follows_118 (by decide) ?_
        exact e_iD C hW hS hm dX12_follows_119
      refine lv_icmp_gt (tgt := 118) hx hb dX12_follows_55 (by decide) (fun h => absurd h c52001) (fun _ => ?_)
      refine lv_aload_n hx hb dX12_follows_58 rfl (lv_at hl 0 rfl) ?_
      refine lv_iload_n hx hb dX12_follows_59 rfl (lv_at hl 3 rfl) ?_
      refine lv_iload hx hb dX12_follows_60 (lv_at hl 5 rfl) ?_
      refine lv_aload_n hx hb dX12_follows_62 rfl (lv_at hl 0 rfl) ?_
      refine r_getF C hW (ci := 12) kx0_52 ff_12_35 cl_12 fl_RX12_82 dX12_follows_63 (fun k52002 => ?_)
      refine lv_bipush (v := 6) hx hb dX12_follows_66 (by decide) ?_
      refine lv_aload_n hx hb dX12_follows_68 rfl (lv_at hl 0 rfl) ?_
      refine r_getI C hW (ci := 12) kx0_52 ff_12_18 cl_12 fl_RX12_242 dX12_follows_69 ?_
      refine lv_imul hx hb dX12_follows_72 ?_
      refine lv_iload_n hx hb dX12_follows_73 rfl (lv_at hl 1 rfl) ?_
      refine lv_iadd hx hb dX12_follows_74 ?_
      refine r_iald C hW hm k52002 dX12_follows_75 (fun hm => ?_)
      refine lv_iload hx hb dX12_follows_76 (lv_at hl 6 rfl) ?_
      refine lv_iconst (v := 1) hx hb dX12_follows_78 (by decide) ?_
      refine lv_isub hx hb dX12_follows_79 ?_
      refine lv_iload hx hb dX12_follows_80 (lv_at hl 4 rfl) ?_
      refine lv_imul hx hb dX12_follows_82 ?_
      refine lv_iconst (v := 1) hx hb dX12_follows_83 (by decide) ?_
      obtain ⟨v52004, dt52005, hc52003, hm⟩ := q_b2i hm
      refine q_callV C hW hS (As := [.int x3_52, .int x5_52, .int (dt.1 (al.2.2 x0_52 35) (Int32.toNatClampNeg ((6 * (dt.1 x0_52 18)) + x1_52))), .int ((x6_52 - 1) * x4_52), .int 1]) (rest := []) (st1 := [.int v52004]) (c_X12_loopOf l D al dt x0_52 x3_52 x5_52 (dt.1 (al.2.2 x0_52 35) (Int32.toNatClampNeg ((6 * (dt.1 x0_52 18)) + x1_52))) ((x6_52 - 1) * x4_52) 1 kx0_52 v52004 dt52005 hc52003) yl_X12_loopOf vl_X12_loopOf ml_RX12_474 (ci := 12) rfl kx0_52 (by decide) rfl ⟨Nat.le_of_ble_eq_true rfl, Nat.le_of_ble_eq_true rfl⟩ hl rfl (Nat.le_of_ble_eq_true rfl) dX12_follows_84 ⟨Nat.le_refl _, Nat.le_refl _⟩ rfl (fun H locs k52006 hW hS => ?_)
      refine lv_istore (i := 5) (lv' := [(5, .int v52004), (0, .ref x0_52), (1, .int x1_52), (2, .int x2_52), (3, .int x3_52), (4, .int x4_52), (6, .int x6_52)]) hx hb dX12_follows_87 hl (by decide) rfl (fun ls hl => ?_)
      refine lv_iload hx hb dX12_follows_89 (lv_at hl 0 rfl) ?_
      refine lv_aload_n hx hb dX12_follows_91 rfl (lv_at hl 1 rfl) ?_
      refine lv_iload_n hx hb dX12_follows_92 rfl (lv_at hl 2 rfl) ?_
      refine lv_iload hx hb dX12_follows_93 (lv_at hl 6 rfl) ?_
      refine lv_iload hx hb dX12_follows_95 (lv_at hl 5 rfl) ?_
      refine lv_imul hx hb dX12_follows_97 ?_
      obtain ⟨v52008, hc52007, hm⟩ := q_b1i hm
      refine q_callV C hW hS (As := [.int x1_52, .int (x6_52 * x4_52)]) (rest := [.int v52004]) (st1 := [.int v52008, .int v52004]) (c_X12_delayAt l D al dt52005 x0_52 x1_52 (x6_52 * x4_52) kx0_52 v52008 hc52007) yl_X12_delayAt vl_X12_delayAt ml_RX12_330 (ci := 12) rfl kx0_52 (by decide) rfl ⟨Nat.le_of_ble_eq_true rfl, Nat.le_of_ble_eq_true rfl⟩ hl rfl (Nat.le_of_ble_eq_true rfl) dX12_follows_98 ⟨Nat.le_refl _, Nat.le_refl _⟩ rfl (fun H locs k52009 hW hS => ?_)
      refine lv_iload hx hb dX12_follows_101 (lv_at hl 5 rfl) ?_
      obtain ⟨v52011, hc52010, hm⟩ := q_b1i hm
      refine q_callS C hW hS (As := [.int v52004, .int v52008, .int x4_52]) (rest := []) (st1 := [.int v52011]) (c_X12_apart l D al dt52005 v52004 v52008 x4_52 v52011 hc52010) yl_X12_apart sl_X12_apart ml_RX12_441 rfl ⟨Nat.le_of_ble_eq_true rfl, Nat.le_of_ble_eq_true rfl⟩ hl rfl (Nat.le_of_ble_eq_true rfl) dX12_follows_103 ⟨Nat.le_refl _, Nat.le_refl _⟩ rfl (fun H locs k52012 hW hS => ?_)
      refine lv_iconst (v := 1) hx hb dX12_follows_106 (by decide) ?_
      refine q_ifc hm (fun c52013 hm => ?_) (fun c52013 hm => ?_)
      · refine lv_icmp_le (tgt := 112) hx hb dX12_follows_107 (by decide) (fun _ => ?_) (fun h => absurd c52013 h)
        refine lv_iinc (v := (x6_52 + 1)) (lv' := [(6, .int (x6_52 + 1)), (5, .int v52004), (0, .ref x0_52), (1, .int x1_52), (2, .int x2_52), (3, .int x3_52), (4, .int x4_52)]) hx hb dX12_follows_112 hl (k := 6) rfl rfl (by decide) rfl (fun ls hl => ?_)
        refine lv_goto (tgt := 52) hx hb dX12_follows_115 (by decide) ?_
        exact ih52 v52004 (x6_52 + 1) dt52005 _ _ _ hm hW hS (lv_sub hl [2, 3, 4, 5, 6, 1, 0] rfl)
      refine lv_icmp_le (tgt := 112) hx hb dX12_follows_107 (by decide) (fun h => absurd h c52013) (fun _ => ?_)
      refine lv_iconst (v := 0) hx hb dX12_follows_110 (by decide) ?_
      exact e_iD C hW hS hm dX12_follows_111
  refine lv_aload_n hx hb dX12_follows_0 rfl (lv_at hl 0 rfl) ?_
  refine lv_iload_n hx hb dX12_follows_1 rfl (lv_at hl 1 rfl) ?_
  obtain ⟨v1000002, hc1000001, hm⟩ := q_b1i hm
  refine q_callV C hW hS (As := [.int x1]) (rest := []) (st1 := [.int v1000002]) (c_X12_isSender l D al dt x0 x1 kx0 v1000002 hc1000001) yl_X12_isSender vl_X12_isSender ml_RX12_415 (ci := 12) rfl kx0 (by decide) rfl ⟨Nat.le_of_ble_eq_true rfl, Nat.le_of_ble_eq_true rfl⟩ hl rfl (Nat.le_of_ble_eq_true rfl) dX12_follows_2 ⟨Nat.le_refl _, Nat.le_refl _⟩ rfl (fun H locs k1000003 hW hS => ?_)
  refine q_ifc hm (fun c1000004 hm => ?_) (fun c1000004 hm => ?_)
  · refine lv_if_eq (tgt := 18) hx hb dX12_follows_5 (by decide) (fun _ => ?_) (fun h => absurd c1000004 h)
    refine lv_iconst (v := (-1)) hx hb dX12_follows_18 (by decide) ?_
    exact e_iD C hW hS hm dX12_follows_19
  refine lv_if_eq (tgt := 18) hx hb dX12_follows_5 (by decide) (fun h => absurd h c1000004) (fun _ => ?_)
  refine lv_iload_n hx hb dX12_follows_8 rfl (lv_at hl 2 rfl) ?_
  refine lv_iconst (v := 0) hx hb dX12_follows_9 (by decide) ?_
  refine lv_bipush (v := 40) hx hb dX12_follows_10 (by decide) ?_
  obtain ⟨v1000006, hc1000005, hm⟩ := q_b1i hm
  refine q_callS C hW hS (As := [.int x2, .int 0, .int 40]) (rest := []) (st1 := [.int v1000006]) (c_X12_in l D al dt x2 0 40 v1000006 hc1000005) yl_X12_in sl_X12_in ml_RX12_376 rfl ⟨Nat.le_of_ble_eq_true rfl, Nat.le_of_ble_eq_true rfl⟩ hl rfl (Nat.le_of_ble_eq_true rfl) dX12_follows_12 ⟨Nat.le_refl _, Nat.le_refl _⟩ rfl (fun H locs k1000007 hW hS => ?_)
  refine q_ifc hm (fun c1000008 hm => ?_) (fun c1000008 hm => ?_)
  · refine lv_if_ne (tgt := 20) hx hb dX12_follows_15 (by decide) (fun h => absurd c1000008 h) (fun _ => ?_)
    refine lv_iconst (v := (-1)) hx hb dX12_follows_18 (by decide) ?_
    exact e_iD C hW hS hm dX12_follows_19
  refine lv_if_ne (tgt := 20) hx hb dX12_follows_15 (by decide) (fun _ => ?_) (fun h => absurd h c1000008)
  refine lv_aload_n hx hb dX12_follows_20 rfl (lv_at hl 0 rfl) ?_
  refine lv_iload_n hx hb dX12_follows_21 rfl (lv_at hl 1 rfl) ?_
  obtain ⟨v1000010, hc1000009, hm⟩ := q_b1i hm
  refine q_callV C hW hS (As := [.int x1]) (rest := []) (st1 := [.int v1000010]) (c_X12_codeOf l D al dt x0 x1 kx0 v1000010 hc1000009) yl_X12_codeOf vl_X12_codeOf ml_RX12_324 (ci := 12) rfl kx0 (by decide) rfl ⟨Nat.le_of_ble_eq_true rfl, Nat.le_of_ble_eq_true rfl⟩ hl rfl (Nat.le_of_ble_eq_true rfl) dX12_follows_22 ⟨Nat.le_refl _, Nat.le_refl _⟩ rfl (fun H locs k1000011 hW hS => ?_)
  refine lv_istore_n (i := 3) (lv' := [(3, .int v1000010), (0, .ref x0), (1, .int x1), (2, .int x2)]) hx hb dX12_follows_25 rfl hl (by decide) rfl (fun ls hl => ?_)
  refine lv_aload_n hx hb dX12_follows_26 rfl (lv_at hl 1 rfl) ?_
  refine lv_iload_n hx hb dX12_follows_27 rfl (lv_at hl 0 rfl) ?_
  obtain ⟨v1000013, hc1000012, hm⟩ := q_b1i hm
  refine q_callV C hW hS (As := [.int v1000010]) (rest := []) (st1 := [.int v1000013]) (c_X12_long0 l D al dt x0 v1000010 kx0 v1000013 hc1000012) yl_X12_long0 vl_X12_long0 ml_RX12_327 (ci := 12) rfl kx0 (by decide) rfl ⟨Nat.le_of_ble_eq_true rfl, Nat.le_of_ble_eq_true rfl⟩ hl rfl (Nat.le_of_ble_eq_true rfl) dX12_follows_28 ⟨Nat.le_refl _, Nat.le_refl _⟩ rfl (fun H locs k1000014 hW hS => ?_)
  refine lv_istore (i := 4) (lv' := [(4, .int v1000013), (3, .int v1000010), (0, .ref x0), (1, .int x1), (2, .int x2)]) hx hb dX12_follows_31 hl (by decide) rfl (fun ls hl => ?_)
  refine lv_aload_n hx hb dX12_follows_33 rfl (lv_at hl 2 rfl) ?_
  refine r_getF C hW (ci := 12) kx0 ff_12_34 cl_12 fl_RX12_79 dX12_follows_34 (fun k1000015 => ?_)
  refine lv_bipush (v := 6) hx hb dX12_follows_37 (by decide) ?_
  refine lv_aload_n hx hb dX12_follows_39 rfl (lv_at hl 2 rfl) ?_
  refine r_getI C hW (ci := 12) kx0 ff_12_18 cl_12 fl_RX12_242 dX12_follows_40 ?_
  refine lv_imul hx hb dX12_follows_43 ?_
  refine lv_iload_n hx hb dX12_follows_44 rfl (lv_at hl 3 rfl) ?_
  refine lv_iadd hx hb dX12_follows_45 ?_
  refine r_iald C hW hm k1000015 dX12_follows_46 (fun hm => ?_)
  refine q_nmI hm (fun v1000016 ev1000016 hm => ?_)
  refine lv_istore (i := 5) (lv' := [(5, .int v1000016), (4, .int v1000013), (3, .int v1000010), (0, .ref x0), (1, .int x1), (2, .int x2)]) hx hb dX12_follows_47 hl (by decide) rfl (fun ls hl => ?_)
  refine lv_iconst (v := 1) hx hb dX12_follows_49 (by decide) ?_
  refine lv_istore (i := 6) (lv' := [(6, .int 1), (5, .int v1000016), (4, .int v1000013), (3, .int v1000010), (0, .ref x0), (1, .int x1), (2, .int x2)]) hx hb dX12_follows_50 hl (by decide) rfl (fun ls hl => ?_)
  exact hB52 x0 x1 x2 v1000010 v1000013 kx0 q_FU v1000016 1 dt _ _ _ hm hW hS (lv_sub hl [4, 5, 6, 3, 2, 1, 0] rfl)
theorem dX12_isRest_0 : decode cX12_isRest 0 = .ok (.aload_n 0, 1) := by decide +kernel
theorem dX12_isRest_1 : decode cX12_isRest 1 = .ok (.iload_n 1, 1) := by decide +kernel
theorem dX12_isRest_2 : decode cX12_isRest 2 = .ok (.invokevirtual 380, 3) := by decide +kernel
theorem dX12_isRest_5 : decode cX12_isRest 5 = .ok (.ifCond .eq 22, 3) := by decide +kernel
theorem dX12_isRest_8 : decode cX12_isRest 8 = .ok (.iload_n 2, 1) := by decide +kernel
theorem dX12_isRest_9 : decode cX12_isRest 9 = .ok (.iconst 0, 1) := by decide +kernel
theorem dX12_isRest_10 : decode cX12_isRest 10 = .ok (.aload_n 0, 1) := by decide +kernel
theorem dX12_isRest_11 : decode cX12_isRest 11 = .ok (.iload_n 1, 1) := by decide +kernel
theorem dX12_isRest_12 : decode cX12_isRest 12 = .ok (.invokevirtual 327, 3) := by decide +kernel
theorem dX12_isRest_15 : decode cX12_isRest 15 = .ok (.iconst 1, 1) := by decide +kernel
theorem dX12_isRest_16 : decode cX12_isRest 16 = .ok (.isub, 1) := by decide +kernel
theorem dX12_isRest_17 : decode cX12_isRest 17 = .ok (.invokestatic 376, 3) := by decide +kernel
theorem dX12_isRest_20 : decode cX12_isRest 20 = .ok (.ifCond .eq 7, 3) := by decide +kernel
theorem dX12_isRest_23 : decode cX12_isRest 23 = .ok (.iconst 1, 1) := by decide +kernel
theorem dX12_isRest_24 : decode cX12_isRest 24 = .ok (.goto 4, 3) := by decide +kernel
theorem dX12_isRest_27 : decode cX12_isRest 27 = .ok (.iconst 0, 1) := by decide +kernel
theorem dX12_isRest_28 : decode cX12_isRest 28 = .ok (.ireturn, 1) := by decide +kernel
set_option maxRecDepth 100000 in
theorem c_X12_isRest (l : Launch) (D : q_D) (al : q_Al) (dt : q_Dt) (x0 : Nat) (x1 : Int32) (x2 : Int32) (kx0 : al.1 x0 = 13) (r0 : Int32) (hm : X12_isRest al dt x0 x1 x2 = some r0) : q_Mt l yX12_isRest cX12_isRest 3 (some FieldType.boolean) 2 43 D al [.ref x0, .int x1, .int x2] dt 0 (some (.int r0)) dt := by
  refine q_Mt.of (by decide) (Nat.le_of_ble_eq_true rfl) ?_
  intro p e s m args below meth c ls C hargs hW hl
  have hx := C.1
  have hb := C.2.1
  have hown := C.2.2.2.2.2.1
  have hts := C.2.2.2.2.2.2.1
  have hS : va_S (q_A al) s.heap s.heap [] := va_S.rf
  have hl : lv_has ls 3 [(0, .ref x0), (1, .int x1), (2, .int x2)] := hl
  unfold X12_isRest at hm
  refine lv_aload_n hx hb dX12_isRest_0 rfl (lv_at hl 0 rfl) ?_
  refine lv_iload_n hx hb dX12_isRest_1 rfl (lv_at hl 1 rfl) ?_
  obtain ⟨v1000002, hc1000001, hm⟩ := q_b1i hm
  refine q_callV C hW hS (As := [.int x1]) (rest := []) (st1 := [.int v1000002]) (c_X12_isCode l D al dt x0 x1 kx0 v1000002 hc1000001) yl_X12_isCode vl_X12_isCode ml_RX12_380 (ci := 12) rfl kx0 (by decide) rfl ⟨Nat.le_of_ble_eq_true rfl, Nat.le_of_ble_eq_true rfl⟩ hl rfl (Nat.le_of_ble_eq_true rfl) dX12_isRest_2 ⟨Nat.le_refl _, Nat.le_refl _⟩ rfl (fun H locs k1000003 hW hS => ?_)
  refine q_ifc hm (fun c1000004 hm => ?_) (fun c1000004 hm => ?_)
  · refine lv_if_eq (tgt := 27) hx hb dX12_isRest_5 (by decide) (fun _ => ?_) (fun h => absurd c1000004 h)
    refine lv_iconst (v := 0) hx hb dX12_isRest_27 (by decide) ?_
    exact e_zl C hW hS (Or.inl rfl) hm dX12_isRest_28
  refine lv_if_eq (tgt := 27) hx hb dX12_isRest_5 (by decide) (fun h => absurd h c1000004) (fun _ => ?_)
  refine lv_iload_n hx hb dX12_isRest_8 rfl (lv_at hl 2 rfl) ?_
  refine lv_iconst (v := 0) hx hb dX12_isRest_9 (by decide) ?_
  refine lv_aload_n hx hb dX12_isRest_10 rfl (lv_at hl 0 rfl) ?_
  refine lv_iload_n hx hb dX12_isRest_11 rfl (lv_at hl 1 rfl) ?_
  obtain ⟨v1000006, hc1000005, hm⟩ := q_b1i hm
  refine q_callV C hW hS (As := [.int x1]) (rest := [.int 0, .int x2]) (st1 := [.int v1000006, .int 0, .int x2]) (c_X12_long0 l D al dt x0 x1 kx0 v1000006 hc1000005) yl_X12_long0 vl_X12_long0 ml_RX12_327 (ci := 12) rfl kx0 (by decide) rfl ⟨Nat.le_of_ble_eq_true rfl, Nat.le_of_ble_eq_true rfl⟩ hl rfl (Nat.le_of_ble_eq_true rfl) dX12_isRest_12 ⟨Nat.le_refl _, Nat.le_refl _⟩ rfl (fun H locs k1000007 hW hS => ?_)
  refine lv_iconst (v := 1) hx hb dX12_isRest_15 (by decide) ?_
  refine lv_isub hx hb dX12_isRest_16 ?_
  obtain ⟨v1000009, hc1000008, hm⟩ := q_b1i hm
  refine q_callS C hW hS (As := [.int x2, .int 0, .int (v1000006 - 1)]) (rest := []) (st1 := [.int v1000009]) (c_X12_in l D al dt x2 0 (v1000006 - 1) v1000009 hc1000008) yl_X12_in sl_X12_in ml_RX12_376 rfl ⟨Nat.le_of_ble_eq_true rfl, Nat.le_of_ble_eq_true rfl⟩ hl rfl (Nat.le_of_ble_eq_true rfl) dX12_isRest_17 ⟨Nat.le_refl _, Nat.le_refl _⟩ rfl (fun H locs k1000010 hW hS => ?_)
  refine q_ifc hm (fun c1000011 hm => ?_) (fun c1000011 hm => ?_)
  · refine lv_if_eq (tgt := 27) hx hb dX12_isRest_20 (by decide) (fun _ => ?_) (fun h => absurd c1000011 h)
    refine lv_iconst (v := 0) hx hb dX12_isRest_27 (by decide) ?_
    exact e_zl C hW hS (Or.inl rfl) hm dX12_isRest_28
  refine lv_if_eq (tgt := 27) hx hb dX12_isRest_20 (by decide) (fun h => absurd h c1000011) (fun _ => ?_)
  refine lv_iconst (v := 1) hx hb dX12_isRest_23 (by decide) ?_
  refine lv_goto (tgt := 28) hx hb dX12_isRest_24 (by decide) ?_
  exact e_zl C hW hS (Or.inr rfl) hm dX12_isRest_28
theorem dX12_meets_0 : decode cX12_meets 0 = .ok (.iconst 0, 1) := by decide +kernel
theorem dX12_meets_1 : decode cX12_meets 1 = .ok (.istore 6, 2) := by decide +kernel
theorem dX12_meets_3 : decode cX12_meets 3 = .ok (.iload 6, 2) := by decide +kernel
theorem dX12_meets_5 : decode cX12_meets 5 = .ok (.iload 5, 2) := by decide +kernel
theorem dX12_meets_7 : decode cX12_meets 7 = .ok (.if_icmp .ge 35, 3) := by decide +kernel
theorem dX12_meets_10 : decode cX12_meets 10 = .ok (.lload_n 0, 1) := by decide +kernel
theorem dX12_meets_11 : decode cX12_meets 11 = .ok (.iload 6, 2) := by decide +kernel
theorem dX12_meets_13 : decode cX12_meets 13 = .ok (.i2l, 1) := by decide +kernel
theorem dX12_meets_14 : decode cX12_meets 14 = .ok (.lload_n 2, 1) := by decide +kernel
theorem dX12_meets_15 : decode cX12_meets 15 = .ok (.lmul, 1) := by decide +kernel
theorem dX12_meets_16 : decode cX12_meets 16 = .ok (.ladd, 1) := by decide +kernel
theorem dX12_meets_17 : decode cX12_meets 17 = .ok (.iload 5, 2) := by decide +kernel
theorem dX12_meets_19 : decode cX12_meets 19 = .ok (.i2l, 1) := by decide +kernel
theorem dX12_meets_20 : decode cX12_meets 20 = .ok (.lrem, 1) := by decide +kernel
theorem dX12_meets_21 : decode cX12_meets 21 = .ok (.iload 4, 2) := by decide +kernel
theorem dX12_meets_23 : decode cX12_meets 23 = .ok (.i2l, 1) := by decide +kernel
theorem dX12_meets_24 : decode cX12_meets 24 = .ok (.lcmp, 1) := by decide +kernel
theorem dX12_meets_25 : decode cX12_meets 25 = .ok (.ifCond .ne 11, 3) := by decide +kernel
theorem dX12_meets_28 : decode cX12_meets 28 = .ok (.lload_n 0, 1) := by decide +kernel
theorem dX12_meets_29 : decode cX12_meets 29 = .ok (.iload 6, 2) := by decide +kernel
theorem dX12_meets_31 : decode cX12_meets 31 = .ok (.i2l, 1) := by decide +kernel
theorem dX12_meets_32 : decode cX12_meets 32 = .ok (.lload_n 2, 1) := by decide +kernel
theorem dX12_meets_33 : decode cX12_meets 33 = .ok (.lmul, 1) := by decide +kernel
theorem dX12_meets_34 : decode cX12_meets 34 = .ok (.ladd, 1) := by decide +kernel
theorem dX12_meets_35 : decode cX12_meets 35 = .ok (.lreturn, 1) := by decide +kernel
theorem dX12_meets_36 : decode cX12_meets 36 = .ok (.iinc 6 1, 3) := by decide +kernel
theorem dX12_meets_39 : decode cX12_meets 39 = .ok (.goto (-36), 3) := by decide +kernel
theorem dX12_meets_42 : decode cX12_meets 42 = .ok (.ldc2_w 485, 3) := by decide +kernel
theorem dX12_meets_45 : decode cX12_meets 45 = .ok (.lreturn, 1) := by decide +kernel
set_option maxRecDepth 100000 in
theorem c_X12_meets (l : Launch) (D : q_D) (al : q_Al) (dt : q_Dt) (x0 : Int64) (x2 : Int64) (x4 : Int32) (x5 : Int32) (r0 : Int64) (hm : X12_meets x0 x2 x4 x5 = some r0) : q_Mt l yX12_meets cX12_meets 7 (some FieldType.long) 0 0 D al [.long x0, .long x2, .int x4, .int x5] dt 0 (some (.long r0)) dt := by
  refine q_Mt.of (by decide) (Nat.le_of_ble_eq_true rfl) ?_
  intro p e s m args below meth c ls C hargs hW hl
  have hx := C.1
  have hb := C.2.1
  have hown := C.2.2.2.2.2.1
  have hts := C.2.2.2.2.2.2.1
  have hS : va_S (q_A al) s.heap s.heap [] := va_S.rf
  have hl : lv_has ls 7 [(0, .long x0), (2, .long x2), (4, .int x4), (5, .int x5)] := hl
  unfold X12_meets at hm
  have hB3 : ∀ (x0_3 : Int64) (x2_3 : Int64) (x4_3 : Int32) (x5_3 : Int32) (n_3 : Nat) (x6_3 : Int32) (H : Heap) (locs : List Loc) (ls : Array Slot) (hm : X12_meets_b3 x0_3 x2_3 x4_3 x5_3 n_3 x6_3 = some r0) (hW : q_W D al dt H) (hS : va_S (q_A al) s.heap H locs) (hl : lv_has ls 7 [(0, .long x0_3), (2, .long x2_3), (4, .int x4_3), (5, .int x5_3), (6, .int x6_3)]), W p l e { frames := 0, cells := 0, slots := 0, locals := 0 } s m args below meth c H locs 0 0 (MQ below (q_Q (some (.long r0)) (fun H => q_W D al dt H ∧ q_Rk al 0 (some (.long r0))) (q_A al)) args s 0 0 (q_A al)) (F0 m 3 ls []) := by
    intro x0_3 x2_3 x4_3 x5_3
    intro n_3
    induction n_3 with
    | zero => intro x6_3 H locs ls hm hW hS hl; cases hm
    | succ n_3 ih3 =>
      intro x6_3 H locs ls hm hW hS hl
      rw [X12_meets_b3] at hm
      refine lv_iload hx hb dX12_meets_3 (lv_at hl 4 rfl) ?_
      refine lv_iload hx hb dX12_meets_5 (lv_at hl 3 rfl) ?_
      refine q_ifc hm (fun c3001 hm => ?_) (fun c3001 hm => ?_)
      · refine lv_icmp_ge (tgt := 42) hx hb dX12_meets_7 (by decide) (fun _ => ?_) (fun h => absurd c3001 h)
        refine lv_ldc2 (own := RX12) (v := (-2)) hx hb hown (hts _ wc_RX12_485) dX12_meets_42 ?_
        exact e_l C hW hS hm dX12_meets_45
      refine lv_icmp_ge (tgt := 42) hx hb dX12_meets_7 (by decide) (fun h => absurd h c3001) (fun _ => ?_)
      refine lv_lload_n hx hb dX12_meets_10 rfl (lv_at hl 0 rfl) ?_
      refine lv_iload hx hb dX12_meets_11 (lv_at hl 4 rfl) ?_
      refine lv_i2l (v := (Int32.toInt64 x6_3)) hx hb dX12_meets_13 rfl ?_
      refine lv_lload_n hx hb dX12_meets_14 rfl (lv_at hl 1 rfl) ?_
      refine lv_lmul hx hb dX12_meets_15 ?_
      refine lv_ladd hx hb dX12_meets_16 ?_
      refine lv_iload hx hb dX12_meets_17 (lv_at hl 3 rfl) ?_
      refine lv_i2l (v := (Int32.toInt64 x5_3)) hx hb dX12_meets_19 rfl ?_
      obtain ⟨c3002, hm⟩ := q_ini hm
      refine lv_lrem hx hb dX12_meets_20 c3002 ?_
      refine lv_iload hx hb dX12_meets_21 (lv_at hl 2 rfl) ?_
      refine lv_i2l (v := (Int32.toInt64 x4_3)) hx hb dX12_meets_23 rfl ?_
      refine W.lcmp hx hb dX12_meets_24 ?_
      refine q_ifc hm (fun c3003 hm => ?_) (fun c3003 hm => ?_)
      · refine lv_if_ne (tgt := 36) hx hb dX12_meets_25 (by decide) (fun h => absurd (q_cmp_eq.mpr c3003) h) (fun _ => ?_)
        refine lv_lload_n hx hb dX12_meets_28 rfl (lv_at hl 0 rfl) ?_
        refine lv_iload hx hb dX12_meets_29 (lv_at hl 4 rfl) ?_
        refine lv_i2l (v := (Int32.toInt64 x6_3)) hx hb dX12_meets_31 rfl ?_
        refine lv_lload_n hx hb dX12_meets_32 rfl (lv_at hl 1 rfl) ?_
        refine lv_lmul hx hb dX12_meets_33 ?_
        refine lv_ladd hx hb dX12_meets_34 ?_
        exact e_l C hW hS hm dX12_meets_35
      refine lv_if_ne (tgt := 36) hx hb dX12_meets_25 (by decide) (fun _ => ?_) (fun h => absurd (q_cmp_eq.mp h) c3003)
      refine lv_iinc (v := (x6_3 + 1)) (lv' := [(6, .int (x6_3 + 1)), (0, .long x0_3), (2, .long x2_3), (4, .int x4_3), (5, .int x5_3)]) hx hb dX12_meets_36 hl (k := 4) rfl rfl (by decide) rfl (fun ls hl => ?_)
      refine lv_goto (tgt := 3) hx hb dX12_meets_39 (by decide) ?_
      exact ih3 (x6_3 + 1) _ _ _ hm hW hS (lv_sub hl [1, 2, 3, 4, 0] rfl)
  refine lv_iconst (v := 0) hx hb dX12_meets_0 (by decide) ?_
  refine lv_istore (i := 6) (lv' := [(6, .int 0), (0, .long x0), (2, .long x2), (4, .int x4), (5, .int x5)]) hx hb dX12_meets_1 hl (by decide) rfl (fun ls hl => ?_)
  exact hB3 x0 x2 x4 x5 q_FU 0 _ _ _ hm hW hS (lv_sub hl [1, 2, 3, 4, 0] rfl)
theorem dX12_range_0 : decode cX12_range 0 = .ok (.aload_n 0, 1) := by decide +kernel
theorem dX12_range_1 : decode cX12_range 1 = .ok (.iload_n 1, 1) := by decide +kernel
theorem dX12_range_2 : decode cX12_range 2 = .ok (.iload_n 2, 1) := by decide +kernel
theorem dX12_range_3 : decode cX12_range 3 = .ok (.invokevirtual 478, 3) := by decide +kernel
theorem dX12_range_6 : decode cX12_range 6 = .ok (.ifCond .eq 46, 3) := by decide +kernel
theorem dX12_range_9 : decode cX12_range 9 = .ok (.iload_n 3, 1) := by decide +kernel
theorem dX12_range_10 : decode cX12_range 10 = .ok (.iconst (-1), 1) := by decide +kernel
theorem dX12_range_11 : decode cX12_range 11 = .ok (.if_icmp .eq 13, 3) := by decide +kernel
theorem dX12_range_14 : decode cX12_range 14 = .ok (.aload_n 0, 1) := by decide +kernel
theorem dX12_range_15 : decode cX12_range 15 = .ok (.iload_n 3, 1) := by decide +kernel
theorem dX12_range_16 : decode cX12_range 16 = .ok (.iload 4, 2) := by decide +kernel
theorem dX12_range_18 : decode cX12_range 18 = .ok (.invokevirtual 478, 3) := by decide +kernel
theorem dX12_range_21 : decode cX12_range 21 = .ok (.ifCond .eq 31, 3) := by decide +kernel
theorem dX12_range_24 : decode cX12_range 24 = .ok (.iload 5, 2) := by decide +kernel
theorem dX12_range_26 : decode cX12_range 26 = .ok (.iconst (-1), 1) := by decide +kernel
theorem dX12_range_27 : decode cX12_range 27 = .ok (.if_icmp .eq 14, 3) := by decide +kernel
theorem dX12_range_30 : decode cX12_range 30 = .ok (.aload_n 0, 1) := by decide +kernel
theorem dX12_range_31 : decode cX12_range 31 = .ok (.iload 5, 2) := by decide +kernel
theorem dX12_range_33 : decode cX12_range 33 = .ok (.iload 6, 2) := by decide +kernel
theorem dX12_range_35 : decode cX12_range 35 = .ok (.invokevirtual 478, 3) := by decide +kernel
theorem dX12_range_38 : decode cX12_range 38 = .ok (.ifCond .eq 14, 3) := by decide +kernel
theorem dX12_range_41 : decode cX12_range 41 = .ok (.iload_n 3, 1) := by decide +kernel
theorem dX12_range_42 : decode cX12_range 42 = .ok (.iconst (-1), 1) := by decide +kernel
theorem dX12_range_43 : decode cX12_range 43 = .ok (.if_icmp .ne 13, 3) := by decide +kernel
theorem dX12_range_46 : decode cX12_range 46 = .ok (.iload 5, 2) := by decide +kernel
theorem dX12_range_48 : decode cX12_range 48 = .ok (.iconst (-1), 1) := by decide +kernel
theorem dX12_range_49 : decode cX12_range 49 = .ok (.if_icmp .eq 7, 3) := by decide +kernel
theorem dX12_range_52 : decode cX12_range 52 = .ok (.ldc2_w 413, 3) := by decide +kernel
theorem dX12_range_55 : decode cX12_range 55 = .ok (.lreturn, 1) := by decide +kernel
theorem dX12_range_56 : decode cX12_range 56 = .ok (.iload_n 2, 1) := by decide +kernel
theorem dX12_range_57 : decode cX12_range 57 = .ok (.i2l, 1) := by decide +kernel
theorem dX12_range_58 : decode cX12_range 58 = .ok (.lstore 7, 2) := by decide +kernel
theorem dX12_range_60 : decode cX12_range 60 = .ok (.aload_n 0, 1) := by decide +kernel
theorem dX12_range_61 : decode cX12_range 61 = .ok (.iload_n 1, 1) := by decide +kernel
theorem dX12_range_62 : decode cX12_range 62 = .ok (.invokevirtual 327, 3) := by decide +kernel
theorem dX12_range_65 : decode cX12_range 65 = .ok (.i2l, 1) := by decide +kernel
theorem dX12_range_66 : decode cX12_range 66 = .ok (.lstore 9, 2) := by decide +kernel
theorem dX12_range_68 : decode cX12_range 68 = .ok (.iload_n 3, 1) := by decide +kernel
theorem dX12_range_69 : decode cX12_range 69 = .ok (.iconst (-1), 1) := by decide +kernel
theorem dX12_range_70 : decode cX12_range 70 = .ok (.if_icmp .eq 42, 3) := by decide +kernel
theorem dX12_range_73 : decode cX12_range 73 = .ok (.lload 7, 2) := by decide +kernel
theorem dX12_range_75 : decode cX12_range 75 = .ok (.lload 9, 2) := by decide +kernel
theorem dX12_range_77 : decode cX12_range 77 = .ok (.iload 4, 2) := by decide +kernel
theorem dX12_range_79 : decode cX12_range 79 = .ok (.aload_n 0, 1) := by decide +kernel
theorem dX12_range_80 : decode cX12_range 80 = .ok (.iload_n 3, 1) := by decide +kernel
theorem dX12_range_81 : decode cX12_range 81 = .ok (.invokevirtual 327, 3) := by decide +kernel
theorem dX12_range_84 : decode cX12_range 84 = .ok (.invokestatic 481, 3) := by decide +kernel
theorem dX12_range_87 : decode cX12_range 87 = .ok (.lstore 7, 2) := by decide +kernel
theorem dX12_range_89 : decode cX12_range 89 = .ok (.lload 9, 2) := by decide +kernel
theorem dX12_range_91 : decode cX12_range 91 = .ok (.lload 9, 2) := by decide +kernel
theorem dX12_range_93 : decode cX12_range 93 = .ok (.aload_n 0, 1) := by decide +kernel
theorem dX12_range_94 : decode cX12_range 94 = .ok (.iload_n 3, 1) := by decide +kernel
theorem dX12_range_95 : decode cX12_range 95 = .ok (.invokevirtual 327, 3) := by decide +kernel
theorem dX12_range_98 : decode cX12_range 98 = .ok (.i2l, 1) := by decide +kernel
theorem dX12_range_99 : decode cX12_range 99 = .ok (.invokestatic 446, 3) := by decide +kernel
theorem dX12_range_102 : decode cX12_range 102 = .ok (.ldiv, 1) := by decide +kernel
theorem dX12_range_103 : decode cX12_range 103 = .ok (.aload_n 0, 1) := by decide +kernel
theorem dX12_range_104 : decode cX12_range 104 = .ok (.iload_n 3, 1) := by decide +kernel
theorem dX12_range_105 : decode cX12_range 105 = .ok (.invokevirtual 327, 3) := by decide +kernel
theorem dX12_range_108 : decode cX12_range 108 = .ok (.i2l, 1) := by decide +kernel
theorem dX12_range_109 : decode cX12_range 109 = .ok (.lmul, 1) := by decide +kernel
theorem dX12_range_110 : decode cX12_range 110 = .ok (.lstore 9, 2) := by decide +kernel
theorem dX12_range_112 : decode cX12_range 112 = .ok (.lload 7, 2) := by decide +kernel
theorem dX12_range_114 : decode cX12_range 114 = .ok (.lconst 0, 1) := by decide +kernel
theorem dX12_range_115 : decode cX12_range 115 = .ok (.lcmp, 1) := by decide +kernel
theorem dX12_range_116 : decode cX12_range 116 = .ok (.ifCond .lt 26, 3) := by decide +kernel
theorem dX12_range_119 : decode cX12_range 119 = .ok (.iload 5, 2) := by decide +kernel
theorem dX12_range_121 : decode cX12_range 121 = .ok (.iconst (-1), 1) := by decide +kernel
theorem dX12_range_122 : decode cX12_range 122 = .ok (.if_icmp .eq 20, 3) := by decide +kernel
theorem dX12_range_125 : decode cX12_range 125 = .ok (.lload 7, 2) := by decide +kernel
theorem dX12_range_127 : decode cX12_range 127 = .ok (.lload 9, 2) := by decide +kernel
theorem dX12_range_129 : decode cX12_range 129 = .ok (.iload 6, 2) := by decide +kernel
theorem dX12_range_131 : decode cX12_range 131 = .ok (.aload_n 0, 1) := by decide +kernel
theorem dX12_range_132 : decode cX12_range 132 = .ok (.iload 5, 2) := by decide +kernel
theorem dX12_range_134 : decode cX12_range 134 = .ok (.invokevirtual 327, 3) := by decide +kernel
theorem dX12_range_137 : decode cX12_range 137 = .ok (.invokestatic 481, 3) := by decide +kernel
theorem dX12_range_140 : decode cX12_range 140 = .ok (.lstore 7, 2) := by decide +kernel
theorem dX12_range_142 : decode cX12_range 142 = .ok (.lload 7, 2) := by decide +kernel
theorem dX12_range_144 : decode cX12_range 144 = .ok (.lreturn, 1) := by decide +kernel
set_option maxRecDepth 100000 in
theorem c_X12_range (l : Launch) (D : q_D) (al : q_Al) (dt : q_Dt) (x0 : Nat) (x1 : Int32) (x2 : Int32) (x3 : Int32) (x4 : Int32) (x5 : Int32) (x6 : Int32) (kx0 : al.1 x0 = 13) (r0 : Int64) (hm : X12_range al dt x0 x1 x2 x3 x4 x5 x6 = some r0) : q_Mt l yX12_range cX12_range 11 (some FieldType.long) 3 65 D al [.ref x0, .int x1, .int x2, .int x3, .int x4, .int x5, .int x6] dt 0 (some (.long r0)) dt := by
  refine q_Mt.of (by decide) (Nat.le_of_ble_eq_true rfl) ?_
  intro p e s m args below meth c ls C hargs hW hl
  have hx := C.1
  have hb := C.2.1
  have hown := C.2.2.2.2.2.1
  have hts := C.2.2.2.2.2.2.1
  have hS : va_S (q_A al) s.heap s.heap [] := va_S.rf
  have hl : lv_has ls 11 [(0, .ref x0), (1, .int x1), (2, .int x2), (3, .int x3), (4, .int x4), (5, .int x5), (6, .int x6)] := hl
  unfold X12_range at hm
  have hB52 : ∀ (H : Heap) (locs : List Loc) (ls : Array Slot) (hm : X12_range_b52 al dt = some r0) (hW : q_W D al dt H) (hS : va_S (q_A al) s.heap H locs) (hl : lv_has ls 11 []), W p l e { frames := 3, cells := 0, slots := 0, locals := 65 } s m args below meth c H locs 0 0 (MQ below (q_Q (some (.long r0)) (fun H => q_W D al dt H ∧ q_Rk al 0 (some (.long r0))) (q_A al)) args s 0 0 (q_A al)) (F0 m 52 ls []) := by
    intro H locs ls hm hW hS hl
    unfold X12_range_b52 at hm
    refine lv_ldc2 (own := RX12) (v := (-1)) hx hb hown (hts _ wc_RX12_413) dX12_range_52 ?_
    exact e_l C hW hS hm dX12_range_55
  have hB142 : ∀ (x7_142 : Int64) (H : Heap) (locs : List Loc) (ls : Array Slot) (hm : X12_range_b142 al dt x7_142 = some r0) (hW : q_W D al dt H) (hS : va_S (q_A al) s.heap H locs) (hl : lv_has ls 11 [(7, .long x7_142)]), W p l e { frames := 3, cells := 0, slots := 0, locals := 65 } s m args below meth c H locs 0 0 (MQ below (q_Q (some (.long r0)) (fun H => q_W D al dt H ∧ q_Rk al 0 (some (.long r0))) (q_A al)) args s 0 0 (q_A al)) (F0 m 142 ls []) := by
    intro x7_142 H locs ls hm hW hS hl
    unfold X12_range_b142 at hm
    refine lv_lload hx hb dX12_range_142 (lv_at hl 0 rfl) ?_
    exact e_l C hW hS hm dX12_range_144
  have hB112 : ∀ (x0_112 : Nat) (x5_112 : Int32) (x6_112 : Int32) (x7_112 : Int64) (x9_112 : Int64) (kx0_112 : al.1 x0_112 = 13) (H : Heap) (locs : List Loc) (ls : Array Slot) (hm : X12_range_b112 al dt x0_112 x5_112 x6_112 x7_112 x9_112 = some r0) (hW : q_W D al dt H) (hS : va_S (q_A al) s.heap H locs) (hl : lv_has ls 11 [(0, .ref x0_112), (5, .int x5_112), (6, .int x6_112), (7, .long x7_112), (9, .long x9_112)]), W p l e { frames := 3, cells := 0, slots := 0, locals := 65 } s m args below meth c H locs 0 0 (MQ below (q_Q (some (.long r0)) (fun H => q_W D al dt H ∧ q_Rk al 0 (some (.long r0))) (q_A al)) args s 0 0 (q_A al)) (F0 m 112 ls []) := by
    intro x0_112 x5_112 x6_112 x7_112 x9_112 kx0_112 H locs ls hm hW hS hl
    unfold X12_range_b112 at hm
    refine lv_lload hx hb dX12_range_112 (lv_at hl 3 rfl) ?_
    refine lv_lconst (v := 0) hx hb dX12_range_114 rfl ?_
    refine W.lcmp hx hb dX12_range_115 ?_
    refine q_ifc hm (fun c112001 hm => ?_) (fun c112001 hm => ?_)
    · refine lv_if_lt (tgt := 142) hx hb dX12_range_116 (by decide) (fun _ => ?_) (fun h => absurd (q_cmp_lt.mpr c112001) h)
      exact hB142 x7_112 _ _ _ hm hW hS (lv_sub hl [3] rfl)
    refine lv_if_lt (tgt := 142) hx hb dX12_range_116 (by decide) (fun h => absurd (q_cmp_lt.mp h) c112001) (fun _ => ?_)
    refine lv_iload hx hb dX12_range_119 (lv_at hl 1 rfl) ?_
    refine lv_iconst (v := (-1)) hx hb dX12_range_121 (by decide) ?_
    refine q_ifc hm (fun c112002 hm => ?_) (fun c112002 hm => ?_)
    · refine lv_icmp_eq (tgt := 142) hx hb dX12_range_122 (by decide) (fun _ => ?_) (fun h => absurd c112002 h)
      exact hB142 x7_112 _ _ _ hm hW hS (lv_sub hl [3] rfl)
    refine lv_icmp_eq (tgt := 142) hx hb dX12_range_122 (by decide) (fun h => absurd h c112002) (fun _ => ?_)
    refine lv_lload hx hb dX12_range_125 (lv_at hl 3 rfl) ?_
    refine lv_lload hx hb dX12_range_127 (lv_at hl 4 rfl) ?_
    refine lv_iload hx hb dX12_range_129 (lv_at hl 2 rfl) ?_
    refine lv_aload_n hx hb dX12_range_131 rfl (lv_at hl 0 rfl) ?_
    refine lv_iload hx hb dX12_range_132 (lv_at hl 1 rfl) ?_
    obtain ⟨v112004, hc112003, hm⟩ := q_b1i hm
    refine q_callV C hW hS (As := [.int x5_112]) (rest := [.int x6_112, .long x9_112, .long x7_112]) (st1 := [.int v112004, .int x6_112, .long x9_112, .long x7_112]) (c_X12_long0 l D al dt x0_112 x5_112 kx0_112 v112004 hc112003) yl_X12_long0 vl_X12_long0 ml_RX12_327 (ci := 12) rfl kx0_112 (by decide) rfl ⟨Nat.le_of_ble_eq_true rfl, Nat.le_of_ble_eq_true rfl⟩ hl rfl (Nat.le_of_ble_eq_true rfl) dX12_range_134 ⟨Nat.le_refl _, Nat.le_refl _⟩ rfl (fun H locs k112005 hW hS => ?_)
    obtain ⟨v112007, hc112006, hm⟩ := q_b1i hm
    refine q_callS C hW hS (As := [.long x7_112, .long x9_112, .int x6_112, .int v112004]) (rest := []) (st1 := [.long v112007]) (c_X12_meets l D al dt x7_112 x9_112 x6_112 v112004 v112007 hc112006) yl_X12_meets sl_X12_meets ml_RX12_481 rfl ⟨Nat.le_of_ble_eq_true rfl, Nat.le_of_ble_eq_true rfl⟩ hl rfl (Nat.le_of_ble_eq_true rfl) dX12_range_137 ⟨Nat.le_refl _, Nat.le_refl _⟩ rfl (fun H locs k112008 hW hS => ?_)
    refine lv_lstore (i := 7) (lv' := [(7, .long v112007), (0, .ref x0_112), (5, .int x5_112), (6, .int x6_112), (9, .long x9_112)]) hx hb dX12_range_140 hl (by decide) rfl (fun ls hl => ?_)
    exact hB142 v112007 _ _ _ hm hW hS (lv_sub hl [0] rfl)
  have hB56 : ∀ (x0_56 : Nat) (x1_56 : Int32) (x2_56 : Int32) (x3_56 : Int32) (x4_56 : Int32) (x5_56 : Int32) (x6_56 : Int32) (kx0_56 : al.1 x0_56 = 13) (H : Heap) (locs : List Loc) (ls : Array Slot) (hm : X12_range_b56 al dt x0_56 x1_56 x2_56 x3_56 x4_56 x5_56 x6_56 = some r0) (hW : q_W D al dt H) (hS : va_S (q_A al) s.heap H locs) (hl : lv_has ls 11 [(0, .ref x0_56), (1, .int x1_56), (2, .int x2_56), (3, .int x3_56), (4, .int x4_56), (5, .int x5_56), (6, .int x6_56)]), W p l e { frames := 3, cells := 0, slots := 0, locals := 65 } s m args below meth c H locs 0 0 (MQ below (q_Q (some (.long r0)) (fun H => q_W D al dt H ∧ q_Rk al 0 (some (.long r0))) (q_A al)) args s 0 0 (q_A al)) (F0 m 56 ls []) := by
    intro x0_56 x1_56 x2_56 x3_56 x4_56 x5_56 x6_56 kx0_56 H locs ls hm hW hS hl
    unfold X12_range_b56 at hm
    refine lv_iload_n hx hb dX12_range_56 rfl (lv_at hl 2 rfl) ?_
    refine lv_i2l (v := (Int32.toInt64 x2_56)) hx hb dX12_range_57 rfl ?_
    refine lv_lstore (i := 7) (lv' := [(7, .long (Int32.toInt64 x2_56)), (0, .ref x0_56), (1, .int x1_56), (2, .int x2_56), (3, .int x3_56), (4, .int x4_56), (5, .int x5_56), (6, .int x6_56)]) hx hb dX12_range_58 hl (by decide) rfl (fun ls hl => ?_)
    refine lv_aload_n hx hb dX12_range_60 rfl (lv_at hl 1 rfl) ?_
    refine lv_iload_n hx hb dX12_range_61 rfl (lv_at hl 2 rfl) ?_
    obtain ⟨v56002, hc56001, hm⟩ := q_b1i hm
    refine q_callV C hW hS (As := [.int x1_56]) (rest := []) (st1 := [.int v56002]) (c_X12_long0 l D al dt x0_56 x1_56 kx0_56 v56002 hc56001) yl_X12_long0 vl_X12_long0 ml_RX12_327 (ci := 12) rfl kx0_56 (by decide) rfl ⟨Nat.le_of_ble_eq_true rfl, Nat.le_of_ble_eq_true rfl⟩ hl rfl (Nat.le_of_ble_eq_true rfl) dX12_range_62 ⟨Nat.le_refl _, Nat.le_refl _⟩ rfl (fun H locs k56003 hW hS => ?_)
    refine lv_i2l (v := (Int32.toInt64 v56002)) hx hb dX12_range_65 rfl ?_
    refine lv_lstore (i := 9) (lv' := [(9, .long (Int32.toInt64 v56002)), (7, .long (Int32.toInt64 x2_56)), (0, .ref x0_56), (1, .int x1_56), (2, .int x2_56), (3, .int x3_56), (4, .int x4_56), (5, .int x5_56), (6, .int x6_56)]) hx hb dX12_range_66 hl (by decide) rfl (fun ls hl => ?_)
    refine lv_iload_n hx hb dX12_range_68 rfl (lv_at hl 5 rfl) ?_
    refine lv_iconst (v := (-1)) hx hb dX12_range_69 (by decide) ?_
    refine q_ifc hm (fun c56004 hm => ?_) (fun c56004 hm => ?_)
    · refine lv_icmp_eq (tgt := 112) hx hb dX12_range_70 (by decide) (fun _ => ?_) (fun h => absurd c56004 h)
      exact hB112 x0_56 x5_56 x6_56 (Int32.toInt64 x2_56) (Int32.toInt64 v56002) kx0_56 _ _ _ hm hW hS (lv_sub hl [2, 7, 8, 1, 0] rfl)
    refine lv_icmp_eq (tgt := 112) hx hb dX12_range_70 (by decide) (fun h => absurd h c56004) (fun _ => ?_)
    refine lv_lload hx hb dX12_range_73 (lv_at hl 1 rfl) ?_
    refine lv_lload hx hb dX12_range_75 (lv_at hl 0 rfl) ?_
    refine lv_iload hx hb dX12_range_77 (lv_at hl 6 rfl) ?_
    refine lv_aload_n hx hb dX12_range_79 rfl (lv_at hl 2 rfl) ?_
    refine lv_iload_n hx hb dX12_range_80 rfl (lv_at hl 5 rfl) ?_
    obtain ⟨v56006, hc56005, hm⟩ := q_b1i hm
    refine q_callV C hW hS (As := [.int x3_56]) (rest := [.int x4_56, .long (Int32.toInt64 v56002), .long (Int32.toInt64 x2_56)]) (st1 := [.int v56006, .int x4_56, .long (Int32.toInt64 v56002), .long (Int32.toInt64 x2_56)]) (c_X12_long0 l D al dt x0_56 x3_56 kx0_56 v56006 hc56005) yl_X12_long0 vl_X12_long0 ml_RX12_327 (ci := 12) rfl kx0_56 (by decide) rfl ⟨Nat.le_of_ble_eq_true rfl, Nat.le_of_ble_eq_true rfl⟩ hl rfl (Nat.le_of_ble_eq_true rfl) dX12_range_81 ⟨Nat.le_refl _, Nat.le_refl _⟩ rfl (fun H locs k56007 hW hS => ?_)
    obtain ⟨v56009, hc56008, hm⟩ := q_b1i hm
    refine q_callS C hW hS (As := [.long (Int32.toInt64 x2_56), .long (Int32.toInt64 v56002), .int x4_56, .int v56006]) (rest := []) (st1 := [.long v56009]) (c_X12_meets l D al dt (Int32.toInt64 x2_56) (Int32.toInt64 v56002) x4_56 v56006 v56009 hc56008) yl_X12_meets sl_X12_meets ml_RX12_481 rfl ⟨Nat.le_of_ble_eq_true rfl, Nat.le_of_ble_eq_true rfl⟩ hl rfl (Nat.le_of_ble_eq_true rfl) dX12_range_84 ⟨Nat.le_refl _, Nat.le_refl _⟩ rfl (fun H locs k56010 hW hS => ?_)
    refine lv_lstore (i := 7) (lv' := [(7, .long v56009), (9, .long (Int32.toInt64 v56002)), (0, .ref x0_56), (1, .int x1_56), (2, .int x2_56), (3, .int x3_56), (4, .int x4_56), (5, .int x5_56), (6, .int x6_56)]) hx hb dX12_range_87 hl (by decide) rfl (fun ls hl => ?_)
    refine lv_lload hx hb dX12_range_89 (lv_at hl 1 rfl) ?_
    refine lv_lload hx hb dX12_range_91 (lv_at hl 1 rfl) ?_
    refine lv_aload_n hx hb dX12_range_93 rfl (lv_at hl 2 rfl) ?_
    refine lv_iload_n hx hb dX12_range_94 rfl (lv_at hl 5 rfl) ?_
    obtain ⟨v56012, hc56011, hm⟩ := q_b1i hm
    refine q_callV C hW hS (As := [.int x3_56]) (rest := [.long (Int32.toInt64 v56002), .long (Int32.toInt64 v56002)]) (st1 := [.int v56012, .long (Int32.toInt64 v56002), .long (Int32.toInt64 v56002)]) (c_X12_long0 l D al dt x0_56 x3_56 kx0_56 v56012 hc56011) yl_X12_long0 vl_X12_long0 ml_RX12_327 (ci := 12) rfl kx0_56 (by decide) rfl ⟨Nat.le_of_ble_eq_true rfl, Nat.le_of_ble_eq_true rfl⟩ hl rfl (Nat.le_of_ble_eq_true rfl) dX12_range_95 ⟨Nat.le_refl _, Nat.le_refl _⟩ rfl (fun H locs k56013 hW hS => ?_)
    refine lv_i2l (v := (Int32.toInt64 v56012)) hx hb dX12_range_98 rfl ?_
    obtain ⟨v56015, hc56014, hm⟩ := q_b1i hm
    refine q_callS C hW hS (As := [.long (Int32.toInt64 v56002), .long (Int32.toInt64 v56012)]) (rest := [.long (Int32.toInt64 v56002)]) (st1 := [.long v56015, .long (Int32.toInt64 v56002)]) (c_X12_common l D al dt (Int32.toInt64 v56002) (Int32.toInt64 v56012) v56015 hc56014) yl_X12_common sl_X12_common ml_RX12_446 rfl ⟨Nat.le_of_ble_eq_true rfl, Nat.le_of_ble_eq_true rfl⟩ hl rfl (Nat.le_of_ble_eq_true rfl) dX12_range_99 ⟨Nat.le_refl _, Nat.le_refl _⟩ rfl (fun H locs k56016 hW hS => ?_)
    obtain ⟨c56017, hm⟩ := q_ini hm
    refine lv_ldiv hx hb dX12_range_102 c56017 ?_
    refine lv_aload_n hx hb dX12_range_103 rfl (lv_at hl 2 rfl) ?_
    refine lv_iload_n hx hb dX12_range_104 rfl (lv_at hl 5 rfl) ?_
    obtain ⟨v56019, hc56018, hm⟩ := q_b1i hm
    refine q_callV C hW hS (As := [.int x3_56]) (rest := [.long ((Int32.toInt64 v56002) / v56015)]) (st1 := [.int v56019, .long ((Int32.toInt64 v56002) / v56015)]) (c_X12_long0 l D al dt x0_56 x3_56 kx0_56 v56019 hc56018) yl_X12_long0 vl_X12_long0 ml_RX12_327 (ci := 12) rfl kx0_56 (by decide) rfl ⟨Nat.le_of_ble_eq_true rfl, Nat.le_of_ble_eq_true rfl⟩ hl rfl (Nat.le_of_ble_eq_true rfl) dX12_range_105 ⟨Nat.le_refl _, Nat.le_refl _⟩ rfl (fun H locs k56020 hW hS => ?_)
    refine lv_i2l (v := (Int32.toInt64 v56019)) hx hb dX12_range_108 rfl ?_
    refine lv_lmul hx hb dX12_range_109 ?_
    refine q_nmL hm (fun v56021 ev56021 hm => ?_)
    refine lv_lstore (i := 9) (lv' := [(9, .long v56021), (7, .long v56009), (0, .ref x0_56), (1, .int x1_56), (2, .int x2_56), (3, .int x3_56), (4, .int x4_56), (5, .int x5_56), (6, .int x6_56)]) hx hb dX12_range_110 hl (by decide) rfl (fun ls hl => ?_)
    exact hB112 x0_56 x5_56 x6_56 v56009 v56021 kx0_56 _ _ _ hm hW hS (lv_sub hl [2, 7, 8, 1, 0] rfl)
  have hB41 : ∀ (x0_41 : Nat) (x1_41 : Int32) (x2_41 : Int32) (x3_41 : Int32) (x4_41 : Int32) (x5_41 : Int32) (x6_41 : Int32) (kx0_41 : al.1 x0_41 = 13) (H : Heap) (locs : List Loc) (ls : Array Slot) (hm : X12_range_b41 al dt x0_41 x1_41 x2_41 x3_41 x4_41 x5_41 x6_41 = some r0) (hW : q_W D al dt H) (hS : va_S (q_A al) s.heap H locs) (hl : lv_has ls 11 [(0, .ref x0_41), (1, .int x1_41), (2, .int x2_41), (3, .int x3_41), (4, .int x4_41), (5, .int x5_41), (6, .int x6_41)]), W p l e { frames := 3, cells := 0, slots := 0, locals := 65 } s m args below meth c H locs 0 0 (MQ below (q_Q (some (.long r0)) (fun H => q_W D al dt H ∧ q_Rk al 0 (some (.long r0))) (q_A al)) args s 0 0 (q_A al)) (F0 m 41 ls []) := by
    intro x0_41 x1_41 x2_41 x3_41 x4_41 x5_41 x6_41 kx0_41 H locs ls hm hW hS hl
    unfold X12_range_b41 at hm
    refine lv_iload_n hx hb dX12_range_41 rfl (lv_at hl 3 rfl) ?_
    refine lv_iconst (v := (-1)) hx hb dX12_range_42 (by decide) ?_
    refine q_ifc hm (fun c41001 hm => ?_) (fun c41001 hm => ?_)
    · refine lv_icmp_ne (tgt := 56) hx hb dX12_range_43 (by decide) (fun h => absurd c41001 h) (fun _ => ?_)
      refine lv_iload hx hb dX12_range_46 (lv_at hl 5 rfl) ?_
      refine lv_iconst (v := (-1)) hx hb dX12_range_48 (by decide) ?_
      refine q_ifc hm (fun c41002 hm => ?_) (fun c41002 hm => ?_)
      · refine lv_icmp_eq (tgt := 56) hx hb dX12_range_49 (by decide) (fun _ => ?_) (fun h => absurd c41002 h)
        exact hB56 x0_41 x1_41 x2_41 x3_41 x4_41 x5_41 x6_41 kx0_41 _ _ _ hm hW hS (lv_sub hl [0, 1, 2, 3, 4, 5, 6] rfl)
      refine lv_icmp_eq (tgt := 56) hx hb dX12_range_49 (by decide) (fun h => absurd h c41002) (fun _ => ?_)
      exact hB52 _ _ _ hm hW hS (lv_sub hl [] rfl)
    refine lv_icmp_ne (tgt := 56) hx hb dX12_range_43 (by decide) (fun _ => ?_) (fun h => absurd h c41001)
    exact hB56 x0_41 x1_41 x2_41 x3_41 x4_41 x5_41 x6_41 kx0_41 _ _ _ hm hW hS (lv_sub hl [0, 1, 2, 3, 4, 5, 6] rfl)
  have hB24 : ∀ (x0_24 : Nat) (x1_24 : Int32) (x2_24 : Int32) (x3_24 : Int32) (x4_24 : Int32) (x5_24 : Int32) (x6_24 : Int32) (kx0_24 : al.1 x0_24 = 13) (H : Heap) (locs : List Loc) (ls : Array Slot) (hm : X12_range_b24 al dt x0_24 x1_24 x2_24 x3_24 x4_24 x5_24 x6_24 = some r0) (hW : q_W D al dt H) (hS : va_S (q_A al) s.heap H locs) (hl : lv_has ls 11 [(0, .ref x0_24), (1, .int x1_24), (2, .int x2_24), (3, .int x3_24), (4, .int x4_24), (5, .int x5_24), (6, .int x6_24)]), W p l e { frames := 3, cells := 0, slots := 0, locals := 65 } s m args below meth c H locs 0 0 (MQ below (q_Q (some (.long r0)) (fun H => q_W D al dt H ∧ q_Rk al 0 (some (.long r0))) (q_A al)) args s 0 0 (q_A al)) (F0 m 24 ls []) := by
    intro x0_24 x1_24 x2_24 x3_24 x4_24 x5_24 x6_24 kx0_24 H locs ls hm hW hS hl
    unfold X12_range_b24 at hm
    refine lv_iload hx hb dX12_range_24 (lv_at hl 5 rfl) ?_
    refine lv_iconst (v := (-1)) hx hb dX12_range_26 (by decide) ?_
    refine q_ifc hm (fun c24001 hm => ?_) (fun c24001 hm => ?_)
    · refine lv_icmp_eq (tgt := 41) hx hb dX12_range_27 (by decide) (fun _ => ?_) (fun h => absurd c24001 h)
      exact hB41 x0_24 x1_24 x2_24 x3_24 x4_24 x5_24 x6_24 kx0_24 _ _ _ hm hW hS (lv_sub hl [0, 1, 2, 3, 4, 5, 6] rfl)
    refine lv_icmp_eq (tgt := 41) hx hb dX12_range_27 (by decide) (fun h => absurd h c24001) (fun _ => ?_)
    refine lv_aload_n hx hb dX12_range_30 rfl (lv_at hl 0 rfl) ?_
    refine lv_iload hx hb dX12_range_31 (lv_at hl 5 rfl) ?_
    refine lv_iload hx hb dX12_range_33 (lv_at hl 6 rfl) ?_
    obtain ⟨v24003, hc24002, hm⟩ := q_b1i hm
    refine q_callV C hW hS (As := [.int x5_24, .int x6_24]) (rest := []) (st1 := [.int v24003]) (c_X12_isRest l D al dt x0_24 x5_24 x6_24 kx0_24 v24003 hc24002) yl_X12_isRest vl_X12_isRest ml_RX12_478 (ci := 12) rfl kx0_24 (by decide) rfl ⟨Nat.le_of_ble_eq_true rfl, Nat.le_of_ble_eq_true rfl⟩ hl rfl (Nat.le_of_ble_eq_true rfl) dX12_range_35 ⟨Nat.le_refl _, Nat.le_refl _⟩ rfl (fun H locs k24004 hW hS => ?_)
    refine q_ifc hm (fun c24005 hm => ?_) (fun c24005 hm => ?_)
    · refine lv_if_eq (tgt := 52) hx hb dX12_range_38 (by decide) (fun _ => ?_) (fun h => absurd c24005 h)
      exact hB52 _ _ _ hm hW hS (lv_sub hl [] rfl)
    refine lv_if_eq (tgt := 52) hx hb dX12_range_38 (by decide) (fun h => absurd h c24005) (fun _ => ?_)
    exact hB41 x0_24 x1_24 x2_24 x3_24 x4_24 x5_24 x6_24 kx0_24 _ _ _ hm hW hS (lv_sub hl [0, 1, 2, 3, 4, 5, 6] rfl)
  refine lv_aload_n hx hb dX12_range_0 rfl (lv_at hl 0 rfl) ?_
  refine lv_iload_n hx hb dX12_range_1 rfl (lv_at hl 1 rfl) ?_
  refine lv_iload_n hx hb dX12_range_2 rfl (lv_at hl 2 rfl) ?_
  obtain ⟨v1000002, hc1000001, hm⟩ := q_b1i hm
  refine q_callV C hW hS (As := [.int x1, .int x2]) (rest := []) (st1 := [.int v1000002]) (c_X12_isRest l D al dt x0 x1 x2 kx0 v1000002 hc1000001) yl_X12_isRest vl_X12_isRest ml_RX12_478 (ci := 12) rfl kx0 (by decide) rfl ⟨Nat.le_of_ble_eq_true rfl, Nat.le_of_ble_eq_true rfl⟩ hl rfl (Nat.le_of_ble_eq_true rfl) dX12_range_3 ⟨Nat.le_refl _, Nat.le_refl _⟩ rfl (fun H locs k1000003 hW hS => ?_)
  refine q_ifc hm (fun c1000004 hm => ?_) (fun c1000004 hm => ?_)
  · refine lv_if_eq (tgt := 52) hx hb dX12_range_6 (by decide) (fun _ => ?_) (fun h => absurd c1000004 h)
    exact hB52 _ _ _ hm hW hS (lv_sub hl [] rfl)
  refine lv_if_eq (tgt := 52) hx hb dX12_range_6 (by decide) (fun h => absurd h c1000004) (fun _ => ?_)
  refine lv_iload_n hx hb dX12_range_9 rfl (lv_at hl 3 rfl) ?_
  refine lv_iconst (v := (-1)) hx hb dX12_range_10 (by decide) ?_
  refine q_ifc hm (fun c1000005 hm => ?_) (fun c1000005 hm => ?_)
  · refine lv_icmp_eq (tgt := 24) hx hb dX12_range_11 (by decide) (fun _ => ?_) (fun h => absurd c1000005 h)
    exact hB24 x0 x1 x2 x3 x4 x5 x6 kx0 _ _ _ hm hW hS (lv_sub hl [0, 1, 2, 3, 4, 5, 6] rfl)
  refine lv_icmp_eq (tgt := 24) hx hb dX12_range_11 (by decide) (fun h => absurd h c1000005) (fun _ => ?_)
  refine lv_aload_n hx hb dX12_range_14 rfl (lv_at hl 0 rfl) ?_
  refine lv_iload_n hx hb dX12_range_15 rfl (lv_at hl 3 rfl) ?_
  refine lv_iload hx hb dX12_range_16 (lv_at hl 4 rfl) ?_
  obtain ⟨v1000007, hc1000006, hm⟩ := q_b1i hm
  refine q_callV C hW hS (As := [.int x3, .int x4]) (rest := []) (st1 := [.int v1000007]) (c_X12_isRest l D al dt x0 x3 x4 kx0 v1000007 hc1000006) yl_X12_isRest vl_X12_isRest ml_RX12_478 (ci := 12) rfl kx0 (by decide) rfl ⟨Nat.le_of_ble_eq_true rfl, Nat.le_of_ble_eq_true rfl⟩ hl rfl (Nat.le_of_ble_eq_true rfl) dX12_range_18 ⟨Nat.le_refl _, Nat.le_refl _⟩ rfl (fun H locs k1000008 hW hS => ?_)
  refine q_ifc hm (fun c1000009 hm => ?_) (fun c1000009 hm => ?_)
  · refine lv_if_eq (tgt := 52) hx hb dX12_range_21 (by decide) (fun _ => ?_) (fun h => absurd c1000009 h)
    exact hB52 _ _ _ hm hW hS (lv_sub hl [] rfl)
  refine lv_if_eq (tgt := 52) hx hb dX12_range_21 (by decide) (fun h => absurd h c1000009) (fun _ => ?_)
  exact hB24 x0 x1 x2 x3 x4 x5 x6 kx0 _ _ _ hm hW hS (lv_sub hl [0, 1, 2, 3, 4, 5, 6] rfl)
theorem dX12_near_0 : decode cX12_near 0 = .ok (.aload_n 0, 1) := by decide +kernel
theorem dX12_near_1 : decode cX12_near 1 = .ok (.iload_n 1, 1) := by decide +kernel
theorem dX12_near_2 : decode cX12_near 2 = .ok (.iload_n 2, 1) := by decide +kernel
theorem dX12_near_3 : decode cX12_near 3 = .ok (.invokevirtual 478, 3) := by decide +kernel
theorem dX12_near_6 : decode cX12_near 6 = .ok (.ifCond .eq 30, 3) := by decide +kernel
theorem dX12_near_9 : decode cX12_near 9 = .ok (.iload_n 3, 1) := by decide +kernel
theorem dX12_near_10 : decode cX12_near 10 = .ok (.iconst (-1), 1) := by decide +kernel
theorem dX12_near_11 : decode cX12_near 11 = .ok (.if_icmp .eq 13, 3) := by decide +kernel
theorem dX12_near_14 : decode cX12_near 14 = .ok (.aload_n 0, 1) := by decide +kernel
theorem dX12_near_15 : decode cX12_near 15 = .ok (.iload_n 3, 1) := by decide +kernel
theorem dX12_near_16 : decode cX12_near 16 = .ok (.iload 4, 2) := by decide +kernel
theorem dX12_near_18 : decode cX12_near 18 = .ok (.invokevirtual 478, 3) := by decide +kernel
theorem dX12_near_21 : decode cX12_near 21 = .ok (.ifCond .eq 15, 3) := by decide +kernel
theorem dX12_near_24 : decode cX12_near 24 = .ok (.iload 5, 2) := by decide +kernel
theorem dX12_near_26 : decode cX12_near 26 = .ok (.iconst 0, 1) := by decide +kernel
theorem dX12_near_27 : decode cX12_near 27 = .ok (.sipush 20000, 3) := by decide +kernel
theorem dX12_near_30 : decode cX12_near 30 = .ok (.invokestatic 376, 3) := by decide +kernel
theorem dX12_near_33 : decode cX12_near 33 = .ok (.ifCond .ne 5, 3) := by decide +kernel
theorem dX12_near_36 : decode cX12_near 36 = .ok (.iconst (-1), 1) := by decide +kernel
theorem dX12_near_37 : decode cX12_near 37 = .ok (.ireturn, 1) := by decide +kernel
theorem dX12_near_38 : decode cX12_near 38 = .ok (.iconst 0, 1) := by decide +kernel
theorem dX12_near_39 : decode cX12_near 39 = .ok (.istore 6, 2) := by decide +kernel
theorem dX12_near_41 : decode cX12_near 41 = .ok (.ldc_w 487, 3) := by decide +kernel
theorem dX12_near_44 : decode cX12_near 44 = .ok (.istore 7, 2) := by decide +kernel
theorem dX12_near_46 : decode cX12_near 46 = .ok (.iconst 0, 1) := by decide +kernel
theorem dX12_near_47 : decode cX12_near 47 = .ok (.istore 8, 2) := by decide +kernel
theorem dX12_near_49 : decode cX12_near 49 = .ok (.iload 8, 2) := by decide +kernel
theorem dX12_near_51 : decode cX12_near 51 = .ok (.iload 5, 2) := by decide +kernel
theorem dX12_near_53 : decode cX12_near 53 = .ok (.if_icmp .gt 62, 3) := by decide +kernel
theorem dX12_near_56 : decode cX12_near 56 = .ok (.iload 8, 2) := by decide +kernel
theorem dX12_near_58 : decode cX12_near 58 = .ok (.iload_n 2, 1) := by decide +kernel
theorem dX12_near_59 : decode cX12_near 59 = .ok (.aload_n 0, 1) := by decide +kernel
theorem dX12_near_60 : decode cX12_near 60 = .ok (.iload_n 1, 1) := by decide +kernel
theorem dX12_near_61 : decode cX12_near 61 = .ok (.invokevirtual 327, 3) := by decide +kernel
theorem dX12_near_64 : decode cX12_near 64 = .ok (.invokestatic 441, 3) := by decide +kernel
theorem dX12_near_67 : decode cX12_near 67 = .ok (.iload_n 3, 1) := by decide +kernel
theorem dX12_near_68 : decode cX12_near 68 = .ok (.iconst (-1), 1) := by decide +kernel
theorem dX12_near_69 : decode cX12_near 69 = .ok (.if_icmp .ne 7, 3) := by decide +kernel
theorem dX12_near_72 : decode cX12_near 72 = .ok (.iconst 0, 1) := by decide +kernel
theorem dX12_near_73 : decode cX12_near 73 = .ok (.goto 15, 3) := by decide +kernel
theorem dX12_near_76 : decode cX12_near 76 = .ok (.iload 8, 2) := by decide +kernel
theorem dX12_near_78 : decode cX12_near 78 = .ok (.iload 4, 2) := by decide +kernel
theorem dX12_near_80 : decode cX12_near 80 = .ok (.aload_n 0, 1) := by decide +kernel
theorem dX12_near_81 : decode cX12_near 81 = .ok (.iload_n 3, 1) := by decide +kernel
theorem dX12_near_82 : decode cX12_near 82 = .ok (.invokevirtual 327, 3) := by decide +kernel
theorem dX12_near_85 : decode cX12_near 85 = .ok (.invokestatic 441, 3) := by decide +kernel
theorem dX12_near_88 : decode cX12_near 88 = .ok (.iadd, 1) := by decide +kernel
theorem dX12_near_89 : decode cX12_near 89 = .ok (.istore 9, 2) := by decide +kernel
theorem dX12_near_91 : decode cX12_near 91 = .ok (.iload 9, 2) := by decide +kernel
theorem dX12_near_93 : decode cX12_near 93 = .ok (.iload 7, 2) := by decide +kernel
theorem dX12_near_95 : decode cX12_near 95 = .ok (.if_icmp .lt 6, 3) := by decide +kernel
theorem dX12_near_98 : decode cX12_near 98 = .ok (.goto 11, 3) := by decide +kernel
theorem dX12_near_101 : decode cX12_near 101 = .ok (.iload 8, 2) := by decide +kernel
theorem dX12_near_103 : decode cX12_near 103 = .ok (.istore 6, 2) := by decide +kernel
theorem dX12_near_105 : decode cX12_near 105 = .ok (.iload 9, 2) := by decide +kernel
theorem dX12_near_107 : decode cX12_near 107 = .ok (.istore 7, 2) := by decide +kernel
theorem dX12_near_109 : decode cX12_near 109 = .ok (.iinc 8 1, 3) := by decide +kernel
theorem dX12_near_112 : decode cX12_near 112 = .ok (.goto (-63), 3) := by decide +kernel
theorem dX12_near_115 : decode cX12_near 115 = .ok (.iload 6, 2) := by decide +kernel
theorem dX12_near_117 : decode cX12_near 117 = .ok (.ireturn, 1) := by decide +kernel
set_option maxRecDepth 100000 in
theorem c_X12_near (l : Launch) (D : q_D) (al : q_Al) (dt : q_Dt) (x0 : Nat) (x1 : Int32) (x2 : Int32) (x3 : Int32) (x4 : Int32) (x5 : Int32) (kx0 : al.1 x0 = 13) (r0 : Int32) (hm : X12_near al dt x0 x1 x2 x3 x4 x5 = some r0) : q_Mt l yX12_near cX12_near 10 (some FieldType.int) 3 65 D al [.ref x0, .int x1, .int x2, .int x3, .int x4, .int x5] dt 0 (some (.int r0)) dt := by
  refine q_Mt.of (by decide) (Nat.le_of_ble_eq_true rfl) ?_
  intro p e s m args below meth c ls C hargs hW hl
  have hx := C.1
  have hb := C.2.1
  have hown := C.2.2.2.2.2.1
  have hts := C.2.2.2.2.2.2.1
  have hS : va_S (q_A al) s.heap s.heap [] := va_S.rf
  have hl : lv_has ls 10 [(0, .ref x0), (1, .int x1), (2, .int x2), (3, .int x3), (4, .int x4), (5, .int x5)] := hl
  unfold X12_near at hm
  have hB49 : ∀ (x0_49 : Nat) (x1_49 : Int32) (x2_49 : Int32) (x3_49 : Int32) (x4_49 : Int32) (x5_49 : Int32) (kx0_49 : al.1 x0_49 = 13) (n_49 : Nat) (x6_49 : Int32) (x7_49 : Int32) (x8_49 : Int32) (H : Heap) (locs : List Loc) (ls : Array Slot) (hm : X12_near_b49 al dt x0_49 x1_49 x2_49 x3_49 x4_49 x5_49 n_49 x6_49 x7_49 x8_49 = some r0) (hW : q_W D al dt H) (hS : va_S (q_A al) s.heap H locs) (hl : lv_has ls 10 [(0, .ref x0_49), (1, .int x1_49), (2, .int x2_49), (3, .int x3_49), (4, .int x4_49), (5, .int x5_49), (6, .int x6_49), (7, .int x7_49), (8, .int x8_49)]), W p l e { frames := 3, cells := 0, slots := 0, locals := 65 } s m args below meth c H locs 0 0 (MQ below (q_Q (some (.int r0)) (fun H => q_W D al dt H ∧ q_Rk al 0 (some (.int r0))) (q_A al)) args s 0 0 (q_A al)) (F0 m 49 ls []) := by
    intro x0_49 x1_49 x2_49 x3_49 x4_49 x5_49 kx0_49
    intro n_49
    induction n_49 with
    | zero => intro x6_49 x7_49 x8_49 H locs ls hm hW hS hl; cases hm
    | succ n_49 ih49 =>
      have hB109 : ∀ (x6_109 : Int32) (x7_109 : Int32) (x8_109 : Int32) (H : Heap) (locs : List Loc) (ls : Array Slot) (hm : X12_near_b109 al dt (X12_near_b49 al dt x0_49 x1_49 x2_49 x3_49 x4_49 x5_49 n_49) x0_49 x1_49 x2_49 x3_49 x4_49 x5_49 x6_109 x7_109 x8_109 = some r0) (hW : q_W D al dt H) (hS : va_S (q_A al) s.heap H locs) (hl : lv_has ls 10 [(0, .ref x0_49), (1, .int x1_49), (2, .int x2_49), (3, .int x3_49), (4, .int x4_49), (5, .int x5_49), (6, .int x6_109), (7, .int x7_109), (8, .int x8_109)]), W p l e { frames := 3, cells := 0, slots := 0, locals := 65 } s m args below meth c H locs 0 0 (MQ below (q_Q (some (.int r0)) (fun H => q_W D al dt H ∧ q_Rk al 0 (some (.int r0))) (q_A al)) args s 0 0 (q_A al)) (F0 m 109 ls []) := by
        intro x6_109 x7_109 x8_109 H locs ls hm hW hS hl
        unfold X12_near_b109 at hm
        refine lv_iinc (v := (x8_109 + 1)) (lv' := [(8, .int (x8_109 + 1)), (0, .ref x0_49), (1, .int x1_49), (2, .int x2_49), (3, .int x3_49), (4, .int x4_49), (5, .int x5_49), (6, .int x6_109), (7, .int x7_109)]) hx hb dX12_near_109 hl (k := 8) rfl rfl (by decide) rfl (fun ls hl => ?_)
        refine lv_goto (tgt := 49) hx hb dX12_near_112 (by decide) ?_
        exact ih49 x6_109 x7_109 (x8_109 + 1) _ _ _ hm hW hS (lv_sub hl [1, 2, 3, 4, 5, 6, 7, 8, 0] rfl)
      have hB88 : ∀ (x6_88 : Int32) (x7_88 : Int32) (x8_88 : Int32) (t0_88 : Int32) (t1_88 : Int32) (H : Heap) (locs : List Loc) (ls : Array Slot) (hm : X12_near_b88 al dt (X12_near_b49 al dt x0_49 x1_49 x2_49 x3_49 x4_49 x5_49 n_49) x0_49 x1_49 x2_49 x3_49 x4_49 x5_49 x6_88 x7_88 x8_88 t0_88 t1_88 = some r0) (hW : q_W D al dt H) (hS : va_S (q_A al) s.heap H locs) (hl : lv_has ls 10 [(0, .ref x0_49), (1, .int x1_49), (2, .int x2_49), (3, .int x3_49), (4, .int x4_49), (5, .int x5_49), (6, .int x6_88), (7, .int x7_88), (8, .int x8_88)]), W p l e { frames := 3, cells := 0, slots := 0, locals := 65 } s m args below meth c H locs 0 0 (MQ below (q_Q (some (.int r0)) (fun H => q_W D al dt H ∧ q_Rk al 0 (some (.int r0))) (q_A al)) args s 0 0 (q_A al)) (F0 m 88 ls [.int t1_88, .int t0_88]) := by
        intro x6_88 x7_88 x8_88 t0_88 t1_88 H locs ls hm hW hS hl
        unfold X12_near_b88 at hm
        refine lv_iadd hx hb dX12_near_88 ?_
        refine lv_istore (i := 9) (lv' := [(9, .int (t0_88 + t1_88)), (0, .ref x0_49), (1, .int x1_49), (2, .int x2_49), (3, .int x3_49), (4, .int x4_49), (5, .int x5_49), (6, .int x6_88), (7, .int x7_88), (8, .int x8_88)]) hx hb dX12_near_89 hl (by decide) rfl (fun ls hl => ?_)
        refine lv_iload hx hb dX12_near_91 (lv_at hl 0 rfl) ?_
        refine lv_iload hx hb dX12_near_93 (lv_at hl 8 rfl) ?_
        refine q_ifc hm (fun c88001 hm => ?_) (fun c88001 hm => ?_)
        · refine lv_icmp_lt (tgt := 101) hx hb dX12_near_95 (by decide) (fun _ => ?_) (fun h => absurd c88001 h)
          refine lv_iload hx hb dX12_near_101 (lv_at hl 9 rfl) ?_
          refine lv_istore (i := 6) (lv' := [(6, .int x8_88), (9, .int (t0_88 + t1_88)), (0, .ref x0_49), (1, .int x1_49), (2, .int x2_49), (3, .int x3_49), (4, .int x4_49), (5, .int x5_49), (7, .int x7_88), (8, .int x8_88)]) hx hb dX12_near_103 hl (by decide) rfl (fun ls hl => ?_)
          refine lv_iload hx hb dX12_near_105 (lv_at hl 1 rfl) ?_
          refine lv_istore (i := 7) (lv' := [(7, .int (t0_88 + t1_88)), (6, .int x8_88), (9, .int (t0_88 + t1_88)), (0, .ref x0_49), (1, .int x1_49), (2, .int x2_49), (3, .int x3_49), (4, .int x4_49), (5, .int x5_49), (8, .int x8_88)]) hx hb dX12_near_107 hl (by decide) rfl (fun ls hl => ?_)
          exact hB109 x8_88 (t0_88 + t1_88) x8_88 _ _ _ hm hW hS (lv_sub hl [3, 4, 5, 6, 7, 8, 1, 0, 9] rfl)
        refine lv_icmp_lt (tgt := 101) hx hb dX12_near_95 (by decide) (fun h => absurd h c88001) (fun _ => ?_)
        refine lv_goto (tgt := 109) hx hb dX12_near_98 (by decide) ?_
        exact hB109 x6_88 x7_88 x8_88 _ _ _ hm hW hS (lv_sub hl [1, 2, 3, 4, 5, 6, 7, 8, 9] rfl)
      intro x6_49 x7_49 x8_49 H locs ls hm hW hS hl
      rw [X12_near_b49] at hm
      refine lv_iload hx hb dX12_near_49 (lv_at hl 8 rfl) ?_
      refine lv_iload hx hb dX12_near_51 (lv_at hl 5 rfl) ?_
      refine q_ifc hm (fun c49001 hm => ?_) (fun c49001 hm => ?_)
      · refine lv_icmp_gt (tgt := 115) hx hb dX12_near_53 (by decide) (fun _ => ?_) (fun h => absurd c49001 h)
        refine lv_iload hx hb dX12_near_115 (lv_at hl 6 rfl) ?_
        exact e_i C hW hS hm dX12_near_117
      refine lv_icmp_gt (tgt := 115) hx hb dX12_near_53 (by decide) (fun h => absurd h c49001) (fun _ => ?_)
      refine lv_iload hx hb dX12_near_56 (lv_at hl 8 rfl) ?_
      refine lv_iload_n hx hb dX12_near_58 rfl (lv_at hl 2 rfl) ?_
      refine lv_aload_n hx hb dX12_near_59 rfl (lv_at hl 0 rfl) ?_
      refine lv_iload_n hx hb dX12_near_60 rfl (lv_at hl 1 rfl) ?_
      obtain ⟨v49003, hc49002, hm⟩ := q_b1i hm
      refine q_callV C hW hS (As := [.int x1_49]) (rest := [.int x2_49, .int x8_49]) (st1 := [.int v49003, .int x2_49, .int x8_49]) (c_X12_long0 l D al dt x0_49 x1_49 kx0_49 v49003 hc49002) yl_X12_long0 vl_X12_long0 ml_RX12_327 (ci := 12) rfl kx0_49 (by decide) rfl ⟨Nat.le_of_ble_eq_true rfl, Nat.le_of_ble_eq_true rfl⟩ hl rfl (Nat.le_of_ble_eq_true rfl) dX12_near_61 ⟨Nat.le_refl _, Nat.le_refl _⟩ rfl (fun H locs k49004 hW hS => ?_)
      obtain ⟨v49006, hc49005, hm⟩ := q_b1i hm
      refine q_callS C hW hS (As := [.int x8_49, .int x2_49, .int v49003]) (rest := []) (st1 := [.int v49006]) (c_X12_apart l D al dt x8_49 x2_49 v49003 v49006 hc49005) yl_X12_apart sl_X12_apart ml_RX12_441 rfl ⟨Nat.le_of_ble_eq_true rfl, Nat.le_of_ble_eq_true rfl⟩ hl rfl (Nat.le_of_ble_eq_true rfl) dX12_near_64 ⟨Nat.le_refl _, Nat.le_refl _⟩ rfl (fun H locs k49007 hW hS => ?_)
      refine lv_iload_n hx hb dX12_near_67 rfl (lv_at hl 3 rfl) ?_
      refine lv_iconst (v := (-1)) hx hb dX12_near_68 (by decide) ?_
      refine q_ifc hm (fun c49008 hm => ?_) (fun c49008 hm => ?_)
      · refine lv_icmp_ne (tgt := 76) hx hb dX12_near_69 (by decide) (fun h => absurd c49008 h) (fun _ => ?_)
        refine lv_iconst (v := 0) hx hb dX12_near_72 (by decide) ?_
        refine lv_goto (tgt := 88) hx hb dX12_near_73 (by decide) ?_
        exact hB88 x6_49 x7_49 x8_49 v49006 0 _ _ _ hm hW hS (lv_sub hl [0, 1, 2, 3, 4, 5, 6, 7, 8] rfl)
      refine lv_icmp_ne (tgt := 76) hx hb dX12_near_69 (by decide) (fun _ => ?_) (fun h => absurd h c49008)
      refine lv_iload hx hb dX12_near_76 (lv_at hl 8 rfl) ?_
      refine lv_iload hx hb dX12_near_78 (lv_at hl 4 rfl) ?_
      refine lv_aload_n hx hb dX12_near_80 rfl (lv_at hl 0 rfl) ?_
      refine lv_iload_n hx hb dX12_near_81 rfl (lv_at hl 3 rfl) ?_
      obtain ⟨v49010, hc49009, hm⟩ := q_b1i hm
      refine q_callV C hW hS (As := [.int x3_49]) (rest := [.int x4_49, .int x8_49, .int v49006]) (st1 := [.int v49010, .int x4_49, .int x8_49, .int v49006]) (c_X12_long0 l D al dt x0_49 x3_49 kx0_49 v49010 hc49009) yl_X12_long0 vl_X12_long0 ml_RX12_327 (ci := 12) rfl kx0_49 (by decide) rfl ⟨Nat.le_of_ble_eq_true rfl, Nat.le_of_ble_eq_true rfl⟩ hl rfl (Nat.le_of_ble_eq_true rfl) dX12_near_82 ⟨Nat.le_refl _, Nat.le_refl _⟩ rfl (fun H locs k49011 hW hS => ?_)
      obtain ⟨v49013, hc49012, hm⟩ := q_b1i hm
      refine q_callS C hW hS (As := [.int x8_49, .int x4_49, .int v49010]) (rest := [.int v49006]) (st1 := [.int v49013, .int v49006]) (c_X12_apart l D al dt x8_49 x4_49 v49010 v49013 hc49012) yl_X12_apart sl_X12_apart ml_RX12_441 rfl ⟨Nat.le_of_ble_eq_true rfl, Nat.le_of_ble_eq_true rfl⟩ hl rfl (Nat.le_of_ble_eq_true rfl) dX12_near_85 ⟨Nat.le_refl _, Nat.le_refl _⟩ rfl (fun H locs k49014 hW hS => ?_)
      exact hB88 x6_49 x7_49 x8_49 v49006 v49013 _ _ _ hm hW hS (lv_sub hl [0, 1, 2, 3, 4, 5, 6, 7, 8] rfl)
  have hB24 : ∀ (x0_24 : Nat) (x1_24 : Int32) (x2_24 : Int32) (x3_24 : Int32) (x4_24 : Int32) (x5_24 : Int32) (kx0_24 : al.1 x0_24 = 13) (H : Heap) (locs : List Loc) (ls : Array Slot) (hm : X12_near_b24 al dt x0_24 x1_24 x2_24 x3_24 x4_24 x5_24 = some r0) (hW : q_W D al dt H) (hS : va_S (q_A al) s.heap H locs) (hl : lv_has ls 10 [(0, .ref x0_24), (1, .int x1_24), (2, .int x2_24), (3, .int x3_24), (4, .int x4_24), (5, .int x5_24)]), W p l e { frames := 3, cells := 0, slots := 0, locals := 65 } s m args below meth c H locs 0 0 (MQ below (q_Q (some (.int r0)) (fun H => q_W D al dt H ∧ q_Rk al 0 (some (.int r0))) (q_A al)) args s 0 0 (q_A al)) (F0 m 24 ls []) := by
    intro x0_24 x1_24 x2_24 x3_24 x4_24 x5_24 kx0_24 H locs ls hm hW hS hl
    unfold X12_near_b24 at hm
    refine lv_iload hx hb dX12_near_24 (lv_at hl 5 rfl) ?_
    refine lv_iconst (v := 0) hx hb dX12_near_26 (by decide) ?_
    refine lv_sipush (v := 20000) hx hb dX12_near_27 (by decide) ?_
    obtain ⟨v24002, hc24001, hm⟩ := q_b1i hm
    refine q_callS C hW hS (As := [.int x5_24, .int 0, .int 20000]) (rest := []) (st1 := [.int v24002]) (c_X12_in l D al dt x5_24 0 20000 v24002 hc24001) yl_X12_in sl_X12_in ml_RX12_376 rfl ⟨Nat.le_of_ble_eq_true rfl, Nat.le_of_ble_eq_true rfl⟩ hl rfl (Nat.le_of_ble_eq_true rfl) dX12_near_30 ⟨Nat.le_refl _, Nat.le_refl _⟩ rfl (fun H locs k24003 hW hS => ?_)
    refine q_ifc hm (fun c24004 hm => ?_) (fun c24004 hm => ?_)
    · refine lv_if_ne (tgt := 38) hx hb dX12_near_33 (by decide) (fun h => absurd c24004 h) (fun _ => ?_)
      refine lv_iconst (v := (-1)) hx hb dX12_near_36 (by decide) ?_
      exact e_i C hW hS hm dX12_near_37
    refine lv_if_ne (tgt := 38) hx hb dX12_near_33 (by decide) (fun _ => ?_) (fun h => absurd h c24004)
    refine lv_iconst (v := 0) hx hb dX12_near_38 (by decide) ?_
    refine lv_istore (i := 6) (lv' := [(6, .int 0), (0, .ref x0_24), (1, .int x1_24), (2, .int x2_24), (3, .int x3_24), (4, .int x4_24), (5, .int x5_24)]) hx hb dX12_near_39 hl (by decide) rfl (fun ls hl => ?_)
    refine lv_ldcw (own := RX12) (v := 100000) hx hb hown (hts _ wc_RX12_487) dX12_near_41 ?_
    refine lv_istore (i := 7) (lv' := [(7, .int 100000), (6, .int 0), (0, .ref x0_24), (1, .int x1_24), (2, .int x2_24), (3, .int x3_24), (4, .int x4_24), (5, .int x5_24)]) hx hb dX12_near_44 hl (by decide) rfl (fun ls hl => ?_)
    refine lv_iconst (v := 0) hx hb dX12_near_46 (by decide) ?_
    refine lv_istore (i := 8) (lv' := [(8, .int 0), (7, .int 100000), (6, .int 0), (0, .ref x0_24), (1, .int x1_24), (2, .int x2_24), (3, .int x3_24), (4, .int x4_24), (5, .int x5_24)]) hx hb dX12_near_47 hl (by decide) rfl (fun ls hl => ?_)
    exact hB49 x0_24 x1_24 x2_24 x3_24 x4_24 x5_24 kx0_24 q_FU 0 100000 0 _ _ _ hm hW hS (lv_sub hl [3, 4, 5, 6, 7, 8, 2, 1, 0] rfl)
  refine lv_aload_n hx hb dX12_near_0 rfl (lv_at hl 0 rfl) ?_
  refine lv_iload_n hx hb dX12_near_1 rfl (lv_at hl 1 rfl) ?_
  refine lv_iload_n hx hb dX12_near_2 rfl (lv_at hl 2 rfl) ?_
  obtain ⟨v1000002, hc1000001, hm⟩ := q_b1i hm
  refine q_callV C hW hS (As := [.int x1, .int x2]) (rest := []) (st1 := [.int v1000002]) (c_X12_isRest l D al dt x0 x1 x2 kx0 v1000002 hc1000001) yl_X12_isRest vl_X12_isRest ml_RX12_478 (ci := 12) rfl kx0 (by decide) rfl ⟨Nat.le_of_ble_eq_true rfl, Nat.le_of_ble_eq_true rfl⟩ hl rfl (Nat.le_of_ble_eq_true rfl) dX12_near_3 ⟨Nat.le_refl _, Nat.le_refl _⟩ rfl (fun H locs k1000003 hW hS => ?_)
  refine q_ifc hm (fun c1000004 hm => ?_) (fun c1000004 hm => ?_)
  · refine lv_if_eq (tgt := 36) hx hb dX12_near_6 (by decide) (fun _ => ?_) (fun h => absurd c1000004 h)
    refine lv_iconst (v := (-1)) hx hb dX12_near_36 (by decide) ?_
    exact e_i C hW hS hm dX12_near_37
  refine lv_if_eq (tgt := 36) hx hb dX12_near_6 (by decide) (fun h => absurd h c1000004) (fun _ => ?_)
  refine lv_iload_n hx hb dX12_near_9 rfl (lv_at hl 3 rfl) ?_
  refine lv_iconst (v := (-1)) hx hb dX12_near_10 (by decide) ?_
  refine q_ifc hm (fun c1000005 hm => ?_) (fun c1000005 hm => ?_)
  · refine lv_icmp_eq (tgt := 24) hx hb dX12_near_11 (by decide) (fun _ => ?_) (fun h => absurd c1000005 h)
    exact hB24 x0 x1 x2 x3 x4 x5 kx0 _ _ _ hm hW hS (lv_sub hl [0, 1, 2, 3, 4, 5] rfl)
  refine lv_icmp_eq (tgt := 24) hx hb dX12_near_11 (by decide) (fun h => absurd h c1000005) (fun _ => ?_)
  refine lv_aload_n hx hb dX12_near_14 rfl (lv_at hl 0 rfl) ?_
  refine lv_iload_n hx hb dX12_near_15 rfl (lv_at hl 3 rfl) ?_
  refine lv_iload hx hb dX12_near_16 (lv_at hl 4 rfl) ?_
  obtain ⟨v1000007, hc1000006, hm⟩ := q_b1i hm
  refine q_callV C hW hS (As := [.int x3, .int x4]) (rest := []) (st1 := [.int v1000007]) (c_X12_isRest l D al dt x0 x3 x4 kx0 v1000007 hc1000006) yl_X12_isRest vl_X12_isRest ml_RX12_478 (ci := 12) rfl kx0 (by decide) rfl ⟨Nat.le_of_ble_eq_true rfl, Nat.le_of_ble_eq_true rfl⟩ hl rfl (Nat.le_of_ble_eq_true rfl) dX12_near_18 ⟨Nat.le_refl _, Nat.le_refl _⟩ rfl (fun H locs k1000008 hW hS => ?_)
  refine q_ifc hm (fun c1000009 hm => ?_) (fun c1000009 hm => ?_)
  · refine lv_if_eq (tgt := 36) hx hb dX12_near_21 (by decide) (fun _ => ?_) (fun h => absurd c1000009 h)
    refine lv_iconst (v := (-1)) hx hb dX12_near_36 (by decide) ?_
    exact e_i C hW hS hm dX12_near_37
  refine lv_if_eq (tgt := 36) hx hb dX12_near_21 (by decide) (fun h => absurd h c1000009) (fun _ => ?_)
  exact hB24 x0 x1 x2 x3 x4 x5 kx0 _ _ _ hm hW hS (lv_sub hl [0, 1, 2, 3, 4, 5] rfl)
theorem dX12_isHop_0 : decode cX12_isHop 0 = .ok (.iload_n 1, 1) := by decide +kernel
theorem dX12_isHop_1 : decode cX12_isHop 1 = .ok (.iconst 0, 1) := by decide +kernel
theorem dX12_isHop_2 : decode cX12_isHop 2 = .ok (.aload_n 0, 1) := by decide +kernel
theorem dX12_isHop_3 : decode cX12_isHop 3 = .ok (.getfield 58, 3) := by decide +kernel
theorem dX12_isHop_6 : decode cX12_isHop 6 = .ok (.aload_n 0, 1) := by decide +kernel
theorem dX12_isHop_7 : decode cX12_isHop 7 = .ok (.getfield 242, 3) := by decide +kernel
theorem dX12_isHop_10 : decode cX12_isHop 10 = .ok (.iaload, 1) := by decide +kernel
theorem dX12_isHop_11 : decode cX12_isHop 11 = .ok (.iconst 1, 1) := by decide +kernel
theorem dX12_isHop_12 : decode cX12_isHop 12 = .ok (.isub, 1) := by decide +kernel
theorem dX12_isHop_13 : decode cX12_isHop 13 = .ok (.invokestatic 376, 3) := by decide +kernel
theorem dX12_isHop_16 : decode cX12_isHop 16 = .ok (.ireturn, 1) := by decide +kernel
set_option maxRecDepth 100000 in
theorem c_X12_isHop (l : Launch) (D : q_D) (al : q_Al) (dt : q_Dt) (x0 : Nat) (x1 : Int32) (kx0 : al.1 x0 = 13) (r0 : Int32) (hm : X12_isHop al dt x0 x1 = some r0) : q_Mt l yX12_isHop cX12_isHop 2 (some FieldType.boolean) 1 22 D al [.ref x0, .int x1] dt 0 (some (.int r0)) dt := by
  refine q_Mt.of (by decide) (Nat.le_of_ble_eq_true rfl) ?_
  intro p e s m args below meth c ls C hargs hW hl
  have hx := C.1
  have hb := C.2.1
  have hown := C.2.2.2.2.2.1
  have hts := C.2.2.2.2.2.2.1
  have hS : va_S (q_A al) s.heap s.heap [] := va_S.rf
  have hl : lv_has ls 2 [(0, .ref x0), (1, .int x1)] := hl
  unfold X12_isHop at hm
  refine lv_iload_n hx hb dX12_isHop_0 rfl (lv_at hl 1 rfl) ?_
  refine lv_iconst (v := 0) hx hb dX12_isHop_1 (by decide) ?_
  refine lv_aload_n hx hb dX12_isHop_2 rfl (lv_at hl 0 rfl) ?_
  refine r_getF C hW (ci := 12) kx0 ff_12_27 cl_12 fl_RX12_58 dX12_isHop_3 (fun k1000001 => ?_)
  refine lv_aload_n hx hb dX12_isHop_6 rfl (lv_at hl 0 rfl) ?_
  refine r_getI C hW (ci := 12) kx0 ff_12_18 cl_12 fl_RX12_242 dX12_isHop_7 ?_
  refine r_iald C hW hm k1000001 dX12_isHop_10 (fun hm => ?_)
  refine lv_iconst (v := 1) hx hb dX12_isHop_11 (by decide) ?_
  refine lv_isub hx hb dX12_isHop_12 ?_
  obtain ⟨v1000003, hc1000002, hm⟩ := q_b1i hm
  refine q_callS C hW hS (As := [.int x1, .int 0, .int ((dt.1 (al.2.2 x0 27) (Int32.toNatClampNeg (dt.1 x0 18))) - 1)]) (rest := []) (st1 := [.int v1000003]) (c_X12_in l D al dt x1 0 ((dt.1 (al.2.2 x0 27) (Int32.toNatClampNeg (dt.1 x0 18))) - 1) v1000003 hc1000002) yl_X12_in sl_X12_in ml_RX12_376 rfl ⟨Nat.le_of_ble_eq_true rfl, Nat.le_of_ble_eq_true rfl⟩ hl rfl (Nat.le_of_ble_eq_true rfl) dX12_isHop_13 ⟨Nat.le_refl _, Nat.le_refl _⟩ rfl (fun H locs k1000004 hW hS => ?_)
  exact e_z C hW hS hm dX12_isHop_16
theorem dX12_p_0 : decode cX12_p 0 = .ok (.aload_n 0, 1) := by decide +kernel
theorem dX12_p_1 : decode cX12_p 1 = .ok (.getfield 61, 3) := by decide +kernel
theorem dX12_p_4 : decode cX12_p 4 = .ok (.bipush 6, 2) := by decide +kernel
theorem dX12_p_6 : decode cX12_p 6 = .ok (.aload_n 0, 1) := by decide +kernel
theorem dX12_p_7 : decode cX12_p 7 = .ok (.getfield 242, 3) := by decide +kernel
theorem dX12_p_10 : decode cX12_p 10 = .ok (.imul, 1) := by decide +kernel
theorem dX12_p_11 : decode cX12_p 11 = .ok (.iload_n 1, 1) := by decide +kernel
theorem dX12_p_12 : decode cX12_p 12 = .ok (.iadd, 1) := by decide +kernel
theorem dX12_p_13 : decode cX12_p 13 = .ok (.iaload, 1) := by decide +kernel
theorem dX12_p_14 : decode cX12_p 14 = .ok (.ireturn, 1) := by decide +kernel
set_option maxRecDepth 100000 in
theorem c_X12_p (l : Launch) (D : q_D) (al : q_Al) (dt : q_Dt) (x0 : Nat) (x1 : Int32) (kx0 : al.1 x0 = 13) (r0 : Int32) (hm : X12_p al dt x0 x1 = some r0) : q_Mt l yX12_p cX12_p 2 (some FieldType.int) 0 0 D al [.ref x0, .int x1] dt 0 (some (.int r0)) dt := by
  refine q_Mt.of (by decide) (Nat.le_of_ble_eq_true rfl) ?_
  intro p e s m args below meth c ls C hargs hW hl
  have hx := C.1
  have hb := C.2.1
  have hown := C.2.2.2.2.2.1
  have hts := C.2.2.2.2.2.2.1
  have hS : va_S (q_A al) s.heap s.heap [] := va_S.rf
  have hl : lv_has ls 2 [(0, .ref x0), (1, .int x1)] := hl
  unfold X12_p at hm
  refine lv_aload_n hx hb dX12_p_0 rfl (lv_at hl 0 rfl) ?_
  refine r_getF C hW (ci := 12) kx0 ff_12_28 cl_12 fl_RX12_61 dX12_p_1 (fun k1000001 => ?_)
  refine lv_bipush (v := 6) hx hb dX12_p_4 (by decide) ?_
  refine lv_aload_n hx hb dX12_p_6 rfl (lv_at hl 0 rfl) ?_
  refine r_getI C hW (ci := 12) kx0 ff_12_18 cl_12 fl_RX12_242 dX12_p_7 ?_
  refine lv_imul hx hb dX12_p_10 ?_
  refine lv_iload_n hx hb dX12_p_11 rfl (lv_at hl 1 rfl) ?_
  refine lv_iadd hx hb dX12_p_12 ?_
  refine r_iald C hW hm k1000001 dX12_p_13 (fun hm => ?_)
  exact e_i C hW hS hm dX12_p_14
theorem dX12_channel_0 : decode cX12_channel 0 = .ok (.iload_n 2, 1) := by decide +kernel
theorem dX12_channel_1 : decode cX12_channel 1 = .ok (.aload_n 0, 1) := by decide +kernel
theorem dX12_channel_2 : decode cX12_channel 2 = .ok (.iload_n 1, 1) := by decide +kernel
theorem dX12_channel_3 : decode cX12_channel 3 = .ok (.invokevirtual 488, 3) := by decide +kernel
theorem dX12_channel_6 : decode cX12_channel 6 = .ok (.irem, 1) := by decide +kernel
theorem dX12_channel_7 : decode cX12_channel 7 = .ok (.istore_n 3, 1) := by decide +kernel
theorem dX12_channel_8 : decode cX12_channel 8 = .ok (.aload_n 0, 1) := by decide +kernel
theorem dX12_channel_9 : decode cX12_channel 9 = .ok (.getfield 64, 3) := by decide +kernel
theorem dX12_channel_12 : decode cX12_channel 12 = .ok (.bipush 6, 2) := by decide +kernel
theorem dX12_channel_14 : decode cX12_channel 14 = .ok (.aload_n 0, 1) := by decide +kernel
theorem dX12_channel_15 : decode cX12_channel 15 = .ok (.getfield 242, 3) := by decide +kernel
theorem dX12_channel_18 : decode cX12_channel 18 = .ok (.imul, 1) := by decide +kernel
theorem dX12_channel_19 : decode cX12_channel 19 = .ok (.iload_n 1, 1) := by decide +kernel
theorem dX12_channel_20 : decode cX12_channel 20 = .ok (.iadd, 1) := by decide +kernel
theorem dX12_channel_21 : decode cX12_channel 21 = .ok (.iaload, 1) := by decide +kernel
theorem dX12_channel_22 : decode cX12_channel 22 = .ok (.iload_n 3, 1) := by decide +kernel
theorem dX12_channel_23 : decode cX12_channel 23 = .ok (.imul, 1) := by decide +kernel
theorem dX12_channel_24 : decode cX12_channel 24 = .ok (.iload_n 3, 1) := by decide +kernel
theorem dX12_channel_25 : decode cX12_channel 25 = .ok (.imul, 1) := by decide +kernel
theorem dX12_channel_26 : decode cX12_channel 26 = .ok (.aload_n 0, 1) := by decide +kernel
theorem dX12_channel_27 : decode cX12_channel 27 = .ok (.getfield 67, 3) := by decide +kernel
theorem dX12_channel_30 : decode cX12_channel 30 = .ok (.bipush 6, 2) := by decide +kernel
theorem dX12_channel_32 : decode cX12_channel 32 = .ok (.aload_n 0, 1) := by decide +kernel
theorem dX12_channel_33 : decode cX12_channel 33 = .ok (.getfield 242, 3) := by decide +kernel
theorem dX12_channel_36 : decode cX12_channel 36 = .ok (.imul, 1) := by decide +kernel
theorem dX12_channel_37 : decode cX12_channel 37 = .ok (.iload_n 1, 1) := by decide +kernel
theorem dX12_channel_38 : decode cX12_channel 38 = .ok (.iadd, 1) := by decide +kernel
theorem dX12_channel_39 : decode cX12_channel 39 = .ok (.iaload, 1) := by decide +kernel
theorem dX12_channel_40 : decode cX12_channel 40 = .ok (.iload_n 3, 1) := by decide +kernel
theorem dX12_channel_41 : decode cX12_channel 41 = .ok (.imul, 1) := by decide +kernel
theorem dX12_channel_42 : decode cX12_channel 42 = .ok (.iadd, 1) := by decide +kernel
theorem dX12_channel_43 : decode cX12_channel 43 = .ok (.aload_n 0, 1) := by decide +kernel
theorem dX12_channel_44 : decode cX12_channel 44 = .ok (.iload_n 1, 1) := by decide +kernel
theorem dX12_channel_45 : decode cX12_channel 45 = .ok (.invokevirtual 488, 3) := by decide +kernel
theorem dX12_channel_48 : decode cX12_channel 48 = .ok (.irem, 1) := by decide +kernel
theorem dX12_channel_49 : decode cX12_channel 49 = .ok (.ireturn, 1) := by decide +kernel
set_option maxRecDepth 100000 in
theorem c_X12_channel (l : Launch) (D : q_D) (al : q_Al) (dt : q_Dt) (x0 : Nat) (x1 : Int32) (x2 : Int32) (kx0 : al.1 x0 = 13) (r0 : Int32) (hm : X12_channel al dt x0 x1 x2 = some r0) : q_Mt l yX12_channel cX12_channel 4 (some FieldType.int) 1 21 D al [.ref x0, .int x1, .int x2] dt 0 (some (.int r0)) dt := by
  refine q_Mt.of (by decide) (Nat.le_of_ble_eq_true rfl) ?_
  intro p e s m args below meth c ls C hargs hW hl
  have hx := C.1
  have hb := C.2.1
  have hown := C.2.2.2.2.2.1
  have hts := C.2.2.2.2.2.2.1
  have hS : va_S (q_A al) s.heap s.heap [] := va_S.rf
  have hl : lv_has ls 4 [(0, .ref x0), (1, .int x1), (2, .int x2)] := hl
  unfold X12_channel at hm
  refine lv_iload_n hx hb dX12_channel_0 rfl (lv_at hl 2 rfl) ?_
  refine lv_aload_n hx hb dX12_channel_1 rfl (lv_at hl 0 rfl) ?_
  refine lv_iload_n hx hb dX12_channel_2 rfl (lv_at hl 1 rfl) ?_
  obtain ⟨v1000002, hc1000001, hm⟩ := q_b1i hm
  refine q_callV C hW hS (As := [.int x1]) (rest := [.int x2]) (st1 := [.int v1000002, .int x2]) (c_X12_p l D al dt x0 x1 kx0 v1000002 hc1000001) yl_X12_p vl_X12_p ml_RX12_488 (ci := 12) rfl kx0 (by decide) rfl ⟨Nat.le_of_ble_eq_true rfl, Nat.le_of_ble_eq_true rfl⟩ hl rfl (Nat.le_of_ble_eq_true rfl) dX12_channel_3 ⟨Nat.le_refl _, Nat.le_refl _⟩ rfl (fun H locs k1000003 hW hS => ?_)
  obtain ⟨c1000004, hm⟩ := q_ini hm
  refine lv_irem hx hb dX12_channel_6 c1000004 ?_
  refine lv_istore_n (i := 3) (lv' := [(3, .int (q_ir x2 v1000002)), (0, .ref x0), (1, .int x1), (2, .int x2)]) hx hb dX12_channel_7 rfl hl (by decide) rfl (fun ls hl => ?_)
  refine lv_aload_n hx hb dX12_channel_8 rfl (lv_at hl 1 rfl) ?_
  refine r_getF C hW (ci := 12) kx0 ff_12_29 cl_12 fl_RX12_64 dX12_channel_9 (fun k1000005 => ?_)
  refine lv_bipush (v := 6) hx hb dX12_channel_12 (by decide) ?_
  refine lv_aload_n hx hb dX12_channel_14 rfl (lv_at hl 1 rfl) ?_
  refine r_getI C hW (ci := 12) kx0 ff_12_18 cl_12 fl_RX12_242 dX12_channel_15 ?_
  refine lv_imul hx hb dX12_channel_18 ?_
  refine lv_iload_n hx hb dX12_channel_19 rfl (lv_at hl 2 rfl) ?_
  refine lv_iadd hx hb dX12_channel_20 ?_
  refine r_iald C hW hm k1000005 dX12_channel_21 (fun hm => ?_)
  refine lv_iload_n hx hb dX12_channel_22 rfl (lv_at hl 0 rfl) ?_
  refine lv_imul hx hb dX12_channel_23 ?_
  refine lv_iload_n hx hb dX12_channel_24 rfl (lv_at hl 0 rfl) ?_
  refine lv_imul hx hb dX12_channel_25 ?_
  refine lv_aload_n hx hb dX12_channel_26 rfl (lv_at hl 1 rfl) ?_
  refine r_getF C hW (ci := 12) kx0 ff_12_30 cl_12 fl_RX12_67 dX12_channel_27 (fun k1000006 => ?_)
  refine lv_bipush (v := 6) hx hb dX12_channel_30 (by decide) ?_
  refine lv_aload_n hx hb dX12_channel_32 rfl (lv_at hl 1 rfl) ?_
  refine r_getI C hW (ci := 12) kx0 ff_12_18 cl_12 fl_RX12_242 dX12_channel_33 ?_
  refine lv_imul hx hb dX12_channel_36 ?_
  refine lv_iload_n hx hb dX12_channel_37 rfl (lv_at hl 2 rfl) ?_
  refine lv_iadd hx hb dX12_channel_38 ?_
  refine r_iald C hW hm k1000006 dX12_channel_39 (fun hm => ?_)
  refine lv_iload_n hx hb dX12_channel_40 rfl (lv_at hl 0 rfl) ?_
  refine lv_imul hx hb dX12_channel_41 ?_
  refine lv_iadd hx hb dX12_channel_42 ?_
  refine lv_aload_n hx hb dX12_channel_43 rfl (lv_at hl 1 rfl) ?_
  refine lv_iload_n hx hb dX12_channel_44 rfl (lv_at hl 2 rfl) ?_
  obtain ⟨v1000008, hc1000007, hm⟩ := q_b1i hm
  refine q_callV C hW hS (As := [.int x1]) (rest := [.int ((((dt.1 (al.2.2 x0 29) (Int32.toNatClampNeg ((6 * (dt.1 x0 18)) + x1))) * (q_ir x2 v1000002)) * (q_ir x2 v1000002)) + ((dt.1 (al.2.2 x0 30) (Int32.toNatClampNeg ((6 * (dt.1 x0 18)) + x1))) * (q_ir x2 v1000002)))]) (st1 := [.int v1000008, .int ((((dt.1 (al.2.2 x0 29) (Int32.toNatClampNeg ((6 * (dt.1 x0 18)) + x1))) * (q_ir x2 v1000002)) * (q_ir x2 v1000002)) + ((dt.1 (al.2.2 x0 30) (Int32.toNatClampNeg ((6 * (dt.1 x0 18)) + x1))) * (q_ir x2 v1000002)))]) (c_X12_p l D al dt x0 x1 kx0 v1000008 hc1000007) yl_X12_p vl_X12_p ml_RX12_488 (ci := 12) rfl kx0 (by decide) rfl ⟨Nat.le_of_ble_eq_true rfl, Nat.le_of_ble_eq_true rfl⟩ hl rfl (Nat.le_of_ble_eq_true rfl) dX12_channel_45 ⟨Nat.le_refl _, Nat.le_refl _⟩ rfl (fun H locs k1000009 hW hS => ?_)
  obtain ⟨c1000010, hm⟩ := q_ini hm
  refine lv_irem hx hb dX12_channel_48 c1000010 ?_
  exact e_i C hW hS hm dX12_channel_49
