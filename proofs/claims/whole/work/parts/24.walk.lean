theorem dX12_tellSend_0 : decode cX12_tellSend 0 = .ok (.bipush 6, 2) := by decide +kernel
theorem dX12_tellSend_2 : decode cX12_tellSend 2 = .ok (.aload_n 0, 1) := by decide +kernel
theorem dX12_tellSend_3 : decode cX12_tellSend 3 = .ok (.getfield 245, 3) := by decide +kernel
theorem dX12_tellSend_6 : decode cX12_tellSend 6 = .ok (.imul, 1) := by decide +kernel
theorem dX12_tellSend_7 : decode cX12_tellSend 7 = .ok (.aload_n 0, 1) := by decide +kernel
theorem dX12_tellSend_8 : decode cX12_tellSend 8 = .ok (.getfield 70, 3) := by decide +kernel
theorem dX12_tellSend_11 : decode cX12_tellSend 11 = .ok (.aload_n 0, 1) := by decide +kernel
theorem dX12_tellSend_12 : decode cX12_tellSend 12 = .ok (.getfield 245, 3) := by decide +kernel
theorem dX12_tellSend_15 : decode cX12_tellSend 15 = .ok (.iaload, 1) := by decide +kernel
theorem dX12_tellSend_16 : decode cX12_tellSend 16 = .ok (.iadd, 1) := by decide +kernel
theorem dX12_tellSend_17 : decode cX12_tellSend 17 = .ok (.istore_n 1, 1) := by decide +kernel
theorem dX12_tellSend_18 : decode cX12_tellSend 18 = .ok (.aload_n 0, 1) := by decide +kernel
theorem dX12_tellSend_19 : decode cX12_tellSend 19 = .ok (.invokevirtual 290, 3) := by decide +kernel
theorem dX12_tellSend_22 : decode cX12_tellSend 22 = .ok (.istore_n 2, 1) := by decide +kernel
theorem dX12_tellSend_23 : decode cX12_tellSend 23 = .ok (.aload_n 0, 1) := by decide +kernel
theorem dX12_tellSend_24 : decode cX12_tellSend 24 = .ok (.iconst 0, 1) := by decide +kernel
theorem dX12_tellSend_25 : decode cX12_tellSend 25 = .ok (.invokevirtual 315, 3) := by decide +kernel
theorem dX12_tellSend_28 : decode cX12_tellSend 28 = .ok (.istore_n 3, 1) := by decide +kernel
theorem dX12_tellSend_29 : decode cX12_tellSend 29 = .ok (.aload_n 0, 1) := by decide +kernel
theorem dX12_tellSend_30 : decode cX12_tellSend 30 = .ok (.getfield 73, 3) := by decide +kernel
theorem dX12_tellSend_33 : decode cX12_tellSend 33 = .ok (.iload_n 1, 1) := by decide +kernel
theorem dX12_tellSend_34 : decode cX12_tellSend 34 = .ok (.iload_n 3, 1) := by decide +kernel
theorem dX12_tellSend_35 : decode cX12_tellSend 35 = .ok (.iastore, 1) := by decide +kernel
theorem dX12_tellSend_36 : decode cX12_tellSend 36 = .ok (.aload_n 0, 1) := by decide +kernel
theorem dX12_tellSend_37 : decode cX12_tellSend 37 = .ok (.getfield 76, 3) := by decide +kernel
theorem dX12_tellSend_40 : decode cX12_tellSend 40 = .ok (.iload_n 1, 1) := by decide +kernel
theorem dX12_tellSend_41 : decode cX12_tellSend 41 = .ok (.aload_n 0, 1) := by decide +kernel
theorem dX12_tellSend_42 : decode cX12_tellSend 42 = .ok (.iconst 1, 1) := by decide +kernel
theorem dX12_tellSend_43 : decode cX12_tellSend 43 = .ok (.bipush 99, 2) := by decide +kernel
theorem dX12_tellSend_45 : decode cX12_tellSend 45 = .ok (.invokevirtual 276, 3) := by decide +kernel
theorem dX12_tellSend_48 : decode cX12_tellSend 48 = .ok (.iastore, 1) := by decide +kernel
theorem dX12_tellSend_49 : decode cX12_tellSend 49 = .ok (.aload_n 0, 1) := by decide +kernel
theorem dX12_tellSend_50 : decode cX12_tellSend 50 = .ok (.getfield 212, 3) := by decide +kernel
theorem dX12_tellSend_53 : decode cX12_tellSend 53 = .ok (.ifCond .ne 11, 3) := by decide +kernel
theorem dX12_tellSend_56 : decode cX12_tellSend 56 = .ok (.iload_n 3, 1) := by decide +kernel
theorem dX12_tellSend_57 : decode cX12_tellSend 57 = .ok (.ifCond .lt 7, 3) := by decide +kernel
theorem dX12_tellSend_60 : decode cX12_tellSend 60 = .ok (.iconst 1, 1) := by decide +kernel
theorem dX12_tellSend_61 : decode cX12_tellSend 61 = .ok (.goto 4, 3) := by decide +kernel
theorem dX12_tellSend_64 : decode cX12_tellSend 64 = .ok (.iconst 0, 1) := by decide +kernel
theorem dX12_tellSend_65 : decode cX12_tellSend 65 = .ok (.istore 4, 2) := by decide +kernel
theorem dX12_tellSend_67 : decode cX12_tellSend 67 = .ok (.aload_n 0, 1) := by decide +kernel
theorem dX12_tellSend_68 : decode cX12_tellSend 68 = .ok (.getfield 79, 3) := by decide +kernel
theorem dX12_tellSend_71 : decode cX12_tellSend 71 = .ok (.iload_n 1, 1) := by decide +kernel
theorem dX12_tellSend_72 : decode cX12_tellSend 72 = .ok (.aload_n 0, 1) := by decide +kernel
theorem dX12_tellSend_73 : decode cX12_tellSend 73 = .ok (.iload 4, 2) := by decide +kernel
theorem dX12_tellSend_75 : decode cX12_tellSend 75 = .ok (.iconst 0, 1) := by decide +kernel
theorem dX12_tellSend_76 : decode cX12_tellSend 76 = .ok (.iload 4, 2) := by decide +kernel
theorem dX12_tellSend_78 : decode cX12_tellSend 78 = .ok (.ifCond .eq 22, 3) := by decide +kernel
theorem dX12_tellSend_81 : decode cX12_tellSend 81 = .ok (.aload_n 0, 1) := by decide +kernel
theorem dX12_tellSend_82 : decode cX12_tellSend 82 = .ok (.getfield 52, 3) := by decide +kernel
theorem dX12_tellSend_85 : decode cX12_tellSend 85 = .ok (.bipush 8, 2) := by decide +kernel
theorem dX12_tellSend_87 : decode cX12_tellSend 87 = .ok (.aload_n 0, 1) := by decide +kernel
theorem dX12_tellSend_88 : decode cX12_tellSend 88 = .ok (.getfield 245, 3) := by decide +kernel
theorem dX12_tellSend_91 : decode cX12_tellSend 91 = .ok (.imul, 1) := by decide +kernel
theorem dX12_tellSend_92 : decode cX12_tellSend 92 = .ok (.iload_n 3, 1) := by decide +kernel
theorem dX12_tellSend_93 : decode cX12_tellSend 93 = .ok (.iadd, 1) := by decide +kernel
theorem dX12_tellSend_94 : decode cX12_tellSend 94 = .ok (.iaload, 1) := by decide +kernel
theorem dX12_tellSend_95 : decode cX12_tellSend 95 = .ok (.iconst 1, 1) := by decide +kernel
theorem dX12_tellSend_96 : decode cX12_tellSend 96 = .ok (.isub, 1) := by decide +kernel
theorem dX12_tellSend_97 : decode cX12_tellSend 97 = .ok (.goto 4, 3) := by decide +kernel
theorem dX12_tellSend_100 : decode cX12_tellSend 100 = .ok (.iconst 0, 1) := by decide +kernel
theorem dX12_tellSend_101 : decode cX12_tellSend 101 = .ok (.invokevirtual 294, 3) := by decide +kernel
theorem dX12_tellSend_104 : decode cX12_tellSend 104 = .ok (.iastore, 1) := by decide +kernel
theorem dX12_tellSend_105 : decode cX12_tellSend 105 = .ok (.aload_n 0, 1) := by decide +kernel
theorem dX12_tellSend_106 : decode cX12_tellSend 106 = .ok (.getfield 82, 3) := by decide +kernel
theorem dX12_tellSend_109 : decode cX12_tellSend 109 = .ok (.iload_n 1, 1) := by decide +kernel
theorem dX12_tellSend_110 : decode cX12_tellSend 110 = .ok (.aload_n 0, 1) := by decide +kernel
theorem dX12_tellSend_111 : decode cX12_tellSend 111 = .ok (.iconst 0, 1) := by decide +kernel
theorem dX12_tellSend_112 : decode cX12_tellSend 112 = .ok (.iconst 3, 1) := by decide +kernel
theorem dX12_tellSend_113 : decode cX12_tellSend 113 = .ok (.invokevirtual 276, 3) := by decide +kernel
theorem dX12_tellSend_116 : decode cX12_tellSend 116 = .ok (.iastore, 1) := by decide +kernel
theorem dX12_tellSend_117 : decode cX12_tellSend 117 = .ok (.aload_n 0, 1) := by decide +kernel
theorem dX12_tellSend_118 : decode cX12_tellSend 118 = .ok (.getfield 85, 3) := by decide +kernel
theorem dX12_tellSend_121 : decode cX12_tellSend 121 = .ok (.iload_n 1, 1) := by decide +kernel
theorem dX12_tellSend_122 : decode cX12_tellSend 122 = .ok (.aload_n 0, 1) := by decide +kernel
theorem dX12_tellSend_123 : decode cX12_tellSend 123 = .ok (.iconst 0, 1) := by decide +kernel
theorem dX12_tellSend_124 : decode cX12_tellSend 124 = .ok (.sipush 9999, 3) := by decide +kernel
theorem dX12_tellSend_127 : decode cX12_tellSend 127 = .ok (.invokevirtual 276, 3) := by decide +kernel
theorem dX12_tellSend_130 : decode cX12_tellSend 130 = .ok (.iastore, 1) := by decide +kernel
theorem dX12_tellSend_131 : decode cX12_tellSend 131 = .ok (.aload_n 0, 1) := by decide +kernel
theorem dX12_tellSend_132 : decode cX12_tellSend 132 = .ok (.getfield 88, 3) := by decide +kernel
theorem dX12_tellSend_135 : decode cX12_tellSend 135 = .ok (.iload_n 1, 1) := by decide +kernel
theorem dX12_tellSend_136 : decode cX12_tellSend 136 = .ok (.iconst 0, 1) := by decide +kernel
theorem dX12_tellSend_137 : decode cX12_tellSend 137 = .ok (.iastore, 1) := by decide +kernel
theorem dX12_tellSend_138 : decode cX12_tellSend 138 = .ok (.aload_n 0, 1) := by decide +kernel
theorem dX12_tellSend_139 : decode cX12_tellSend 139 = .ok (.getfield 212, 3) := by decide +kernel
theorem dX12_tellSend_142 : decode cX12_tellSend 142 = .ok (.ifCond .ne 29, 3) := by decide +kernel
theorem dX12_tellSend_145 : decode cX12_tellSend 145 = .ok (.aload_n 0, 1) := by decide +kernel
theorem dX12_tellSend_146 : decode cX12_tellSend 146 = .ok (.bipush 30, 2) := by decide +kernel
theorem dX12_tellSend_148 : decode cX12_tellSend 148 = .ok (.invokevirtual 230, 3) := by decide +kernel
theorem dX12_tellSend_151 : decode cX12_tellSend 151 = .ok (.ifCond .eq 20, 3) := by decide +kernel
theorem dX12_tellSend_154 : decode cX12_tellSend 154 = .ok (.aload_n 0, 1) := by decide +kernel
theorem dX12_tellSend_155 : decode cX12_tellSend 155 = .ok (.invokevirtual 233, 3) := by decide +kernel
theorem dX12_tellSend_158 : decode cX12_tellSend 158 = .ok (.aload_n 0, 1) := by decide +kernel
theorem dX12_tellSend_159 : decode cX12_tellSend 159 = .ok (.getfield 88, 3) := by decide +kernel
theorem dX12_tellSend_162 : decode cX12_tellSend 162 = .ok (.iload_n 1, 1) := by decide +kernel
theorem dX12_tellSend_163 : decode cX12_tellSend 163 = .ok (.aload_n 0, 1) := by decide +kernel
theorem dX12_tellSend_164 : decode cX12_tellSend 164 = .ok (.iconst 1, 1) := by decide +kernel
theorem dX12_tellSend_165 : decode cX12_tellSend 165 = .ok (.bipush 99, 2) := by decide +kernel
theorem dX12_tellSend_167 : decode cX12_tellSend 167 = .ok (.invokevirtual 276, 3) := by decide +kernel
theorem dX12_tellSend_170 : decode cX12_tellSend 170 = .ok (.iastore, 1) := by decide +kernel
theorem dX12_tellSend_171 : decode cX12_tellSend 171 = .ok (.aload_n 0, 1) := by decide +kernel
theorem dX12_tellSend_172 : decode cX12_tellSend 172 = .ok (.iconst 4, 1) := by decide +kernel
theorem dX12_tellSend_173 : decode cX12_tellSend 173 = .ok (.invokevirtual 280, 3) := by decide +kernel
theorem dX12_tellSend_176 : decode cX12_tellSend 176 = .ok (.aload_n 0, 1) := by decide +kernel
theorem dX12_tellSend_177 : decode cX12_tellSend 177 = .ok (.getfield 212, 3) := by decide +kernel
theorem dX12_tellSend_180 : decode cX12_tellSend 180 = .ok (.ifCond .le 4, 3) := by decide +kernel
theorem dX12_tellSend_183 : decode cX12_tellSend 183 = .ok (.return_, 1) := by decide +kernel
theorem dX12_tellSend_184 : decode cX12_tellSend 184 = .ok (.aload_n 0, 1) := by decide +kernel
theorem dX12_tellSend_185 : decode cX12_tellSend 185 = .ok (.iload_n 2, 1) := by decide +kernel
theorem dX12_tellSend_186 : decode cX12_tellSend 186 = .ok (.iconst 2, 1) := by decide +kernel
theorem dX12_tellSend_187 : decode cX12_tellSend 187 = .ok (.aload_n 0, 1) := by decide +kernel
theorem dX12_tellSend_188 : decode cX12_tellSend 188 = .ok (.getfield 70, 3) := by decide +kernel
theorem dX12_tellSend_191 : decode cX12_tellSend 191 = .ok (.aload_n 0, 1) := by decide +kernel
theorem dX12_tellSend_192 : decode cX12_tellSend 192 = .ok (.getfield 245, 3) := by decide +kernel
theorem dX12_tellSend_195 : decode cX12_tellSend 195 = .ok (.iaload, 1) := by decide +kernel
theorem dX12_tellSend_196 : decode cX12_tellSend 196 = .ok (.invokevirtual 312, 3) := by decide +kernel
theorem dX12_tellSend_199 : decode cX12_tellSend 199 = .ok (.aload_n 0, 1) := by decide +kernel
theorem dX12_tellSend_200 : decode cX12_tellSend 200 = .ok (.getfield 70, 3) := by decide +kernel
theorem dX12_tellSend_203 : decode cX12_tellSend 203 = .ok (.aload_n 0, 1) := by decide +kernel
theorem dX12_tellSend_204 : decode cX12_tellSend 204 = .ok (.getfield 245, 3) := by decide +kernel
theorem dX12_tellSend_207 : decode cX12_tellSend 207 = .ok (.dup2, 1) := by decide +kernel
theorem dX12_tellSend_208 : decode cX12_tellSend 208 = .ok (.iaload, 1) := by decide +kernel
theorem dX12_tellSend_209 : decode cX12_tellSend 209 = .ok (.iconst 1, 1) := by decide +kernel
theorem dX12_tellSend_210 : decode cX12_tellSend 210 = .ok (.iadd, 1) := by decide +kernel
theorem dX12_tellSend_211 : decode cX12_tellSend 211 = .ok (.iastore, 1) := by decide +kernel
theorem dX12_tellSend_212 : decode cX12_tellSend 212 = .ok (.return_, 1) := by decide +kernel
set_option maxRecDepth 100000 in
theorem c_X12_tellSend (l : Launch) (D : q_D) (al : q_Al) (dt : q_Dt) (x0 : Nat) (kx0 : al.1 x0 = 13) (dt0 : q_Dt) (hm : X12_tellSend al dt x0 = some dt0) : q_Mt l yX12_tellSend cX12_tellSend 5 (none) 4 87 D al [.ref x0] dt 0 none dt0 := by
  refine q_Mt.of (by decide) (Nat.le_of_ble_eq_true rfl) ?_
  intro p e s m args below meth c ls C hargs hW hl
  have hx := C.1
  have hb := C.2.1
  have hown := C.2.2.2.2.2.1
  have hts := C.2.2.2.2.2.2.1
  have hS : va_S (q_A al) s.heap s.heap [] := va_S.rf
  have hl : lv_has ls 5 [(0, .ref x0)] := hl
  unfold X12_tellSend at hm
  have hB171 : ∀ (x0_171 : Nat) (x2_171 : Int32) (kx0_171 : al.1 x0_171 = 13) (dt : q_Dt) (H : Heap) (locs : List Loc) (ls : Array Slot) (hm : X12_tellSend_b171 al x0_171 x2_171 dt = some dt0) (hW : q_W D al dt H) (hS : va_S (q_A al) s.heap H locs) (hl : lv_has ls 5 [(0, .ref x0_171), (2, .int x2_171)]), W p l e { frames := 4, cells := 0, slots := 0, locals := 87 } s m args below meth c H locs 0 0 (MQ below (q_Q none (fun H => q_W D al dt0 H ∧ q_Rk al 0 none) (q_A al)) args s 0 0 (q_A al)) (F0 m 171 ls []) := by
    intro x0_171 x2_171 kx0_171 dt H locs ls hm hW hS hl
    unfold X12_tellSend_b171 at hm
    refine lv_aload_n hx hb dX12_tellSend_171 rfl (lv_at hl 0 rfl) ?_
    refine lv_iconst (v := 4) hx hb dX12_tellSend_172 (by decide) ?_
    obtain ⟨dt171002, hc171001, hm⟩ := q_b1i hm
    refine q_callV C hW hS (As := [.int 4]) (rest := []) (st1 := []) (c_X12_must l D al dt x0_171 4 kx0_171 dt171002 hc171001) yl_X12_must vl_X12_must ml_RX12_280 (ci := 12) rfl kx0_171 (by decide) rfl ⟨Nat.le_of_ble_eq_true rfl, Nat.le_of_ble_eq_true rfl⟩ hl rfl (Nat.le_of_ble_eq_true rfl) dX12_tellSend_173 ⟨Nat.le_refl _, Nat.le_refl _⟩ rfl (fun H locs k171003 hW hS => ?_)
    refine lv_aload_n hx hb dX12_tellSend_176 rfl (lv_at hl 0 rfl) ?_
    refine r_getI C hW (ci := 12) kx0_171 ff_12_13 cl_12 fl_RX12_212 dX12_tellSend_177 ?_
    refine q_ifc hm (fun c171004 hm => ?_) (fun c171004 hm => ?_)
    · refine lv_if_le (tgt := 184) hx hb dX12_tellSend_180 (by decide) (fun _ => ?_) (fun h => absurd c171004 h)
      refine lv_aload_n hx hb dX12_tellSend_184 rfl (lv_at hl 0 rfl) ?_
      refine lv_iload_n hx hb dX12_tellSend_185 rfl (lv_at hl 1 rfl) ?_
      refine lv_iconst (v := 2) hx hb dX12_tellSend_186 (by decide) ?_
      refine lv_aload_n hx hb dX12_tellSend_187 rfl (lv_at hl 0 rfl) ?_
      refine r_getF C hW (ci := 12) kx0_171 ff_12_31 cl_12 fl_RX12_70 dX12_tellSend_188 (fun k171005 => ?_)
      refine lv_aload_n hx hb dX12_tellSend_191 rfl (lv_at hl 0 rfl) ?_
      refine r_getI C hW (ci := 12) kx0_171 ff_12_19 cl_12 fl_RX12_245 dX12_tellSend_192 ?_
      refine r_iald C hW hm k171005 dX12_tellSend_195 (fun hm => ?_)
      obtain ⟨dt171007, hc171006, hm⟩ := q_b1i hm
      refine q_callV C hW hS (As := [.int x2_171, .int 2, .int (dt171002.1 (al.2.2 x0_171 31) (Int32.toNatClampNeg (dt171002.1 x0_171 19)))]) (rest := []) (st1 := []) (c_X12_notes l D al dt171002 x0_171 x2_171 2 (dt171002.1 (al.2.2 x0_171 31) (Int32.toNatClampNeg (dt171002.1 x0_171 19))) kx0_171 dt171007 hc171006) yl_X12_notes vl_X12_notes ml_RX12_312 (ci := 12) rfl kx0_171 (by decide) rfl ⟨Nat.le_of_ble_eq_true rfl, Nat.le_of_ble_eq_true rfl⟩ hl rfl (Nat.le_of_ble_eq_true rfl) dX12_tellSend_196 ⟨Nat.le_refl _, Nat.le_refl _⟩ rfl (fun H locs k171008 hW hS => ?_)
      refine lv_aload_n hx hb dX12_tellSend_199 rfl (lv_at hl 0 rfl) ?_
      refine r_getF C hW (ci := 12) kx0_171 ff_12_31 cl_12 fl_RX12_70 dX12_tellSend_200 (fun k171009 => ?_)
      refine lv_aload_n hx hb dX12_tellSend_203 rfl (lv_at hl 0 rfl) ?_
      refine r_getI C hW (ci := 12) kx0_171 ff_12_19 cl_12 fl_RX12_245 dX12_tellSend_204 ?_
      refine lv_dup2_11 hx hb dX12_tellSend_207 rfl rfl ?_
      refine r_iald C hW hm k171009 dX12_tellSend_208 (fun hm => ?_)
      refine lv_iconst (v := 1) hx hb dX12_tellSend_209 (by decide) ?_
      refine lv_iadd hx hb dX12_tellSend_210 ?_
      refine r_iast C hW hS hm k171009 dX12_tellSend_211 (fun dt171010 H locs hm hW hS => ?_)
      exact e_vD C hW hS hm dX12_tellSend_212
    refine lv_if_le (tgt := 184) hx hb dX12_tellSend_180 (by decide) (fun h => absurd h c171004) (fun _ => ?_)
    exact e_vD C hW hS hm dX12_tellSend_183
  have hB101 : ∀ (x0_101 : Nat) (x1_101 : Int32) (x2_101 : Int32) (t0_101 : Nat) (t1_101 : Int32) (t2_101 : Nat) (t3_101 : Int32) (t4_101 : Int32) (t5_101 : Int32) (kx0_101 : al.1 x0_101 = 13) (kt0_101 : al.1 t0_101 = 21) (kt2_101 : al.1 t2_101 = 13) (dt : q_Dt) (H : Heap) (locs : List Loc) (ls : Array Slot) (hm : X12_tellSend_b101 al x0_101 x1_101 x2_101 t0_101 t1_101 t2_101 t3_101 t4_101 t5_101 dt = some dt0) (hW : q_W D al dt H) (hS : va_S (q_A al) s.heap H locs) (hl : lv_has ls 5 [(0, .ref x0_101), (1, .int x1_101), (2, .int x2_101)]), W p l e { frames := 4, cells := 0, slots := 0, locals := 87 } s m args below meth c H locs 0 0 (MQ below (q_Q none (fun H => q_W D al dt0 H ∧ q_Rk al 0 none) (q_A al)) args s 0 0 (q_A al)) (F0 m 101 ls [.int t5_101, .int t4_101, .int t3_101, .ref t2_101, .int t1_101, .ref t0_101]) := by
    intro x0_101 x1_101 x2_101 t0_101 t1_101 t2_101 t3_101 t4_101 t5_101 kx0_101 kt0_101 kt2_101 dt H locs ls hm hW hS hl
    unfold X12_tellSend_b101 at hm
    obtain ⟨v101002, dt101003, hc101001, hm⟩ := q_b2i hm
    refine q_callV C hW hS (As := [.int t3_101, .int t4_101, .int t5_101]) (rest := [.int t1_101, .ref t0_101]) (st1 := [.int v101002, .int t1_101, .ref t0_101]) (c_X12_hangs l D al dt t2_101 t3_101 t4_101 t5_101 kt2_101 v101002 dt101003 hc101001) yl_X12_hangs vl_X12_hangs ml_RX12_294 (ci := 12) rfl kt2_101 (by decide) rfl ⟨Nat.le_of_ble_eq_true rfl, Nat.le_of_ble_eq_true rfl⟩ hl rfl (Nat.le_of_ble_eq_true rfl) dX12_tellSend_101 ⟨Nat.le_refl _, Nat.le_refl _⟩ rfl (fun H locs k101004 hW hS => ?_)
    refine r_iast C hW hS hm kt0_101 dX12_tellSend_104 (fun dt101005 H locs hm hW hS => ?_)
    refine lv_aload_n hx hb dX12_tellSend_105 rfl (lv_at hl 0 rfl) ?_
    refine r_getF C hW (ci := 12) kx0_101 ff_12_35 cl_12 fl_RX12_82 dX12_tellSend_106 (fun k101006 => ?_)
    refine lv_iload_n hx hb dX12_tellSend_109 rfl (lv_at hl 1 rfl) ?_
    refine lv_aload_n hx hb dX12_tellSend_110 rfl (lv_at hl 0 rfl) ?_
    refine lv_iconst (v := 0) hx hb dX12_tellSend_111 (by decide) ?_
    refine lv_iconst (v := 3) hx hb dX12_tellSend_112 (by decide) ?_
    obtain ⟨v101008, dt101009, hc101007, hm⟩ := q_b2i hm
    refine q_callV C hW hS (As := [.int 0, .int 3]) (rest := [.int x1_101, .ref (al.2.2 x0_101 35)]) (st1 := [.int v101008, .int x1_101, .ref (al.2.2 x0_101 35)]) (c_X12_bounded l D al dt101005 x0_101 0 3 kx0_101 v101008 dt101009 hc101007) yl_X12_bounded vl_X12_bounded ml_RX12_276 (ci := 12) rfl kx0_101 (by decide) rfl ⟨Nat.le_of_ble_eq_true rfl, Nat.le_of_ble_eq_true rfl⟩ hl rfl (Nat.le_of_ble_eq_true rfl) dX12_tellSend_113 ⟨Nat.le_refl _, Nat.le_refl _⟩ rfl (fun H locs k101010 hW hS => ?_)
    refine r_iast C hW hS hm k101006 dX12_tellSend_116 (fun dt101011 H locs hm hW hS => ?_)
    refine lv_aload_n hx hb dX12_tellSend_117 rfl (lv_at hl 0 rfl) ?_
    refine r_getF C hW (ci := 12) kx0_101 ff_12_36 cl_12 fl_RX12_85 dX12_tellSend_118 (fun k101012 => ?_)
    refine lv_iload_n hx hb dX12_tellSend_121 rfl (lv_at hl 1 rfl) ?_
    refine lv_aload_n hx hb dX12_tellSend_122 rfl (lv_at hl 0 rfl) ?_
    refine lv_iconst (v := 0) hx hb dX12_tellSend_123 (by decide) ?_
    refine lv_sipush (v := 9999) hx hb dX12_tellSend_124 (by decide) ?_
    obtain ⟨v101014, dt101015, hc101013, hm⟩ := q_b2i hm
    refine q_callV C hW hS (As := [.int 0, .int 9999]) (rest := [.int x1_101, .ref (al.2.2 x0_101 36)]) (st1 := [.int v101014, .int x1_101, .ref (al.2.2 x0_101 36)]) (c_X12_bounded l D al dt101011 x0_101 0 9999 kx0_101 v101014 dt101015 hc101013) yl_X12_bounded vl_X12_bounded ml_RX12_276 (ci := 12) rfl kx0_101 (by decide) rfl ⟨Nat.le_of_ble_eq_true rfl, Nat.le_of_ble_eq_true rfl⟩ hl rfl (Nat.le_of_ble_eq_true rfl) dX12_tellSend_127 ⟨Nat.le_refl _, Nat.le_refl _⟩ rfl (fun H locs k101016 hW hS => ?_)
    refine r_iast C hW hS hm k101012 dX12_tellSend_130 (fun dt101017 H locs hm hW hS => ?_)
    refine lv_aload_n hx hb dX12_tellSend_131 rfl (lv_at hl 0 rfl) ?_
    refine r_getF C hW (ci := 12) kx0_101 ff_12_37 cl_12 fl_RX12_88 dX12_tellSend_132 (fun k101018 => ?_)
    refine lv_iload_n hx hb dX12_tellSend_135 rfl (lv_at hl 1 rfl) ?_
    refine lv_iconst (v := 0) hx hb dX12_tellSend_136 (by decide) ?_
    refine r_iast C hW hS hm k101018 dX12_tellSend_137 (fun dt101019 H locs hm hW hS => ?_)
    refine lv_aload_n hx hb dX12_tellSend_138 rfl (lv_at hl 0 rfl) ?_
    refine r_getI C hW (ci := 12) kx0_101 ff_12_13 cl_12 fl_RX12_212 dX12_tellSend_139 ?_
    refine q_ifc hm (fun c101020 hm => ?_) (fun c101020 hm => ?_)
    · refine lv_if_ne (tgt := 171) hx hb dX12_tellSend_142 (by decide) (fun h => absurd c101020 h) (fun _ => ?_)
      refine lv_aload_n hx hb dX12_tellSend_145 rfl (lv_at hl 0 rfl) ?_
      refine lv_bipush (v := 30) hx hb dX12_tellSend_146 (by decide) ?_
      obtain ⟨v101022, hc101021, hm⟩ := q_b1i hm
      refine q_callV C hW hS (As := [.int 30]) (rest := []) (st1 := [.int v101022]) (c_X12_is l D al dt101019 x0_101 30 kx0_101 v101022 hc101021) yl_X12_is vl_X12_is ml_RX12_230 (ci := 12) rfl kx0_101 (by decide) rfl ⟨Nat.le_of_ble_eq_true rfl, Nat.le_of_ble_eq_true rfl⟩ hl rfl (Nat.le_of_ble_eq_true rfl) dX12_tellSend_148 ⟨Nat.le_refl _, Nat.le_refl _⟩ rfl (fun H locs k101023 hW hS => ?_)
      refine q_ifc hm (fun c101024 hm => ?_) (fun c101024 hm => ?_)
      · refine lv_if_eq (tgt := 171) hx hb dX12_tellSend_151 (by decide) (fun _ => ?_) (fun h => absurd c101024 h)
        exact hB171 x0_101 x2_101 kx0_101 dt101019 _ _ _ hm hW hS (lv_sub hl [0, 2] rfl)
      refine lv_if_eq (tgt := 171) hx hb dX12_tellSend_151 (by decide) (fun h => absurd h c101024) (fun _ => ?_)
      refine lv_aload_n hx hb dX12_tellSend_154 rfl (lv_at hl 0 rfl) ?_
      obtain ⟨dt101026, hc101025, hm⟩ := q_b1i hm
      refine q_callV C hW hS (As := []) (rest := []) (st1 := []) (c_X12_goesOn l D al dt101019 x0_101 kx0_101 dt101026 hc101025) yl_X12_goesOn vl_X12_goesOn ml_RX12_233 (ci := 12) rfl kx0_101 (by decide) rfl ⟨Nat.le_of_ble_eq_true rfl, Nat.le_of_ble_eq_true rfl⟩ hl rfl (Nat.le_of_ble_eq_true rfl) dX12_tellSend_155 ⟨Nat.le_refl _, Nat.le_refl _⟩ rfl (fun H locs k101027 hW hS => ?_)
      refine lv_aload_n hx hb dX12_tellSend_158 rfl (lv_at hl 0 rfl) ?_
      refine r_getF C hW (ci := 12) kx0_101 ff_12_37 cl_12 fl_RX12_88 dX12_tellSend_159 (fun k101028 => ?_)
      refine lv_iload_n hx hb dX12_tellSend_162 rfl (lv_at hl 1 rfl) ?_
      refine lv_aload_n hx hb dX12_tellSend_163 rfl (lv_at hl 0 rfl) ?_
      refine lv_iconst (v := 1) hx hb dX12_tellSend_164 (by decide) ?_
      refine lv_bipush (v := 99) hx hb dX12_tellSend_165 (by decide) ?_
      obtain ⟨v101030, dt101031, hc101029, hm⟩ := q_b2i hm
      refine q_callV C hW hS (As := [.int 1, .int 99]) (rest := [.int x1_101, .ref (al.2.2 x0_101 37)]) (st1 := [.int v101030, .int x1_101, .ref (al.2.2 x0_101 37)]) (c_X12_bounded l D al dt101026 x0_101 1 99 kx0_101 v101030 dt101031 hc101029) yl_X12_bounded vl_X12_bounded ml_RX12_276 (ci := 12) rfl kx0_101 (by decide) rfl ⟨Nat.le_of_ble_eq_true rfl, Nat.le_of_ble_eq_true rfl⟩ hl rfl (Nat.le_of_ble_eq_true rfl) dX12_tellSend_167 ⟨Nat.le_refl _, Nat.le_refl _⟩ rfl (fun H locs k101032 hW hS => ?_)
      refine r_iast C hW hS hm k101028 dX12_tellSend_170 (fun dt101033 H locs hm hW hS => ?_)
      exact hB171 x0_101 x2_101 kx0_101 dt101033 _ _ _ hm hW hS (lv_sub hl [0, 2] rfl)
    refine lv_if_ne (tgt := 171) hx hb dX12_tellSend_142 (by decide) (fun _ => ?_) (fun h => absurd h c101020)
    exact hB171 x0_101 x2_101 kx0_101 dt101019 _ _ _ hm hW hS (lv_sub hl [0, 2] rfl)
  have hB65 : ∀ (x0_65 : Nat) (x1_65 : Int32) (x2_65 : Int32) (x3_65 : Int32) (t0_65 : Int32) (kx0_65 : al.1 x0_65 = 13) (dt : q_Dt) (H : Heap) (locs : List Loc) (ls : Array Slot) (hm : X12_tellSend_b65 al x0_65 x1_65 x2_65 x3_65 t0_65 dt = some dt0) (hW : q_W D al dt H) (hS : va_S (q_A al) s.heap H locs) (hl : lv_has ls 5 [(0, .ref x0_65), (1, .int x1_65), (2, .int x2_65), (3, .int x3_65)]), W p l e { frames := 4, cells := 0, slots := 0, locals := 87 } s m args below meth c H locs 0 0 (MQ below (q_Q none (fun H => q_W D al dt0 H ∧ q_Rk al 0 none) (q_A al)) args s 0 0 (q_A al)) (F0 m 65 ls [.int t0_65]) := by
    intro x0_65 x1_65 x2_65 x3_65 t0_65 kx0_65 dt H locs ls hm hW hS hl
    unfold X12_tellSend_b65 at hm
    refine lv_istore (i := 4) (lv' := [(4, .int t0_65), (0, .ref x0_65), (1, .int x1_65), (2, .int x2_65), (3, .int x3_65)]) hx hb dX12_tellSend_65 hl (by decide) rfl (fun ls hl => ?_)
    refine lv_aload_n hx hb dX12_tellSend_67 rfl (lv_at hl 1 rfl) ?_
    refine r_getF C hW (ci := 12) kx0_65 ff_12_34 cl_12 fl_RX12_79 dX12_tellSend_68 (fun k65001 => ?_)
    refine lv_iload_n hx hb dX12_tellSend_71 rfl (lv_at hl 2 rfl) ?_
    refine lv_aload_n hx hb dX12_tellSend_72 rfl (lv_at hl 1 rfl) ?_
    refine lv_iload hx hb dX12_tellSend_73 (lv_at hl 0 rfl) ?_
    refine lv_iconst (v := 0) hx hb dX12_tellSend_75 (by decide) ?_
    refine lv_iload hx hb dX12_tellSend_76 (lv_at hl 0 rfl) ?_
    refine q_ifc hm (fun c65002 hm => ?_) (fun c65002 hm => ?_)
    · refine lv_if_eq (tgt := 100) hx hb dX12_tellSend_78 (by decide) (fun _ => ?_) (fun h => absurd c65002 h)
      refine lv_iconst (v := 0) hx hb dX12_tellSend_100 (by decide) ?_
      exact hB101 x0_65 x1_65 x2_65 (al.2.2 x0_65 34) x1_65 x0_65 t0_65 0 0 kx0_65 k65001 kx0_65 dt _ _ _ hm hW hS (lv_sub hl [1, 2, 3] rfl)
    refine lv_if_eq (tgt := 100) hx hb dX12_tellSend_78 (by decide) (fun h => absurd h c65002) (fun _ => ?_)
    refine lv_aload_n hx hb dX12_tellSend_81 rfl (lv_at hl 1 rfl) ?_
    refine r_getF C hW (ci := 12) kx0_65 ff_12_25 cl_12 fl_RX12_52 dX12_tellSend_82 (fun k65003 => ?_)
    refine lv_bipush (v := 8) hx hb dX12_tellSend_85 (by decide) ?_
    refine lv_aload_n hx hb dX12_tellSend_87 rfl (lv_at hl 1 rfl) ?_
    refine r_getI C hW (ci := 12) kx0_65 ff_12_19 cl_12 fl_RX12_245 dX12_tellSend_88 ?_
    refine lv_imul hx hb dX12_tellSend_91 ?_
    refine lv_iload_n hx hb dX12_tellSend_92 rfl (lv_at hl 4 rfl) ?_
    refine lv_iadd hx hb dX12_tellSend_93 ?_
    refine r_iald C hW hm k65003 dX12_tellSend_94 (fun hm => ?_)
    refine lv_iconst (v := 1) hx hb dX12_tellSend_95 (by decide) ?_
    refine lv_isub hx hb dX12_tellSend_96 ?_
    refine lv_goto (tgt := 101) hx hb dX12_tellSend_97 (by decide) ?_
    exact hB101 x0_65 x1_65 x2_65 (al.2.2 x0_65 34) x1_65 x0_65 t0_65 0 ((dt.1 (al.2.2 x0_65 25) (Int32.toNatClampNeg ((8 * (dt.1 x0_65 19)) + x3_65))) - 1) kx0_65 k65001 kx0_65 dt _ _ _ hm hW hS (lv_sub hl [1, 2, 3] rfl)
  have hB64 : ∀ (x0_64 : Nat) (x1_64 : Int32) (x2_64 : Int32) (x3_64 : Int32) (kx0_64 : al.1 x0_64 = 13) (dt : q_Dt) (H : Heap) (locs : List Loc) (ls : Array Slot) (hm : X12_tellSend_b64 al x0_64 x1_64 x2_64 x3_64 dt = some dt0) (hW : q_W D al dt H) (hS : va_S (q_A al) s.heap H locs) (hl : lv_has ls 5 [(0, .ref x0_64), (1, .int x1_64), (2, .int x2_64), (3, .int x3_64)]), W p l e { frames := 4, cells := 0, slots := 0, locals := 87 } s m args below meth c H locs 0 0 (MQ below (q_Q none (fun H => q_W D al dt0 H ∧ q_Rk al 0 none) (q_A al)) args s 0 0 (q_A al)) (F0 m 64 ls []) := by
    intro x0_64 x1_64 x2_64 x3_64 kx0_64 dt H locs ls hm hW hS hl
    unfold X12_tellSend_b64 at hm
    refine lv_iconst (v := 0) hx hb dX12_tellSend_64 (by decide) ?_
    exact hB65 x0_64 x1_64 x2_64 x3_64 0 kx0_64 dt _ _ _ hm hW hS (lv_sub hl [0, 1, 2, 3] rfl)
  refine lv_bipush (v := 6) hx hb dX12_tellSend_0 (by decide) ?_
  refine lv_aload_n hx hb dX12_tellSend_2 rfl (lv_at hl 0 rfl) ?_
  refine r_getI C hW (ci := 12) kx0 ff_12_19 cl_12 fl_RX12_245 dX12_tellSend_3 ?_
  refine lv_imul hx hb dX12_tellSend_6 ?_
  refine lv_aload_n hx hb dX12_tellSend_7 rfl (lv_at hl 0 rfl) ?_
  refine r_getF C hW (ci := 12) kx0 ff_12_31 cl_12 fl_RX12_70 dX12_tellSend_8 (fun k1000001 => ?_)
  refine lv_aload_n hx hb dX12_tellSend_11 rfl (lv_at hl 0 rfl) ?_
  refine r_getI C hW (ci := 12) kx0 ff_12_19 cl_12 fl_RX12_245 dX12_tellSend_12 ?_
  refine r_iald C hW hm k1000001 dX12_tellSend_15 (fun hm => ?_)
  refine lv_iadd hx hb dX12_tellSend_16 ?_
  refine q_nmI hm (fun v1000002 ev1000002 hm => ?_)
  refine lv_istore_n (i := 1) (lv' := [(1, .int v1000002), (0, .ref x0)]) hx hb dX12_tellSend_17 rfl hl (by decide) rfl (fun ls hl => ?_)
  refine lv_aload_n hx hb dX12_tellSend_18 rfl (lv_at hl 1 rfl) ?_
  obtain ⟨v1000004, dt1000005, hc1000003, hm⟩ := q_b2i hm
  refine q_callV C hW hS (As := []) (rest := []) (st1 := [.int v1000004]) (c_X12_named l D al dt x0 kx0 v1000004 dt1000005 hc1000003) yl_X12_named vl_X12_named ml_RX12_290 (ci := 12) rfl kx0 (by decide) rfl ⟨Nat.le_of_ble_eq_true rfl, Nat.le_of_ble_eq_true rfl⟩ hl rfl (Nat.le_of_ble_eq_true rfl) dX12_tellSend_19 ⟨Nat.le_refl _, Nat.le_refl _⟩ rfl (fun H locs k1000006 hW hS => ?_)
  refine lv_istore_n (i := 2) (lv' := [(2, .int v1000004), (1, .int v1000002), (0, .ref x0)]) hx hb dX12_tellSend_22 rfl hl (by decide) rfl (fun ls hl => ?_)
  refine lv_aload_n hx hb dX12_tellSend_23 rfl (lv_at hl 2 rfl) ?_
  refine lv_iconst (v := 0) hx hb dX12_tellSend_24 (by decide) ?_
  obtain ⟨v1000008, dt1000009, hc1000007, hm⟩ := q_b2i hm
  refine q_callV C hW hS (As := [.int 0]) (rest := []) (st1 := [.int v1000008]) (c_X12_known l D al dt1000005 x0 0 kx0 v1000008 dt1000009 hc1000007) yl_X12_known vl_X12_known ml_RX12_315 (ci := 12) rfl kx0 (by decide) rfl ⟨Nat.le_of_ble_eq_true rfl, Nat.le_of_ble_eq_true rfl⟩ hl rfl (Nat.le_of_ble_eq_true rfl) dX12_tellSend_25 ⟨Nat.le_refl _, Nat.le_refl _⟩ rfl (fun H locs k1000010 hW hS => ?_)
  refine lv_istore_n (i := 3) (lv' := [(3, .int v1000008), (2, .int v1000004), (1, .int v1000002), (0, .ref x0)]) hx hb dX12_tellSend_28 rfl hl (by decide) rfl (fun ls hl => ?_)
  refine lv_aload_n hx hb dX12_tellSend_29 rfl (lv_at hl 3 rfl) ?_
  refine r_getF C hW (ci := 12) kx0 ff_12_32 cl_12 fl_RX12_73 dX12_tellSend_30 (fun k1000011 => ?_)
  refine lv_iload_n hx hb dX12_tellSend_33 rfl (lv_at hl 2 rfl) ?_
  refine lv_iload_n hx hb dX12_tellSend_34 rfl (lv_at hl 0 rfl) ?_
  refine r_iast C hW hS hm k1000011 dX12_tellSend_35 (fun dt1000012 H locs hm hW hS => ?_)
  refine lv_aload_n hx hb dX12_tellSend_36 rfl (lv_at hl 3 rfl) ?_
  refine r_getF C hW (ci := 12) kx0 ff_12_33 cl_12 fl_RX12_76 dX12_tellSend_37 (fun k1000013 => ?_)
  refine lv_iload_n hx hb dX12_tellSend_40 rfl (lv_at hl 2 rfl) ?_
  refine lv_aload_n hx hb dX12_tellSend_41 rfl (lv_at hl 3 rfl) ?_
  refine lv_iconst (v := 1) hx hb dX12_tellSend_42 (by decide) ?_
  refine lv_bipush (v := 99) hx hb dX12_tellSend_43 (by decide) ?_
  obtain ⟨v1000015, dt1000016, hc1000014, hm⟩ := q_b2i hm
  refine q_callV C hW hS (As := [.int 1, .int 99]) (rest := [.int v1000002, .ref (al.2.2 x0 33)]) (st1 := [.int v1000015, .int v1000002, .ref (al.2.2 x0 33)]) (c_X12_bounded l D al dt1000012 x0 1 99 kx0 v1000015 dt1000016 hc1000014) yl_X12_bounded vl_X12_bounded ml_RX12_276 (ci := 12) rfl kx0 (by decide) rfl ⟨Nat.le_of_ble_eq_true rfl, Nat.le_of_ble_eq_true rfl⟩ hl rfl (Nat.le_of_ble_eq_true rfl) dX12_tellSend_45 ⟨Nat.le_refl _, Nat.le_refl _⟩ rfl (fun H locs k1000017 hW hS => ?_)
  refine r_iast C hW hS hm k1000013 dX12_tellSend_48 (fun dt1000018 H locs hm hW hS => ?_)
  refine lv_aload_n hx hb dX12_tellSend_49 rfl (lv_at hl 3 rfl) ?_
  refine r_getI C hW (ci := 12) kx0 ff_12_13 cl_12 fl_RX12_212 dX12_tellSend_50 ?_
  refine q_ifc hm (fun c1000019 hm => ?_) (fun c1000019 hm => ?_)
  · refine lv_if_ne (tgt := 64) hx hb dX12_tellSend_53 (by decide) (fun h => absurd c1000019 h) (fun _ => ?_)
    refine lv_iload_n hx hb dX12_tellSend_56 rfl (lv_at hl 0 rfl) ?_
    refine q_ifc hm (fun c1000020 hm => ?_) (fun c1000020 hm => ?_)
    · refine lv_if_lt (tgt := 64) hx hb dX12_tellSend_57 (by decide) (fun _ => ?_) (fun h => absurd c1000020 h)
      exact hB64 x0 v1000002 v1000004 v1000008 kx0 dt1000018 _ _ _ hm hW hS (lv_sub hl [3, 2, 1, 0] rfl)
    refine lv_if_lt (tgt := 64) hx hb dX12_tellSend_57 (by decide) (fun h => absurd h c1000020) (fun _ => ?_)
    refine lv_iconst (v := 1) hx hb dX12_tellSend_60 (by decide) ?_
    refine lv_goto (tgt := 65) hx hb dX12_tellSend_61 (by decide) ?_
    exact hB65 x0 v1000002 v1000004 v1000008 1 kx0 dt1000018 _ _ _ hm hW hS (lv_sub hl [3, 2, 1, 0] rfl)
  refine lv_if_ne (tgt := 64) hx hb dX12_tellSend_53 (by decide) (fun _ => ?_) (fun h => absurd h c1000019)
  exact hB64 x0 v1000002 v1000004 v1000008 kx0 dt1000018 _ _ _ hm hW hS (lv_sub hl [3, 2, 1, 0] rfl)
theorem dX12_tellEcho_0 : decode cX12_tellEcho 0 = .ok (.bipush 6, 2) := by decide +kernel
theorem dX12_tellEcho_2 : decode cX12_tellEcho 2 = .ok (.aload_n 0, 1) := by decide +kernel
theorem dX12_tellEcho_3 : decode cX12_tellEcho 3 = .ok (.getfield 245, 3) := by decide +kernel
theorem dX12_tellEcho_6 : decode cX12_tellEcho 6 = .ok (.imul, 1) := by decide +kernel
theorem dX12_tellEcho_7 : decode cX12_tellEcho 7 = .ok (.aload_n 0, 1) := by decide +kernel
theorem dX12_tellEcho_8 : decode cX12_tellEcho 8 = .ok (.getfield 91, 3) := by decide +kernel
theorem dX12_tellEcho_11 : decode cX12_tellEcho 11 = .ok (.aload_n 0, 1) := by decide +kernel
theorem dX12_tellEcho_12 : decode cX12_tellEcho 12 = .ok (.getfield 245, 3) := by decide +kernel
theorem dX12_tellEcho_15 : decode cX12_tellEcho 15 = .ok (.iaload, 1) := by decide +kernel
theorem dX12_tellEcho_16 : decode cX12_tellEcho 16 = .ok (.iadd, 1) := by decide +kernel
theorem dX12_tellEcho_17 : decode cX12_tellEcho 17 = .ok (.istore_n 1, 1) := by decide +kernel
theorem dX12_tellEcho_18 : decode cX12_tellEcho 18 = .ok (.aload_n 0, 1) := by decide +kernel
theorem dX12_tellEcho_19 : decode cX12_tellEcho 19 = .ok (.getfield 94, 3) := by decide +kernel
theorem dX12_tellEcho_22 : decode cX12_tellEcho 22 = .ok (.iload_n 1, 1) := by decide +kernel
theorem dX12_tellEcho_23 : decode cX12_tellEcho 23 = .ok (.aload_n 0, 1) := by decide +kernel
theorem dX12_tellEcho_24 : decode cX12_tellEcho 24 = .ok (.iconst 2, 1) := by decide +kernel
theorem dX12_tellEcho_25 : decode cX12_tellEcho 25 = .ok (.invokevirtual 315, 3) := by decide +kernel
theorem dX12_tellEcho_28 : decode cX12_tellEcho 28 = .ok (.iastore, 1) := by decide +kernel
theorem dX12_tellEcho_29 : decode cX12_tellEcho 29 = .ok (.aload_n 0, 1) := by decide +kernel
theorem dX12_tellEcho_30 : decode cX12_tellEcho 30 = .ok (.getfield 97, 3) := by decide +kernel
theorem dX12_tellEcho_33 : decode cX12_tellEcho 33 = .ok (.iload_n 1, 1) := by decide +kernel
theorem dX12_tellEcho_34 : decode cX12_tellEcho 34 = .ok (.aload_n 0, 1) := by decide +kernel
theorem dX12_tellEcho_35 : decode cX12_tellEcho 35 = .ok (.iconst 1, 1) := by decide +kernel
theorem dX12_tellEcho_36 : decode cX12_tellEcho 36 = .ok (.bipush 99, 2) := by decide +kernel
theorem dX12_tellEcho_38 : decode cX12_tellEcho 38 = .ok (.invokevirtual 276, 3) := by decide +kernel
theorem dX12_tellEcho_41 : decode cX12_tellEcho 41 = .ok (.iastore, 1) := by decide +kernel
theorem dX12_tellEcho_42 : decode cX12_tellEcho 42 = .ok (.aload_n 0, 1) := by decide +kernel
theorem dX12_tellEcho_43 : decode cX12_tellEcho 43 = .ok (.getfield 212, 3) := by decide +kernel
theorem dX12_tellEcho_46 : decode cX12_tellEcho 46 = .ok (.ifCond .ne 15, 3) := by decide +kernel
theorem dX12_tellEcho_49 : decode cX12_tellEcho 49 = .ok (.aload_n 0, 1) := by decide +kernel
theorem dX12_tellEcho_50 : decode cX12_tellEcho 50 = .ok (.iconst 5, 1) := by decide +kernel
theorem dX12_tellEcho_51 : decode cX12_tellEcho 51 = .ok (.invokevirtual 230, 3) := by decide +kernel
theorem dX12_tellEcho_54 : decode cX12_tellEcho 54 = .ok (.ifCond .eq 7, 3) := by decide +kernel
theorem dX12_tellEcho_57 : decode cX12_tellEcho 57 = .ok (.iconst 1, 1) := by decide +kernel
theorem dX12_tellEcho_58 : decode cX12_tellEcho 58 = .ok (.goto 4, 3) := by decide +kernel
theorem dX12_tellEcho_61 : decode cX12_tellEcho 61 = .ok (.iconst 0, 1) := by decide +kernel
theorem dX12_tellEcho_62 : decode cX12_tellEcho 62 = .ok (.istore_n 2, 1) := by decide +kernel
theorem dX12_tellEcho_63 : decode cX12_tellEcho 63 = .ok (.iload_n 2, 1) := by decide +kernel
theorem dX12_tellEcho_64 : decode cX12_tellEcho 64 = .ok (.ifCond .eq 7, 3) := by decide +kernel
theorem dX12_tellEcho_67 : decode cX12_tellEcho 67 = .ok (.aload_n 0, 1) := by decide +kernel
theorem dX12_tellEcho_68 : decode cX12_tellEcho 68 = .ok (.invokevirtual 233, 3) := by decide +kernel
theorem dX12_tellEcho_71 : decode cX12_tellEcho 71 = .ok (.aload_n 0, 1) := by decide +kernel
theorem dX12_tellEcho_72 : decode cX12_tellEcho 72 = .ok (.iconst 1, 1) := by decide +kernel
theorem dX12_tellEcho_73 : decode cX12_tellEcho 73 = .ok (.bipush 99, 2) := by decide +kernel
theorem dX12_tellEcho_75 : decode cX12_tellEcho 75 = .ok (.invokevirtual 276, 3) := by decide +kernel
theorem dX12_tellEcho_78 : decode cX12_tellEcho 78 = .ok (.istore_n 3, 1) := by decide +kernel
theorem dX12_tellEcho_79 : decode cX12_tellEcho 79 = .ok (.aload_n 0, 1) := by decide +kernel
theorem dX12_tellEcho_80 : decode cX12_tellEcho 80 = .ok (.getfield 100, 3) := by decide +kernel
theorem dX12_tellEcho_83 : decode cX12_tellEcho 83 = .ok (.iload_n 1, 1) := by decide +kernel
theorem dX12_tellEcho_84 : decode cX12_tellEcho 84 = .ok (.iload_n 2, 1) := by decide +kernel
theorem dX12_tellEcho_85 : decode cX12_tellEcho 85 = .ok (.ifCond .eq 8, 3) := by decide +kernel
theorem dX12_tellEcho_88 : decode cX12_tellEcho 88 = .ok (.iload_n 3, 1) := by decide +kernel
theorem dX12_tellEcho_89 : decode cX12_tellEcho 89 = .ok (.ineg, 1) := by decide +kernel
theorem dX12_tellEcho_90 : decode cX12_tellEcho 90 = .ok (.goto 4, 3) := by decide +kernel
theorem dX12_tellEcho_93 : decode cX12_tellEcho 93 = .ok (.iload_n 3, 1) := by decide +kernel
theorem dX12_tellEcho_94 : decode cX12_tellEcho 94 = .ok (.iastore, 1) := by decide +kernel
theorem dX12_tellEcho_95 : decode cX12_tellEcho 95 = .ok (.aload_n 0, 1) := by decide +kernel
theorem dX12_tellEcho_96 : decode cX12_tellEcho 96 = .ok (.iconst 4, 1) := by decide +kernel
theorem dX12_tellEcho_97 : decode cX12_tellEcho 97 = .ok (.invokevirtual 280, 3) := by decide +kernel
theorem dX12_tellEcho_100 : decode cX12_tellEcho 100 = .ok (.aload_n 0, 1) := by decide +kernel
theorem dX12_tellEcho_101 : decode cX12_tellEcho 101 = .ok (.getfield 212, 3) := by decide +kernel
theorem dX12_tellEcho_104 : decode cX12_tellEcho 104 = .ok (.ifCond .ne 16, 3) := by decide +kernel
theorem dX12_tellEcho_107 : decode cX12_tellEcho 107 = .ok (.aload_n 0, 1) := by decide +kernel
theorem dX12_tellEcho_108 : decode cX12_tellEcho 108 = .ok (.getfield 91, 3) := by decide +kernel
theorem dX12_tellEcho_111 : decode cX12_tellEcho 111 = .ok (.aload_n 0, 1) := by decide +kernel
theorem dX12_tellEcho_112 : decode cX12_tellEcho 112 = .ok (.getfield 245, 3) := by decide +kernel
theorem dX12_tellEcho_115 : decode cX12_tellEcho 115 = .ok (.dup2, 1) := by decide +kernel
theorem dX12_tellEcho_116 : decode cX12_tellEcho 116 = .ok (.iaload, 1) := by decide +kernel
theorem dX12_tellEcho_117 : decode cX12_tellEcho 117 = .ok (.iconst 1, 1) := by decide +kernel
theorem dX12_tellEcho_118 : decode cX12_tellEcho 118 = .ok (.iadd, 1) := by decide +kernel
theorem dX12_tellEcho_119 : decode cX12_tellEcho 119 = .ok (.iastore, 1) := by decide +kernel
theorem dX12_tellEcho_120 : decode cX12_tellEcho 120 = .ok (.return_, 1) := by decide +kernel
set_option maxRecDepth 100000 in
theorem c_X12_tellEcho (l : Launch) (D : q_D) (al : q_Al) (dt : q_Dt) (x0 : Nat) (kx0 : al.1 x0 = 13) (dt0 : q_Dt) (hm : X12_tellEcho al dt x0 = some dt0) : q_Mt l yX12_tellEcho cX12_tellEcho 4 (none) 4 85 D al [.ref x0] dt 0 none dt0 := by
  refine q_Mt.of (by decide) (Nat.le_of_ble_eq_true rfl) ?_
  intro p e s m args below meth c ls C hargs hW hl
  have hx := C.1
  have hb := C.2.1
  have hown := C.2.2.2.2.2.1
  have hts := C.2.2.2.2.2.2.1
  have hS : va_S (q_A al) s.heap s.heap [] := va_S.rf
  have hl : lv_has ls 4 [(0, .ref x0)] := hl
  unfold X12_tellEcho at hm
  have hB94 : ∀ (x0_94 : Nat) (t0_94 : Nat) (t1_94 : Int32) (t2_94 : Int32) (kx0_94 : al.1 x0_94 = 13) (kt0_94 : al.1 t0_94 = 21) (dt : q_Dt) (H : Heap) (locs : List Loc) (ls : Array Slot) (hm : X12_tellEcho_b94 al x0_94 t0_94 t1_94 t2_94 dt = some dt0) (hW : q_W D al dt H) (hS : va_S (q_A al) s.heap H locs) (hl : lv_has ls 4 [(0, .ref x0_94)]), W p l e { frames := 4, cells := 0, slots := 0, locals := 85 } s m args below meth c H locs 0 0 (MQ below (q_Q none (fun H => q_W D al dt0 H ∧ q_Rk al 0 none) (q_A al)) args s 0 0 (q_A al)) (F0 m 94 ls [.int t2_94, .int t1_94, .ref t0_94]) := by
    intro x0_94 t0_94 t1_94 t2_94 kx0_94 kt0_94 dt H locs ls hm hW hS hl
    unfold X12_tellEcho_b94 at hm
    refine r_iast C hW hS hm kt0_94 dX12_tellEcho_94 (fun dt94001 H locs hm hW hS => ?_)
    refine lv_aload_n hx hb dX12_tellEcho_95 rfl (lv_at hl 0 rfl) ?_
    refine lv_iconst (v := 4) hx hb dX12_tellEcho_96 (by decide) ?_
    obtain ⟨dt94003, hc94002, hm⟩ := q_b1i hm
    refine q_callV C hW hS (As := [.int 4]) (rest := []) (st1 := []) (c_X12_must l D al dt94001 x0_94 4 kx0_94 dt94003 hc94002) yl_X12_must vl_X12_must ml_RX12_280 (ci := 12) rfl kx0_94 (by decide) rfl ⟨Nat.le_of_ble_eq_true rfl, Nat.le_of_ble_eq_true rfl⟩ hl rfl (Nat.le_of_ble_eq_true rfl) dX12_tellEcho_97 ⟨Nat.le_refl _, Nat.le_refl _⟩ rfl (fun H locs k94004 hW hS => ?_)
    refine lv_aload_n hx hb dX12_tellEcho_100 rfl (lv_at hl 0 rfl) ?_
    refine r_getI C hW (ci := 12) kx0_94 ff_12_13 cl_12 fl_RX12_212 dX12_tellEcho_101 ?_
    refine q_ifc hm (fun c94005 hm => ?_) (fun c94005 hm => ?_)
    · refine lv_if_ne (tgt := 120) hx hb dX12_tellEcho_104 (by decide) (fun h => absurd c94005 h) (fun _ => ?_)
      refine lv_aload_n hx hb dX12_tellEcho_107 rfl (lv_at hl 0 rfl) ?_
      refine r_getF C hW (ci := 12) kx0_94 ff_12_38 cl_12 fl_RX12_91 dX12_tellEcho_108 (fun k94006 => ?_)
      refine lv_aload_n hx hb dX12_tellEcho_111 rfl (lv_at hl 0 rfl) ?_
      refine r_getI C hW (ci := 12) kx0_94 ff_12_19 cl_12 fl_RX12_245 dX12_tellEcho_112 ?_
      refine lv_dup2_11 hx hb dX12_tellEcho_115 rfl rfl ?_
      refine r_iald C hW hm k94006 dX12_tellEcho_116 (fun hm => ?_)
      refine lv_iconst (v := 1) hx hb dX12_tellEcho_117 (by decide) ?_
      refine lv_iadd hx hb dX12_tellEcho_118 ?_
      refine r_iast C hW hS hm k94006 dX12_tellEcho_119 (fun dt94007 H locs hm hW hS => ?_)
      exact e_vD C hW hS hm dX12_tellEcho_120
    refine lv_if_ne (tgt := 120) hx hb dX12_tellEcho_104 (by decide) (fun _ => ?_) (fun h => absurd h c94005)
    exact e_vD C hW hS hm dX12_tellEcho_120
  have hB71 : ∀ (x0_71 : Nat) (x1_71 : Int32) (x2_71 : Int32) (kx0_71 : al.1 x0_71 = 13) (dt : q_Dt) (H : Heap) (locs : List Loc) (ls : Array Slot) (hm : X12_tellEcho_b71 al x0_71 x1_71 x2_71 dt = some dt0) (hW : q_W D al dt H) (hS : va_S (q_A al) s.heap H locs) (hl : lv_has ls 4 [(0, .ref x0_71), (1, .int x1_71), (2, .int x2_71)]), W p l e { frames := 4, cells := 0, slots := 0, locals := 85 } s m args below meth c H locs 0 0 (MQ below (q_Q none (fun H => q_W D al dt0 H ∧ q_Rk al 0 none) (q_A al)) args s 0 0 (q_A al)) (F0 m 71 ls []) := by
    intro x0_71 x1_71 x2_71 kx0_71 dt H locs ls hm hW hS hl
    unfold X12_tellEcho_b71 at hm
    refine lv_aload_n hx hb dX12_tellEcho_71 rfl (lv_at hl 0 rfl) ?_
    refine lv_iconst (v := 1) hx hb dX12_tellEcho_72 (by decide) ?_
    refine lv_bipush (v := 99) hx hb dX12_tellEcho_73 (by decide) ?_
    obtain ⟨v71002, dt71003, hc71001, hm⟩ := q_b2i hm
    refine q_callV C hW hS (As := [.int 1, .int 99]) (rest := []) (st1 := [.int v71002]) (c_X12_bounded l D al dt x0_71 1 99 kx0_71 v71002 dt71003 hc71001) yl_X12_bounded vl_X12_bounded ml_RX12_276 (ci := 12) rfl kx0_71 (by decide) rfl ⟨Nat.le_of_ble_eq_true rfl, Nat.le_of_ble_eq_true rfl⟩ hl rfl (Nat.le_of_ble_eq_true rfl) dX12_tellEcho_75 ⟨Nat.le_refl _, Nat.le_refl _⟩ rfl (fun H locs k71004 hW hS => ?_)
    refine lv_istore_n (i := 3) (lv' := [(3, .int v71002), (0, .ref x0_71), (1, .int x1_71), (2, .int x2_71)]) hx hb dX12_tellEcho_78 rfl hl (by decide) rfl (fun ls hl => ?_)
    refine lv_aload_n hx hb dX12_tellEcho_79 rfl (lv_at hl 1 rfl) ?_
    refine r_getF C hW (ci := 12) kx0_71 ff_12_41 cl_12 fl_RX12_100 dX12_tellEcho_80 (fun k71005 => ?_)
    refine lv_iload_n hx hb dX12_tellEcho_83 rfl (lv_at hl 2 rfl) ?_
    refine lv_iload_n hx hb dX12_tellEcho_84 rfl (lv_at hl 3 rfl) ?_
    refine q_ifc hm (fun c71006 hm => ?_) (fun c71006 hm => ?_)
    · refine lv_if_eq (tgt := 93) hx hb dX12_tellEcho_85 (by decide) (fun _ => ?_) (fun h => absurd c71006 h)
      refine lv_iload_n hx hb dX12_tellEcho_93 rfl (lv_at hl 0 rfl) ?_
      exact hB94 x0_71 (al.2.2 x0_71 41) x1_71 v71002 kx0_71 k71005 dt71003 _ _ _ hm hW hS (lv_sub hl [1] rfl)
    refine lv_if_eq (tgt := 93) hx hb dX12_tellEcho_85 (by decide) (fun h => absurd h c71006) (fun _ => ?_)
    refine lv_iload_n hx hb dX12_tellEcho_88 rfl (lv_at hl 0 rfl) ?_
    refine lv_ineg hx hb dX12_tellEcho_89 ?_
    refine lv_goto (tgt := 94) hx hb dX12_tellEcho_90 (by decide) ?_
    exact hB94 x0_71 (al.2.2 x0_71 41) x1_71 (-v71002) kx0_71 k71005 dt71003 _ _ _ hm hW hS (lv_sub hl [1] rfl)
  have hB62 : ∀ (x0_62 : Nat) (x1_62 : Int32) (t0_62 : Int32) (kx0_62 : al.1 x0_62 = 13) (dt : q_Dt) (H : Heap) (locs : List Loc) (ls : Array Slot) (hm : X12_tellEcho_b62 al x0_62 x1_62 t0_62 dt = some dt0) (hW : q_W D al dt H) (hS : va_S (q_A al) s.heap H locs) (hl : lv_has ls 4 [(0, .ref x0_62), (1, .int x1_62)]), W p l e { frames := 4, cells := 0, slots := 0, locals := 85 } s m args below meth c H locs 0 0 (MQ below (q_Q none (fun H => q_W D al dt0 H ∧ q_Rk al 0 none) (q_A al)) args s 0 0 (q_A al)) (F0 m 62 ls [.int t0_62]) := by
    intro x0_62 x1_62 t0_62 kx0_62 dt H locs ls hm hW hS hl
    unfold X12_tellEcho_b62 at hm
    refine lv_istore_n (i := 2) (lv' := [(2, .int t0_62), (0, .ref x0_62), (1, .int x1_62)]) hx hb dX12_tellEcho_62 rfl hl (by decide) rfl (fun ls hl => ?_)
    refine lv_iload_n hx hb dX12_tellEcho_63 rfl (lv_at hl 0 rfl) ?_
    refine q_ifc hm (fun c62001 hm => ?_) (fun c62001 hm => ?_)
    · refine lv_if_eq (tgt := 71) hx hb dX12_tellEcho_64 (by decide) (fun _ => ?_) (fun h => absurd c62001 h)
      exact hB71 x0_62 x1_62 t0_62 kx0_62 dt _ _ _ hm hW hS (lv_sub hl [1, 2, 0] rfl)
    refine lv_if_eq (tgt := 71) hx hb dX12_tellEcho_64 (by decide) (fun h => absurd h c62001) (fun _ => ?_)
    refine lv_aload_n hx hb dX12_tellEcho_67 rfl (lv_at hl 1 rfl) ?_
    obtain ⟨dt62003, hc62002, hm⟩ := q_b1i hm
    refine q_callV C hW hS (As := []) (rest := []) (st1 := []) (c_X12_goesOn l D al dt x0_62 kx0_62 dt62003 hc62002) yl_X12_goesOn vl_X12_goesOn ml_RX12_233 (ci := 12) rfl kx0_62 (by decide) rfl ⟨Nat.le_of_ble_eq_true rfl, Nat.le_of_ble_eq_true rfl⟩ hl rfl (Nat.le_of_ble_eq_true rfl) dX12_tellEcho_68 ⟨Nat.le_refl _, Nat.le_refl _⟩ rfl (fun H locs k62004 hW hS => ?_)
    exact hB71 x0_62 x1_62 t0_62 kx0_62 dt62003 _ _ _ hm hW hS (lv_sub hl [1, 2, 0] rfl)
  have hB61 : ∀ (x0_61 : Nat) (x1_61 : Int32) (kx0_61 : al.1 x0_61 = 13) (dt : q_Dt) (H : Heap) (locs : List Loc) (ls : Array Slot) (hm : X12_tellEcho_b61 al x0_61 x1_61 dt = some dt0) (hW : q_W D al dt H) (hS : va_S (q_A al) s.heap H locs) (hl : lv_has ls 4 [(0, .ref x0_61), (1, .int x1_61)]), W p l e { frames := 4, cells := 0, slots := 0, locals := 85 } s m args below meth c H locs 0 0 (MQ below (q_Q none (fun H => q_W D al dt0 H ∧ q_Rk al 0 none) (q_A al)) args s 0 0 (q_A al)) (F0 m 61 ls []) := by
    intro x0_61 x1_61 kx0_61 dt H locs ls hm hW hS hl
    unfold X12_tellEcho_b61 at hm
    refine lv_iconst (v := 0) hx hb dX12_tellEcho_61 (by decide) ?_
    exact hB62 x0_61 x1_61 0 kx0_61 dt _ _ _ hm hW hS (lv_sub hl [0, 1] rfl)
  refine lv_bipush (v := 6) hx hb dX12_tellEcho_0 (by decide) ?_
  refine lv_aload_n hx hb dX12_tellEcho_2 rfl (lv_at hl 0 rfl) ?_
  refine r_getI C hW (ci := 12) kx0 ff_12_19 cl_12 fl_RX12_245 dX12_tellEcho_3 ?_
  refine lv_imul hx hb dX12_tellEcho_6 ?_
  refine lv_aload_n hx hb dX12_tellEcho_7 rfl (lv_at hl 0 rfl) ?_
  refine r_getF C hW (ci := 12) kx0 ff_12_38 cl_12 fl_RX12_91 dX12_tellEcho_8 (fun k1000001 => ?_)
  refine lv_aload_n hx hb dX12_tellEcho_11 rfl (lv_at hl 0 rfl) ?_
  refine r_getI C hW (ci := 12) kx0 ff_12_19 cl_12 fl_RX12_245 dX12_tellEcho_12 ?_
  refine r_iald C hW hm k1000001 dX12_tellEcho_15 (fun hm => ?_)
  refine lv_iadd hx hb dX12_tellEcho_16 ?_
  refine q_nmI hm (fun v1000002 ev1000002 hm => ?_)
  refine lv_istore_n (i := 1) (lv' := [(1, .int v1000002), (0, .ref x0)]) hx hb dX12_tellEcho_17 rfl hl (by decide) rfl (fun ls hl => ?_)
  refine lv_aload_n hx hb dX12_tellEcho_18 rfl (lv_at hl 1 rfl) ?_
  refine r_getF C hW (ci := 12) kx0 ff_12_39 cl_12 fl_RX12_94 dX12_tellEcho_19 (fun k1000003 => ?_)
  refine lv_iload_n hx hb dX12_tellEcho_22 rfl (lv_at hl 0 rfl) ?_
  refine lv_aload_n hx hb dX12_tellEcho_23 rfl (lv_at hl 1 rfl) ?_
  refine lv_iconst (v := 2) hx hb dX12_tellEcho_24 (by decide) ?_
  obtain ⟨v1000005, dt1000006, hc1000004, hm⟩ := q_b2i hm
  refine q_callV C hW hS (As := [.int 2]) (rest := [.int v1000002, .ref (al.2.2 x0 39)]) (st1 := [.int v1000005, .int v1000002, .ref (al.2.2 x0 39)]) (c_X12_known l D al dt x0 2 kx0 v1000005 dt1000006 hc1000004) yl_X12_known vl_X12_known ml_RX12_315 (ci := 12) rfl kx0 (by decide) rfl ⟨Nat.le_of_ble_eq_true rfl, Nat.le_of_ble_eq_true rfl⟩ hl rfl (Nat.le_of_ble_eq_true rfl) dX12_tellEcho_25 ⟨Nat.le_refl _, Nat.le_refl _⟩ rfl (fun H locs k1000007 hW hS => ?_)
  refine r_iast C hW hS hm k1000003 dX12_tellEcho_28 (fun dt1000008 H locs hm hW hS => ?_)
  refine lv_aload_n hx hb dX12_tellEcho_29 rfl (lv_at hl 1 rfl) ?_
  refine r_getF C hW (ci := 12) kx0 ff_12_40 cl_12 fl_RX12_97 dX12_tellEcho_30 (fun k1000009 => ?_)
  refine lv_iload_n hx hb dX12_tellEcho_33 rfl (lv_at hl 0 rfl) ?_
  refine lv_aload_n hx hb dX12_tellEcho_34 rfl (lv_at hl 1 rfl) ?_
  refine lv_iconst (v := 1) hx hb dX12_tellEcho_35 (by decide) ?_
  refine lv_bipush (v := 99) hx hb dX12_tellEcho_36 (by decide) ?_
  obtain ⟨v1000011, dt1000012, hc1000010, hm⟩ := q_b2i hm
  refine q_callV C hW hS (As := [.int 1, .int 99]) (rest := [.int v1000002, .ref (al.2.2 x0 40)]) (st1 := [.int v1000011, .int v1000002, .ref (al.2.2 x0 40)]) (c_X12_bounded l D al dt1000008 x0 1 99 kx0 v1000011 dt1000012 hc1000010) yl_X12_bounded vl_X12_bounded ml_RX12_276 (ci := 12) rfl kx0 (by decide) rfl ⟨Nat.le_of_ble_eq_true rfl, Nat.le_of_ble_eq_true rfl⟩ hl rfl (Nat.le_of_ble_eq_true rfl) dX12_tellEcho_38 ⟨Nat.le_refl _, Nat.le_refl _⟩ rfl (fun H locs k1000013 hW hS => ?_)
  refine r_iast C hW hS hm k1000009 dX12_tellEcho_41 (fun dt1000014 H locs hm hW hS => ?_)
  refine lv_aload_n hx hb dX12_tellEcho_42 rfl (lv_at hl 1 rfl) ?_
  refine r_getI C hW (ci := 12) kx0 ff_12_13 cl_12 fl_RX12_212 dX12_tellEcho_43 ?_
  refine q_ifc hm (fun c1000015 hm => ?_) (fun c1000015 hm => ?_)
  · refine lv_if_ne (tgt := 61) hx hb dX12_tellEcho_46 (by decide) (fun h => absurd c1000015 h) (fun _ => ?_)
    refine lv_aload_n hx hb dX12_tellEcho_49 rfl (lv_at hl 1 rfl) ?_
    refine lv_iconst (v := 5) hx hb dX12_tellEcho_50 (by decide) ?_
    obtain ⟨v1000017, hc1000016, hm⟩ := q_b1i hm
    refine q_callV C hW hS (As := [.int 5]) (rest := []) (st1 := [.int v1000017]) (c_X12_is l D al dt1000014 x0 5 kx0 v1000017 hc1000016) yl_X12_is vl_X12_is ml_RX12_230 (ci := 12) rfl kx0 (by decide) rfl ⟨Nat.le_of_ble_eq_true rfl, Nat.le_of_ble_eq_true rfl⟩ hl rfl (Nat.le_of_ble_eq_true rfl) dX12_tellEcho_51 ⟨Nat.le_refl _, Nat.le_refl _⟩ rfl (fun H locs k1000018 hW hS => ?_)
    refine q_ifc hm (fun c1000019 hm => ?_) (fun c1000019 hm => ?_)
    · refine lv_if_eq (tgt := 61) hx hb dX12_tellEcho_54 (by decide) (fun _ => ?_) (fun h => absurd c1000019 h)
      exact hB61 x0 v1000002 kx0 dt1000014 _ _ _ hm hW hS (lv_sub hl [1, 0] rfl)
    refine lv_if_eq (tgt := 61) hx hb dX12_tellEcho_54 (by decide) (fun h => absurd h c1000019) (fun _ => ?_)
    refine lv_iconst (v := 1) hx hb dX12_tellEcho_57 (by decide) ?_
    refine lv_goto (tgt := 62) hx hb dX12_tellEcho_58 (by decide) ?_
    exact hB62 x0 v1000002 1 kx0 dt1000014 _ _ _ hm hW hS (lv_sub hl [1, 0] rfl)
  refine lv_if_ne (tgt := 61) hx hb dX12_tellEcho_46 (by decide) (fun _ => ?_) (fun h => absurd h c1000015)
  exact hB61 x0 v1000002 kx0 dt1000014 _ _ _ hm hW hS (lv_sub hl [1, 0] rfl)
theorem dX12_tellJam_0 : decode cX12_tellJam 0 = .ok (.iconst 4, 1) := by decide +kernel
theorem dX12_tellJam_1 : decode cX12_tellJam 1 = .ok (.aload_n 0, 1) := by decide +kernel
theorem dX12_tellJam_2 : decode cX12_tellJam 2 = .ok (.getfield 245, 3) := by decide +kernel
theorem dX12_tellJam_5 : decode cX12_tellJam 5 = .ok (.imul, 1) := by decide +kernel
theorem dX12_tellJam_6 : decode cX12_tellJam 6 = .ok (.aload_n 0, 1) := by decide +kernel
theorem dX12_tellJam_7 : decode cX12_tellJam 7 = .ok (.getfield 103, 3) := by decide +kernel
theorem dX12_tellJam_10 : decode cX12_tellJam 10 = .ok (.aload_n 0, 1) := by decide +kernel
theorem dX12_tellJam_11 : decode cX12_tellJam 11 = .ok (.getfield 245, 3) := by decide +kernel
theorem dX12_tellJam_14 : decode cX12_tellJam 14 = .ok (.iaload, 1) := by decide +kernel
theorem dX12_tellJam_15 : decode cX12_tellJam 15 = .ok (.iadd, 1) := by decide +kernel
theorem dX12_tellJam_16 : decode cX12_tellJam 16 = .ok (.istore_n 1, 1) := by decide +kernel
theorem dX12_tellJam_17 : decode cX12_tellJam 17 = .ok (.aload_n 0, 1) := by decide +kernel
theorem dX12_tellJam_18 : decode cX12_tellJam 18 = .ok (.getfield 106, 3) := by decide +kernel
theorem dX12_tellJam_21 : decode cX12_tellJam 21 = .ok (.iload_n 1, 1) := by decide +kernel
theorem dX12_tellJam_22 : decode cX12_tellJam 22 = .ok (.aload_n 0, 1) := by decide +kernel
theorem dX12_tellJam_23 : decode cX12_tellJam 23 = .ok (.iconst 0, 1) := by decide +kernel
theorem dX12_tellJam_24 : decode cX12_tellJam 24 = .ok (.sipush 511, 3) := by decide +kernel
theorem dX12_tellJam_27 : decode cX12_tellJam 27 = .ok (.invokevirtual 276, 3) := by decide +kernel
theorem dX12_tellJam_30 : decode cX12_tellJam 30 = .ok (.iastore, 1) := by decide +kernel
theorem dX12_tellJam_31 : decode cX12_tellJam 31 = .ok (.aload_n 0, 1) := by decide +kernel
theorem dX12_tellJam_32 : decode cX12_tellJam 32 = .ok (.getfield 286, 3) := by decide +kernel
theorem dX12_tellJam_35 : decode cX12_tellJam 35 = .ok (.istore_n 2, 1) := by decide +kernel
theorem dX12_tellJam_36 : decode cX12_tellJam 36 = .ok (.aload_n 0, 1) := by decide +kernel
theorem dX12_tellJam_37 : decode cX12_tellJam 37 = .ok (.getfield 109, 3) := by decide +kernel
theorem dX12_tellJam_40 : decode cX12_tellJam 40 = .ok (.iload_n 1, 1) := by decide +kernel
theorem dX12_tellJam_41 : decode cX12_tellJam 41 = .ok (.aload_n 0, 1) := by decide +kernel
theorem dX12_tellJam_42 : decode cX12_tellJam 42 = .ok (.iload_n 2, 1) := by decide +kernel
theorem dX12_tellJam_43 : decode cX12_tellJam 43 = .ok (.iload_n 2, 1) := by decide +kernel
theorem dX12_tellJam_44 : decode cX12_tellJam 44 = .ok (.ifCond .eq 12, 3) := by decide +kernel
theorem dX12_tellJam_47 : decode cX12_tellJam 47 = .ok (.aload_n 0, 1) := by decide +kernel
theorem dX12_tellJam_48 : decode cX12_tellJam 48 = .ok (.getfield 106, 3) := by decide +kernel
theorem dX12_tellJam_51 : decode cX12_tellJam 51 = .ok (.iload_n 1, 1) := by decide +kernel
theorem dX12_tellJam_52 : decode cX12_tellJam 52 = .ok (.iaload, 1) := by decide +kernel
theorem dX12_tellJam_53 : decode cX12_tellJam 53 = .ok (.goto 4, 3) := by decide +kernel
theorem dX12_tellJam_56 : decode cX12_tellJam 56 = .ok (.iconst 0, 1) := by decide +kernel
theorem dX12_tellJam_57 : decode cX12_tellJam 57 = .ok (.sipush 511, 3) := by decide +kernel
theorem dX12_tellJam_60 : decode cX12_tellJam 60 = .ok (.invokevirtual 294, 3) := by decide +kernel
theorem dX12_tellJam_63 : decode cX12_tellJam 63 = .ok (.iastore, 1) := by decide +kernel
theorem dX12_tellJam_64 : decode cX12_tellJam 64 = .ok (.aload_n 0, 1) := by decide +kernel
theorem dX12_tellJam_65 : decode cX12_tellJam 65 = .ok (.getfield 112, 3) := by decide +kernel
theorem dX12_tellJam_68 : decode cX12_tellJam 68 = .ok (.iload_n 1, 1) := by decide +kernel
theorem dX12_tellJam_69 : decode cX12_tellJam 69 = .ok (.aload_n 0, 1) := by decide +kernel
theorem dX12_tellJam_70 : decode cX12_tellJam 70 = .ok (.iconst 1, 1) := by decide +kernel
theorem dX12_tellJam_71 : decode cX12_tellJam 71 = .ok (.bipush 99, 2) := by decide +kernel
theorem dX12_tellJam_73 : decode cX12_tellJam 73 = .ok (.invokevirtual 276, 3) := by decide +kernel
theorem dX12_tellJam_76 : decode cX12_tellJam 76 = .ok (.iastore, 1) := by decide +kernel
theorem dX12_tellJam_77 : decode cX12_tellJam 77 = .ok (.aload_n 0, 1) := by decide +kernel
theorem dX12_tellJam_78 : decode cX12_tellJam 78 = .ok (.getfield 115, 3) := by decide +kernel
theorem dX12_tellJam_81 : decode cX12_tellJam 81 = .ok (.iload_n 1, 1) := by decide +kernel
theorem dX12_tellJam_82 : decode cX12_tellJam 82 = .ok (.aload_n 0, 1) := by decide +kernel
theorem dX12_tellJam_83 : decode cX12_tellJam 83 = .ok (.iconst 1, 1) := by decide +kernel
theorem dX12_tellJam_84 : decode cX12_tellJam 84 = .ok (.bipush 99, 2) := by decide +kernel
theorem dX12_tellJam_86 : decode cX12_tellJam 86 = .ok (.invokevirtual 276, 3) := by decide +kernel
theorem dX12_tellJam_89 : decode cX12_tellJam 89 = .ok (.iastore, 1) := by decide +kernel
theorem dX12_tellJam_90 : decode cX12_tellJam 90 = .ok (.aload_n 0, 1) := by decide +kernel
theorem dX12_tellJam_91 : decode cX12_tellJam 91 = .ok (.iconst 4, 1) := by decide +kernel
theorem dX12_tellJam_92 : decode cX12_tellJam 92 = .ok (.invokevirtual 280, 3) := by decide +kernel
theorem dX12_tellJam_95 : decode cX12_tellJam 95 = .ok (.aload_n 0, 1) := by decide +kernel
theorem dX12_tellJam_96 : decode cX12_tellJam 96 = .ok (.getfield 212, 3) := by decide +kernel
theorem dX12_tellJam_99 : decode cX12_tellJam 99 = .ok (.ifCond .ne 16, 3) := by decide +kernel
theorem dX12_tellJam_102 : decode cX12_tellJam 102 = .ok (.aload_n 0, 1) := by decide +kernel
theorem dX12_tellJam_103 : decode cX12_tellJam 103 = .ok (.getfield 103, 3) := by decide +kernel
theorem dX12_tellJam_106 : decode cX12_tellJam 106 = .ok (.aload_n 0, 1) := by decide +kernel
theorem dX12_tellJam_107 : decode cX12_tellJam 107 = .ok (.getfield 245, 3) := by decide +kernel
theorem dX12_tellJam_110 : decode cX12_tellJam 110 = .ok (.dup2, 1) := by decide +kernel
theorem dX12_tellJam_111 : decode cX12_tellJam 111 = .ok (.iaload, 1) := by decide +kernel
theorem dX12_tellJam_112 : decode cX12_tellJam 112 = .ok (.iconst 1, 1) := by decide +kernel
theorem dX12_tellJam_113 : decode cX12_tellJam 113 = .ok (.iadd, 1) := by decide +kernel
theorem dX12_tellJam_114 : decode cX12_tellJam 114 = .ok (.iastore, 1) := by decide +kernel
theorem dX12_tellJam_115 : decode cX12_tellJam 115 = .ok (.return_, 1) := by decide +kernel
set_option maxRecDepth 100000 in
theorem c_X12_tellJam (l : Launch) (D : q_D) (al : q_Al) (dt : q_Dt) (x0 : Nat) (kx0 : al.1 x0 = 13) (dt0 : q_Dt) (hm : X12_tellJam al dt x0 = some dt0) : q_Mt l yX12_tellJam cX12_tellJam 3 (none) 4 87 D al [.ref x0] dt 0 none dt0 := by
  refine q_Mt.of (by decide) (Nat.le_of_ble_eq_true rfl) ?_
  intro p e s m args below meth c ls C hargs hW hl
  have hx := C.1
  have hb := C.2.1
  have hown := C.2.2.2.2.2.1
  have hts := C.2.2.2.2.2.2.1
  have hS : va_S (q_A al) s.heap s.heap [] := va_S.rf
  have hl : lv_has ls 3 [(0, .ref x0)] := hl
  unfold X12_tellJam at hm
  have hB57 : ∀ (x0_57 : Nat) (x1_57 : Int32) (t0_57 : Nat) (t1_57 : Int32) (t2_57 : Nat) (t3_57 : Int32) (t4_57 : Int32) (kx0_57 : al.1 x0_57 = 13) (kt0_57 : al.1 t0_57 = 21) (kt2_57 : al.1 t2_57 = 13) (dt : q_Dt) (H : Heap) (locs : List Loc) (ls : Array Slot) (hm : X12_tellJam_b57 al x0_57 x1_57 t0_57 t1_57 t2_57 t3_57 t4_57 dt = some dt0) (hW : q_W D al dt H) (hS : va_S (q_A al) s.heap H locs) (hl : lv_has ls 3 [(0, .ref x0_57), (1, .int x1_57)]), W p l e { frames := 4, cells := 0, slots := 0, locals := 87 } s m args below meth c H locs 0 0 (MQ below (q_Q none (fun H => q_W D al dt0 H ∧ q_Rk al 0 none) (q_A al)) args s 0 0 (q_A al)) (F0 m 57 ls [.int t4_57, .int t3_57, .ref t2_57, .int t1_57, .ref t0_57]) := by
    intro x0_57 x1_57 t0_57 t1_57 t2_57 t3_57 t4_57 kx0_57 kt0_57 kt2_57 dt H locs ls hm hW hS hl
    unfold X12_tellJam_b57 at hm
    refine lv_sipush (v := 511) hx hb dX12_tellJam_57 (by decide) ?_
    obtain ⟨v57002, dt57003, hc57001, hm⟩ := q_b2i hm
    refine q_callV C hW hS (As := [.int t3_57, .int t4_57, .int 511]) (rest := [.int t1_57, .ref t0_57]) (st1 := [.int v57002, .int t1_57, .ref t0_57]) (c_X12_hangs l D al dt t2_57 t3_57 t4_57 511 kt2_57 v57002 dt57003 hc57001) yl_X12_hangs vl_X12_hangs ml_RX12_294 (ci := 12) rfl kt2_57 (by decide) rfl ⟨Nat.le_of_ble_eq_true rfl, Nat.le_of_ble_eq_true rfl⟩ hl rfl (Nat.le_of_ble_eq_true rfl) dX12_tellJam_60 ⟨Nat.le_refl _, Nat.le_refl _⟩ rfl (fun H locs k57004 hW hS => ?_)
    refine r_iast C hW hS hm kt0_57 dX12_tellJam_63 (fun dt57005 H locs hm hW hS => ?_)
    refine lv_aload_n hx hb dX12_tellJam_64 rfl (lv_at hl 0 rfl) ?_
    refine r_getF C hW (ci := 12) kx0_57 ff_12_45 cl_12 fl_RX12_112 dX12_tellJam_65 (fun k57006 => ?_)
    refine lv_iload_n hx hb dX12_tellJam_68 rfl (lv_at hl 1 rfl) ?_
    refine lv_aload_n hx hb dX12_tellJam_69 rfl (lv_at hl 0 rfl) ?_
    refine lv_iconst (v := 1) hx hb dX12_tellJam_70 (by decide) ?_
    refine lv_bipush (v := 99) hx hb dX12_tellJam_71 (by decide) ?_
    obtain ⟨v57008, dt57009, hc57007, hm⟩ := q_b2i hm
    refine q_callV C hW hS (As := [.int 1, .int 99]) (rest := [.int x1_57, .ref (al.2.2 x0_57 45)]) (st1 := [.int v57008, .int x1_57, .ref (al.2.2 x0_57 45)]) (c_X12_bounded l D al dt57005 x0_57 1 99 kx0_57 v57008 dt57009 hc57007) yl_X12_bounded vl_X12_bounded ml_RX12_276 (ci := 12) rfl kx0_57 (by decide) rfl ⟨Nat.le_of_ble_eq_true rfl, Nat.le_of_ble_eq_true rfl⟩ hl rfl (Nat.le_of_ble_eq_true rfl) dX12_tellJam_73 ⟨Nat.le_refl _, Nat.le_refl _⟩ rfl (fun H locs k57010 hW hS => ?_)
    refine r_iast C hW hS hm k57006 dX12_tellJam_76 (fun dt57011 H locs hm hW hS => ?_)
    refine lv_aload_n hx hb dX12_tellJam_77 rfl (lv_at hl 0 rfl) ?_
    refine r_getF C hW (ci := 12) kx0_57 ff_12_46 cl_12 fl_RX12_115 dX12_tellJam_78 (fun k57012 => ?_)
    refine lv_iload_n hx hb dX12_tellJam_81 rfl (lv_at hl 1 rfl) ?_
    refine lv_aload_n hx hb dX12_tellJam_82 rfl (lv_at hl 0 rfl) ?_
    refine lv_iconst (v := 1) hx hb dX12_tellJam_83 (by decide) ?_
    refine lv_bipush (v := 99) hx hb dX12_tellJam_84 (by decide) ?_
    obtain ⟨v57014, dt57015, hc57013, hm⟩ := q_b2i hm
    refine q_callV C hW hS (As := [.int 1, .int 99]) (rest := [.int x1_57, .ref (al.2.2 x0_57 46)]) (st1 := [.int v57014, .int x1_57, .ref (al.2.2 x0_57 46)]) (c_X12_bounded l D al dt57011 x0_57 1 99 kx0_57 v57014 dt57015 hc57013) yl_X12_bounded vl_X12_bounded ml_RX12_276 (ci := 12) rfl kx0_57 (by decide) rfl ⟨Nat.le_of_ble_eq_true rfl, Nat.le_of_ble_eq_true rfl⟩ hl rfl (Nat.le_of_ble_eq_true rfl) dX12_tellJam_86 ⟨Nat.le_refl _, Nat.le_refl _⟩ rfl (fun H locs k57016 hW hS => ?_)
    refine r_iast C hW hS hm k57012 dX12_tellJam_89 (fun dt57017 H locs hm hW hS => ?_)
    refine lv_aload_n hx hb dX12_tellJam_90 rfl (lv_at hl 0 rfl) ?_
    refine lv_iconst (v := 4) hx hb dX12_tellJam_91 (by decide) ?_
    obtain ⟨dt57019, hc57018, hm⟩ := q_b1i hm
    refine q_callV C hW hS (As := [.int 4]) (rest := []) (st1 := []) (c_X12_must l D al dt57017 x0_57 4 kx0_57 dt57019 hc57018) yl_X12_must vl_X12_must ml_RX12_280 (ci := 12) rfl kx0_57 (by decide) rfl ⟨Nat.le_of_ble_eq_true rfl, Nat.le_of_ble_eq_true rfl⟩ hl rfl (Nat.le_of_ble_eq_true rfl) dX12_tellJam_92 ⟨Nat.le_refl _, Nat.le_refl _⟩ rfl (fun H locs k57020 hW hS => ?_)
    refine lv_aload_n hx hb dX12_tellJam_95 rfl (lv_at hl 0 rfl) ?_
    refine r_getI C hW (ci := 12) kx0_57 ff_12_13 cl_12 fl_RX12_212 dX12_tellJam_96 ?_
    refine q_ifc hm (fun c57021 hm => ?_) (fun c57021 hm => ?_)
    · refine lv_if_ne (tgt := 115) hx hb dX12_tellJam_99 (by decide) (fun h => absurd c57021 h) (fun _ => ?_)
      refine lv_aload_n hx hb dX12_tellJam_102 rfl (lv_at hl 0 rfl) ?_
      refine r_getF C hW (ci := 12) kx0_57 ff_12_42 cl_12 fl_RX12_103 dX12_tellJam_103 (fun k57022 => ?_)
      refine lv_aload_n hx hb dX12_tellJam_106 rfl (lv_at hl 0 rfl) ?_
      refine r_getI C hW (ci := 12) kx0_57 ff_12_19 cl_12 fl_RX12_245 dX12_tellJam_107 ?_
      refine lv_dup2_11 hx hb dX12_tellJam_110 rfl rfl ?_
      refine r_iald C hW hm k57022 dX12_tellJam_111 (fun hm => ?_)
      refine lv_iconst (v := 1) hx hb dX12_tellJam_112 (by decide) ?_
      refine lv_iadd hx hb dX12_tellJam_113 ?_
      refine r_iast C hW hS hm k57022 dX12_tellJam_114 (fun dt57023 H locs hm hW hS => ?_)
      exact e_vD C hW hS hm dX12_tellJam_115
    refine lv_if_ne (tgt := 115) hx hb dX12_tellJam_99 (by decide) (fun _ => ?_) (fun h => absurd h c57021)
    exact e_vD C hW hS hm dX12_tellJam_115
  refine lv_iconst (v := 4) hx hb dX12_tellJam_0 (by decide) ?_
  refine lv_aload_n hx hb dX12_tellJam_1 rfl (lv_at hl 0 rfl) ?_
  refine r_getI C hW (ci := 12) kx0 ff_12_19 cl_12 fl_RX12_245 dX12_tellJam_2 ?_
  refine lv_imul hx hb dX12_tellJam_5 ?_
  refine lv_aload_n hx hb dX12_tellJam_6 rfl (lv_at hl 0 rfl) ?_
  refine r_getF C hW (ci := 12) kx0 ff_12_42 cl_12 fl_RX12_103 dX12_tellJam_7 (fun k1000001 => ?_)
  refine lv_aload_n hx hb dX12_tellJam_10 rfl (lv_at hl 0 rfl) ?_
  refine r_getI C hW (ci := 12) kx0 ff_12_19 cl_12 fl_RX12_245 dX12_tellJam_11 ?_
  refine r_iald C hW hm k1000001 dX12_tellJam_14 (fun hm => ?_)
  refine lv_iadd hx hb dX12_tellJam_15 ?_
  refine q_nmI hm (fun v1000002 ev1000002 hm => ?_)
  refine lv_istore_n (i := 1) (lv' := [(1, .int v1000002), (0, .ref x0)]) hx hb dX12_tellJam_16 rfl hl (by decide) rfl (fun ls hl => ?_)
  refine lv_aload_n hx hb dX12_tellJam_17 rfl (lv_at hl 1 rfl) ?_
  refine r_getF C hW (ci := 12) kx0 ff_12_43 cl_12 fl_RX12_106 dX12_tellJam_18 (fun k1000003 => ?_)
  refine lv_iload_n hx hb dX12_tellJam_21 rfl (lv_at hl 0 rfl) ?_
  refine lv_aload_n hx hb dX12_tellJam_22 rfl (lv_at hl 1 rfl) ?_
  refine lv_iconst (v := 0) hx hb dX12_tellJam_23 (by decide) ?_
  refine lv_sipush (v := 511) hx hb dX12_tellJam_24 (by decide) ?_
  obtain ⟨v1000005, dt1000006, hc1000004, hm⟩ := q_b2i hm
  refine q_callV C hW hS (As := [.int 0, .int 511]) (rest := [.int v1000002, .ref (al.2.2 x0 43)]) (st1 := [.int v1000005, .int v1000002, .ref (al.2.2 x0 43)]) (c_X12_bounded l D al dt x0 0 511 kx0 v1000005 dt1000006 hc1000004) yl_X12_bounded vl_X12_bounded ml_RX12_276 (ci := 12) rfl kx0 (by decide) rfl ⟨Nat.le_of_ble_eq_true rfl, Nat.le_of_ble_eq_true rfl⟩ hl rfl (Nat.le_of_ble_eq_true rfl) dX12_tellJam_27 ⟨Nat.le_refl _, Nat.le_refl _⟩ rfl (fun H locs k1000007 hW hS => ?_)
  refine r_iast C hW hS hm k1000003 dX12_tellJam_30 (fun dt1000008 H locs hm hW hS => ?_)
  refine lv_aload_n hx hb dX12_tellJam_31 rfl (lv_at hl 1 rfl) ?_
  refine r_getI C hW (ci := 12) kx0 ff_12_50 cl_12 fl_RX12_286 dX12_tellJam_32 ?_
  refine lv_istore_n (i := 2) (lv' := [(2, .int (dt1000008.1 x0 50)), (1, .int v1000002), (0, .ref x0)]) hx hb dX12_tellJam_35 rfl hl (by decide) rfl (fun ls hl => ?_)
  refine lv_aload_n hx hb dX12_tellJam_36 rfl (lv_at hl 2 rfl) ?_
  refine r_getF C hW (ci := 12) kx0 ff_12_44 cl_12 fl_RX12_109 dX12_tellJam_37 (fun k1000009 => ?_)
  refine lv_iload_n hx hb dX12_tellJam_40 rfl (lv_at hl 1 rfl) ?_
  refine lv_aload_n hx hb dX12_tellJam_41 rfl (lv_at hl 2 rfl) ?_
  refine lv_iload_n hx hb dX12_tellJam_42 rfl (lv_at hl 0 rfl) ?_
  refine lv_iload_n hx hb dX12_tellJam_43 rfl (lv_at hl 0 rfl) ?_
  refine q_ifc hm (fun c1000010 hm => ?_) (fun c1000010 hm => ?_)
  · refine lv_if_eq (tgt := 56) hx hb dX12_tellJam_44 (by decide) (fun _ => ?_) (fun h => absurd c1000010 h)
    refine lv_iconst (v := 0) hx hb dX12_tellJam_56 (by decide) ?_
    exact hB57 x0 v1000002 (al.2.2 x0 44) v1000002 x0 (dt1000008.1 x0 50) 0 kx0 k1000009 kx0 dt1000008 _ _ _ hm hW hS (lv_sub hl [2, 1] rfl)
  refine lv_if_eq (tgt := 56) hx hb dX12_tellJam_44 (by decide) (fun h => absurd h c1000010) (fun _ => ?_)
  refine lv_aload_n hx hb dX12_tellJam_47 rfl (lv_at hl 2 rfl) ?_
  refine r_getF C hW (ci := 12) kx0 ff_12_43 cl_12 fl_RX12_106 dX12_tellJam_48 (fun k1000011 => ?_)
  refine lv_iload_n hx hb dX12_tellJam_51 rfl (lv_at hl 1 rfl) ?_
  refine r_iald C hW hm k1000011 dX12_tellJam_52 (fun hm => ?_)
  refine lv_goto (tgt := 57) hx hb dX12_tellJam_53 (by decide) ?_
  exact hB57 x0 v1000002 (al.2.2 x0 44) v1000002 x0 (dt1000008.1 x0 50) (dt1000008.1 (al.2.2 x0 43) (Int32.toNatClampNeg v1000002)) kx0 k1000009 kx0 dt1000008 _ _ _ hm hW hS (lv_sub hl [2, 1] rfl)
theorem dX12_tell_0 : decode cX12_tell 0 = .ok (.aload_n 0, 1) := by decide +kernel
theorem dX12_tell_1 : decode cX12_tell 1 = .ok (.getfield 20, 3) := by decide +kernel
theorem dX12_tell_4 : decode cX12_tell 4 = .ok (.aload_n 0, 1) := by decide +kernel
theorem dX12_tell_5 : decode cX12_tell 5 = .ok (.getfield 215, 3) := by decide +kernel
theorem dX12_tell_8 : decode cX12_tell 8 = .ok (.iaload, 1) := by decide +kernel
theorem dX12_tell_9 : decode cX12_tell 9 = .ok (.istore_n 1, 1) := by decide +kernel
theorem dX12_tell_10 : decode cX12_tell 10 = .ok (.iload_n 1, 1) := by decide +kernel
theorem dX12_tell_11 : decode cX12_tell 11 = .ok (.tableswitch 277 20 29 #[53, 53, 53, 53, 83, 112, 141, 170, 198, 247], 53) := by decide +kernel
theorem dX12_tell_64 : decode cX12_tell 64 = .ok (.aload_n 0, 1) := by decide +kernel
theorem dX12_tell_65 : decode cX12_tell 65 = .ok (.aload_n 0, 1) := by decide +kernel
theorem dX12_tell_66 : decode cX12_tell 66 = .ok (.getfield 49, 3) := by decide +kernel
theorem dX12_tell_69 : decode cX12_tell 69 = .ok (.aload_n 0, 1) := by decide +kernel
theorem dX12_tell_70 : decode cX12_tell 70 = .ok (.getfield 245, 3) := by decide +kernel
theorem dX12_tell_73 : decode cX12_tell 73 = .ok (.iaload, 1) := by decide +kernel
theorem dX12_tell_74 : decode cX12_tell 74 = .ok (.bipush 8, 2) := by decide +kernel
theorem dX12_tell_76 : decode cX12_tell 76 = .ok (.invokevirtual 257, 3) := by decide +kernel
theorem dX12_tell_79 : decode cX12_tell 79 = .ok (.aload_n 0, 1) := by decide +kernel
theorem dX12_tell_80 : decode cX12_tell 80 = .ok (.getfield 212, 3) := by decide +kernel
theorem dX12_tell_83 : decode cX12_tell 83 = .ok (.ifCond .ne 210, 3) := by decide +kernel
theorem dX12_tell_86 : decode cX12_tell 86 = .ok (.aload_n 0, 1) := by decide +kernel
theorem dX12_tell_87 : decode cX12_tell 87 = .ok (.iload_n 1, 1) := by decide +kernel
theorem dX12_tell_88 : decode cX12_tell 88 = .ok (.invokevirtual 261, 3) := by decide +kernel
theorem dX12_tell_91 : decode cX12_tell 91 = .ok (.goto 202, 3) := by decide +kernel
theorem dX12_tell_94 : decode cX12_tell 94 = .ok (.aload_n 0, 1) := by decide +kernel
theorem dX12_tell_95 : decode cX12_tell 95 = .ok (.aload_n 0, 1) := by decide +kernel
theorem dX12_tell_96 : decode cX12_tell 96 = .ok (.getfield 58, 3) := by decide +kernel
theorem dX12_tell_99 : decode cX12_tell 99 = .ok (.aload_n 0, 1) := by decide +kernel
theorem dX12_tell_100 : decode cX12_tell 100 = .ok (.getfield 245, 3) := by decide +kernel
theorem dX12_tell_103 : decode cX12_tell 103 = .ok (.iaload, 1) := by decide +kernel
theorem dX12_tell_104 : decode cX12_tell 104 = .ok (.bipush 6, 2) := by decide +kernel
theorem dX12_tell_106 : decode cX12_tell 106 = .ok (.invokevirtual 257, 3) := by decide +kernel
theorem dX12_tell_109 : decode cX12_tell 109 = .ok (.aload_n 0, 1) := by decide +kernel
theorem dX12_tell_110 : decode cX12_tell 110 = .ok (.getfield 212, 3) := by decide +kernel
theorem dX12_tell_113 : decode cX12_tell 113 = .ok (.ifCond .ne 180, 3) := by decide +kernel
theorem dX12_tell_116 : decode cX12_tell 116 = .ok (.aload_n 0, 1) := by decide +kernel
theorem dX12_tell_117 : decode cX12_tell 117 = .ok (.invokevirtual 264, 3) := by decide +kernel
theorem dX12_tell_120 : decode cX12_tell 120 = .ok (.goto 173, 3) := by decide +kernel
theorem dX12_tell_123 : decode cX12_tell 123 = .ok (.aload_n 0, 1) := by decide +kernel
theorem dX12_tell_124 : decode cX12_tell 124 = .ok (.aload_n 0, 1) := by decide +kernel
theorem dX12_tell_125 : decode cX12_tell 125 = .ok (.getfield 70, 3) := by decide +kernel
theorem dX12_tell_128 : decode cX12_tell 128 = .ok (.aload_n 0, 1) := by decide +kernel
theorem dX12_tell_129 : decode cX12_tell 129 = .ok (.getfield 245, 3) := by decide +kernel
theorem dX12_tell_132 : decode cX12_tell 132 = .ok (.iaload, 1) := by decide +kernel
theorem dX12_tell_133 : decode cX12_tell 133 = .ok (.bipush 6, 2) := by decide +kernel
theorem dX12_tell_135 : decode cX12_tell 135 = .ok (.invokevirtual 257, 3) := by decide +kernel
theorem dX12_tell_138 : decode cX12_tell 138 = .ok (.aload_n 0, 1) := by decide +kernel
theorem dX12_tell_139 : decode cX12_tell 139 = .ok (.getfield 212, 3) := by decide +kernel
theorem dX12_tell_142 : decode cX12_tell 142 = .ok (.ifCond .ne 151, 3) := by decide +kernel
theorem dX12_tell_145 : decode cX12_tell 145 = .ok (.aload_n 0, 1) := by decide +kernel
theorem dX12_tell_146 : decode cX12_tell 146 = .ok (.invokevirtual 267, 3) := by decide +kernel
theorem dX12_tell_149 : decode cX12_tell 149 = .ok (.goto 144, 3) := by decide +kernel
theorem dX12_tell_152 : decode cX12_tell 152 = .ok (.aload_n 0, 1) := by decide +kernel
theorem dX12_tell_153 : decode cX12_tell 153 = .ok (.aload_n 0, 1) := by decide +kernel
theorem dX12_tell_154 : decode cX12_tell 154 = .ok (.getfield 91, 3) := by decide +kernel
theorem dX12_tell_157 : decode cX12_tell 157 = .ok (.aload_n 0, 1) := by decide +kernel
theorem dX12_tell_158 : decode cX12_tell 158 = .ok (.getfield 245, 3) := by decide +kernel
theorem dX12_tell_161 : decode cX12_tell 161 = .ok (.iaload, 1) := by decide +kernel
theorem dX12_tell_162 : decode cX12_tell 162 = .ok (.bipush 6, 2) := by decide +kernel
theorem dX12_tell_164 : decode cX12_tell 164 = .ok (.invokevirtual 257, 3) := by decide +kernel
theorem dX12_tell_167 : decode cX12_tell 167 = .ok (.aload_n 0, 1) := by decide +kernel
theorem dX12_tell_168 : decode cX12_tell 168 = .ok (.getfield 212, 3) := by decide +kernel
theorem dX12_tell_171 : decode cX12_tell 171 = .ok (.ifCond .ne 122, 3) := by decide +kernel
theorem dX12_tell_174 : decode cX12_tell 174 = .ok (.aload_n 0, 1) := by decide +kernel
theorem dX12_tell_175 : decode cX12_tell 175 = .ok (.invokevirtual 270, 3) := by decide +kernel
theorem dX12_tell_178 : decode cX12_tell 178 = .ok (.goto 115, 3) := by decide +kernel
theorem dX12_tell_181 : decode cX12_tell 181 = .ok (.aload_n 0, 1) := by decide +kernel
theorem dX12_tell_182 : decode cX12_tell 182 = .ok (.aload_n 0, 1) := by decide +kernel
theorem dX12_tell_183 : decode cX12_tell 183 = .ok (.getfield 103, 3) := by decide +kernel
theorem dX12_tell_186 : decode cX12_tell 186 = .ok (.aload_n 0, 1) := by decide +kernel
theorem dX12_tell_187 : decode cX12_tell 187 = .ok (.getfield 245, 3) := by decide +kernel
theorem dX12_tell_190 : decode cX12_tell 190 = .ok (.iaload, 1) := by decide +kernel
theorem dX12_tell_191 : decode cX12_tell 191 = .ok (.iconst 4, 1) := by decide +kernel
theorem dX12_tell_192 : decode cX12_tell 192 = .ok (.invokevirtual 257, 3) := by decide +kernel
theorem dX12_tell_195 : decode cX12_tell 195 = .ok (.aload_n 0, 1) := by decide +kernel
theorem dX12_tell_196 : decode cX12_tell 196 = .ok (.getfield 212, 3) := by decide +kernel
theorem dX12_tell_199 : decode cX12_tell 199 = .ok (.ifCond .ne 94, 3) := by decide +kernel
theorem dX12_tell_202 : decode cX12_tell 202 = .ok (.aload_n 0, 1) := by decide +kernel
theorem dX12_tell_203 : decode cX12_tell 203 = .ok (.invokevirtual 273, 3) := by decide +kernel
theorem dX12_tell_206 : decode cX12_tell 206 = .ok (.goto 87, 3) := by decide +kernel
theorem dX12_tell_209 : decode cX12_tell 209 = .ok (.aload_n 0, 1) := by decide +kernel
theorem dX12_tell_210 : decode cX12_tell 210 = .ok (.invokevirtual 233, 3) := by decide +kernel
theorem dX12_tell_213 : decode cX12_tell 213 = .ok (.aload_n 0, 1) := by decide +kernel
theorem dX12_tell_214 : decode cX12_tell 214 = .ok (.iconst 0, 1) := by decide +kernel
theorem dX12_tell_215 : decode cX12_tell 215 = .ok (.bipush 50, 2) := by decide +kernel
theorem dX12_tell_217 : decode cX12_tell 217 = .ok (.invokevirtual 276, 3) := by decide +kernel
theorem dX12_tell_220 : decode cX12_tell 220 = .ok (.istore_n 2, 1) := by decide +kernel
theorem dX12_tell_221 : decode cX12_tell 221 = .ok (.aload_n 0, 1) := by decide +kernel
theorem dX12_tell_222 : decode cX12_tell 222 = .ok (.iconst 0, 1) := by decide +kernel
theorem dX12_tell_223 : decode cX12_tell 223 = .ok (.sipush 9999, 3) := by decide +kernel
theorem dX12_tell_226 : decode cX12_tell 226 = .ok (.invokevirtual 276, 3) := by decide +kernel
theorem dX12_tell_229 : decode cX12_tell 229 = .ok (.istore_n 3, 1) := by decide +kernel
theorem dX12_tell_230 : decode cX12_tell 230 = .ok (.aload_n 0, 1) := by decide +kernel
theorem dX12_tell_231 : decode cX12_tell 231 = .ok (.iconst 4, 1) := by decide +kernel
theorem dX12_tell_232 : decode cX12_tell 232 = .ok (.invokevirtual 280, 3) := by decide +kernel
theorem dX12_tell_235 : decode cX12_tell 235 = .ok (.aload_n 0, 1) := by decide +kernel
theorem dX12_tell_236 : decode cX12_tell 236 = .ok (.getfield 118, 3) := by decide +kernel
theorem dX12_tell_239 : decode cX12_tell 239 = .ok (.aload_n 0, 1) := by decide +kernel
theorem dX12_tell_240 : decode cX12_tell 240 = .ok (.getfield 245, 3) := by decide +kernel
theorem dX12_tell_243 : decode cX12_tell 243 = .ok (.iload_n 2, 1) := by decide +kernel
theorem dX12_tell_244 : decode cX12_tell 244 = .ok (.iastore, 1) := by decide +kernel
theorem dX12_tell_245 : decode cX12_tell 245 = .ok (.aload_n 0, 1) := by decide +kernel
theorem dX12_tell_246 : decode cX12_tell 246 = .ok (.getfield 121, 3) := by decide +kernel
theorem dX12_tell_249 : decode cX12_tell 249 = .ok (.aload_n 0, 1) := by decide +kernel
theorem dX12_tell_250 : decode cX12_tell 250 = .ok (.getfield 245, 3) := by decide +kernel
theorem dX12_tell_253 : decode cX12_tell 253 = .ok (.iload_n 3, 1) := by decide +kernel
theorem dX12_tell_254 : decode cX12_tell 254 = .ok (.iastore, 1) := by decide +kernel
theorem dX12_tell_255 : decode cX12_tell 255 = .ok (.goto 38, 3) := by decide +kernel
theorem dX12_tell_258 : decode cX12_tell 258 = .ok (.aload_n 0, 1) := by decide +kernel
theorem dX12_tell_259 : decode cX12_tell 259 = .ok (.invokevirtual 233, 3) := by decide +kernel
theorem dX12_tell_262 : decode cX12_tell 262 = .ok (.aload_n 0, 1) := by decide +kernel
theorem dX12_tell_263 : decode cX12_tell 263 = .ok (.getfield 124, 3) := by decide +kernel
theorem dX12_tell_266 : decode cX12_tell 266 = .ok (.aload_n 0, 1) := by decide +kernel
theorem dX12_tell_267 : decode cX12_tell 267 = .ok (.getfield 245, 3) := by decide +kernel
theorem dX12_tell_270 : decode cX12_tell 270 = .ok (.aload_n 0, 1) := by decide +kernel
theorem dX12_tell_271 : decode cX12_tell 271 = .ok (.bipush 16, 2) := by decide +kernel
theorem dX12_tell_273 : decode cX12_tell 273 = .ok (.sipush 512, 3) := by decide +kernel
theorem dX12_tell_276 : decode cX12_tell 276 = .ok (.invokevirtual 276, 3) := by decide +kernel
theorem dX12_tell_279 : decode cX12_tell 279 = .ok (.iastore, 1) := by decide +kernel
theorem dX12_tell_280 : decode cX12_tell 280 = .ok (.aload_n 0, 1) := by decide +kernel
theorem dX12_tell_281 : decode cX12_tell 281 = .ok (.iconst 4, 1) := by decide +kernel
theorem dX12_tell_282 : decode cX12_tell 282 = .ok (.invokevirtual 280, 3) := by decide +kernel
theorem dX12_tell_285 : decode cX12_tell 285 = .ok (.goto 8, 3) := by decide +kernel
theorem dX12_tell_288 : decode cX12_tell 288 = .ok (.aload_n 0, 1) := by decide +kernel
theorem dX12_tell_289 : decode cX12_tell 289 = .ok (.iconst 1, 1) := by decide +kernel
theorem dX12_tell_290 : decode cX12_tell 290 = .ok (.invokevirtual 227, 3) := by decide +kernel
theorem dX12_tell_293 : decode cX12_tell 293 = .ok (.return_, 1) := by decide +kernel
set_option maxRecDepth 100000 in
theorem c_X12_tell (l : Launch) (D : q_D) (al : q_Al) (dt : q_Dt) (x0 : Nat) (kx0 : al.1 x0 = 13) (dt0 : q_Dt) (hm : X12_tell al dt x0 = some dt0) : q_Mt l yX12_tell cX12_tell 4 (none) 6 144 D al [.ref x0] dt 0 none dt0 := by
  refine q_Mt.of (by decide) (Nat.le_of_ble_eq_true rfl) ?_
  intro p e s m args below meth c ls C hargs hW hl
  have hx := C.1
  have hb := C.2.1
  have hown := C.2.2.2.2.2.1
  have hts := C.2.2.2.2.2.2.1
  have hS : va_S (q_A al) s.heap s.heap [] := va_S.rf
  have hl : lv_has ls 4 [(0, .ref x0)] := hl
  unfold X12_tell at hm
  have hB64 : ∀ (x0_64 : Nat) (x1_64 : Int32) (kx0_64 : al.1 x0_64 = 13) (dt : q_Dt) (H : Heap) (locs : List Loc) (ls : Array Slot) (hm : X12_tell_b64 al x0_64 x1_64 dt = some dt0) (hW : q_W D al dt H) (hS : va_S (q_A al) s.heap H locs) (hl : lv_has ls 4 [(0, .ref x0_64), (1, .int x1_64)]), W p l e { frames := 6, cells := 0, slots := 0, locals := 144 } s m args below meth c H locs 0 0 (MQ below (q_Q none (fun H => q_W D al dt0 H ∧ q_Rk al 0 none) (q_A al)) args s 0 0 (q_A al)) (F0 m 64 ls []) := by
    intro x0_64 x1_64 kx0_64 dt H locs ls hm hW hS hl
    unfold X12_tell_b64 at hm
    refine lv_aload_n hx hb dX12_tell_64 rfl (lv_at hl 0 rfl) ?_
    refine lv_aload_n hx hb dX12_tell_65 rfl (lv_at hl 0 rfl) ?_
    refine r_getF C hW (ci := 12) kx0_64 ff_12_24 cl_12 fl_RX12_49 dX12_tell_66 (fun k64001 => ?_)
    refine lv_aload_n hx hb dX12_tell_69 rfl (lv_at hl 0 rfl) ?_
    refine r_getI C hW (ci := 12) kx0_64 ff_12_19 cl_12 fl_RX12_245 dX12_tell_70 ?_
    refine r_iald C hW hm k64001 dX12_tell_73 (fun hm => ?_)
    refine lv_bipush (v := 8) hx hb dX12_tell_74 (by decide) ?_
    obtain ⟨dt64003, hc64002, hm⟩ := q_b1i hm
    refine q_callV C hW hS (As := [.int (dt.1 (al.2.2 x0_64 24) (Int32.toNatClampNeg (dt.1 x0_64 19))), .int 8]) (rest := []) (st1 := []) (c_X12_room l D al dt x0_64 (dt.1 (al.2.2 x0_64 24) (Int32.toNatClampNeg (dt.1 x0_64 19))) 8 kx0_64 dt64003 hc64002) yl_X12_room vl_X12_room ml_RX12_257 (ci := 12) rfl kx0_64 (by decide) rfl ⟨Nat.le_of_ble_eq_true rfl, Nat.le_of_ble_eq_true rfl⟩ hl rfl (Nat.le_of_ble_eq_true rfl) dX12_tell_76 ⟨Nat.le_refl _, Nat.le_refl _⟩ rfl (fun H locs k64004 hW hS => ?_)
    refine lv_aload_n hx hb dX12_tell_79 rfl (lv_at hl 0 rfl) ?_
    refine r_getI C hW (ci := 12) kx0_64 ff_12_13 cl_12 fl_RX12_212 dX12_tell_80 ?_
    refine q_ifc hm (fun c64005 hm => ?_) (fun c64005 hm => ?_)
    · refine lv_if_ne (tgt := 293) hx hb dX12_tell_83 (by decide) (fun h => absurd c64005 h) (fun _ => ?_)
      refine lv_aload_n hx hb dX12_tell_86 rfl (lv_at hl 0 rfl) ?_
      refine lv_iload_n hx hb dX12_tell_87 rfl (lv_at hl 1 rfl) ?_
      obtain ⟨dt64007, hc64006, hm⟩ := q_b1i hm
      refine q_callV C hW hS (As := [.int x1_64]) (rest := []) (st1 := []) (c_X12_tellCode l D al dt64003 x0_64 x1_64 kx0_64 dt64007 hc64006) yl_X12_tellCode vl_X12_tellCode ml_RX12_261 (ci := 12) rfl kx0_64 (by decide) rfl ⟨Nat.le_of_ble_eq_true rfl, Nat.le_of_ble_eq_true rfl⟩ hl rfl (Nat.le_of_ble_eq_true rfl) dX12_tell_88 ⟨Nat.le_refl _, Nat.le_refl _⟩ rfl (fun H locs k64008 hW hS => ?_)
      refine lv_goto (tgt := 293) hx hb dX12_tell_91 (by decide) ?_
      exact e_vD C hW hS hm dX12_tell_293
    refine lv_if_ne (tgt := 293) hx hb dX12_tell_83 (by decide) (fun _ => ?_) (fun h => absurd h c64005)
    exact e_vD C hW hS hm dX12_tell_293
  refine lv_aload_n hx hb dX12_tell_0 rfl (lv_at hl 0 rfl) ?_
  refine r_getF C hW (ci := 12) kx0 ff_12_5 cl_12 fl_RX12_20 dX12_tell_1 (fun k1000001 => ?_)
  refine lv_aload_n hx hb dX12_tell_4 rfl (lv_at hl 0 rfl) ?_
  refine r_getI C hW (ci := 12) kx0 ff_12_11 cl_12 fl_RX12_215 dX12_tell_5 ?_
  refine r_iald C hW hm k1000001 dX12_tell_8 (fun hm => ?_)
  refine q_nmI hm (fun v1000002 ev1000002 hm => ?_)
  refine lv_istore_n (i := 1) (lv' := [(1, .int v1000002), (0, .ref x0)]) hx hb dX12_tell_9 rfl hl (by decide) rfl (fun ls hl => ?_)
  refine lv_iload_n hx hb dX12_tell_10 rfl (lv_at hl 0 rfl) ?_
  refine q_ifc hm (fun c1000003 hm => ?_) (fun c1000003 hm => ?_)
  · refine lv_tableIn (tgt := 64) hx hb dX12_tell_11 (by rw [c1000003]; decide) (by rw [c1000003]; decide) (by rw [c1000003]; rfl) (by decide) ?_
    exact hB64 x0 v1000002 kx0 dt _ _ _ hm hW hS (lv_sub hl [1, 0] rfl)
  refine q_ifc hm (fun c1000004 hm => ?_) (fun c1000004 hm => ?_)
  · refine lv_tableIn (tgt := 64) hx hb dX12_tell_11 (by rw [c1000004]; decide) (by rw [c1000004]; decide) (by rw [c1000004]; rfl) (by decide) ?_
    exact hB64 x0 v1000002 kx0 dt _ _ _ hm hW hS (lv_sub hl [1, 0] rfl)
  refine q_ifc hm (fun c1000005 hm => ?_) (fun c1000005 hm => ?_)
  · refine lv_tableIn (tgt := 64) hx hb dX12_tell_11 (by rw [c1000005]; decide) (by rw [c1000005]; decide) (by rw [c1000005]; rfl) (by decide) ?_
    exact hB64 x0 v1000002 kx0 dt _ _ _ hm hW hS (lv_sub hl [1, 0] rfl)
  refine q_ifc hm (fun c1000006 hm => ?_) (fun c1000006 hm => ?_)
  · refine lv_tableIn (tgt := 64) hx hb dX12_tell_11 (by rw [c1000006]; decide) (by rw [c1000006]; decide) (by rw [c1000006]; rfl) (by decide) ?_
    exact hB64 x0 v1000002 kx0 dt _ _ _ hm hW hS (lv_sub hl [1, 0] rfl)
  refine q_ifc hm (fun c1000007 hm => ?_) (fun c1000007 hm => ?_)
  · refine lv_tableIn (tgt := 94) hx hb dX12_tell_11 (by rw [c1000007]; decide) (by rw [c1000007]; decide) (by rw [c1000007]; rfl) (by decide) ?_
    refine lv_aload_n hx hb dX12_tell_94 rfl (lv_at hl 1 rfl) ?_
    refine lv_aload_n hx hb dX12_tell_95 rfl (lv_at hl 1 rfl) ?_
    refine r_getF C hW (ci := 12) kx0 ff_12_27 cl_12 fl_RX12_58 dX12_tell_96 (fun k1000008 => ?_)
    refine lv_aload_n hx hb dX12_tell_99 rfl (lv_at hl 1 rfl) ?_
    refine r_getI C hW (ci := 12) kx0 ff_12_19 cl_12 fl_RX12_245 dX12_tell_100 ?_
    refine r_iald C hW hm k1000008 dX12_tell_103 (fun hm => ?_)
    refine lv_bipush (v := 6) hx hb dX12_tell_104 (by decide) ?_
    obtain ⟨dt1000010, hc1000009, hm⟩ := q_b1i hm
    refine q_callV C hW hS (As := [.int (dt.1 (al.2.2 x0 27) (Int32.toNatClampNeg (dt.1 x0 19))), .int 6]) (rest := []) (st1 := []) (c_X12_room l D al dt x0 (dt.1 (al.2.2 x0 27) (Int32.toNatClampNeg (dt.1 x0 19))) 6 kx0 dt1000010 hc1000009) yl_X12_room vl_X12_room ml_RX12_257 (ci := 12) rfl kx0 (by decide) rfl ⟨Nat.le_of_ble_eq_true rfl, Nat.le_of_ble_eq_true rfl⟩ hl rfl (Nat.le_of_ble_eq_true rfl) dX12_tell_106 ⟨Nat.le_refl _, Nat.le_refl _⟩ rfl (fun H locs k1000011 hW hS => ?_)
    refine lv_aload_n hx hb dX12_tell_109 rfl (lv_at hl 1 rfl) ?_
    refine r_getI C hW (ci := 12) kx0 ff_12_13 cl_12 fl_RX12_212 dX12_tell_110 ?_
    refine q_ifc hm (fun c1000012 hm => ?_) (fun c1000012 hm => ?_)
    · refine lv_if_ne (tgt := 293) hx hb dX12_tell_113 (by decide) (fun h => absurd c1000012 h) (fun _ => ?_)
      refine lv_aload_n hx hb dX12_tell_116 rfl (lv_at hl 1 rfl) ?_
      obtain ⟨dt1000014, hc1000013, hm⟩ := q_b1i hm
      refine q_callV C hW hS (As := []) (rest := []) (st1 := []) (c_X12_tellHop l D al dt1000010 x0 kx0 dt1000014 hc1000013) yl_X12_tellHop vl_X12_tellHop ml_RX12_264 (ci := 12) rfl kx0 (by decide) rfl ⟨Nat.le_of_ble_eq_true rfl, Nat.le_of_ble_eq_true rfl⟩ hl rfl (Nat.le_of_ble_eq_true rfl) dX12_tell_117 ⟨Nat.le_refl _, Nat.le_refl _⟩ rfl (fun H locs k1000015 hW hS => ?_)
      refine lv_goto (tgt := 293) hx hb dX12_tell_120 (by decide) ?_
      exact e_vD C hW hS hm dX12_tell_293
    refine lv_if_ne (tgt := 293) hx hb dX12_tell_113 (by decide) (fun _ => ?_) (fun h => absurd h c1000012)
    exact e_vD C hW hS hm dX12_tell_293
  refine q_ifc hm (fun c1000016 hm => ?_) (fun c1000016 hm => ?_)
  · refine lv_tableIn (tgt := 123) hx hb dX12_tell_11 (by rw [c1000016]; decide) (by rw [c1000016]; decide) (by rw [c1000016]; rfl) (by decide) ?_
    refine lv_aload_n hx hb dX12_tell_123 rfl (lv_at hl 1 rfl) ?_
    refine lv_aload_n hx hb dX12_tell_124 rfl (lv_at hl 1 rfl) ?_
    refine r_getF C hW (ci := 12) kx0 ff_12_31 cl_12 fl_RX12_70 dX12_tell_125 (fun k1000017 => ?_)
    refine lv_aload_n hx hb dX12_tell_128 rfl (lv_at hl 1 rfl) ?_
    refine r_getI C hW (ci := 12) kx0 ff_12_19 cl_12 fl_RX12_245 dX12_tell_129 ?_
    refine r_iald C hW hm k1000017 dX12_tell_132 (fun hm => ?_)
    refine lv_bipush (v := 6) hx hb dX12_tell_133 (by decide) ?_
    obtain ⟨dt1000019, hc1000018, hm⟩ := q_b1i hm
    refine q_callV C hW hS (As := [.int (dt.1 (al.2.2 x0 31) (Int32.toNatClampNeg (dt.1 x0 19))), .int 6]) (rest := []) (st1 := []) (c_X12_room l D al dt x0 (dt.1 (al.2.2 x0 31) (Int32.toNatClampNeg (dt.1 x0 19))) 6 kx0 dt1000019 hc1000018) yl_X12_room vl_X12_room ml_RX12_257 (ci := 12) rfl kx0 (by decide) rfl ⟨Nat.le_of_ble_eq_true rfl, Nat.le_of_ble_eq_true rfl⟩ hl rfl (Nat.le_of_ble_eq_true rfl) dX12_tell_135 ⟨Nat.le_refl _, Nat.le_refl _⟩ rfl (fun H locs k1000020 hW hS => ?_)
    refine lv_aload_n hx hb dX12_tell_138 rfl (lv_at hl 1 rfl) ?_
    refine r_getI C hW (ci := 12) kx0 ff_12_13 cl_12 fl_RX12_212 dX12_tell_139 ?_
    refine q_ifc hm (fun c1000021 hm => ?_) (fun c1000021 hm => ?_)
    · refine lv_if_ne (tgt := 293) hx hb dX12_tell_142 (by decide) (fun h => absurd c1000021 h) (fun _ => ?_)
      refine lv_aload_n hx hb dX12_tell_145 rfl (lv_at hl 1 rfl) ?_
      obtain ⟨dt1000023, hc1000022, hm⟩ := q_b1i hm
      refine q_callV C hW hS (As := []) (rest := []) (st1 := []) (c_X12_tellSend l D al dt1000019 x0 kx0 dt1000023 hc1000022) yl_X12_tellSend vl_X12_tellSend ml_RX12_267 (ci := 12) rfl kx0 (by decide) rfl ⟨Nat.le_of_ble_eq_true rfl, Nat.le_of_ble_eq_true rfl⟩ hl rfl (Nat.le_of_ble_eq_true rfl) dX12_tell_146 ⟨Nat.le_refl _, Nat.le_refl _⟩ rfl (fun H locs k1000024 hW hS => ?_)
      refine lv_goto (tgt := 293) hx hb dX12_tell_149 (by decide) ?_
      exact e_vD C hW hS hm dX12_tell_293
    refine lv_if_ne (tgt := 293) hx hb dX12_tell_142 (by decide) (fun _ => ?_) (fun h => absurd h c1000021)
    exact e_vD C hW hS hm dX12_tell_293
  refine q_ifc hm (fun c1000025 hm => ?_) (fun c1000025 hm => ?_)
  · refine lv_tableIn (tgt := 152) hx hb dX12_tell_11 (by rw [c1000025]; decide) (by rw [c1000025]; decide) (by rw [c1000025]; rfl) (by decide) ?_
    refine lv_aload_n hx hb dX12_tell_152 rfl (lv_at hl 1 rfl) ?_
    refine lv_aload_n hx hb dX12_tell_153 rfl (lv_at hl 1 rfl) ?_
    refine r_getF C hW (ci := 12) kx0 ff_12_38 cl_12 fl_RX12_91 dX12_tell_154 (fun k1000026 => ?_)
    refine lv_aload_n hx hb dX12_tell_157 rfl (lv_at hl 1 rfl) ?_
    refine r_getI C hW (ci := 12) kx0 ff_12_19 cl_12 fl_RX12_245 dX12_tell_158 ?_
    refine r_iald C hW hm k1000026 dX12_tell_161 (fun hm => ?_)
    refine lv_bipush (v := 6) hx hb dX12_tell_162 (by decide) ?_
    obtain ⟨dt1000028, hc1000027, hm⟩ := q_b1i hm
    refine q_callV C hW hS (As := [.int (dt.1 (al.2.2 x0 38) (Int32.toNatClampNeg (dt.1 x0 19))), .int 6]) (rest := []) (st1 := []) (c_X12_room l D al dt x0 (dt.1 (al.2.2 x0 38) (Int32.toNatClampNeg (dt.1 x0 19))) 6 kx0 dt1000028 hc1000027) yl_X12_room vl_X12_room ml_RX12_257 (ci := 12) rfl kx0 (by decide) rfl ⟨Nat.le_of_ble_eq_true rfl, Nat.le_of_ble_eq_true rfl⟩ hl rfl (Nat.le_of_ble_eq_true rfl) dX12_tell_164 ⟨Nat.le_refl _, Nat.le_refl _⟩ rfl (fun H locs k1000029 hW hS => ?_)
    refine lv_aload_n hx hb dX12_tell_167 rfl (lv_at hl 1 rfl) ?_
    refine r_getI C hW (ci := 12) kx0 ff_12_13 cl_12 fl_RX12_212 dX12_tell_168 ?_
    refine q_ifc hm (fun c1000030 hm => ?_) (fun c1000030 hm => ?_)
    · refine lv_if_ne (tgt := 293) hx hb dX12_tell_171 (by decide) (fun h => absurd c1000030 h) (fun _ => ?_)
      refine lv_aload_n hx hb dX12_tell_174 rfl (lv_at hl 1 rfl) ?_
      obtain ⟨dt1000032, hc1000031, hm⟩ := q_b1i hm
      refine q_callV C hW hS (As := []) (rest := []) (st1 := []) (c_X12_tellEcho l D al dt1000028 x0 kx0 dt1000032 hc1000031) yl_X12_tellEcho vl_X12_tellEcho ml_RX12_270 (ci := 12) rfl kx0 (by decide) rfl ⟨Nat.le_of_ble_eq_true rfl, Nat.le_of_ble_eq_true rfl⟩ hl rfl (Nat.le_of_ble_eq_true rfl) dX12_tell_175 ⟨Nat.le_refl _, Nat.le_refl _⟩ rfl (fun H locs k1000033 hW hS => ?_)
      refine lv_goto (tgt := 293) hx hb dX12_tell_178 (by decide) ?_
      exact e_vD C hW hS hm dX12_tell_293
    refine lv_if_ne (tgt := 293) hx hb dX12_tell_171 (by decide) (fun _ => ?_) (fun h => absurd h c1000030)
    exact e_vD C hW hS hm dX12_tell_293
  refine q_ifc hm (fun c1000034 hm => ?_) (fun c1000034 hm => ?_)
  · refine lv_tableIn (tgt := 181) hx hb dX12_tell_11 (by rw [c1000034]; decide) (by rw [c1000034]; decide) (by rw [c1000034]; rfl) (by decide) ?_
    refine lv_aload_n hx hb dX12_tell_181 rfl (lv_at hl 1 rfl) ?_
    refine lv_aload_n hx hb dX12_tell_182 rfl (lv_at hl 1 rfl) ?_
    refine r_getF C hW (ci := 12) kx0 ff_12_42 cl_12 fl_RX12_103 dX12_tell_183 (fun k1000035 => ?_)
    refine lv_aload_n hx hb dX12_tell_186 rfl (lv_at hl 1 rfl) ?_
    refine r_getI C hW (ci := 12) kx0 ff_12_19 cl_12 fl_RX12_245 dX12_tell_187 ?_
    refine r_iald C hW hm k1000035 dX12_tell_190 (fun hm => ?_)
    refine lv_iconst (v := 4) hx hb dX12_tell_191 (by decide) ?_
    obtain ⟨dt1000037, hc1000036, hm⟩ := q_b1i hm
    refine q_callV C hW hS (As := [.int (dt.1 (al.2.2 x0 42) (Int32.toNatClampNeg (dt.1 x0 19))), .int 4]) (rest := []) (st1 := []) (c_X12_room l D al dt x0 (dt.1 (al.2.2 x0 42) (Int32.toNatClampNeg (dt.1 x0 19))) 4 kx0 dt1000037 hc1000036) yl_X12_room vl_X12_room ml_RX12_257 (ci := 12) rfl kx0 (by decide) rfl ⟨Nat.le_of_ble_eq_true rfl, Nat.le_of_ble_eq_true rfl⟩ hl rfl (Nat.le_of_ble_eq_true rfl) dX12_tell_192 ⟨Nat.le_refl _, Nat.le_refl _⟩ rfl (fun H locs k1000038 hW hS => ?_)
    refine lv_aload_n hx hb dX12_tell_195 rfl (lv_at hl 1 rfl) ?_
    refine r_getI C hW (ci := 12) kx0 ff_12_13 cl_12 fl_RX12_212 dX12_tell_196 ?_
    refine q_ifc hm (fun c1000039 hm => ?_) (fun c1000039 hm => ?_)
    · refine lv_if_ne (tgt := 293) hx hb dX12_tell_199 (by decide) (fun h => absurd c1000039 h) (fun _ => ?_)
      refine lv_aload_n hx hb dX12_tell_202 rfl (lv_at hl 1 rfl) ?_
      obtain ⟨dt1000041, hc1000040, hm⟩ := q_b1i hm
      refine q_callV C hW hS (As := []) (rest := []) (st1 := []) (c_X12_tellJam l D al dt1000037 x0 kx0 dt1000041 hc1000040) yl_X12_tellJam vl_X12_tellJam ml_RX12_273 (ci := 12) rfl kx0 (by decide) rfl ⟨Nat.le_of_ble_eq_true rfl, Nat.le_of_ble_eq_true rfl⟩ hl rfl (Nat.le_of_ble_eq_true rfl) dX12_tell_203 ⟨Nat.le_refl _, Nat.le_refl _⟩ rfl (fun H locs k1000042 hW hS => ?_)
      refine lv_goto (tgt := 293) hx hb dX12_tell_206 (by decide) ?_
      exact e_vD C hW hS hm dX12_tell_293
    refine lv_if_ne (tgt := 293) hx hb dX12_tell_199 (by decide) (fun _ => ?_) (fun h => absurd h c1000039)
    exact e_vD C hW hS hm dX12_tell_293
  refine q_ifc hm (fun c1000043 hm => ?_) (fun c1000043 hm => ?_)
  · refine lv_tableIn (tgt := 209) hx hb dX12_tell_11 (by rw [c1000043]; decide) (by rw [c1000043]; decide) (by rw [c1000043]; rfl) (by decide) ?_
    refine lv_aload_n hx hb dX12_tell_209 rfl (lv_at hl 1 rfl) ?_
    obtain ⟨dt1000045, hc1000044, hm⟩ := q_b1i hm
    refine q_callV C hW hS (As := []) (rest := []) (st1 := []) (c_X12_goesOn l D al dt x0 kx0 dt1000045 hc1000044) yl_X12_goesOn vl_X12_goesOn ml_RX12_233 (ci := 12) rfl kx0 (by decide) rfl ⟨Nat.le_of_ble_eq_true rfl, Nat.le_of_ble_eq_true rfl⟩ hl rfl (Nat.le_of_ble_eq_true rfl) dX12_tell_210 ⟨Nat.le_refl _, Nat.le_refl _⟩ rfl (fun H locs k1000046 hW hS => ?_)
    refine lv_aload_n hx hb dX12_tell_213 rfl (lv_at hl 1 rfl) ?_
    refine lv_iconst (v := 0) hx hb dX12_tell_214 (by decide) ?_
    refine lv_bipush (v := 50) hx hb dX12_tell_215 (by decide) ?_
    obtain ⟨v1000048, dt1000049, hc1000047, hm⟩ := q_b2i hm
    refine q_callV C hW hS (As := [.int 0, .int 50]) (rest := []) (st1 := [.int v1000048]) (c_X12_bounded l D al dt1000045 x0 0 50 kx0 v1000048 dt1000049 hc1000047) yl_X12_bounded vl_X12_bounded ml_RX12_276 (ci := 12) rfl kx0 (by decide) rfl ⟨Nat.le_of_ble_eq_true rfl, Nat.le_of_ble_eq_true rfl⟩ hl rfl (Nat.le_of_ble_eq_true rfl) dX12_tell_217 ⟨Nat.le_refl _, Nat.le_refl _⟩ rfl (fun H locs k1000050 hW hS => ?_)
    refine lv_istore_n (i := 2) (lv' := [(2, .int v1000048), (1, .int v1000002), (0, .ref x0)]) hx hb dX12_tell_220 rfl hl (by decide) rfl (fun ls hl => ?_)
    refine lv_aload_n hx hb dX12_tell_221 rfl (lv_at hl 2 rfl) ?_
    refine lv_iconst (v := 0) hx hb dX12_tell_222 (by decide) ?_
    refine lv_sipush (v := 9999) hx hb dX12_tell_223 (by decide) ?_
    obtain ⟨v1000052, dt1000053, hc1000051, hm⟩ := q_b2i hm
    refine q_callV C hW hS (As := [.int 0, .int 9999]) (rest := []) (st1 := [.int v1000052]) (c_X12_bounded l D al dt1000049 x0 0 9999 kx0 v1000052 dt1000053 hc1000051) yl_X12_bounded vl_X12_bounded ml_RX12_276 (ci := 12) rfl kx0 (by decide) rfl ⟨Nat.le_of_ble_eq_true rfl, Nat.le_of_ble_eq_true rfl⟩ hl rfl (Nat.le_of_ble_eq_true rfl) dX12_tell_226 ⟨Nat.le_refl _, Nat.le_refl _⟩ rfl (fun H locs k1000054 hW hS => ?_)
    refine lv_istore_n (i := 3) (lv' := [(3, .int v1000052), (2, .int v1000048), (1, .int v1000002), (0, .ref x0)]) hx hb dX12_tell_229 rfl hl (by decide) rfl (fun ls hl => ?_)
    refine lv_aload_n hx hb dX12_tell_230 rfl (lv_at hl 3 rfl) ?_
    refine lv_iconst (v := 4) hx hb dX12_tell_231 (by decide) ?_
    obtain ⟨dt1000056, hc1000055, hm⟩ := q_b1i hm
    refine q_callV C hW hS (As := [.int 4]) (rest := []) (st1 := []) (c_X12_must l D al dt1000053 x0 4 kx0 dt1000056 hc1000055) yl_X12_must vl_X12_must ml_RX12_280 (ci := 12) rfl kx0 (by decide) rfl ⟨Nat.le_of_ble_eq_true rfl, Nat.le_of_ble_eq_true rfl⟩ hl rfl (Nat.le_of_ble_eq_true rfl) dX12_tell_232 ⟨Nat.le_refl _, Nat.le_refl _⟩ rfl (fun H locs k1000057 hW hS => ?_)
    refine lv_aload_n hx hb dX12_tell_235 rfl (lv_at hl 3 rfl) ?_
    refine r_getF C hW (ci := 12) kx0 ff_12_47 cl_12 fl_RX12_118 dX12_tell_236 (fun k1000058 => ?_)
    refine lv_aload_n hx hb dX12_tell_239 rfl (lv_at hl 3 rfl) ?_
    refine r_getI C hW (ci := 12) kx0 ff_12_19 cl_12 fl_RX12_245 dX12_tell_240 ?_
    refine lv_iload_n hx hb dX12_tell_243 rfl (lv_at hl 1 rfl) ?_
    refine r_iast C hW hS hm k1000058 dX12_tell_244 (fun dt1000059 H locs hm hW hS => ?_)
    refine lv_aload_n hx hb dX12_tell_245 rfl (lv_at hl 3 rfl) ?_
    refine r_getF C hW (ci := 12) kx0 ff_12_48 cl_12 fl_RX12_121 dX12_tell_246 (fun k1000060 => ?_)
    refine lv_aload_n hx hb dX12_tell_249 rfl (lv_at hl 3 rfl) ?_
    refine r_getI C hW (ci := 12) kx0 ff_12_19 cl_12 fl_RX12_245 dX12_tell_250 ?_
    refine lv_iload_n hx hb dX12_tell_253 rfl (lv_at hl 0 rfl) ?_
    refine r_iast C hW hS hm k1000060 dX12_tell_254 (fun dt1000061 H locs hm hW hS => ?_)
    refine lv_goto (tgt := 293) hx hb dX12_tell_255 (by decide) ?_
    exact e_vD C hW hS hm dX12_tell_293
  refine q_ifc hm (fun c1000062 hm => ?_) (fun c1000062 hm => ?_)
  · refine lv_tableIn (tgt := 258) hx hb dX12_tell_11 (by rw [c1000062]; decide) (by rw [c1000062]; decide) (by rw [c1000062]; rfl) (by decide) ?_
    refine lv_aload_n hx hb dX12_tell_258 rfl (lv_at hl 1 rfl) ?_
    obtain ⟨dt1000064, hc1000063, hm⟩ := q_b1i hm
    refine q_callV C hW hS (As := []) (rest := []) (st1 := []) (c_X12_goesOn l D al dt x0 kx0 dt1000064 hc1000063) yl_X12_goesOn vl_X12_goesOn ml_RX12_233 (ci := 12) rfl kx0 (by decide) rfl ⟨Nat.le_of_ble_eq_true rfl, Nat.le_of_ble_eq_true rfl⟩ hl rfl (Nat.le_of_ble_eq_true rfl) dX12_tell_259 ⟨Nat.le_refl _, Nat.le_refl _⟩ rfl (fun H locs k1000065 hW hS => ?_)
    refine lv_aload_n hx hb dX12_tell_262 rfl (lv_at hl 1 rfl) ?_
    refine r_getF C hW (ci := 12) kx0 ff_12_49 cl_12 fl_RX12_124 dX12_tell_263 (fun k1000066 => ?_)
    refine lv_aload_n hx hb dX12_tell_266 rfl (lv_at hl 1 rfl) ?_
    refine r_getI C hW (ci := 12) kx0 ff_12_19 cl_12 fl_RX12_245 dX12_tell_267 ?_
    refine lv_aload_n hx hb dX12_tell_270 rfl (lv_at hl 1 rfl) ?_
    refine lv_bipush (v := 16) hx hb dX12_tell_271 (by decide) ?_
    refine lv_sipush (v := 512) hx hb dX12_tell_273 (by decide) ?_
    obtain ⟨v1000068, dt1000069, hc1000067, hm⟩ := q_b2i hm
    refine q_callV C hW hS (As := [.int 16, .int 512]) (rest := [.int (dt1000064.1 x0 19), .ref (al.2.2 x0 49)]) (st1 := [.int v1000068, .int (dt1000064.1 x0 19), .ref (al.2.2 x0 49)]) (c_X12_bounded l D al dt1000064 x0 16 512 kx0 v1000068 dt1000069 hc1000067) yl_X12_bounded vl_X12_bounded ml_RX12_276 (ci := 12) rfl kx0 (by decide) rfl ⟨Nat.le_of_ble_eq_true rfl, Nat.le_of_ble_eq_true rfl⟩ hl rfl (Nat.le_of_ble_eq_true rfl) dX12_tell_276 ⟨Nat.le_refl _, Nat.le_refl _⟩ rfl (fun H locs k1000070 hW hS => ?_)
    refine r_iast C hW hS hm k1000066 dX12_tell_279 (fun dt1000071 H locs hm hW hS => ?_)
    refine lv_aload_n hx hb dX12_tell_280 rfl (lv_at hl 1 rfl) ?_
    refine lv_iconst (v := 4) hx hb dX12_tell_281 (by decide) ?_
    obtain ⟨dt1000073, hc1000072, hm⟩ := q_b1i hm
    refine q_callV C hW hS (As := [.int 4]) (rest := []) (st1 := []) (c_X12_must l D al dt1000071 x0 4 kx0 dt1000073 hc1000072) yl_X12_must vl_X12_must ml_RX12_280 (ci := 12) rfl kx0 (by decide) rfl ⟨Nat.le_of_ble_eq_true rfl, Nat.le_of_ble_eq_true rfl⟩ hl rfl (Nat.le_of_ble_eq_true rfl) dX12_tell_282 ⟨Nat.le_refl _, Nat.le_refl _⟩ rfl (fun H locs k1000074 hW hS => ?_)
    refine lv_goto (tgt := 293) hx hb dX12_tell_285 (by decide) ?_
    exact e_vD C hW hS hm dX12_tell_293
  have c1000003_z := lv_neT c1000003 (a := 20) rfl
  have c1000004_z := lv_neT c1000004 (a := 21) rfl
  have c1000005_z := lv_neT c1000005 (a := 22) rfl
  have c1000006_z := lv_neT c1000006 (a := 23) rfl
  have c1000007_z := lv_neT c1000007 (a := 24) rfl
  have c1000016_z := lv_neT c1000016 (a := 25) rfl
  have c1000025_z := lv_neT c1000025 (a := 26) rfl
  have c1000034_z := lv_neT c1000034 (a := 27) rfl
  have c1000043_z := lv_neT c1000043 (a := 28) rfl
  have c1000062_z := lv_neT c1000062 (a := 29) rfl
  refine lv_tableOut (tgt := 288) hx hb dX12_tell_11 (by omega) (by decide) ?_
  refine lv_aload_n hx hb dX12_tell_288 rfl (lv_at hl 1 rfl) ?_
  refine lv_iconst (v := 1) hx hb dX12_tell_289 (by decide) ?_
  obtain ⟨dt1000076, hc1000075, hm⟩ := q_b1i hm
  refine q_callV C hW hS (As := [.int 1]) (rest := []) (st1 := []) (c_X12_fail l D al dt x0 1 kx0 dt1000076 hc1000075) yl_X12_fail vl_X12_fail ml_RX12_227 (ci := 12) rfl kx0 (by decide) rfl ⟨Nat.le_of_ble_eq_true rfl, Nat.le_of_ble_eq_true rfl⟩ hl rfl (Nat.le_of_ble_eq_true rfl) dX12_tell_290 ⟨Nat.le_refl _, Nat.le_refl _⟩ rfl (fun H locs k1000077 hW hS => ?_)
  exact e_vD C hW hS hm dX12_tell_293
theorem dX12_dataBit_0 : decode cX12_dataBit 0 = .ok (.aload_n 0, 1) := by decide +kernel
theorem dX12_dataBit_1 : decode cX12_dataBit 1 = .ok (.getfield 85, 3) := by decide +kernel
theorem dX12_dataBit_4 : decode cX12_dataBit 4 = .ok (.bipush 6, 2) := by decide +kernel
theorem dX12_dataBit_6 : decode cX12_dataBit 6 = .ok (.aload_n 0, 1) := by decide +kernel
theorem dX12_dataBit_7 : decode cX12_dataBit 7 = .ok (.getfield 242, 3) := by decide +kernel
theorem dX12_dataBit_10 : decode cX12_dataBit 10 = .ok (.imul, 1) := by decide +kernel
theorem dX12_dataBit_11 : decode cX12_dataBit 11 = .ok (.iload_n 1, 1) := by decide +kernel
theorem dX12_dataBit_12 : decode cX12_dataBit 12 = .ok (.iadd, 1) := by decide +kernel
theorem dX12_dataBit_13 : decode cX12_dataBit 13 = .ok (.iaload, 1) := by decide +kernel
theorem dX12_dataBit_14 : decode cX12_dataBit 14 = .ok (.iload_n 2, 1) := by decide +kernel
theorem dX12_dataBit_15 : decode cX12_dataBit 15 = .ok (.bipush 14, 2) := by decide +kernel
theorem dX12_dataBit_17 : decode cX12_dataBit 17 = .ok (.irem, 1) := by decide +kernel
theorem dX12_dataBit_18 : decode cX12_dataBit 18 = .ok (.ishr, 1) := by decide +kernel
theorem dX12_dataBit_19 : decode cX12_dataBit 19 = .ok (.iconst 1, 1) := by decide +kernel
theorem dX12_dataBit_20 : decode cX12_dataBit 20 = .ok (.iand, 1) := by decide +kernel
theorem dX12_dataBit_21 : decode cX12_dataBit 21 = .ok (.ireturn, 1) := by decide +kernel
set_option maxRecDepth 100000 in
theorem c_X12_dataBit (l : Launch) (D : q_D) (al : q_Al) (dt : q_Dt) (x0 : Nat) (x1 : Int32) (x2 : Int32) (kx0 : al.1 x0 = 13) (r0 : Int32) (hm : X12_dataBit al dt x0 x1 x2 = some r0) : q_Mt l yX12_dataBit cX12_dataBit 3 (some FieldType.int) 0 0 D al [.ref x0, .int x1, .int x2] dt 0 (some (.int r0)) dt := by
  refine q_Mt.of (by decide) (Nat.le_of_ble_eq_true rfl) ?_
  intro p e s m args below meth c ls C hargs hW hl
  have hx := C.1
  have hb := C.2.1
  have hown := C.2.2.2.2.2.1
  have hts := C.2.2.2.2.2.2.1
  have hS : va_S (q_A al) s.heap s.heap [] := va_S.rf
  have hl : lv_has ls 3 [(0, .ref x0), (1, .int x1), (2, .int x2)] := hl
  unfold X12_dataBit at hm
  refine lv_aload_n hx hb dX12_dataBit_0 rfl (lv_at hl 0 rfl) ?_
  refine r_getF C hW (ci := 12) kx0 ff_12_36 cl_12 fl_RX12_85 dX12_dataBit_1 (fun k1000001 => ?_)
  refine lv_bipush (v := 6) hx hb dX12_dataBit_4 (by decide) ?_
  refine lv_aload_n hx hb dX12_dataBit_6 rfl (lv_at hl 0 rfl) ?_
  refine r_getI C hW (ci := 12) kx0 ff_12_18 cl_12 fl_RX12_242 dX12_dataBit_7 ?_
  refine lv_imul hx hb dX12_dataBit_10 ?_
  refine lv_iload_n hx hb dX12_dataBit_11 rfl (lv_at hl 1 rfl) ?_
  refine lv_iadd hx hb dX12_dataBit_12 ?_
  refine r_iald C hW hm k1000001 dX12_dataBit_13 (fun hm => ?_)
  refine lv_iload_n hx hb dX12_dataBit_14 rfl (lv_at hl 2 rfl) ?_
  refine lv_bipush (v := 14) hx hb dX12_dataBit_15 (by decide) ?_
  refine lv_irem hx hb dX12_dataBit_17 (by decide) ?_
  refine lv_ishr hx hb dX12_dataBit_18 ?_
  refine lv_iconst (v := 1) hx hb dX12_dataBit_19 (by decide) ?_
  refine lv_iand hx hb dX12_dataBit_20 ?_
  exact e_i C hW hS hm dX12_dataBit_21
theorem dX12_laysData_0 : decode cX12_laysData 0 = .ok (.iconst 0, 1) := by decide +kernel
theorem dX12_laysData_1 : decode cX12_laysData 1 = .ok (.istore_n 2, 1) := by decide +kernel
theorem dX12_laysData_2 : decode cX12_laysData 2 = .ok (.iload_n 2, 1) := by decide +kernel
theorem dX12_laysData_3 : decode cX12_laysData 3 = .ok (.sipush 512, 3) := by decide +kernel
theorem dX12_laysData_6 : decode cX12_laysData 6 = .ok (.if_icmp .ge 28, 3) := by decide +kernel
theorem dX12_laysData_9 : decode cX12_laysData 9 = .ok (.aload_n 0, 1) := by decide +kernel
theorem dX12_laysData_10 : decode cX12_laysData 10 = .ok (.getfield 127, 3) := by decide +kernel
theorem dX12_laysData_13 : decode cX12_laysData 13 = .ok (.sipush 512, 3) := by decide +kernel
theorem dX12_laysData_16 : decode cX12_laysData 16 = .ok (.iload_n 1, 1) := by decide +kernel
theorem dX12_laysData_17 : decode cX12_laysData 17 = .ok (.imul, 1) := by decide +kernel
theorem dX12_laysData_18 : decode cX12_laysData 18 = .ok (.iload_n 2, 1) := by decide +kernel
theorem dX12_laysData_19 : decode cX12_laysData 19 = .ok (.iadd, 1) := by decide +kernel
theorem dX12_laysData_20 : decode cX12_laysData 20 = .ok (.aload_n 0, 1) := by decide +kernel
theorem dX12_laysData_21 : decode cX12_laysData 21 = .ok (.iload_n 1, 1) := by decide +kernel
theorem dX12_laysData_22 : decode cX12_laysData 22 = .ok (.iload_n 2, 1) := by decide +kernel
theorem dX12_laysData_23 : decode cX12_laysData 23 = .ok (.invokevirtual 339, 3) := by decide +kernel
theorem dX12_laysData_26 : decode cX12_laysData 26 = .ok (.i2b, 1) := by decide +kernel
theorem dX12_laysData_27 : decode cX12_laysData 27 = .ok (.bastore, 1) := by decide +kernel
theorem dX12_laysData_28 : decode cX12_laysData 28 = .ok (.iinc 2 1, 3) := by decide +kernel
theorem dX12_laysData_31 : decode cX12_laysData 31 = .ok (.goto (-29), 3) := by decide +kernel
theorem dX12_laysData_34 : decode cX12_laysData 34 = .ok (.return_, 1) := by decide +kernel
set_option maxRecDepth 100000 in
theorem c_X12_laysData (l : Launch) (D : q_D) (al : q_Al) (dt : q_Dt) (x0 : Nat) (x1 : Int32) (kx0 : al.1 x0 = 13) (dt0 : q_Dt) (hm : X12_laysData al dt x0 x1 = some dt0) : q_Mt l yX12_laysData cX12_laysData 3 (none) 1 22 D al [.ref x0, .int x1] dt 0 none dt0 := by
  refine q_Mt.of (by decide) (Nat.le_of_ble_eq_true rfl) ?_
  intro p e s m args below meth c ls C hargs hW hl
  have hx := C.1
  have hb := C.2.1
  have hown := C.2.2.2.2.2.1
  have hts := C.2.2.2.2.2.2.1
  have hS : va_S (q_A al) s.heap s.heap [] := va_S.rf
  have hl : lv_has ls 3 [(0, .ref x0), (1, .int x1)] := hl
  unfold X12_laysData at hm
  have hB2 : ∀ (x0_2 : Nat) (x1_2 : Int32) (kx0_2 : al.1 x0_2 = 13) (n_2 : Nat) (x2_2 : Int32) (dt : q_Dt) (H : Heap) (locs : List Loc) (ls : Array Slot) (hm : X12_laysData_b2 al x0_2 x1_2 n_2 x2_2 dt = some dt0) (hW : q_W D al dt H) (hS : va_S (q_A al) s.heap H locs) (hl : lv_has ls 3 [(0, .ref x0_2), (1, .int x1_2), (2, .int x2_2)]), W p l e { frames := 1, cells := 0, slots := 0, locals := 22 } s m args below meth c H locs 0 0 (MQ below (q_Q none (fun H => q_W D al dt0 H ∧ q_Rk al 0 none) (q_A al)) args s 0 0 (q_A al)) (F0 m 2 ls []) := by
    intro x0_2 x1_2 kx0_2
    intro n_2
    induction n_2 with
    | zero => intro x2_2 dt H locs ls hm hW hS hl; cases hm
    | succ n_2 ih2 =>
      intro x2_2 dt H locs ls hm hW hS hl
      rw [X12_laysData_b2] at hm
      refine lv_iload_n hx hb dX12_laysData_2 rfl (lv_at hl 2 rfl) ?_
      refine lv_sipush (v := 512) hx hb dX12_laysData_3 (by decide) ?_
      refine q_ifc hm (fun c2001 hm => ?_) (fun c2001 hm => ?_)
      · refine lv_icmp_ge (tgt := 34) hx hb dX12_laysData_6 (by decide) (fun _ => ?_) (fun h => absurd c2001 h)
        exact e_vD C hW hS hm dX12_laysData_34
      refine lv_icmp_ge (tgt := 34) hx hb dX12_laysData_6 (by decide) (fun h => absurd h c2001) (fun _ => ?_)
      refine lv_aload_n hx hb dX12_laysData_9 rfl (lv_at hl 0 rfl) ?_
      refine r_getF C hW (ci := 12) kx0_2 ff_12_51 cl_12 fl_RX12_127 dX12_laysData_10 (fun k2002 => ?_)
      refine lv_sipush (v := 512) hx hb dX12_laysData_13 (by decide) ?_
      refine lv_iload_n hx hb dX12_laysData_16 rfl (lv_at hl 1 rfl) ?_
      refine lv_imul hx hb dX12_laysData_17 ?_
      refine lv_iload_n hx hb dX12_laysData_18 rfl (lv_at hl 2 rfl) ?_
      refine lv_iadd hx hb dX12_laysData_19 ?_
      refine lv_aload_n hx hb dX12_laysData_20 rfl (lv_at hl 0 rfl) ?_
      refine lv_iload_n hx hb dX12_laysData_21 rfl (lv_at hl 1 rfl) ?_
      refine lv_iload_n hx hb dX12_laysData_22 rfl (lv_at hl 2 rfl) ?_
      obtain ⟨v2004, hc2003, hm⟩ := q_b1i hm
      refine q_callV C hW hS (As := [.int x1_2, .int x2_2]) (rest := [.int ((512 * x1_2) + x2_2), .ref (al.2.2 x0_2 51)]) (st1 := [.int v2004, .int ((512 * x1_2) + x2_2), .ref (al.2.2 x0_2 51)]) (c_X12_dataBit l D al dt x0_2 x1_2 x2_2 kx0_2 v2004 hc2003) yl_X12_dataBit vl_X12_dataBit ml_RX12_339 (ci := 12) rfl kx0_2 (by decide) rfl ⟨Nat.le_of_ble_eq_true rfl, Nat.le_of_ble_eq_true rfl⟩ hl rfl (Nat.le_of_ble_eq_true rfl) dX12_laysData_23 ⟨Nat.le_refl _, Nat.le_refl _⟩ rfl (fun H locs k2005 hW hS => ?_)
      refine lv_i2b (v := (Int8.toInt32 (Int32.toInt8 v2004))) hx hb dX12_laysData_26 rfl ?_
      refine r_bast C hW hS hm k2002 dX12_laysData_27 (fun dt2006 H locs hm hW hS => ?_)
      refine lv_iinc (v := (x2_2 + 1)) (lv' := [(2, .int (x2_2 + 1)), (0, .ref x0_2), (1, .int x1_2)]) hx hb dX12_laysData_28 hl (k := 2) rfl rfl (by decide) rfl (fun ls hl => ?_)
      refine lv_goto (tgt := 2) hx hb dX12_laysData_31 (by decide) ?_
      exact ih2 (x2_2 + 1) dt2006 _ _ _ hm hW hS (lv_sub hl [1, 2, 0] rfl)
  refine lv_iconst (v := 0) hx hb dX12_laysData_0 (by decide) ?_
  refine lv_istore_n (i := 2) (lv' := [(2, .int 0), (0, .ref x0), (1, .int x1)]) hx hb dX12_laysData_1 rfl hl (by decide) rfl (fun ls hl => ?_)
  exact hB2 x0 x1 kx0 q_FU 0 dt _ _ _ hm hW hS (lv_sub hl [1, 2, 0] rfl)
theorem dX12_n_0 : decode cX12_n 0 = .ok (.aload_n 0, 1) := by decide +kernel
theorem dX12_n_1 : decode cX12_n 1 = .ok (.getfield 124, 3) := by decide +kernel
theorem dX12_n_4 : decode cX12_n 4 = .ok (.aload_n 0, 1) := by decide +kernel
theorem dX12_n_5 : decode cX12_n 5 = .ok (.getfield 242, 3) := by decide +kernel
theorem dX12_n_8 : decode cX12_n 8 = .ok (.iaload, 1) := by decide +kernel
theorem dX12_n_9 : decode cX12_n 9 = .ok (.ireturn, 1) := by decide +kernel
set_option maxRecDepth 100000 in
theorem c_X12_n (l : Launch) (D : q_D) (al : q_Al) (dt : q_Dt) (x0 : Nat) (kx0 : al.1 x0 = 13) (r0 : Int32) (hm : X12_n al dt x0 = some r0) : q_Mt l yX12_n cX12_n 1 (some FieldType.int) 0 0 D al [.ref x0] dt 0 (some (.int r0)) dt := by
  refine q_Mt.of (by decide) (Nat.le_of_ble_eq_true rfl) ?_
  intro p e s m args below meth c ls C hargs hW hl
  have hx := C.1
  have hb := C.2.1
  have hown := C.2.2.2.2.2.1
  have hts := C.2.2.2.2.2.2.1
  have hS : va_S (q_A al) s.heap s.heap [] := va_S.rf
  have hl : lv_has ls 1 [(0, .ref x0)] := hl
  unfold X12_n at hm
  refine lv_aload_n hx hb dX12_n_0 rfl (lv_at hl 0 rfl) ?_
  refine r_getF C hW (ci := 12) kx0 ff_12_49 cl_12 fl_RX12_124 dX12_n_1 (fun k1000001 => ?_)
  refine lv_aload_n hx hb dX12_n_4 rfl (lv_at hl 0 rfl) ?_
  refine r_getI C hW (ci := 12) kx0 ff_12_18 cl_12 fl_RX12_242 dX12_n_5 ?_
  refine r_iald C hW hm k1000001 dX12_n_8 (fun hm => ?_)
  exact e_i C hW hS hm dX12_n_9
theorem dX12_codeOf_0 : decode cX12_codeOf 0 = .ok (.aload_n 0, 1) := by decide +kernel
theorem dX12_codeOf_1 : decode cX12_codeOf 1 = .ok (.getfield 73, 3) := by decide +kernel
theorem dX12_codeOf_4 : decode cX12_codeOf 4 = .ok (.bipush 6, 2) := by decide +kernel
theorem dX12_codeOf_6 : decode cX12_codeOf 6 = .ok (.aload_n 0, 1) := by decide +kernel
theorem dX12_codeOf_7 : decode cX12_codeOf 7 = .ok (.getfield 242, 3) := by decide +kernel
theorem dX12_codeOf_10 : decode cX12_codeOf 10 = .ok (.imul, 1) := by decide +kernel
theorem dX12_codeOf_11 : decode cX12_codeOf 11 = .ok (.iload_n 1, 1) := by decide +kernel
theorem dX12_codeOf_12 : decode cX12_codeOf 12 = .ok (.iadd, 1) := by decide +kernel
theorem dX12_codeOf_13 : decode cX12_codeOf 13 = .ok (.iaload, 1) := by decide +kernel
theorem dX12_codeOf_14 : decode cX12_codeOf 14 = .ok (.ireturn, 1) := by decide +kernel
set_option maxRecDepth 100000 in
theorem c_X12_codeOf (l : Launch) (D : q_D) (al : q_Al) (dt : q_Dt) (x0 : Nat) (x1 : Int32) (kx0 : al.1 x0 = 13) (r0 : Int32) (hm : X12_codeOf al dt x0 x1 = some r0) : q_Mt l yX12_codeOf cX12_codeOf 2 (some FieldType.int) 0 0 D al [.ref x0, .int x1] dt 0 (some (.int r0)) dt := by
  refine q_Mt.of (by decide) (Nat.le_of_ble_eq_true rfl) ?_
  intro p e s m args below meth c ls C hargs hW hl
  have hx := C.1
  have hb := C.2.1
  have hown := C.2.2.2.2.2.1
  have hts := C.2.2.2.2.2.2.1
  have hS : va_S (q_A al) s.heap s.heap [] := va_S.rf
  have hl : lv_has ls 2 [(0, .ref x0), (1, .int x1)] := hl
  unfold X12_codeOf at hm
  refine lv_aload_n hx hb dX12_codeOf_0 rfl (lv_at hl 0 rfl) ?_
  refine r_getF C hW (ci := 12) kx0 ff_12_32 cl_12 fl_RX12_73 dX12_codeOf_1 (fun k1000001 => ?_)
  refine lv_bipush (v := 6) hx hb dX12_codeOf_4 (by decide) ?_
  refine lv_aload_n hx hb dX12_codeOf_6 rfl (lv_at hl 0 rfl) ?_
  refine r_getI C hW (ci := 12) kx0 ff_12_18 cl_12 fl_RX12_242 dX12_codeOf_7 ?_
  refine lv_imul hx hb dX12_codeOf_10 ?_
  refine lv_iload_n hx hb dX12_codeOf_11 rfl (lv_at hl 1 rfl) ?_
  refine lv_iadd hx hb dX12_codeOf_12 ?_
  refine r_iald C hW hm k1000001 dX12_codeOf_13 (fun hm => ?_)
  exact e_i C hW hS hm dX12_codeOf_14
theorem dX12_long0_0 : decode cX12_long0 0 = .ok (.aload_n 0, 1) := by decide +kernel
theorem dX12_long0_1 : decode cX12_long0 1 = .ok (.getfield 52, 3) := by decide +kernel
theorem dX12_long0_4 : decode cX12_long0 4 = .ok (.bipush 8, 2) := by decide +kernel
theorem dX12_long0_6 : decode cX12_long0 6 = .ok (.aload_n 0, 1) := by decide +kernel
theorem dX12_long0_7 : decode cX12_long0 7 = .ok (.getfield 242, 3) := by decide +kernel
theorem dX12_long0_10 : decode cX12_long0 10 = .ok (.imul, 1) := by decide +kernel
theorem dX12_long0_11 : decode cX12_long0 11 = .ok (.iload_n 1, 1) := by decide +kernel
theorem dX12_long0_12 : decode cX12_long0 12 = .ok (.iadd, 1) := by decide +kernel
theorem dX12_long0_13 : decode cX12_long0 13 = .ok (.iaload, 1) := by decide +kernel
theorem dX12_long0_14 : decode cX12_long0 14 = .ok (.ireturn, 1) := by decide +kernel
set_option maxRecDepth 100000 in
theorem c_X12_long0 (l : Launch) (D : q_D) (al : q_Al) (dt : q_Dt) (x0 : Nat) (x1 : Int32) (kx0 : al.1 x0 = 13) (r0 : Int32) (hm : X12_long0 al dt x0 x1 = some r0) : q_Mt l yX12_long0 cX12_long0 2 (some FieldType.int) 0 0 D al [.ref x0, .int x1] dt 0 (some (.int r0)) dt := by
  refine q_Mt.of (by decide) (Nat.le_of_ble_eq_true rfl) ?_
  intro p e s m args below meth c ls C hargs hW hl
  have hx := C.1
  have hb := C.2.1
  have hown := C.2.2.2.2.2.1
  have hts := C.2.2.2.2.2.2.1
  have hS : va_S (q_A al) s.heap s.heap [] := va_S.rf
  have hl : lv_has ls 2 [(0, .ref x0), (1, .int x1)] := hl
  unfold X12_long0 at hm
  refine lv_aload_n hx hb dX12_long0_0 rfl (lv_at hl 0 rfl) ?_
  refine r_getF C hW (ci := 12) kx0 ff_12_25 cl_12 fl_RX12_52 dX12_long0_1 (fun k1000001 => ?_)
  refine lv_bipush (v := 8) hx hb dX12_long0_4 (by decide) ?_
  refine lv_aload_n hx hb dX12_long0_6 rfl (lv_at hl 0 rfl) ?_
  refine r_getI C hW (ci := 12) kx0 ff_12_18 cl_12 fl_RX12_242 dX12_long0_7 ?_
  refine lv_imul hx hb dX12_long0_10 ?_
  refine lv_iload_n hx hb dX12_long0_11 rfl (lv_at hl 1 rfl) ?_
  refine lv_iadd hx hb dX12_long0_12 ?_
  refine r_iald C hW hm k1000001 dX12_long0_13 (fun hm => ?_)
  exact e_i C hW hS hm dX12_long0_14
theorem dX12_delayAt_0 : decode cX12_delayAt 0 = .ok (.aload_n 0, 1) := by decide +kernel
theorem dX12_delayAt_1 : decode cX12_delayAt 1 = .ok (.getfield 79, 3) := by decide +kernel
theorem dX12_delayAt_4 : decode cX12_delayAt 4 = .ok (.bipush 6, 2) := by decide +kernel
theorem dX12_delayAt_6 : decode cX12_delayAt 6 = .ok (.aload_n 0, 1) := by decide +kernel
theorem dX12_delayAt_7 : decode cX12_delayAt 7 = .ok (.getfield 242, 3) := by decide +kernel
theorem dX12_delayAt_10 : decode cX12_delayAt 10 = .ok (.imul, 1) := by decide +kernel
theorem dX12_delayAt_11 : decode cX12_delayAt 11 = .ok (.iload_n 1, 1) := by decide +kernel
theorem dX12_delayAt_12 : decode cX12_delayAt 12 = .ok (.iadd, 1) := by decide +kernel
theorem dX12_delayAt_13 : decode cX12_delayAt 13 = .ok (.iaload, 1) := by decide +kernel
theorem dX12_delayAt_14 : decode cX12_delayAt 14 = .ok (.istore_n 3, 1) := by decide +kernel
theorem dX12_delayAt_15 : decode cX12_delayAt 15 = .ok (.aload_n 0, 1) := by decide +kernel
theorem dX12_delayAt_16 : decode cX12_delayAt 16 = .ok (.getfield 88, 3) := by decide +kernel
theorem dX12_delayAt_19 : decode cX12_delayAt 19 = .ok (.bipush 6, 2) := by decide +kernel
theorem dX12_delayAt_21 : decode cX12_delayAt 21 = .ok (.aload_n 0, 1) := by decide +kernel
theorem dX12_delayAt_22 : decode cX12_delayAt 22 = .ok (.getfield 242, 3) := by decide +kernel
theorem dX12_delayAt_25 : decode cX12_delayAt 25 = .ok (.imul, 1) := by decide +kernel
theorem dX12_delayAt_26 : decode cX12_delayAt 26 = .ok (.iload_n 1, 1) := by decide +kernel
theorem dX12_delayAt_27 : decode cX12_delayAt 27 = .ok (.iadd, 1) := by decide +kernel
theorem dX12_delayAt_28 : decode cX12_delayAt 28 = .ok (.iaload, 1) := by decide +kernel
theorem dX12_delayAt_29 : decode cX12_delayAt 29 = .ok (.istore 4, 2) := by decide +kernel
theorem dX12_delayAt_31 : decode cX12_delayAt 31 = .ok (.iload 4, 2) := by decide +kernel
theorem dX12_delayAt_33 : decode cX12_delayAt 33 = .ok (.ifCond .ne 7, 3) := by decide +kernel
theorem dX12_delayAt_36 : decode cX12_delayAt 36 = .ok (.iload_n 3, 1) := by decide +kernel
theorem dX12_delayAt_37 : decode cX12_delayAt 37 = .ok (.goto 19, 3) := by decide +kernel
theorem dX12_delayAt_40 : decode cX12_delayAt 40 = .ok (.iload_n 3, 1) := by decide +kernel
theorem dX12_delayAt_41 : decode cX12_delayAt 41 = .ok (.iload_n 2, 1) := by decide +kernel
theorem dX12_delayAt_42 : decode cX12_delayAt 42 = .ok (.iload 4, 2) := by decide +kernel
theorem dX12_delayAt_44 : decode cX12_delayAt 44 = .ok (.aload_n 0, 1) := by decide +kernel
theorem dX12_delayAt_45 : decode cX12_delayAt 45 = .ok (.aload_n 0, 1) := by decide +kernel
theorem dX12_delayAt_46 : decode cX12_delayAt 46 = .ok (.iload_n 1, 1) := by decide +kernel
theorem dX12_delayAt_47 : decode cX12_delayAt 47 = .ok (.invokevirtual 324, 3) := by decide +kernel
theorem dX12_delayAt_50 : decode cX12_delayAt 50 = .ok (.invokevirtual 327, 3) := by decide +kernel
theorem dX12_delayAt_53 : decode cX12_delayAt 53 = .ok (.imul, 1) := by decide +kernel
theorem dX12_delayAt_54 : decode cX12_delayAt 54 = .ok (.idiv, 1) := by decide +kernel
theorem dX12_delayAt_55 : decode cX12_delayAt 55 = .ok (.iadd, 1) := by decide +kernel
theorem dX12_delayAt_56 : decode cX12_delayAt 56 = .ok (.ireturn, 1) := by decide +kernel
set_option maxRecDepth 100000 in
theorem c_X12_delayAt (l : Launch) (D : q_D) (al : q_Al) (dt : q_Dt) (x0 : Nat) (x1 : Int32) (x2 : Int32) (kx0 : al.1 x0 = 13) (r0 : Int32) (hm : X12_delayAt al dt x0 x1 x2 = some r0) : q_Mt l yX12_delayAt cX12_delayAt 5 (some FieldType.int) 1 21 D al [.ref x0, .int x1, .int x2] dt 0 (some (.int r0)) dt := by
  refine q_Mt.of (by decide) (Nat.le_of_ble_eq_true rfl) ?_
  intro p e s m args below meth c ls C hargs hW hl
  have hx := C.1
  have hb := C.2.1
  have hown := C.2.2.2.2.2.1
  have hts := C.2.2.2.2.2.2.1
  have hS : va_S (q_A al) s.heap s.heap [] := va_S.rf
  have hl : lv_has ls 5 [(0, .ref x0), (1, .int x1), (2, .int x2)] := hl
  unfold X12_delayAt at hm
  refine lv_aload_n hx hb dX12_delayAt_0 rfl (lv_at hl 0 rfl) ?_
  refine r_getF C hW (ci := 12) kx0 ff_12_34 cl_12 fl_RX12_79 dX12_delayAt_1 (fun k1000001 => ?_)
  refine lv_bipush (v := 6) hx hb dX12_delayAt_4 (by decide) ?_
  refine lv_aload_n hx hb dX12_delayAt_6 rfl (lv_at hl 0 rfl) ?_
  refine r_getI C hW (ci := 12) kx0 ff_12_18 cl_12 fl_RX12_242 dX12_delayAt_7 ?_
  refine lv_imul hx hb dX12_delayAt_10 ?_
  refine lv_iload_n hx hb dX12_delayAt_11 rfl (lv_at hl 1 rfl) ?_
  refine lv_iadd hx hb dX12_delayAt_12 ?_
  refine r_iald C hW hm k1000001 dX12_delayAt_13 (fun hm => ?_)
  refine q_nmI hm (fun v1000002 ev1000002 hm => ?_)
  refine lv_istore_n (i := 3) (lv' := [(3, .int v1000002), (0, .ref x0), (1, .int x1), (2, .int x2)]) hx hb dX12_delayAt_14 rfl hl (by decide) rfl (fun ls hl => ?_)
  refine lv_aload_n hx hb dX12_delayAt_15 rfl (lv_at hl 1 rfl) ?_
  refine r_getF C hW (ci := 12) kx0 ff_12_37 cl_12 fl_RX12_88 dX12_delayAt_16 (fun k1000003 => ?_)
  refine lv_bipush (v := 6) hx hb dX12_delayAt_19 (by decide) ?_
  refine lv_aload_n hx hb dX12_delayAt_21 rfl (lv_at hl 1 rfl) ?_
  refine r_getI C hW (ci := 12) kx0 ff_12_18 cl_12 fl_RX12_242 dX12_delayAt_22 ?_
  refine lv_imul hx hb dX12_delayAt_25 ?_
  refine lv_iload_n hx hb dX12_delayAt_26 rfl (lv_at hl 2 rfl) ?_
  refine lv_iadd hx hb dX12_delayAt_27 ?_
  refine r_iald C hW hm k1000003 dX12_delayAt_28 (fun hm => ?_)
  refine q_nmI hm (fun v1000004 ev1000004 hm => ?_)
  refine lv_istore (i := 4) (lv' := [(4, .int v1000004), (3, .int v1000002), (0, .ref x0), (1, .int x1), (2, .int x2)]) hx hb dX12_delayAt_29 hl (by decide) rfl (fun ls hl => ?_)
  refine lv_iload hx hb dX12_delayAt_31 (lv_at hl 0 rfl) ?_
  refine q_ifc hm (fun c1000005 hm => ?_) (fun c1000005 hm => ?_)
  · refine lv_if_ne (tgt := 40) hx hb dX12_delayAt_33 (by decide) (fun h => absurd c1000005 h) (fun _ => ?_)
    refine lv_iload_n hx hb dX12_delayAt_36 rfl (lv_at hl 1 rfl) ?_
    refine lv_goto (tgt := 56) hx hb dX12_delayAt_37 (by decide) ?_
    exact e_i C hW hS hm dX12_delayAt_56
  refine lv_if_ne (tgt := 40) hx hb dX12_delayAt_33 (by decide) (fun _ => ?_) (fun h => absurd h c1000005)
  refine lv_iload_n hx hb dX12_delayAt_40 rfl (lv_at hl 1 rfl) ?_
  refine lv_iload_n hx hb dX12_delayAt_41 rfl (lv_at hl 4 rfl) ?_
  refine lv_iload hx hb dX12_delayAt_42 (lv_at hl 0 rfl) ?_
  refine lv_aload_n hx hb dX12_delayAt_44 rfl (lv_at hl 2 rfl) ?_
  refine lv_aload_n hx hb dX12_delayAt_45 rfl (lv_at hl 2 rfl) ?_
  refine lv_iload_n hx hb dX12_delayAt_46 rfl (lv_at hl 3 rfl) ?_
  obtain ⟨v1000007, hc1000006, hm⟩ := q_b1i hm
  refine q_callV C hW hS (As := [.int x1]) (rest := [.ref x0, .int v1000004, .int x2, .int v1000002]) (st1 := [.int v1000007, .ref x0, .int v1000004, .int x2, .int v1000002]) (c_X12_codeOf l D al dt x0 x1 kx0 v1000007 hc1000006) yl_X12_codeOf vl_X12_codeOf ml_RX12_324 (ci := 12) rfl kx0 (by decide) rfl ⟨Nat.le_of_ble_eq_true rfl, Nat.le_of_ble_eq_true rfl⟩ hl rfl (Nat.le_of_ble_eq_true rfl) dX12_delayAt_47 ⟨Nat.le_refl _, Nat.le_refl _⟩ rfl (fun H locs k1000008 hW hS => ?_)
  obtain ⟨v1000010, hc1000009, hm⟩ := q_b1i hm
  refine q_callV C hW hS (As := [.int v1000007]) (rest := [.int v1000004, .int x2, .int v1000002]) (st1 := [.int v1000010, .int v1000004, .int x2, .int v1000002]) (c_X12_long0 l D al dt x0 v1000007 kx0 v1000010 hc1000009) yl_X12_long0 vl_X12_long0 ml_RX12_327 (ci := 12) rfl kx0 (by decide) rfl ⟨Nat.le_of_ble_eq_true rfl, Nat.le_of_ble_eq_true rfl⟩ hl rfl (Nat.le_of_ble_eq_true rfl) dX12_delayAt_50 ⟨Nat.le_refl _, Nat.le_refl _⟩ rfl (fun H locs k1000011 hW hS => ?_)
  refine lv_imul hx hb dX12_delayAt_53 ?_
  obtain ⟨c1000012, hm⟩ := q_ini hm
  refine lv_idiv hx hb dX12_delayAt_54 c1000012 ?_
  refine lv_iadd hx hb dX12_delayAt_55 ?_
  exact e_i C hW hS hm dX12_delayAt_56
theorem dX12_periodAt_0 : decode cX12_periodAt 0 = .ok (.iload_n 2, 1) := by decide +kernel
theorem dX12_periodAt_1 : decode cX12_periodAt 1 = .ok (.aload_n 0, 1) := by decide +kernel
theorem dX12_periodAt_2 : decode cX12_periodAt 2 = .ok (.iload_n 1, 1) := by decide +kernel
theorem dX12_periodAt_3 : decode cX12_periodAt 3 = .ok (.iload_n 2, 1) := by decide +kernel
theorem dX12_periodAt_4 : decode cX12_periodAt 4 = .ok (.invokevirtual 330, 3) := by decide +kernel
theorem dX12_periodAt_7 : decode cX12_periodAt 7 = .ok (.isub, 1) := by decide +kernel
theorem dX12_periodAt_8 : decode cX12_periodAt 8 = .ok (.istore_n 3, 1) := by decide +kernel
theorem dX12_periodAt_9 : decode cX12_periodAt 9 = .ok (.iload_n 3, 1) := by decide +kernel
theorem dX12_periodAt_10 : decode cX12_periodAt 10 = .ok (.ifCond .ge 7, 3) := by decide +kernel
theorem dX12_periodAt_13 : decode cX12_periodAt 13 = .ok (.iconst (-1), 1) := by decide +kernel
theorem dX12_periodAt_14 : decode cX12_periodAt 14 = .ok (.goto 14, 3) := by decide +kernel
theorem dX12_periodAt_17 : decode cX12_periodAt 17 = .ok (.iload_n 3, 1) := by decide +kernel
theorem dX12_periodAt_18 : decode cX12_periodAt 18 = .ok (.aload_n 0, 1) := by decide +kernel
theorem dX12_periodAt_19 : decode cX12_periodAt 19 = .ok (.aload_n 0, 1) := by decide +kernel
theorem dX12_periodAt_20 : decode cX12_periodAt 20 = .ok (.iload_n 1, 1) := by decide +kernel
theorem dX12_periodAt_21 : decode cX12_periodAt 21 = .ok (.invokevirtual 324, 3) := by decide +kernel
theorem dX12_periodAt_24 : decode cX12_periodAt 24 = .ok (.invokevirtual 327, 3) := by decide +kernel
theorem dX12_periodAt_27 : decode cX12_periodAt 27 = .ok (.idiv, 1) := by decide +kernel
theorem dX12_periodAt_28 : decode cX12_periodAt 28 = .ok (.ireturn, 1) := by decide +kernel
set_option maxRecDepth 100000 in
theorem c_X12_periodAt (l : Launch) (D : q_D) (al : q_Al) (dt : q_Dt) (x0 : Nat) (x1 : Int32) (x2 : Int32) (kx0 : al.1 x0 = 13) (r0 : Int32) (hm : X12_periodAt al dt x0 x1 x2 = some r0) : q_Mt l yX12_periodAt cX12_periodAt 4 (some FieldType.int) 2 45 D al [.ref x0, .int x1, .int x2] dt 0 (some (.int r0)) dt := by
  refine q_Mt.of (by decide) (Nat.le_of_ble_eq_true rfl) ?_
  intro p e s m args below meth c ls C hargs hW hl
  have hx := C.1
  have hb := C.2.1
  have hown := C.2.2.2.2.2.1
  have hts := C.2.2.2.2.2.2.1
  have hS : va_S (q_A al) s.heap s.heap [] := va_S.rf
  have hl : lv_has ls 4 [(0, .ref x0), (1, .int x1), (2, .int x2)] := hl
  unfold X12_periodAt at hm
  refine lv_iload_n hx hb dX12_periodAt_0 rfl (lv_at hl 2 rfl) ?_
  refine lv_aload_n hx hb dX12_periodAt_1 rfl (lv_at hl 0 rfl) ?_
  refine lv_iload_n hx hb dX12_periodAt_2 rfl (lv_at hl 1 rfl) ?_
  refine lv_iload_n hx hb dX12_periodAt_3 rfl (lv_at hl 2 rfl) ?_
  obtain ⟨v1000002, hc1000001, hm⟩ := q_b1i hm
  refine q_callV C hW hS (As := [.int x1, .int x2]) (rest := [.int x2]) (st1 := [.int v1000002, .int x2]) (c_X12_delayAt l D al dt x0 x1 x2 kx0 v1000002 hc1000001) yl_X12_delayAt vl_X12_delayAt ml_RX12_330 (ci := 12) rfl kx0 (by decide) rfl ⟨Nat.le_of_ble_eq_true rfl, Nat.le_of_ble_eq_true rfl⟩ hl rfl (Nat.le_of_ble_eq_true rfl) dX12_periodAt_4 ⟨Nat.le_refl _, Nat.le_refl _⟩ rfl (fun H locs k1000003 hW hS => ?_)
  refine lv_isub hx hb dX12_periodAt_7 ?_
  refine lv_istore_n (i := 3) (lv' := [(3, .int (x2 - v1000002)), (0, .ref x0), (1, .int x1), (2, .int x2)]) hx hb dX12_periodAt_8 rfl hl (by decide) rfl (fun ls hl => ?_)
  refine lv_iload_n hx hb dX12_periodAt_9 rfl (lv_at hl 0 rfl) ?_
  refine q_ifc hm (fun c1000004 hm => ?_) (fun c1000004 hm => ?_)
  · refine lv_if_ge (tgt := 17) hx hb dX12_periodAt_10 (by decide) (fun _ => ?_) (fun h => absurd c1000004 h)
    refine lv_iload_n hx hb dX12_periodAt_17 rfl (lv_at hl 0 rfl) ?_
    refine lv_aload_n hx hb dX12_periodAt_18 rfl (lv_at hl 1 rfl) ?_
    refine lv_aload_n hx hb dX12_periodAt_19 rfl (lv_at hl 1 rfl) ?_
    refine lv_iload_n hx hb dX12_periodAt_20 rfl (lv_at hl 2 rfl) ?_
    obtain ⟨v1000006, hc1000005, hm⟩ := q_b1i hm
    refine q_callV C hW hS (As := [.int x1]) (rest := [.ref x0, .int (x2 - v1000002)]) (st1 := [.int v1000006, .ref x0, .int (x2 - v1000002)]) (c_X12_codeOf l D al dt x0 x1 kx0 v1000006 hc1000005) yl_X12_codeOf vl_X12_codeOf ml_RX12_324 (ci := 12) rfl kx0 (by decide) rfl ⟨Nat.le_of_ble_eq_true rfl, Nat.le_of_ble_eq_true rfl⟩ hl rfl (Nat.le_of_ble_eq_true rfl) dX12_periodAt_21 ⟨Nat.le_refl _, Nat.le_refl _⟩ rfl (fun H locs k1000007 hW hS => ?_)
    obtain ⟨v1000009, hc1000008, hm⟩ := q_b1i hm
    refine q_callV C hW hS (As := [.int v1000006]) (rest := [.int (x2 - v1000002)]) (st1 := [.int v1000009, .int (x2 - v1000002)]) (c_X12_long0 l D al dt x0 v1000006 kx0 v1000009 hc1000008) yl_X12_long0 vl_X12_long0 ml_RX12_327 (ci := 12) rfl kx0 (by decide) rfl ⟨Nat.le_of_ble_eq_true rfl, Nat.le_of_ble_eq_true rfl⟩ hl rfl (Nat.le_of_ble_eq_true rfl) dX12_periodAt_24 ⟨Nat.le_refl _, Nat.le_refl _⟩ rfl (fun H locs k1000010 hW hS => ?_)
    obtain ⟨c1000011, hm⟩ := q_ini hm
    refine lv_idiv hx hb dX12_periodAt_27 c1000011 ?_
    exact e_i C hW hS hm dX12_periodAt_28
  refine lv_if_ge (tgt := 17) hx hb dX12_periodAt_10 (by decide) (fun h => absurd h c1000004) (fun _ => ?_)
  refine lv_iconst (v := (-1)) hx hb dX12_periodAt_13 (by decide) ?_
  refine lv_goto (tgt := 28) hx hb dX12_periodAt_14 (by decide) ?_
  exact e_i C hW hS hm dX12_periodAt_28
theorem dX12_chipOf_0 : decode cX12_chipOf 0 = .ok (.aload_n 0, 1) := by decide +kernel
theorem dX12_chipOf_1 : decode cX12_chipOf 1 = .ok (.getfield 55, 3) := by decide +kernel
theorem dX12_chipOf_4 : decode cX12_chipOf 4 = .ok (.sipush 128, 3) := by decide +kernel
theorem dX12_chipOf_7 : decode cX12_chipOf 7 = .ok (.bipush 8, 2) := by decide +kernel
theorem dX12_chipOf_9 : decode cX12_chipOf 9 = .ok (.aload_n 0, 1) := by decide +kernel
theorem dX12_chipOf_10 : decode cX12_chipOf 10 = .ok (.getfield 242, 3) := by decide +kernel
theorem dX12_chipOf_13 : decode cX12_chipOf 13 = .ok (.imul, 1) := by decide +kernel
theorem dX12_chipOf_14 : decode cX12_chipOf 14 = .ok (.iload_n 1, 1) := by decide +kernel
theorem dX12_chipOf_15 : decode cX12_chipOf 15 = .ok (.iadd, 1) := by decide +kernel
theorem dX12_chipOf_16 : decode cX12_chipOf 16 = .ok (.imul, 1) := by decide +kernel
theorem dX12_chipOf_17 : decode cX12_chipOf 17 = .ok (.iload_n 2, 1) := by decide +kernel
theorem dX12_chipOf_18 : decode cX12_chipOf 18 = .ok (.iadd, 1) := by decide +kernel
theorem dX12_chipOf_19 : decode cX12_chipOf 19 = .ok (.iaload, 1) := by decide +kernel
theorem dX12_chipOf_20 : decode cX12_chipOf 20 = .ok (.ireturn, 1) := by decide +kernel
set_option maxRecDepth 100000 in
theorem c_X12_chipOf (l : Launch) (D : q_D) (al : q_Al) (dt : q_Dt) (x0 : Nat) (x1 : Int32) (x2 : Int32) (kx0 : al.1 x0 = 13) (r0 : Int32) (hm : X12_chipOf al dt x0 x1 x2 = some r0) : q_Mt l yX12_chipOf cX12_chipOf 3 (some FieldType.int) 0 0 D al [.ref x0, .int x1, .int x2] dt 0 (some (.int r0)) dt := by
  refine q_Mt.of (by decide) (Nat.le_of_ble_eq_true rfl) ?_
  intro p e s m args below meth c ls C hargs hW hl
  have hx := C.1
  have hb := C.2.1
  have hown := C.2.2.2.2.2.1
  have hts := C.2.2.2.2.2.2.1
  have hS : va_S (q_A al) s.heap s.heap [] := va_S.rf
  have hl : lv_has ls 3 [(0, .ref x0), (1, .int x1), (2, .int x2)] := hl
  unfold X12_chipOf at hm
  refine lv_aload_n hx hb dX12_chipOf_0 rfl (lv_at hl 0 rfl) ?_
  refine r_getF C hW (ci := 12) kx0 ff_12_26 cl_12 fl_RX12_55 dX12_chipOf_1 (fun k1000001 => ?_)
  refine lv_sipush (v := 128) hx hb dX12_chipOf_4 (by decide) ?_
  refine lv_bipush (v := 8) hx hb dX12_chipOf_7 (by decide) ?_
  refine lv_aload_n hx hb dX12_chipOf_9 rfl (lv_at hl 0 rfl) ?_
  refine r_getI C hW (ci := 12) kx0 ff_12_18 cl_12 fl_RX12_242 dX12_chipOf_10 ?_
  refine lv_imul hx hb dX12_chipOf_13 ?_
  refine lv_iload_n hx hb dX12_chipOf_14 rfl (lv_at hl 1 rfl) ?_
  refine lv_iadd hx hb dX12_chipOf_15 ?_
  refine lv_imul hx hb dX12_chipOf_16 ?_
  refine lv_iload_n hx hb dX12_chipOf_17 rfl (lv_at hl 2 rfl) ?_
  refine lv_iadd hx hb dX12_chipOf_18 ?_
  refine r_iald C hW hm k1000001 dX12_chipOf_19 (fun hm => ?_)
  exact e_i C hW hS hm dX12_chipOf_20
theorem dX12_turnOf_0 : decode cX12_turnOf 0 = .ok (.iload_n 0, 1) := by decide +kernel
theorem dX12_turnOf_1 : decode cX12_turnOf 1 = .ok (.iload_n 1, 1) := by decide +kernel
theorem dX12_turnOf_2 : decode cX12_turnOf 2 = .ok (.bipush 8, 2) := by decide +kernel
theorem dX12_turnOf_4 : decode cX12_turnOf 4 = .ok (.idiv, 1) := by decide +kernel
theorem dX12_turnOf_5 : decode cX12_turnOf 5 = .ok (.imul, 1) := by decide +kernel
theorem dX12_turnOf_6 : decode cX12_turnOf 6 = .ok (.iconst 4, 1) := by decide +kernel
theorem dX12_turnOf_7 : decode cX12_turnOf 7 = .ok (.irem, 1) := by decide +kernel
theorem dX12_turnOf_8 : decode cX12_turnOf 8 = .ok (.ireturn, 1) := by decide +kernel
set_option maxRecDepth 100000 in
theorem c_X12_turnOf (l : Launch) (D : q_D) (al : q_Al) (dt : q_Dt) (x0 : Int32) (x1 : Int32) (r0 : Int32) (hm : X12_turnOf x0 x1 = some r0) : q_Mt l yX12_turnOf cX12_turnOf 2 (some FieldType.int) 0 0 D al [.int x0, .int x1] dt 0 (some (.int r0)) dt := by
  refine q_Mt.of (by decide) (Nat.le_of_ble_eq_true rfl) ?_
  intro p e s m args below meth c ls C hargs hW hl
  have hx := C.1
  have hb := C.2.1
  have hown := C.2.2.2.2.2.1
  have hts := C.2.2.2.2.2.2.1
  have hS : va_S (q_A al) s.heap s.heap [] := va_S.rf
  have hl : lv_has ls 2 [(0, .int x0), (1, .int x1)] := hl
  unfold X12_turnOf at hm
  refine lv_iload_n hx hb dX12_turnOf_0 rfl (lv_at hl 0 rfl) ?_
  refine lv_iload_n hx hb dX12_turnOf_1 rfl (lv_at hl 1 rfl) ?_
  refine lv_bipush (v := 8) hx hb dX12_turnOf_2 (by decide) ?_
  refine lv_idiv hx hb dX12_turnOf_4 (by decide) ?_
  refine lv_imul hx hb dX12_turnOf_5 ?_
  refine lv_iconst (v := 4) hx hb dX12_turnOf_6 (by decide) ?_
  refine lv_irem hx hb dX12_turnOf_7 (by decide) ?_
  exact e_i C hW hS hm dX12_turnOf_8
