theorem dX12_notes_0 : decode cX12_notes 0 = .ok (.aload_n 0, 1) := by decide +kernel
theorem dX12_notes_1 : decode cX12_notes 1 = .ok (.getfield 40, 3) := by decide +kernel
theorem dX12_notes_4 : decode cX12_notes 4 = .ok (.aload_n 0, 1) := by decide +kernel
theorem dX12_notes_5 : decode cX12_notes 5 = .ok (.getfield 248, 3) := by decide +kernel
theorem dX12_notes_8 : decode cX12_notes 8 = .ok (.aload_n 0, 1) := by decide +kernel
theorem dX12_notes_9 : decode cX12_notes 9 = .ok (.getfield 30, 3) := by decide +kernel
theorem dX12_notes_12 : decode cX12_notes 12 = .ok (.iload_n 1, 1) := by decide +kernel
theorem dX12_notes_13 : decode cX12_notes 13 = .ok (.laload, 1) := by decide +kernel
theorem dX12_notes_14 : decode cX12_notes 14 = .ok (.lastore, 1) := by decide +kernel
theorem dX12_notes_15 : decode cX12_notes 15 = .ok (.aload_n 0, 1) := by decide +kernel
theorem dX12_notes_16 : decode cX12_notes 16 = .ok (.getfield 43, 3) := by decide +kernel
theorem dX12_notes_19 : decode cX12_notes 19 = .ok (.aload_n 0, 1) := by decide +kernel
theorem dX12_notes_20 : decode cX12_notes 20 = .ok (.getfield 248, 3) := by decide +kernel
theorem dX12_notes_23 : decode cX12_notes 23 = .ok (.iload_n 2, 1) := by decide +kernel
theorem dX12_notes_24 : decode cX12_notes 24 = .ok (.iastore, 1) := by decide +kernel
theorem dX12_notes_25 : decode cX12_notes 25 = .ok (.aload_n 0, 1) := by decide +kernel
theorem dX12_notes_26 : decode cX12_notes 26 = .ok (.getfield 46, 3) := by decide +kernel
theorem dX12_notes_29 : decode cX12_notes 29 = .ok (.aload_n 0, 1) := by decide +kernel
theorem dX12_notes_30 : decode cX12_notes 30 = .ok (.getfield 248, 3) := by decide +kernel
theorem dX12_notes_33 : decode cX12_notes 33 = .ok (.iload_n 3, 1) := by decide +kernel
theorem dX12_notes_34 : decode cX12_notes 34 = .ok (.iastore, 1) := by decide +kernel
theorem dX12_notes_35 : decode cX12_notes 35 = .ok (.aload_n 0, 1) := by decide +kernel
theorem dX12_notes_36 : decode cX12_notes 36 = .ok (.dup, 1) := by decide +kernel
theorem dX12_notes_37 : decode cX12_notes 37 = .ok (.getfield 248, 3) := by decide +kernel
theorem dX12_notes_40 : decode cX12_notes 40 = .ok (.iconst 1, 1) := by decide +kernel
theorem dX12_notes_41 : decode cX12_notes 41 = .ok (.iadd, 1) := by decide +kernel
theorem dX12_notes_42 : decode cX12_notes 42 = .ok (.putfield 248, 3) := by decide +kernel
theorem dX12_notes_45 : decode cX12_notes 45 = .ok (.return_, 1) := by decide +kernel
set_option maxRecDepth 100000 in
theorem c_X12_notes (l : Launch) (D : q_D) (al : q_Al) (dt : q_Dt) (x0 : Nat) (x1 : Int32) (x2 : Int32) (x3 : Int32) (kx0 : al.1 x0 = 13) (dt0 : q_Dt) (hm : X12_notes al dt x0 x1 x2 x3 = some dt0) : q_Mt l yX12_notes cX12_notes 4 (none) 0 0 D al [.ref x0, .int x1, .int x2, .int x3] dt 0 none dt0 := by
  refine q_Mt.of (by decide) (Nat.le_of_ble_eq_true rfl) ?_
  intro p e s m args below meth c ls C hargs hW hl
  have hx := C.1
  have hb := C.2.1
  have hown := C.2.2.2.2.2.1
  have hts := C.2.2.2.2.2.2.1
  have hS : va_S (q_A al) s.heap s.heap [] := va_S.rf
  have hl : lv_has ls 4 [(0, .ref x0), (1, .int x1), (2, .int x2), (3, .int x3)] := hl
  unfold X12_notes at hm
  refine lv_aload_n hx hb dX12_notes_0 rfl (lv_at hl 0 rfl) ?_
  refine r_getF C hW (ci := 12) kx0 ff_12_21 cl_12 fl_RX12_40 dX12_notes_1 (fun k1000001 => ?_)
  refine lv_aload_n hx hb dX12_notes_4 rfl (lv_at hl 0 rfl) ?_
  refine r_getI C hW (ci := 12) kx0 ff_12_20 cl_12 fl_RX12_248 dX12_notes_5 ?_
  refine lv_aload_n hx hb dX12_notes_8 rfl (lv_at hl 0 rfl) ?_
  refine r_getF C hW (ci := 12) kx0 ff_12_8 cl_12 fl_RX12_30 dX12_notes_9 (fun k1000002 => ?_)
  refine lv_iload_n hx hb dX12_notes_12 rfl (lv_at hl 1 rfl) ?_
  refine r_lald C hW hm k1000002 dX12_notes_13 (fun hm => ?_)
  refine r_last C hW hS hm k1000001 dX12_notes_14 (fun dt1000003 H locs hm hW hS => ?_)
  refine lv_aload_n hx hb dX12_notes_15 rfl (lv_at hl 0 rfl) ?_
  refine r_getF C hW (ci := 12) kx0 ff_12_22 cl_12 fl_RX12_43 dX12_notes_16 (fun k1000004 => ?_)
  refine lv_aload_n hx hb dX12_notes_19 rfl (lv_at hl 0 rfl) ?_
  refine r_getI C hW (ci := 12) kx0 ff_12_20 cl_12 fl_RX12_248 dX12_notes_20 ?_
  refine lv_iload_n hx hb dX12_notes_23 rfl (lv_at hl 2 rfl) ?_
  refine r_iast C hW hS hm k1000004 dX12_notes_24 (fun dt1000005 H locs hm hW hS => ?_)
  refine lv_aload_n hx hb dX12_notes_25 rfl (lv_at hl 0 rfl) ?_
  refine r_getF C hW (ci := 12) kx0 ff_12_23 cl_12 fl_RX12_46 dX12_notes_26 (fun k1000006 => ?_)
  refine lv_aload_n hx hb dX12_notes_29 rfl (lv_at hl 0 rfl) ?_
  refine r_getI C hW (ci := 12) kx0 ff_12_20 cl_12 fl_RX12_248 dX12_notes_30 ?_
  refine lv_iload_n hx hb dX12_notes_33 rfl (lv_at hl 3 rfl) ?_
  refine r_iast C hW hS hm k1000006 dX12_notes_34 (fun dt1000007 H locs hm hW hS => ?_)
  refine lv_aload_n hx hb dX12_notes_35 rfl (lv_at hl 0 rfl) ?_
  refine lv_dup hx hb dX12_notes_36 rfl ?_
  refine r_getI C hW (ci := 12) kx0 ff_12_20 cl_12 fl_RX12_248 dX12_notes_37 ?_
  refine lv_iconst (v := 1) hx hb dX12_notes_40 (by decide) ?_
  refine lv_iadd hx hb dX12_notes_41 ?_
  refine r_putI C hW hS hm (ci := 12) kx0 ff_12_20 cl_12 fl_RX12_248 (nf_12_20) rfl dX12_notes_42 (fun dt1000008 H locs hm hW hS => ?_)
  exact e_vD C hW hS hm dX12_notes_45
theorem dX12_tellCode_0 : decode cX12_tellCode 0 = .ok (.bipush 8, 2) := by decide +kernel
theorem dX12_tellCode_2 : decode cX12_tellCode 2 = .ok (.aload_n 0, 1) := by decide +kernel
theorem dX12_tellCode_3 : decode cX12_tellCode 3 = .ok (.getfield 245, 3) := by decide +kernel
theorem dX12_tellCode_6 : decode cX12_tellCode 6 = .ok (.imul, 1) := by decide +kernel
theorem dX12_tellCode_7 : decode cX12_tellCode 7 = .ok (.aload_n 0, 1) := by decide +kernel
theorem dX12_tellCode_8 : decode cX12_tellCode 8 = .ok (.getfield 49, 3) := by decide +kernel
theorem dX12_tellCode_11 : decode cX12_tellCode 11 = .ok (.aload_n 0, 1) := by decide +kernel
theorem dX12_tellCode_12 : decode cX12_tellCode 12 = .ok (.getfield 245, 3) := by decide +kernel
theorem dX12_tellCode_15 : decode cX12_tellCode 15 = .ok (.iaload, 1) := by decide +kernel
theorem dX12_tellCode_16 : decode cX12_tellCode 16 = .ok (.iadd, 1) := by decide +kernel
theorem dX12_tellCode_17 : decode cX12_tellCode 17 = .ok (.istore_n 2, 1) := by decide +kernel
theorem dX12_tellCode_18 : decode cX12_tellCode 18 = .ok (.aload_n 0, 1) := by decide +kernel
theorem dX12_tellCode_19 : decode cX12_tellCode 19 = .ok (.invokevirtual 290, 3) := by decide +kernel
theorem dX12_tellCode_22 : decode cX12_tellCode 22 = .ok (.istore_n 3, 1) := by decide +kernel
theorem dX12_tellCode_23 : decode cX12_tellCode 23 = .ok (.iload_n 1, 1) := by decide +kernel
theorem dX12_tellCode_24 : decode cX12_tellCode 24 = .ok (.bipush 20, 2) := by decide +kernel
theorem dX12_tellCode_26 : decode cX12_tellCode 26 = .ok (.if_icmp .ne 113, 3) := by decide +kernel
theorem dX12_tellCode_29 : decode cX12_tellCode 29 = .ok (.aload_n 0, 1) := by decide +kernel
theorem dX12_tellCode_30 : decode cX12_tellCode 30 = .ok (.iconst 2, 1) := by decide +kernel
theorem dX12_tellCode_31 : decode cX12_tellCode 31 = .ok (.bipush 7, 2) := by decide +kernel
theorem dX12_tellCode_33 : decode cX12_tellCode 33 = .ok (.invokevirtual 276, 3) := by decide +kernel
theorem dX12_tellCode_36 : decode cX12_tellCode 36 = .ok (.istore 4, 2) := by decide +kernel
theorem dX12_tellCode_38 : decode cX12_tellCode 38 = .ok (.aload_n 0, 1) := by decide +kernel
theorem dX12_tellCode_39 : decode cX12_tellCode 39 = .ok (.getfield 286, 3) := by decide +kernel
theorem dX12_tellCode_42 : decode cX12_tellCode 42 = .ok (.istore 5, 2) := by decide +kernel
theorem dX12_tellCode_44 : decode cX12_tellCode 44 = .ok (.iload 5, 2) := by decide +kernel
theorem dX12_tellCode_46 : decode cX12_tellCode 46 = .ok (.ifCond .eq 10, 3) := by decide +kernel
theorem dX12_tellCode_49 : decode cX12_tellCode 49 = .ok (.iconst 1, 1) := by decide +kernel
theorem dX12_tellCode_50 : decode cX12_tellCode 50 = .ok (.iload 4, 2) := by decide +kernel
theorem dX12_tellCode_52 : decode cX12_tellCode 52 = .ok (.ishl, 1) := by decide +kernel
theorem dX12_tellCode_53 : decode cX12_tellCode 53 = .ok (.goto 4, 3) := by decide +kernel
theorem dX12_tellCode_56 : decode cX12_tellCode 56 = .ok (.iconst 2, 1) := by decide +kernel
theorem dX12_tellCode_57 : decode cX12_tellCode 57 = .ok (.istore 6, 2) := by decide +kernel
theorem dX12_tellCode_59 : decode cX12_tellCode 59 = .ok (.aload_n 0, 1) := by decide +kernel
theorem dX12_tellCode_60 : decode cX12_tellCode 60 = .ok (.iload 5, 2) := by decide +kernel
theorem dX12_tellCode_62 : decode cX12_tellCode 62 = .ok (.iconst 1, 1) := by decide +kernel
theorem dX12_tellCode_63 : decode cX12_tellCode 63 = .ok (.iload 6, 2) := by decide +kernel
theorem dX12_tellCode_65 : decode cX12_tellCode 65 = .ok (.iconst 1, 1) := by decide +kernel
theorem dX12_tellCode_66 : decode cX12_tellCode 66 = .ok (.isub, 1) := by decide +kernel
theorem dX12_tellCode_67 : decode cX12_tellCode 67 = .ok (.invokevirtual 294, 3) := by decide +kernel
theorem dX12_tellCode_70 : decode cX12_tellCode 70 = .ok (.istore 7, 2) := by decide +kernel
theorem dX12_tellCode_72 : decode cX12_tellCode 72 = .ok (.iload 5, 2) := by decide +kernel
theorem dX12_tellCode_74 : decode cX12_tellCode 74 = .ok (.ifCond .eq 14, 3) := by decide +kernel
theorem dX12_tellCode_77 : decode cX12_tellCode 77 = .ok (.aload_n 0, 1) := by decide +kernel
theorem dX12_tellCode_78 : decode cX12_tellCode 78 = .ok (.getfield 286, 3) := by decide +kernel
theorem dX12_tellCode_81 : decode cX12_tellCode 81 = .ok (.ifCond .eq 7, 3) := by decide +kernel
theorem dX12_tellCode_84 : decode cX12_tellCode 84 = .ok (.iconst 1, 1) := by decide +kernel
theorem dX12_tellCode_85 : decode cX12_tellCode 85 = .ok (.goto 4, 3) := by decide +kernel
theorem dX12_tellCode_88 : decode cX12_tellCode 88 = .ok (.iconst 0, 1) := by decide +kernel
theorem dX12_tellCode_89 : decode cX12_tellCode 89 = .ok (.istore 5, 2) := by decide +kernel
theorem dX12_tellCode_91 : decode cX12_tellCode 91 = .ok (.aload_n 0, 1) := by decide +kernel
theorem dX12_tellCode_92 : decode cX12_tellCode 92 = .ok (.iload 6, 2) := by decide +kernel
theorem dX12_tellCode_94 : decode cX12_tellCode 94 = .ok (.iconst 2, 1) := by decide +kernel
theorem dX12_tellCode_95 : decode cX12_tellCode 95 = .ok (.if_icmp .le 7, 3) := by decide +kernel
theorem dX12_tellCode_98 : decode cX12_tellCode 98 = .ok (.iconst 1, 1) := by decide +kernel
theorem dX12_tellCode_99 : decode cX12_tellCode 99 = .ok (.goto 4, 3) := by decide +kernel
theorem dX12_tellCode_102 : decode cX12_tellCode 102 = .ok (.iconst 0, 1) := by decide +kernel
theorem dX12_tellCode_103 : decode cX12_tellCode 103 = .ok (.iconst 1, 1) := by decide +kernel
theorem dX12_tellCode_104 : decode cX12_tellCode 104 = .ok (.iload 6, 2) := by decide +kernel
theorem dX12_tellCode_106 : decode cX12_tellCode 106 = .ok (.iconst 1, 1) := by decide +kernel
theorem dX12_tellCode_107 : decode cX12_tellCode 107 = .ok (.isub, 1) := by decide +kernel
theorem dX12_tellCode_108 : decode cX12_tellCode 108 = .ok (.invokevirtual 294, 3) := by decide +kernel
theorem dX12_tellCode_111 : decode cX12_tellCode 111 = .ok (.istore 8, 2) := by decide +kernel
theorem dX12_tellCode_113 : decode cX12_tellCode 113 = .ok (.iload 5, 2) := by decide +kernel
theorem dX12_tellCode_115 : decode cX12_tellCode 115 = .ok (.ifCond .eq 21, 3) := by decide +kernel
theorem dX12_tellCode_118 : decode cX12_tellCode 118 = .ok (.aload_n 0, 1) := by decide +kernel
theorem dX12_tellCode_119 : decode cX12_tellCode 119 = .ok (.getfield 286, 3) := by decide +kernel
theorem dX12_tellCode_122 : decode cX12_tellCode 122 = .ok (.ifCond .eq 14, 3) := by decide +kernel
theorem dX12_tellCode_125 : decode cX12_tellCode 125 = .ok (.aload_n 0, 1) := by decide +kernel
theorem dX12_tellCode_126 : decode cX12_tellCode 126 = .ok (.iload_n 2, 1) := by decide +kernel
theorem dX12_tellCode_127 : decode cX12_tellCode 127 = .ok (.iload 4, 2) := by decide +kernel
theorem dX12_tellCode_129 : decode cX12_tellCode 129 = .ok (.iload 7, 2) := by decide +kernel
theorem dX12_tellCode_131 : decode cX12_tellCode 131 = .ok (.iload 8, 2) := by decide +kernel
theorem dX12_tellCode_133 : decode cX12_tellCode 133 = .ok (.invokevirtual 298, 3) := by decide +kernel
theorem dX12_tellCode_136 : decode cX12_tellCode 136 = .ok (.goto 146, 3) := by decide +kernel
theorem dX12_tellCode_139 : decode cX12_tellCode 139 = .ok (.iload_n 1, 1) := by decide +kernel
theorem dX12_tellCode_140 : decode cX12_tellCode 140 = .ok (.bipush 21, 2) := by decide +kernel
theorem dX12_tellCode_142 : decode cX12_tellCode 142 = .ok (.if_icmp .ne 66, 3) := by decide +kernel
theorem dX12_tellCode_145 : decode cX12_tellCode 145 = .ok (.aload_n 0, 1) := by decide +kernel
theorem dX12_tellCode_146 : decode cX12_tellCode 146 = .ok (.iconst 1, 1) := by decide +kernel
theorem dX12_tellCode_147 : decode cX12_tellCode 147 = .ok (.bipush 6, 2) := by decide +kernel
theorem dX12_tellCode_149 : decode cX12_tellCode 149 = .ok (.invokevirtual 276, 3) := by decide +kernel
theorem dX12_tellCode_152 : decode cX12_tellCode 152 = .ok (.istore 4, 2) := by decide +kernel
theorem dX12_tellCode_154 : decode cX12_tellCode 154 = .ok (.aload_n 0, 1) := by decide +kernel
theorem dX12_tellCode_155 : decode cX12_tellCode 155 = .ok (.getfield 286, 3) := by decide +kernel
theorem dX12_tellCode_158 : decode cX12_tellCode 158 = .ok (.istore 5, 2) := by decide +kernel
theorem dX12_tellCode_160 : decode cX12_tellCode 160 = .ok (.aload_n 0, 1) := by decide +kernel
theorem dX12_tellCode_161 : decode cX12_tellCode 161 = .ok (.iload 5, 2) := by decide +kernel
theorem dX12_tellCode_163 : decode cX12_tellCode 163 = .ok (.iconst 0, 1) := by decide +kernel
theorem dX12_tellCode_164 : decode cX12_tellCode 164 = .ok (.iload 5, 2) := by decide +kernel
theorem dX12_tellCode_166 : decode cX12_tellCode 166 = .ok (.ifCond .eq 12, 3) := by decide +kernel
theorem dX12_tellCode_169 : decode cX12_tellCode 169 = .ok (.iconst 1, 1) := by decide +kernel
theorem dX12_tellCode_170 : decode cX12_tellCode 170 = .ok (.iload 4, 2) := by decide +kernel
theorem dX12_tellCode_172 : decode cX12_tellCode 172 = .ok (.ishl, 1) := by decide +kernel
theorem dX12_tellCode_173 : decode cX12_tellCode 173 = .ok (.iconst 1, 1) := by decide +kernel
theorem dX12_tellCode_174 : decode cX12_tellCode 174 = .ok (.isub, 1) := by decide +kernel
theorem dX12_tellCode_175 : decode cX12_tellCode 175 = .ok (.goto 4, 3) := by decide +kernel
theorem dX12_tellCode_178 : decode cX12_tellCode 178 = .ok (.iconst 0, 1) := by decide +kernel
theorem dX12_tellCode_179 : decode cX12_tellCode 179 = .ok (.invokevirtual 294, 3) := by decide +kernel
theorem dX12_tellCode_182 : decode cX12_tellCode 182 = .ok (.istore 6, 2) := by decide +kernel
theorem dX12_tellCode_184 : decode cX12_tellCode 184 = .ok (.iload 5, 2) := by decide +kernel
theorem dX12_tellCode_186 : decode cX12_tellCode 186 = .ok (.ifCond .eq 19, 3) := by decide +kernel
theorem dX12_tellCode_189 : decode cX12_tellCode 189 = .ok (.aload_n 0, 1) := by decide +kernel
theorem dX12_tellCode_190 : decode cX12_tellCode 190 = .ok (.getfield 286, 3) := by decide +kernel
theorem dX12_tellCode_193 : decode cX12_tellCode 193 = .ok (.ifCond .eq 12, 3) := by decide +kernel
theorem dX12_tellCode_196 : decode cX12_tellCode 196 = .ok (.aload_n 0, 1) := by decide +kernel
theorem dX12_tellCode_197 : decode cX12_tellCode 197 = .ok (.iload_n 2, 1) := by decide +kernel
theorem dX12_tellCode_198 : decode cX12_tellCode 198 = .ok (.iload 4, 2) := by decide +kernel
theorem dX12_tellCode_200 : decode cX12_tellCode 200 = .ok (.iload 6, 2) := by decide +kernel
theorem dX12_tellCode_202 : decode cX12_tellCode 202 = .ok (.invokevirtual 302, 3) := by decide +kernel
theorem dX12_tellCode_205 : decode cX12_tellCode 205 = .ok (.goto 77, 3) := by decide +kernel
theorem dX12_tellCode_208 : decode cX12_tellCode 208 = .ok (.iload_n 1, 1) := by decide +kernel
theorem dX12_tellCode_209 : decode cX12_tellCode 209 = .ok (.bipush 22, 2) := by decide +kernel
theorem dX12_tellCode_211 : decode cX12_tellCode 211 = .ok (.if_icmp .ne 66, 3) := by decide +kernel
theorem dX12_tellCode_214 : decode cX12_tellCode 214 = .ok (.aload_n 0, 1) := by decide +kernel
theorem dX12_tellCode_215 : decode cX12_tellCode 215 = .ok (.iconst 1, 1) := by decide +kernel
theorem dX12_tellCode_216 : decode cX12_tellCode 216 = .ok (.bipush 13, 2) := by decide +kernel
theorem dX12_tellCode_218 : decode cX12_tellCode 218 = .ok (.invokevirtual 276, 3) := by decide +kernel
theorem dX12_tellCode_221 : decode cX12_tellCode 221 = .ok (.istore 4, 2) := by decide +kernel
theorem dX12_tellCode_223 : decode cX12_tellCode 223 = .ok (.aload_n 0, 1) := by decide +kernel
theorem dX12_tellCode_224 : decode cX12_tellCode 224 = .ok (.getfield 286, 3) := by decide +kernel
theorem dX12_tellCode_227 : decode cX12_tellCode 227 = .ok (.istore 5, 2) := by decide +kernel
theorem dX12_tellCode_229 : decode cX12_tellCode 229 = .ok (.aload_n 0, 1) := by decide +kernel
theorem dX12_tellCode_230 : decode cX12_tellCode 230 = .ok (.iload 5, 2) := by decide +kernel
theorem dX12_tellCode_232 : decode cX12_tellCode 232 = .ok (.iconst 0, 1) := by decide +kernel
theorem dX12_tellCode_233 : decode cX12_tellCode 233 = .ok (.iload 5, 2) := by decide +kernel
theorem dX12_tellCode_235 : decode cX12_tellCode 235 = .ok (.ifCond .eq 12, 3) := by decide +kernel
theorem dX12_tellCode_238 : decode cX12_tellCode 238 = .ok (.iconst 1, 1) := by decide +kernel
theorem dX12_tellCode_239 : decode cX12_tellCode 239 = .ok (.iload 4, 2) := by decide +kernel
theorem dX12_tellCode_241 : decode cX12_tellCode 241 = .ok (.ishl, 1) := by decide +kernel
theorem dX12_tellCode_242 : decode cX12_tellCode 242 = .ok (.iconst 1, 1) := by decide +kernel
theorem dX12_tellCode_243 : decode cX12_tellCode 243 = .ok (.isub, 1) := by decide +kernel
theorem dX12_tellCode_244 : decode cX12_tellCode 244 = .ok (.goto 4, 3) := by decide +kernel
theorem dX12_tellCode_247 : decode cX12_tellCode 247 = .ok (.iconst 0, 1) := by decide +kernel
theorem dX12_tellCode_248 : decode cX12_tellCode 248 = .ok (.invokevirtual 294, 3) := by decide +kernel
theorem dX12_tellCode_251 : decode cX12_tellCode 251 = .ok (.istore 6, 2) := by decide +kernel
theorem dX12_tellCode_253 : decode cX12_tellCode 253 = .ok (.iload 5, 2) := by decide +kernel
theorem dX12_tellCode_255 : decode cX12_tellCode 255 = .ok (.ifCond .eq 19, 3) := by decide +kernel
theorem dX12_tellCode_258 : decode cX12_tellCode 258 = .ok (.aload_n 0, 1) := by decide +kernel
theorem dX12_tellCode_259 : decode cX12_tellCode 259 = .ok (.getfield 286, 3) := by decide +kernel
theorem dX12_tellCode_262 : decode cX12_tellCode 262 = .ok (.ifCond .eq 12, 3) := by decide +kernel
theorem dX12_tellCode_265 : decode cX12_tellCode 265 = .ok (.aload_n 0, 1) := by decide +kernel
theorem dX12_tellCode_266 : decode cX12_tellCode 266 = .ok (.iload_n 2, 1) := by decide +kernel
theorem dX12_tellCode_267 : decode cX12_tellCode 267 = .ok (.iload 4, 2) := by decide +kernel
theorem dX12_tellCode_269 : decode cX12_tellCode 269 = .ok (.iload 6, 2) := by decide +kernel
theorem dX12_tellCode_271 : decode cX12_tellCode 271 = .ok (.invokevirtual 306, 3) := by decide +kernel
theorem dX12_tellCode_274 : decode cX12_tellCode 274 = .ok (.goto 8, 3) := by decide +kernel
theorem dX12_tellCode_277 : decode cX12_tellCode 277 = .ok (.aload_n 0, 1) := by decide +kernel
theorem dX12_tellCode_278 : decode cX12_tellCode 278 = .ok (.iload_n 2, 1) := by decide +kernel
theorem dX12_tellCode_279 : decode cX12_tellCode 279 = .ok (.invokevirtual 309, 3) := by decide +kernel
theorem dX12_tellCode_282 : decode cX12_tellCode 282 = .ok (.aload_n 0, 1) := by decide +kernel
theorem dX12_tellCode_283 : decode cX12_tellCode 283 = .ok (.iconst 4, 1) := by decide +kernel
theorem dX12_tellCode_284 : decode cX12_tellCode 284 = .ok (.invokevirtual 280, 3) := by decide +kernel
theorem dX12_tellCode_287 : decode cX12_tellCode 287 = .ok (.aload_n 0, 1) := by decide +kernel
theorem dX12_tellCode_288 : decode cX12_tellCode 288 = .ok (.getfield 212, 3) := by decide +kernel
theorem dX12_tellCode_291 : decode cX12_tellCode 291 = .ok (.ifCond .le 4, 3) := by decide +kernel
theorem dX12_tellCode_294 : decode cX12_tellCode 294 = .ok (.return_, 1) := by decide +kernel
theorem dX12_tellCode_295 : decode cX12_tellCode 295 = .ok (.aload_n 0, 1) := by decide +kernel
theorem dX12_tellCode_296 : decode cX12_tellCode 296 = .ok (.iload_n 3, 1) := by decide +kernel
theorem dX12_tellCode_297 : decode cX12_tellCode 297 = .ok (.iconst 0, 1) := by decide +kernel
theorem dX12_tellCode_298 : decode cX12_tellCode 298 = .ok (.aload_n 0, 1) := by decide +kernel
theorem dX12_tellCode_299 : decode cX12_tellCode 299 = .ok (.getfield 49, 3) := by decide +kernel
theorem dX12_tellCode_302 : decode cX12_tellCode 302 = .ok (.aload_n 0, 1) := by decide +kernel
theorem dX12_tellCode_303 : decode cX12_tellCode 303 = .ok (.getfield 245, 3) := by decide +kernel
theorem dX12_tellCode_306 : decode cX12_tellCode 306 = .ok (.iaload, 1) := by decide +kernel
theorem dX12_tellCode_307 : decode cX12_tellCode 307 = .ok (.invokevirtual 312, 3) := by decide +kernel
theorem dX12_tellCode_310 : decode cX12_tellCode 310 = .ok (.aload_n 0, 1) := by decide +kernel
theorem dX12_tellCode_311 : decode cX12_tellCode 311 = .ok (.getfield 49, 3) := by decide +kernel
theorem dX12_tellCode_314 : decode cX12_tellCode 314 = .ok (.aload_n 0, 1) := by decide +kernel
theorem dX12_tellCode_315 : decode cX12_tellCode 315 = .ok (.getfield 245, 3) := by decide +kernel
theorem dX12_tellCode_318 : decode cX12_tellCode 318 = .ok (.dup2, 1) := by decide +kernel
theorem dX12_tellCode_319 : decode cX12_tellCode 319 = .ok (.iaload, 1) := by decide +kernel
theorem dX12_tellCode_320 : decode cX12_tellCode 320 = .ok (.iconst 1, 1) := by decide +kernel
theorem dX12_tellCode_321 : decode cX12_tellCode 321 = .ok (.iadd, 1) := by decide +kernel
theorem dX12_tellCode_322 : decode cX12_tellCode 322 = .ok (.iastore, 1) := by decide +kernel
theorem dX12_tellCode_323 : decode cX12_tellCode 323 = .ok (.return_, 1) := by decide +kernel
set_option maxRecDepth 100000 in
theorem c_X12_tellCode (l : Launch) (D : q_D) (al : q_Al) (dt : q_Dt) (x0 : Nat) (x1 : Int32) (kx0 : al.1 x0 = 13) (dt0 : q_Dt) (hm : X12_tellCode al dt x0 x1 = some dt0) : q_Mt l yX12_tellCode cX12_tellCode 9 (none) 5 116 D al [.ref x0, .int x1] dt 0 none dt0 := by
  refine q_Mt.of (by decide) (Nat.le_of_ble_eq_true rfl) ?_
  intro p e s m args below meth c ls C hargs hW hl
  have hx := C.1
  have hb := C.2.1
  have hown := C.2.2.2.2.2.1
  have hts := C.2.2.2.2.2.2.1
  have hS : va_S (q_A al) s.heap s.heap [] := va_S.rf
  have hl : lv_has ls 9 [(0, .ref x0), (1, .int x1)] := hl
  unfold X12_tellCode at hm
  have hB282 : ∀ (x0_282 : Nat) (x3_282 : Int32) (kx0_282 : al.1 x0_282 = 13) (dt : q_Dt) (H : Heap) (locs : List Loc) (ls : Array Slot) (hm : X12_tellCode_b282 al x0_282 x3_282 dt = some dt0) (hW : q_W D al dt H) (hS : va_S (q_A al) s.heap H locs) (hl : lv_has ls 9 [(0, .ref x0_282), (3, .int x3_282)]), W p l e { frames := 5, cells := 0, slots := 0, locals := 116 } s m args below meth c H locs 0 0 (MQ below (q_Q none (fun H => q_W D al dt0 H ∧ q_Rk al 0 none) (q_A al)) args s 0 0 (q_A al)) (F0 m 282 ls []) := by
    intro x0_282 x3_282 kx0_282 dt H locs ls hm hW hS hl
    unfold X12_tellCode_b282 at hm
    refine lv_aload_n hx hb dX12_tellCode_282 rfl (lv_at hl 0 rfl) ?_
    refine lv_iconst (v := 4) hx hb dX12_tellCode_283 (by decide) ?_
    obtain ⟨dt282002, hc282001, hm⟩ := q_b1i hm
    refine q_callV C hW hS (As := [.int 4]) (rest := []) (st1 := []) (c_X12_must l D al dt x0_282 4 kx0_282 dt282002 hc282001) yl_X12_must vl_X12_must ml_RX12_280 (ci := 12) rfl kx0_282 (by decide) rfl ⟨Nat.le_of_ble_eq_true rfl, Nat.le_of_ble_eq_true rfl⟩ hl rfl (Nat.le_of_ble_eq_true rfl) dX12_tellCode_284 ⟨Nat.le_refl _, Nat.le_refl _⟩ rfl (fun H locs k282003 hW hS => ?_)
    refine lv_aload_n hx hb dX12_tellCode_287 rfl (lv_at hl 0 rfl) ?_
    refine r_getI C hW (ci := 12) kx0_282 ff_12_13 cl_12 fl_RX12_212 dX12_tellCode_288 ?_
    refine q_ifc hm (fun c282004 hm => ?_) (fun c282004 hm => ?_)
    · refine lv_if_le (tgt := 295) hx hb dX12_tellCode_291 (by decide) (fun _ => ?_) (fun h => absurd c282004 h)
      refine lv_aload_n hx hb dX12_tellCode_295 rfl (lv_at hl 0 rfl) ?_
      refine lv_iload_n hx hb dX12_tellCode_296 rfl (lv_at hl 1 rfl) ?_
      refine lv_iconst (v := 0) hx hb dX12_tellCode_297 (by decide) ?_
      refine lv_aload_n hx hb dX12_tellCode_298 rfl (lv_at hl 0 rfl) ?_
      refine r_getF C hW (ci := 12) kx0_282 ff_12_24 cl_12 fl_RX12_49 dX12_tellCode_299 (fun k282005 => ?_)
      refine lv_aload_n hx hb dX12_tellCode_302 rfl (lv_at hl 0 rfl) ?_
      refine r_getI C hW (ci := 12) kx0_282 ff_12_19 cl_12 fl_RX12_245 dX12_tellCode_303 ?_
      refine r_iald C hW hm k282005 dX12_tellCode_306 (fun hm => ?_)
      obtain ⟨dt282007, hc282006, hm⟩ := q_b1i hm
      refine q_callV C hW hS (As := [.int x3_282, .int 0, .int (dt282002.1 (al.2.2 x0_282 24) (Int32.toNatClampNeg (dt282002.1 x0_282 19)))]) (rest := []) (st1 := []) (c_X12_notes l D al dt282002 x0_282 x3_282 0 (dt282002.1 (al.2.2 x0_282 24) (Int32.toNatClampNeg (dt282002.1 x0_282 19))) kx0_282 dt282007 hc282006) yl_X12_notes vl_X12_notes ml_RX12_312 (ci := 12) rfl kx0_282 (by decide) rfl ⟨Nat.le_of_ble_eq_true rfl, Nat.le_of_ble_eq_true rfl⟩ hl rfl (Nat.le_of_ble_eq_true rfl) dX12_tellCode_307 ⟨Nat.le_refl _, Nat.le_refl _⟩ rfl (fun H locs k282008 hW hS => ?_)
      refine lv_aload_n hx hb dX12_tellCode_310 rfl (lv_at hl 0 rfl) ?_
      refine r_getF C hW (ci := 12) kx0_282 ff_12_24 cl_12 fl_RX12_49 dX12_tellCode_311 (fun k282009 => ?_)
      refine lv_aload_n hx hb dX12_tellCode_314 rfl (lv_at hl 0 rfl) ?_
      refine r_getI C hW (ci := 12) kx0_282 ff_12_19 cl_12 fl_RX12_245 dX12_tellCode_315 ?_
      refine lv_dup2_11 hx hb dX12_tellCode_318 rfl rfl ?_
      refine r_iald C hW hm k282009 dX12_tellCode_319 (fun hm => ?_)
      refine lv_iconst (v := 1) hx hb dX12_tellCode_320 (by decide) ?_
      refine lv_iadd hx hb dX12_tellCode_321 ?_
      refine r_iast C hW hS hm k282009 dX12_tellCode_322 (fun dt282010 H locs hm hW hS => ?_)
      exact e_vD C hW hS hm dX12_tellCode_323
    refine lv_if_le (tgt := 295) hx hb dX12_tellCode_291 (by decide) (fun h => absurd h c282004) (fun _ => ?_)
    exact e_vD C hW hS hm dX12_tellCode_294
  have hB274 : ∀ (x0_274 : Nat) (x3_274 : Int32) (kx0_274 : al.1 x0_274 = 13) (dt : q_Dt) (H : Heap) (locs : List Loc) (ls : Array Slot) (hm : X12_tellCode_b274 al x0_274 x3_274 dt = some dt0) (hW : q_W D al dt H) (hS : va_S (q_A al) s.heap H locs) (hl : lv_has ls 9 [(0, .ref x0_274), (3, .int x3_274)]), W p l e { frames := 5, cells := 0, slots := 0, locals := 116 } s m args below meth c H locs 0 0 (MQ below (q_Q none (fun H => q_W D al dt0 H ∧ q_Rk al 0 none) (q_A al)) args s 0 0 (q_A al)) (F0 m 274 ls []) := by
    intro x0_274 x3_274 kx0_274 dt H locs ls hm hW hS hl
    unfold X12_tellCode_b274 at hm
    refine lv_goto (tgt := 282) hx hb dX12_tellCode_274 (by decide) ?_
    exact hB282 x0_274 x3_274 kx0_274 dt _ _ _ hm hW hS (lv_sub hl [0, 1] rfl)
  have hB248 : ∀ (x0_248 : Nat) (x2_248 : Int32) (x3_248 : Int32) (x4_248 : Int32) (x5_248 : Int32) (t0_248 : Nat) (t1_248 : Int32) (t2_248 : Int32) (t3_248 : Int32) (kx0_248 : al.1 x0_248 = 13) (kt0_248 : al.1 t0_248 = 13) (dt : q_Dt) (H : Heap) (locs : List Loc) (ls : Array Slot) (hm : X12_tellCode_b248 al x0_248 x2_248 x3_248 x4_248 x5_248 t0_248 t1_248 t2_248 t3_248 dt = some dt0) (hW : q_W D al dt H) (hS : va_S (q_A al) s.heap H locs) (hl : lv_has ls 9 [(0, .ref x0_248), (2, .int x2_248), (3, .int x3_248), (4, .int x4_248), (5, .int x5_248)]), W p l e { frames := 5, cells := 0, slots := 0, locals := 116 } s m args below meth c H locs 0 0 (MQ below (q_Q none (fun H => q_W D al dt0 H ∧ q_Rk al 0 none) (q_A al)) args s 0 0 (q_A al)) (F0 m 248 ls [.int t3_248, .int t2_248, .int t1_248, .ref t0_248]) := by
    intro x0_248 x2_248 x3_248 x4_248 x5_248 t0_248 t1_248 t2_248 t3_248 kx0_248 kt0_248 dt H locs ls hm hW hS hl
    unfold X12_tellCode_b248 at hm
    obtain ⟨v248002, dt248003, hc248001, hm⟩ := q_b2i hm
    refine q_callV C hW hS (As := [.int t1_248, .int t2_248, .int t3_248]) (rest := []) (st1 := [.int v248002]) (c_X12_hangs l D al dt t0_248 t1_248 t2_248 t3_248 kt0_248 v248002 dt248003 hc248001) yl_X12_hangs vl_X12_hangs ml_RX12_294 (ci := 12) rfl kt0_248 (by decide) rfl ⟨Nat.le_of_ble_eq_true rfl, Nat.le_of_ble_eq_true rfl⟩ hl rfl (Nat.le_of_ble_eq_true rfl) dX12_tellCode_248 ⟨Nat.le_refl _, Nat.le_refl _⟩ rfl (fun H locs k248004 hW hS => ?_)
    refine lv_istore (i := 6) (lv' := [(6, .int v248002), (0, .ref x0_248), (2, .int x2_248), (3, .int x3_248), (4, .int x4_248), (5, .int x5_248)]) hx hb dX12_tellCode_251 hl (by decide) rfl (fun ls hl => ?_)
    refine lv_iload hx hb dX12_tellCode_253 (lv_at hl 5 rfl) ?_
    refine q_ifc hm (fun c248005 hm => ?_) (fun c248005 hm => ?_)
    · refine lv_if_eq (tgt := 274) hx hb dX12_tellCode_255 (by decide) (fun _ => ?_) (fun h => absurd c248005 h)
      exact hB274 x0_248 x3_248 kx0_248 dt248003 _ _ _ hm hW hS (lv_sub hl [1, 3] rfl)
    refine lv_if_eq (tgt := 274) hx hb dX12_tellCode_255 (by decide) (fun h => absurd h c248005) (fun _ => ?_)
    refine lv_aload_n hx hb dX12_tellCode_258 rfl (lv_at hl 1 rfl) ?_
    refine r_getI C hW (ci := 12) kx0_248 ff_12_50 cl_12 fl_RX12_286 dX12_tellCode_259 ?_
    refine q_ifc hm (fun c248006 hm => ?_) (fun c248006 hm => ?_)
    · refine lv_if_eq (tgt := 274) hx hb dX12_tellCode_262 (by decide) (fun _ => ?_) (fun h => absurd c248006 h)
      exact hB274 x0_248 x3_248 kx0_248 dt248003 _ _ _ hm hW hS (lv_sub hl [1, 3] rfl)
    refine lv_if_eq (tgt := 274) hx hb dX12_tellCode_262 (by decide) (fun h => absurd h c248006) (fun _ => ?_)
    refine lv_aload_n hx hb dX12_tellCode_265 rfl (lv_at hl 1 rfl) ?_
    refine lv_iload_n hx hb dX12_tellCode_266 rfl (lv_at hl 2 rfl) ?_
    refine lv_iload hx hb dX12_tellCode_267 (lv_at hl 4 rfl) ?_
    refine lv_iload hx hb dX12_tellCode_269 (lv_at hl 0 rfl) ?_
    obtain ⟨dt248008, hc248007, hm⟩ := q_b1i hm
    refine q_callV C hW hS (As := [.int x2_248, .int x4_248, .int v248002]) (rest := []) (st1 := []) (c_X12_makesBits l D al dt248003 x0_248 x2_248 x4_248 v248002 kx0_248 dt248008 hc248007) yl_X12_makesBits vl_X12_makesBits ml_RX12_306 (ci := 12) rfl kx0_248 (by decide) rfl ⟨Nat.le_of_ble_eq_true rfl, Nat.le_of_ble_eq_true rfl⟩ hl rfl (Nat.le_of_ble_eq_true rfl) dX12_tellCode_271 ⟨Nat.le_refl _, Nat.le_refl _⟩ rfl (fun H locs k248009 hW hS => ?_)
    exact hB274 x0_248 x3_248 kx0_248 dt248008 _ _ _ hm hW hS (lv_sub hl [1, 3] rfl)
  have hB205 : ∀ (x0_205 : Nat) (x3_205 : Int32) (kx0_205 : al.1 x0_205 = 13) (dt : q_Dt) (H : Heap) (locs : List Loc) (ls : Array Slot) (hm : X12_tellCode_b205 al x0_205 x3_205 dt = some dt0) (hW : q_W D al dt H) (hS : va_S (q_A al) s.heap H locs) (hl : lv_has ls 9 [(0, .ref x0_205), (3, .int x3_205)]), W p l e { frames := 5, cells := 0, slots := 0, locals := 116 } s m args below meth c H locs 0 0 (MQ below (q_Q none (fun H => q_W D al dt0 H ∧ q_Rk al 0 none) (q_A al)) args s 0 0 (q_A al)) (F0 m 205 ls []) := by
    intro x0_205 x3_205 kx0_205 dt H locs ls hm hW hS hl
    unfold X12_tellCode_b205 at hm
    refine lv_goto (tgt := 282) hx hb dX12_tellCode_205 (by decide) ?_
    exact hB282 x0_205 x3_205 kx0_205 dt _ _ _ hm hW hS (lv_sub hl [0, 1] rfl)
  have hB179 : ∀ (x0_179 : Nat) (x2_179 : Int32) (x3_179 : Int32) (x4_179 : Int32) (x5_179 : Int32) (t0_179 : Nat) (t1_179 : Int32) (t2_179 : Int32) (t3_179 : Int32) (kx0_179 : al.1 x0_179 = 13) (kt0_179 : al.1 t0_179 = 13) (dt : q_Dt) (H : Heap) (locs : List Loc) (ls : Array Slot) (hm : X12_tellCode_b179 al x0_179 x2_179 x3_179 x4_179 x5_179 t0_179 t1_179 t2_179 t3_179 dt = some dt0) (hW : q_W D al dt H) (hS : va_S (q_A al) s.heap H locs) (hl : lv_has ls 9 [(0, .ref x0_179), (2, .int x2_179), (3, .int x3_179), (4, .int x4_179), (5, .int x5_179)]), W p l e { frames := 5, cells := 0, slots := 0, locals := 116 } s m args below meth c H locs 0 0 (MQ below (q_Q none (fun H => q_W D al dt0 H ∧ q_Rk al 0 none) (q_A al)) args s 0 0 (q_A al)) (F0 m 179 ls [.int t3_179, .int t2_179, .int t1_179, .ref t0_179]) := by
    intro x0_179 x2_179 x3_179 x4_179 x5_179 t0_179 t1_179 t2_179 t3_179 kx0_179 kt0_179 dt H locs ls hm hW hS hl
    unfold X12_tellCode_b179 at hm
    obtain ⟨v179002, dt179003, hc179001, hm⟩ := q_b2i hm
    refine q_callV C hW hS (As := [.int t1_179, .int t2_179, .int t3_179]) (rest := []) (st1 := [.int v179002]) (c_X12_hangs l D al dt t0_179 t1_179 t2_179 t3_179 kt0_179 v179002 dt179003 hc179001) yl_X12_hangs vl_X12_hangs ml_RX12_294 (ci := 12) rfl kt0_179 (by decide) rfl ⟨Nat.le_of_ble_eq_true rfl, Nat.le_of_ble_eq_true rfl⟩ hl rfl (Nat.le_of_ble_eq_true rfl) dX12_tellCode_179 ⟨Nat.le_refl _, Nat.le_refl _⟩ rfl (fun H locs k179004 hW hS => ?_)
    refine lv_istore (i := 6) (lv' := [(6, .int v179002), (0, .ref x0_179), (2, .int x2_179), (3, .int x3_179), (4, .int x4_179), (5, .int x5_179)]) hx hb dX12_tellCode_182 hl (by decide) rfl (fun ls hl => ?_)
    refine lv_iload hx hb dX12_tellCode_184 (lv_at hl 5 rfl) ?_
    refine q_ifc hm (fun c179005 hm => ?_) (fun c179005 hm => ?_)
    · refine lv_if_eq (tgt := 205) hx hb dX12_tellCode_186 (by decide) (fun _ => ?_) (fun h => absurd c179005 h)
      exact hB205 x0_179 x3_179 kx0_179 dt179003 _ _ _ hm hW hS (lv_sub hl [1, 3] rfl)
    refine lv_if_eq (tgt := 205) hx hb dX12_tellCode_186 (by decide) (fun h => absurd h c179005) (fun _ => ?_)
    refine lv_aload_n hx hb dX12_tellCode_189 rfl (lv_at hl 1 rfl) ?_
    refine r_getI C hW (ci := 12) kx0_179 ff_12_50 cl_12 fl_RX12_286 dX12_tellCode_190 ?_
    refine q_ifc hm (fun c179006 hm => ?_) (fun c179006 hm => ?_)
    · refine lv_if_eq (tgt := 205) hx hb dX12_tellCode_193 (by decide) (fun _ => ?_) (fun h => absurd c179006 h)
      exact hB205 x0_179 x3_179 kx0_179 dt179003 _ _ _ hm hW hS (lv_sub hl [1, 3] rfl)
    refine lv_if_eq (tgt := 205) hx hb dX12_tellCode_193 (by decide) (fun h => absurd h c179006) (fun _ => ?_)
    refine lv_aload_n hx hb dX12_tellCode_196 rfl (lv_at hl 1 rfl) ?_
    refine lv_iload_n hx hb dX12_tellCode_197 rfl (lv_at hl 2 rfl) ?_
    refine lv_iload hx hb dX12_tellCode_198 (lv_at hl 4 rfl) ?_
    refine lv_iload hx hb dX12_tellCode_200 (lv_at hl 0 rfl) ?_
    obtain ⟨dt179008, hc179007, hm⟩ := q_b1i hm
    refine q_callV C hW hS (As := [.int x2_179, .int x4_179, .int v179002]) (rest := []) (st1 := []) (c_X12_makesHalves l D al dt179003 x0_179 x2_179 x4_179 v179002 kx0_179 dt179008 hc179007) yl_X12_makesHalves vl_X12_makesHalves ml_RX12_302 (ci := 12) rfl kx0_179 (by decide) rfl ⟨Nat.le_of_ble_eq_true rfl, Nat.le_of_ble_eq_true rfl⟩ hl rfl (Nat.le_of_ble_eq_true rfl) dX12_tellCode_202 ⟨Nat.le_refl _, Nat.le_refl _⟩ rfl (fun H locs k179009 hW hS => ?_)
    exact hB205 x0_179 x3_179 kx0_179 dt179008 _ _ _ hm hW hS (lv_sub hl [1, 3] rfl)
  have hB136 : ∀ (x0_136 : Nat) (x3_136 : Int32) (kx0_136 : al.1 x0_136 = 13) (dt : q_Dt) (H : Heap) (locs : List Loc) (ls : Array Slot) (hm : X12_tellCode_b136 al x0_136 x3_136 dt = some dt0) (hW : q_W D al dt H) (hS : va_S (q_A al) s.heap H locs) (hl : lv_has ls 9 [(0, .ref x0_136), (3, .int x3_136)]), W p l e { frames := 5, cells := 0, slots := 0, locals := 116 } s m args below meth c H locs 0 0 (MQ below (q_Q none (fun H => q_W D al dt0 H ∧ q_Rk al 0 none) (q_A al)) args s 0 0 (q_A al)) (F0 m 136 ls []) := by
    intro x0_136 x3_136 kx0_136 dt H locs ls hm hW hS hl
    unfold X12_tellCode_b136 at hm
    refine lv_goto (tgt := 282) hx hb dX12_tellCode_136 (by decide) ?_
    exact hB282 x0_136 x3_136 kx0_136 dt _ _ _ hm hW hS (lv_sub hl [0, 1] rfl)
  have hB103 : ∀ (x0_103 : Nat) (x2_103 : Int32) (x3_103 : Int32) (x4_103 : Int32) (x5_103 : Int32) (x6_103 : Int32) (x7_103 : Int32) (t0_103 : Nat) (t1_103 : Int32) (kx0_103 : al.1 x0_103 = 13) (kt0_103 : al.1 t0_103 = 13) (dt : q_Dt) (H : Heap) (locs : List Loc) (ls : Array Slot) (hm : X12_tellCode_b103 al x0_103 x2_103 x3_103 x4_103 x5_103 x6_103 x7_103 t0_103 t1_103 dt = some dt0) (hW : q_W D al dt H) (hS : va_S (q_A al) s.heap H locs) (hl : lv_has ls 9 [(0, .ref x0_103), (2, .int x2_103), (3, .int x3_103), (4, .int x4_103), (5, .int x5_103), (6, .int x6_103), (7, .int x7_103)]), W p l e { frames := 5, cells := 0, slots := 0, locals := 116 } s m args below meth c H locs 0 0 (MQ below (q_Q none (fun H => q_W D al dt0 H ∧ q_Rk al 0 none) (q_A al)) args s 0 0 (q_A al)) (F0 m 103 ls [.int t1_103, .ref t0_103]) := by
    intro x0_103 x2_103 x3_103 x4_103 x5_103 x6_103 x7_103 t0_103 t1_103 kx0_103 kt0_103 dt H locs ls hm hW hS hl
    unfold X12_tellCode_b103 at hm
    refine lv_iconst (v := 1) hx hb dX12_tellCode_103 (by decide) ?_
    refine lv_iload hx hb dX12_tellCode_104 (lv_at hl 5 rfl) ?_
    refine lv_iconst (v := 1) hx hb dX12_tellCode_106 (by decide) ?_
    refine lv_isub hx hb dX12_tellCode_107 ?_
    obtain ⟨v103002, dt103003, hc103001, hm⟩ := q_b2i hm
    refine q_callV C hW hS (As := [.int t1_103, .int 1, .int (x6_103 - 1)]) (rest := []) (st1 := [.int v103002]) (c_X12_hangs l D al dt t0_103 t1_103 1 (x6_103 - 1) kt0_103 v103002 dt103003 hc103001) yl_X12_hangs vl_X12_hangs ml_RX12_294 (ci := 12) rfl kt0_103 (by decide) rfl ⟨Nat.le_of_ble_eq_true rfl, Nat.le_of_ble_eq_true rfl⟩ hl rfl (Nat.le_of_ble_eq_true rfl) dX12_tellCode_108 ⟨Nat.le_refl _, Nat.le_refl _⟩ rfl (fun H locs k103004 hW hS => ?_)
    refine lv_istore (i := 8) (lv' := [(8, .int v103002), (0, .ref x0_103), (2, .int x2_103), (3, .int x3_103), (4, .int x4_103), (5, .int x5_103), (6, .int x6_103), (7, .int x7_103)]) hx hb dX12_tellCode_111 hl (by decide) rfl (fun ls hl => ?_)
    refine lv_iload hx hb dX12_tellCode_113 (lv_at hl 5 rfl) ?_
    refine q_ifc hm (fun c103005 hm => ?_) (fun c103005 hm => ?_)
    · refine lv_if_eq (tgt := 136) hx hb dX12_tellCode_115 (by decide) (fun _ => ?_) (fun h => absurd c103005 h)
      exact hB136 x0_103 x3_103 kx0_103 dt103003 _ _ _ hm hW hS (lv_sub hl [1, 3] rfl)
    refine lv_if_eq (tgt := 136) hx hb dX12_tellCode_115 (by decide) (fun h => absurd h c103005) (fun _ => ?_)
    refine lv_aload_n hx hb dX12_tellCode_118 rfl (lv_at hl 1 rfl) ?_
    refine r_getI C hW (ci := 12) kx0_103 ff_12_50 cl_12 fl_RX12_286 dX12_tellCode_119 ?_
    refine q_ifc hm (fun c103006 hm => ?_) (fun c103006 hm => ?_)
    · refine lv_if_eq (tgt := 136) hx hb dX12_tellCode_122 (by decide) (fun _ => ?_) (fun h => absurd c103006 h)
      exact hB136 x0_103 x3_103 kx0_103 dt103003 _ _ _ hm hW hS (lv_sub hl [1, 3] rfl)
    refine lv_if_eq (tgt := 136) hx hb dX12_tellCode_122 (by decide) (fun h => absurd h c103006) (fun _ => ?_)
    refine lv_aload_n hx hb dX12_tellCode_125 rfl (lv_at hl 1 rfl) ?_
    refine lv_iload_n hx hb dX12_tellCode_126 rfl (lv_at hl 2 rfl) ?_
    refine lv_iload hx hb dX12_tellCode_127 (lv_at hl 4 rfl) ?_
    refine lv_iload hx hb dX12_tellCode_129 (lv_at hl 7 rfl) ?_
    refine lv_iload hx hb dX12_tellCode_131 (lv_at hl 0 rfl) ?_
    obtain ⟨dt103008, hc103007, hm⟩ := q_b1i hm
    refine q_callV C hW hS (As := [.int x2_103, .int x4_103, .int x7_103, .int v103002]) (rest := []) (st1 := []) (c_X12_makesRegister l D al dt103003 x0_103 x2_103 x4_103 x7_103 v103002 kx0_103 dt103008 hc103007) yl_X12_makesRegister vl_X12_makesRegister ml_RX12_298 (ci := 12) rfl kx0_103 (by decide) rfl ⟨Nat.le_of_ble_eq_true rfl, Nat.le_of_ble_eq_true rfl⟩ hl rfl (Nat.le_of_ble_eq_true rfl) dX12_tellCode_133 ⟨Nat.le_refl _, Nat.le_refl _⟩ rfl (fun H locs k103009 hW hS => ?_)
    exact hB136 x0_103 x3_103 kx0_103 dt103008 _ _ _ hm hW hS (lv_sub hl [1, 3] rfl)
  have hB89 : ∀ (x0_89 : Nat) (x2_89 : Int32) (x3_89 : Int32) (x4_89 : Int32) (x6_89 : Int32) (x7_89 : Int32) (t0_89 : Int32) (kx0_89 : al.1 x0_89 = 13) (dt : q_Dt) (H : Heap) (locs : List Loc) (ls : Array Slot) (hm : X12_tellCode_b89 al x0_89 x2_89 x3_89 x4_89 x6_89 x7_89 t0_89 dt = some dt0) (hW : q_W D al dt H) (hS : va_S (q_A al) s.heap H locs) (hl : lv_has ls 9 [(0, .ref x0_89), (2, .int x2_89), (3, .int x3_89), (4, .int x4_89), (6, .int x6_89), (7, .int x7_89)]), W p l e { frames := 5, cells := 0, slots := 0, locals := 116 } s m args below meth c H locs 0 0 (MQ below (q_Q none (fun H => q_W D al dt0 H ∧ q_Rk al 0 none) (q_A al)) args s 0 0 (q_A al)) (F0 m 89 ls [.int t0_89]) := by
    intro x0_89 x2_89 x3_89 x4_89 x6_89 x7_89 t0_89 kx0_89 dt H locs ls hm hW hS hl
    unfold X12_tellCode_b89 at hm
    refine lv_istore (i := 5) (lv' := [(5, .int t0_89), (0, .ref x0_89), (2, .int x2_89), (3, .int x3_89), (4, .int x4_89), (6, .int x6_89), (7, .int x7_89)]) hx hb dX12_tellCode_89 hl (by decide) rfl (fun ls hl => ?_)
    refine lv_aload_n hx hb dX12_tellCode_91 rfl (lv_at hl 1 rfl) ?_
    refine lv_iload hx hb dX12_tellCode_92 (lv_at hl 5 rfl) ?_
    refine lv_iconst (v := 2) hx hb dX12_tellCode_94 (by decide) ?_
    refine q_ifc hm (fun c89001 hm => ?_) (fun c89001 hm => ?_)
    · refine lv_icmp_le (tgt := 102) hx hb dX12_tellCode_95 (by decide) (fun _ => ?_) (fun h => absurd c89001 h)
      refine lv_iconst (v := 0) hx hb dX12_tellCode_102 (by decide) ?_
      exact hB103 x0_89 x2_89 x3_89 x4_89 t0_89 x6_89 x7_89 x0_89 0 kx0_89 kx0_89 dt _ _ _ hm hW hS (lv_sub hl [1, 2, 3, 4, 0, 5, 6] rfl)
    refine lv_icmp_le (tgt := 102) hx hb dX12_tellCode_95 (by decide) (fun h => absurd h c89001) (fun _ => ?_)
    refine lv_iconst (v := 1) hx hb dX12_tellCode_98 (by decide) ?_
    refine lv_goto (tgt := 103) hx hb dX12_tellCode_99 (by decide) ?_
    exact hB103 x0_89 x2_89 x3_89 x4_89 t0_89 x6_89 x7_89 x0_89 1 kx0_89 kx0_89 dt _ _ _ hm hW hS (lv_sub hl [1, 2, 3, 4, 0, 5, 6] rfl)
  have hB88 : ∀ (x0_88 : Nat) (x2_88 : Int32) (x3_88 : Int32) (x4_88 : Int32) (x6_88 : Int32) (x7_88 : Int32) (kx0_88 : al.1 x0_88 = 13) (dt : q_Dt) (H : Heap) (locs : List Loc) (ls : Array Slot) (hm : X12_tellCode_b88 al x0_88 x2_88 x3_88 x4_88 x6_88 x7_88 dt = some dt0) (hW : q_W D al dt H) (hS : va_S (q_A al) s.heap H locs) (hl : lv_has ls 9 [(0, .ref x0_88), (2, .int x2_88), (3, .int x3_88), (4, .int x4_88), (6, .int x6_88), (7, .int x7_88)]), W p l e { frames := 5, cells := 0, slots := 0, locals := 116 } s m args below meth c H locs 0 0 (MQ below (q_Q none (fun H => q_W D al dt0 H ∧ q_Rk al 0 none) (q_A al)) args s 0 0 (q_A al)) (F0 m 88 ls []) := by
    intro x0_88 x2_88 x3_88 x4_88 x6_88 x7_88 kx0_88 dt H locs ls hm hW hS hl
    unfold X12_tellCode_b88 at hm
    refine lv_iconst (v := 0) hx hb dX12_tellCode_88 (by decide) ?_
    exact hB89 x0_88 x2_88 x3_88 x4_88 x6_88 x7_88 0 kx0_88 dt _ _ _ hm hW hS (lv_sub hl [0, 1, 2, 3, 4, 5] rfl)
  have hB57 : ∀ (x0_57 : Nat) (x2_57 : Int32) (x3_57 : Int32) (x4_57 : Int32) (x5_57 : Int32) (t0_57 : Int32) (kx0_57 : al.1 x0_57 = 13) (dt : q_Dt) (H : Heap) (locs : List Loc) (ls : Array Slot) (hm : X12_tellCode_b57 al x0_57 x2_57 x3_57 x4_57 x5_57 t0_57 dt = some dt0) (hW : q_W D al dt H) (hS : va_S (q_A al) s.heap H locs) (hl : lv_has ls 9 [(0, .ref x0_57), (2, .int x2_57), (3, .int x3_57), (4, .int x4_57), (5, .int x5_57)]), W p l e { frames := 5, cells := 0, slots := 0, locals := 116 } s m args below meth c H locs 0 0 (MQ below (q_Q none (fun H => q_W D al dt0 H ∧ q_Rk al 0 none) (q_A al)) args s 0 0 (q_A al)) (F0 m 57 ls [.int t0_57]) := by
    intro x0_57 x2_57 x3_57 x4_57 x5_57 t0_57 kx0_57 dt H locs ls hm hW hS hl
    unfold X12_tellCode_b57 at hm
    refine lv_istore (i := 6) (lv' := [(6, .int t0_57), (0, .ref x0_57), (2, .int x2_57), (3, .int x3_57), (4, .int x4_57), (5, .int x5_57)]) hx hb dX12_tellCode_57 hl (by decide) rfl (fun ls hl => ?_)
    refine lv_aload_n hx hb dX12_tellCode_59 rfl (lv_at hl 1 rfl) ?_
    refine lv_iload hx hb dX12_tellCode_60 (lv_at hl 5 rfl) ?_
    refine lv_iconst (v := 1) hx hb dX12_tellCode_62 (by decide) ?_
    refine lv_iload hx hb dX12_tellCode_63 (lv_at hl 0 rfl) ?_
    refine lv_iconst (v := 1) hx hb dX12_tellCode_65 (by decide) ?_
    refine lv_isub hx hb dX12_tellCode_66 ?_
    obtain ⟨v57002, dt57003, hc57001, hm⟩ := q_b2i hm
    refine q_callV C hW hS (As := [.int x5_57, .int 1, .int (t0_57 - 1)]) (rest := []) (st1 := [.int v57002]) (c_X12_hangs l D al dt x0_57 x5_57 1 (t0_57 - 1) kx0_57 v57002 dt57003 hc57001) yl_X12_hangs vl_X12_hangs ml_RX12_294 (ci := 12) rfl kx0_57 (by decide) rfl ⟨Nat.le_of_ble_eq_true rfl, Nat.le_of_ble_eq_true rfl⟩ hl rfl (Nat.le_of_ble_eq_true rfl) dX12_tellCode_67 ⟨Nat.le_refl _, Nat.le_refl _⟩ rfl (fun H locs k57004 hW hS => ?_)
    refine lv_istore (i := 7) (lv' := [(7, .int v57002), (6, .int t0_57), (0, .ref x0_57), (2, .int x2_57), (3, .int x3_57), (4, .int x4_57), (5, .int x5_57)]) hx hb dX12_tellCode_70 hl (by decide) rfl (fun ls hl => ?_)
    refine lv_iload hx hb dX12_tellCode_72 (lv_at hl 6 rfl) ?_
    refine q_ifc hm (fun c57005 hm => ?_) (fun c57005 hm => ?_)
    · refine lv_if_eq (tgt := 88) hx hb dX12_tellCode_74 (by decide) (fun _ => ?_) (fun h => absurd c57005 h)
      exact hB88 x0_57 x2_57 x3_57 x4_57 t0_57 v57002 kx0_57 dt57003 _ _ _ hm hW hS (lv_sub hl [2, 3, 4, 5, 1, 0] rfl)
    refine lv_if_eq (tgt := 88) hx hb dX12_tellCode_74 (by decide) (fun h => absurd h c57005) (fun _ => ?_)
    refine lv_aload_n hx hb dX12_tellCode_77 rfl (lv_at hl 2 rfl) ?_
    refine r_getI C hW (ci := 12) kx0_57 ff_12_50 cl_12 fl_RX12_286 dX12_tellCode_78 ?_
    refine q_ifc hm (fun c57006 hm => ?_) (fun c57006 hm => ?_)
    · refine lv_if_eq (tgt := 88) hx hb dX12_tellCode_81 (by decide) (fun _ => ?_) (fun h => absurd c57006 h)
      exact hB88 x0_57 x2_57 x3_57 x4_57 t0_57 v57002 kx0_57 dt57003 _ _ _ hm hW hS (lv_sub hl [2, 3, 4, 5, 1, 0] rfl)
    refine lv_if_eq (tgt := 88) hx hb dX12_tellCode_81 (by decide) (fun h => absurd h c57006) (fun _ => ?_)
    refine lv_iconst (v := 1) hx hb dX12_tellCode_84 (by decide) ?_
    refine lv_goto (tgt := 89) hx hb dX12_tellCode_85 (by decide) ?_
    exact hB89 x0_57 x2_57 x3_57 x4_57 t0_57 v57002 1 kx0_57 dt57003 _ _ _ hm hW hS (lv_sub hl [2, 3, 4, 5, 1, 0] rfl)
  refine lv_bipush (v := 8) hx hb dX12_tellCode_0 (by decide) ?_
  refine lv_aload_n hx hb dX12_tellCode_2 rfl (lv_at hl 0 rfl) ?_
  refine r_getI C hW (ci := 12) kx0 ff_12_19 cl_12 fl_RX12_245 dX12_tellCode_3 ?_
  refine lv_imul hx hb dX12_tellCode_6 ?_
  refine lv_aload_n hx hb dX12_tellCode_7 rfl (lv_at hl 0 rfl) ?_
  refine r_getF C hW (ci := 12) kx0 ff_12_24 cl_12 fl_RX12_49 dX12_tellCode_8 (fun k1000001 => ?_)
  refine lv_aload_n hx hb dX12_tellCode_11 rfl (lv_at hl 0 rfl) ?_
  refine r_getI C hW (ci := 12) kx0 ff_12_19 cl_12 fl_RX12_245 dX12_tellCode_12 ?_
  refine r_iald C hW hm k1000001 dX12_tellCode_15 (fun hm => ?_)
  refine lv_iadd hx hb dX12_tellCode_16 ?_
  refine q_nmI hm (fun v1000002 ev1000002 hm => ?_)
  refine lv_istore_n (i := 2) (lv' := [(2, .int v1000002), (0, .ref x0), (1, .int x1)]) hx hb dX12_tellCode_17 rfl hl (by decide) rfl (fun ls hl => ?_)
  refine lv_aload_n hx hb dX12_tellCode_18 rfl (lv_at hl 1 rfl) ?_
  obtain ⟨v1000004, dt1000005, hc1000003, hm⟩ := q_b2i hm
  refine q_callV C hW hS (As := []) (rest := []) (st1 := [.int v1000004]) (c_X12_named l D al dt x0 kx0 v1000004 dt1000005 hc1000003) yl_X12_named vl_X12_named ml_RX12_290 (ci := 12) rfl kx0 (by decide) rfl ⟨Nat.le_of_ble_eq_true rfl, Nat.le_of_ble_eq_true rfl⟩ hl rfl (Nat.le_of_ble_eq_true rfl) dX12_tellCode_19 ⟨Nat.le_refl _, Nat.le_refl _⟩ rfl (fun H locs k1000006 hW hS => ?_)
  refine lv_istore_n (i := 3) (lv' := [(3, .int v1000004), (2, .int v1000002), (0, .ref x0), (1, .int x1)]) hx hb dX12_tellCode_22 rfl hl (by decide) rfl (fun ls hl => ?_)
  refine lv_iload_n hx hb dX12_tellCode_23 rfl (lv_at hl 3 rfl) ?_
  refine lv_bipush (v := 20) hx hb dX12_tellCode_24 (by decide) ?_
  refine q_ifc hm (fun c1000007 hm => ?_) (fun c1000007 hm => ?_)
  · refine lv_icmp_ne (tgt := 139) hx hb dX12_tellCode_26 (by decide) (fun h => absurd c1000007 h) (fun _ => ?_)
    refine lv_aload_n hx hb dX12_tellCode_29 rfl (lv_at hl 2 rfl) ?_
    refine lv_iconst (v := 2) hx hb dX12_tellCode_30 (by decide) ?_
    refine lv_bipush (v := 7) hx hb dX12_tellCode_31 (by decide) ?_
    obtain ⟨v1000009, dt1000010, hc1000008, hm⟩ := q_b2i hm
    refine q_callV C hW hS (As := [.int 2, .int 7]) (rest := []) (st1 := [.int v1000009]) (c_X12_bounded l D al dt1000005 x0 2 7 kx0 v1000009 dt1000010 hc1000008) yl_X12_bounded vl_X12_bounded ml_RX12_276 (ci := 12) rfl kx0 (by decide) rfl ⟨Nat.le_of_ble_eq_true rfl, Nat.le_of_ble_eq_true rfl⟩ hl rfl (Nat.le_of_ble_eq_true rfl) dX12_tellCode_33 ⟨Nat.le_refl _, Nat.le_refl _⟩ rfl (fun H locs k1000011 hW hS => ?_)
    refine lv_istore (i := 4) (lv' := [(4, .int v1000009), (3, .int v1000004), (2, .int v1000002), (0, .ref x0), (1, .int x1)]) hx hb dX12_tellCode_36 hl (by decide) rfl (fun ls hl => ?_)
    refine lv_aload_n hx hb dX12_tellCode_38 rfl (lv_at hl 3 rfl) ?_
    refine r_getI C hW (ci := 12) kx0 ff_12_50 cl_12 fl_RX12_286 dX12_tellCode_39 ?_
    refine lv_istore (i := 5) (lv' := [(5, .int (dt1000010.1 x0 50)), (4, .int v1000009), (3, .int v1000004), (2, .int v1000002), (0, .ref x0), (1, .int x1)]) hx hb dX12_tellCode_42 hl (by decide) rfl (fun ls hl => ?_)
    refine lv_iload hx hb dX12_tellCode_44 (lv_at hl 0 rfl) ?_
    refine q_ifc hm (fun c1000012 hm => ?_) (fun c1000012 hm => ?_)
    · refine lv_if_eq (tgt := 56) hx hb dX12_tellCode_46 (by decide) (fun _ => ?_) (fun h => absurd c1000012 h)
      refine lv_iconst (v := 2) hx hb dX12_tellCode_56 (by decide) ?_
      exact hB57 x0 v1000002 v1000004 v1000009 (dt1000010.1 x0 50) 2 kx0 dt1000010 _ _ _ hm hW hS (lv_sub hl [4, 3, 2, 1, 0] rfl)
    refine lv_if_eq (tgt := 56) hx hb dX12_tellCode_46 (by decide) (fun h => absurd h c1000012) (fun _ => ?_)
    refine lv_iconst (v := 1) hx hb dX12_tellCode_49 (by decide) ?_
    refine lv_iload hx hb dX12_tellCode_50 (lv_at hl 1 rfl) ?_
    refine lv_ishl hx hb dX12_tellCode_52 ?_
    refine lv_goto (tgt := 57) hx hb dX12_tellCode_53 (by decide) ?_
    exact hB57 x0 v1000002 v1000004 v1000009 (dt1000010.1 x0 50) (1 <<< (v1000009 &&& 31)) kx0 dt1000010 _ _ _ hm hW hS (lv_sub hl [4, 3, 2, 1, 0] rfl)
  refine lv_icmp_ne (tgt := 139) hx hb dX12_tellCode_26 (by decide) (fun _ => ?_) (fun h => absurd h c1000007)
  refine lv_iload_n hx hb dX12_tellCode_139 rfl (lv_at hl 3 rfl) ?_
  refine lv_bipush (v := 21) hx hb dX12_tellCode_140 (by decide) ?_
  refine q_ifc hm (fun c1000013 hm => ?_) (fun c1000013 hm => ?_)
  · refine lv_icmp_ne (tgt := 208) hx hb dX12_tellCode_142 (by decide) (fun h => absurd c1000013 h) (fun _ => ?_)
    refine lv_aload_n hx hb dX12_tellCode_145 rfl (lv_at hl 2 rfl) ?_
    refine lv_iconst (v := 1) hx hb dX12_tellCode_146 (by decide) ?_
    refine lv_bipush (v := 6) hx hb dX12_tellCode_147 (by decide) ?_
    obtain ⟨v1000015, dt1000016, hc1000014, hm⟩ := q_b2i hm
    refine q_callV C hW hS (As := [.int 1, .int 6]) (rest := []) (st1 := [.int v1000015]) (c_X12_bounded l D al dt1000005 x0 1 6 kx0 v1000015 dt1000016 hc1000014) yl_X12_bounded vl_X12_bounded ml_RX12_276 (ci := 12) rfl kx0 (by decide) rfl ⟨Nat.le_of_ble_eq_true rfl, Nat.le_of_ble_eq_true rfl⟩ hl rfl (Nat.le_of_ble_eq_true rfl) dX12_tellCode_149 ⟨Nat.le_refl _, Nat.le_refl _⟩ rfl (fun H locs k1000017 hW hS => ?_)
    refine lv_istore (i := 4) (lv' := [(4, .int v1000015), (3, .int v1000004), (2, .int v1000002), (0, .ref x0), (1, .int x1)]) hx hb dX12_tellCode_152 hl (by decide) rfl (fun ls hl => ?_)
    refine lv_aload_n hx hb dX12_tellCode_154 rfl (lv_at hl 3 rfl) ?_
    refine r_getI C hW (ci := 12) kx0 ff_12_50 cl_12 fl_RX12_286 dX12_tellCode_155 ?_
    refine lv_istore (i := 5) (lv' := [(5, .int (dt1000016.1 x0 50)), (4, .int v1000015), (3, .int v1000004), (2, .int v1000002), (0, .ref x0), (1, .int x1)]) hx hb dX12_tellCode_158 hl (by decide) rfl (fun ls hl => ?_)
    refine lv_aload_n hx hb dX12_tellCode_160 rfl (lv_at hl 4 rfl) ?_
    refine lv_iload hx hb dX12_tellCode_161 (lv_at hl 0 rfl) ?_
    refine lv_iconst (v := 0) hx hb dX12_tellCode_163 (by decide) ?_
    refine lv_iload hx hb dX12_tellCode_164 (lv_at hl 0 rfl) ?_
    refine q_ifc hm (fun c1000018 hm => ?_) (fun c1000018 hm => ?_)
    · refine lv_if_eq (tgt := 178) hx hb dX12_tellCode_166 (by decide) (fun _ => ?_) (fun h => absurd c1000018 h)
      refine lv_iconst (v := 0) hx hb dX12_tellCode_178 (by decide) ?_
      exact hB179 x0 v1000002 v1000004 v1000015 (dt1000016.1 x0 50) x0 (dt1000016.1 x0 50) 0 0 kx0 kx0 dt1000016 _ _ _ hm hW hS (lv_sub hl [4, 3, 2, 1, 0] rfl)
    refine lv_if_eq (tgt := 178) hx hb dX12_tellCode_166 (by decide) (fun h => absurd h c1000018) (fun _ => ?_)
    refine lv_iconst (v := 1) hx hb dX12_tellCode_169 (by decide) ?_
    refine lv_iload hx hb dX12_tellCode_170 (lv_at hl 1 rfl) ?_
    refine lv_ishl hx hb dX12_tellCode_172 ?_
    refine lv_iconst (v := 1) hx hb dX12_tellCode_173 (by decide) ?_
    refine lv_isub hx hb dX12_tellCode_174 ?_
    refine lv_goto (tgt := 179) hx hb dX12_tellCode_175 (by decide) ?_
    exact hB179 x0 v1000002 v1000004 v1000015 (dt1000016.1 x0 50) x0 (dt1000016.1 x0 50) 0 ((1 <<< (v1000015 &&& 31)) - 1) kx0 kx0 dt1000016 _ _ _ hm hW hS (lv_sub hl [4, 3, 2, 1, 0] rfl)
  refine lv_icmp_ne (tgt := 208) hx hb dX12_tellCode_142 (by decide) (fun _ => ?_) (fun h => absurd h c1000013)
  refine lv_iload_n hx hb dX12_tellCode_208 rfl (lv_at hl 3 rfl) ?_
  refine lv_bipush (v := 22) hx hb dX12_tellCode_209 (by decide) ?_
  refine q_ifc hm (fun c1000019 hm => ?_) (fun c1000019 hm => ?_)
  · refine lv_icmp_ne (tgt := 277) hx hb dX12_tellCode_211 (by decide) (fun h => absurd c1000019 h) (fun _ => ?_)
    refine lv_aload_n hx hb dX12_tellCode_214 rfl (lv_at hl 2 rfl) ?_
    refine lv_iconst (v := 1) hx hb dX12_tellCode_215 (by decide) ?_
    refine lv_bipush (v := 13) hx hb dX12_tellCode_216 (by decide) ?_
    obtain ⟨v1000021, dt1000022, hc1000020, hm⟩ := q_b2i hm
    refine q_callV C hW hS (As := [.int 1, .int 13]) (rest := []) (st1 := [.int v1000021]) (c_X12_bounded l D al dt1000005 x0 1 13 kx0 v1000021 dt1000022 hc1000020) yl_X12_bounded vl_X12_bounded ml_RX12_276 (ci := 12) rfl kx0 (by decide) rfl ⟨Nat.le_of_ble_eq_true rfl, Nat.le_of_ble_eq_true rfl⟩ hl rfl (Nat.le_of_ble_eq_true rfl) dX12_tellCode_218 ⟨Nat.le_refl _, Nat.le_refl _⟩ rfl (fun H locs k1000023 hW hS => ?_)
    refine lv_istore (i := 4) (lv' := [(4, .int v1000021), (3, .int v1000004), (2, .int v1000002), (0, .ref x0), (1, .int x1)]) hx hb dX12_tellCode_221 hl (by decide) rfl (fun ls hl => ?_)
    refine lv_aload_n hx hb dX12_tellCode_223 rfl (lv_at hl 3 rfl) ?_
    refine r_getI C hW (ci := 12) kx0 ff_12_50 cl_12 fl_RX12_286 dX12_tellCode_224 ?_
    refine lv_istore (i := 5) (lv' := [(5, .int (dt1000022.1 x0 50)), (4, .int v1000021), (3, .int v1000004), (2, .int v1000002), (0, .ref x0), (1, .int x1)]) hx hb dX12_tellCode_227 hl (by decide) rfl (fun ls hl => ?_)
    refine lv_aload_n hx hb dX12_tellCode_229 rfl (lv_at hl 4 rfl) ?_
    refine lv_iload hx hb dX12_tellCode_230 (lv_at hl 0 rfl) ?_
    refine lv_iconst (v := 0) hx hb dX12_tellCode_232 (by decide) ?_
    refine lv_iload hx hb dX12_tellCode_233 (lv_at hl 0 rfl) ?_
    refine q_ifc hm (fun c1000024 hm => ?_) (fun c1000024 hm => ?_)
    · refine lv_if_eq (tgt := 247) hx hb dX12_tellCode_235 (by decide) (fun _ => ?_) (fun h => absurd c1000024 h)
      refine lv_iconst (v := 0) hx hb dX12_tellCode_247 (by decide) ?_
      exact hB248 x0 v1000002 v1000004 v1000021 (dt1000022.1 x0 50) x0 (dt1000022.1 x0 50) 0 0 kx0 kx0 dt1000022 _ _ _ hm hW hS (lv_sub hl [4, 3, 2, 1, 0] rfl)
    refine lv_if_eq (tgt := 247) hx hb dX12_tellCode_235 (by decide) (fun h => absurd h c1000024) (fun _ => ?_)
    refine lv_iconst (v := 1) hx hb dX12_tellCode_238 (by decide) ?_
    refine lv_iload hx hb dX12_tellCode_239 (lv_at hl 1 rfl) ?_
    refine lv_ishl hx hb dX12_tellCode_241 ?_
    refine lv_iconst (v := 1) hx hb dX12_tellCode_242 (by decide) ?_
    refine lv_isub hx hb dX12_tellCode_243 ?_
    refine lv_goto (tgt := 248) hx hb dX12_tellCode_244 (by decide) ?_
    exact hB248 x0 v1000002 v1000004 v1000021 (dt1000022.1 x0 50) x0 (dt1000022.1 x0 50) 0 ((1 <<< (v1000021 &&& 31)) - 1) kx0 kx0 dt1000022 _ _ _ hm hW hS (lv_sub hl [4, 3, 2, 1, 0] rfl)
  refine lv_icmp_ne (tgt := 277) hx hb dX12_tellCode_211 (by decide) (fun _ => ?_) (fun h => absurd h c1000019)
  refine lv_aload_n hx hb dX12_tellCode_277 rfl (lv_at hl 2 rfl) ?_
  refine lv_iload_n hx hb dX12_tellCode_278 rfl (lv_at hl 1 rfl) ?_
  obtain ⟨dt1000026, hc1000025, hm⟩ := q_b1i hm
  refine q_callV C hW hS (As := [.int v1000002]) (rest := []) (st1 := []) (c_X12_tellBoth l D al dt1000005 x0 v1000002 kx0 dt1000026 hc1000025) yl_X12_tellBoth vl_X12_tellBoth ml_RX12_309 (ci := 12) rfl kx0 (by decide) rfl ⟨Nat.le_of_ble_eq_true rfl, Nat.le_of_ble_eq_true rfl⟩ hl rfl (Nat.le_of_ble_eq_true rfl) dX12_tellCode_279 ⟨Nat.le_refl _, Nat.le_refl _⟩ rfl (fun H locs k1000027 hW hS => ?_)
  exact hB282 x0 v1000004 kx0 dt1000026 _ _ _ hm hW hS (lv_sub hl [2, 0] rfl)
theorem dX12_isPrime_0 : decode cX12_isPrime 0 = .ok (.iconst 2, 1) := by decide +kernel
theorem dX12_isPrime_1 : decode cX12_isPrime 1 = .ok (.istore_n 1, 1) := by decide +kernel
theorem dX12_isPrime_2 : decode cX12_isPrime 2 = .ok (.iload_n 1, 1) := by decide +kernel
theorem dX12_isPrime_3 : decode cX12_isPrime 3 = .ok (.iload_n 0, 1) := by decide +kernel
theorem dX12_isPrime_4 : decode cX12_isPrime 4 = .ok (.if_icmp .ge 17, 3) := by decide +kernel
theorem dX12_isPrime_7 : decode cX12_isPrime 7 = .ok (.iload_n 0, 1) := by decide +kernel
theorem dX12_isPrime_8 : decode cX12_isPrime 8 = .ok (.iload_n 1, 1) := by decide +kernel
theorem dX12_isPrime_9 : decode cX12_isPrime 9 = .ok (.irem, 1) := by decide +kernel
theorem dX12_isPrime_10 : decode cX12_isPrime 10 = .ok (.ifCond .ne 5, 3) := by decide +kernel
theorem dX12_isPrime_13 : decode cX12_isPrime 13 = .ok (.iconst 0, 1) := by decide +kernel
theorem dX12_isPrime_14 : decode cX12_isPrime 14 = .ok (.ireturn, 1) := by decide +kernel
theorem dX12_isPrime_15 : decode cX12_isPrime 15 = .ok (.iinc 1 1, 3) := by decide +kernel
theorem dX12_isPrime_18 : decode cX12_isPrime 18 = .ok (.goto (-16), 3) := by decide +kernel
theorem dX12_isPrime_21 : decode cX12_isPrime 21 = .ok (.iload_n 0, 1) := by decide +kernel
theorem dX12_isPrime_22 : decode cX12_isPrime 22 = .ok (.iconst 2, 1) := by decide +kernel
theorem dX12_isPrime_23 : decode cX12_isPrime 23 = .ok (.if_icmp .lt 7, 3) := by decide +kernel
theorem dX12_isPrime_26 : decode cX12_isPrime 26 = .ok (.iconst 1, 1) := by decide +kernel
theorem dX12_isPrime_27 : decode cX12_isPrime 27 = .ok (.goto 4, 3) := by decide +kernel
theorem dX12_isPrime_30 : decode cX12_isPrime 30 = .ok (.iconst 0, 1) := by decide +kernel
theorem dX12_isPrime_31 : decode cX12_isPrime 31 = .ok (.ireturn, 1) := by decide +kernel
set_option maxRecDepth 100000 in
theorem c_X12_isPrime (l : Launch) (D : q_D) (al : q_Al) (dt : q_Dt) (x0 : Int32) (r0 : Int32) (hm : X12_isPrime x0 = some r0) : q_Mt l yX12_isPrime cX12_isPrime 2 (some FieldType.boolean) 0 0 D al [.int x0] dt 0 (some (.int r0)) dt := by
  refine q_Mt.of (by decide) (Nat.le_of_ble_eq_true rfl) ?_
  intro p e s m args below meth c ls C hargs hW hl
  have hx := C.1
  have hb := C.2.1
  have hown := C.2.2.2.2.2.1
  have hts := C.2.2.2.2.2.2.1
  have hS : va_S (q_A al) s.heap s.heap [] := va_S.rf
  have hl : lv_has ls 2 [(0, .int x0)] := hl
  unfold X12_isPrime at hm
  have hB2 : ∀ (x0_2 : Int32) (n_2 : Nat) (x1_2 : Int32) (H : Heap) (locs : List Loc) (ls : Array Slot) (hm : X12_isPrime_b2 x0_2 n_2 x1_2 = some r0) (hW : q_W D al dt H) (hS : va_S (q_A al) s.heap H locs) (hl : lv_has ls 2 [(0, .int x0_2), (1, .int x1_2)]), W p l e { frames := 0, cells := 0, slots := 0, locals := 0 } s m args below meth c H locs 0 0 (MQ below (q_Q (some (.int r0)) (fun H => q_W D al dt H ∧ q_Rk al 0 (some (.int r0))) (q_A al)) args s 0 0 (q_A al)) (F0 m 2 ls []) := by
    intro x0_2
    intro n_2
    induction n_2 with
    | zero => intro x1_2 H locs ls hm hW hS hl; cases hm
    | succ n_2 ih2 =>
      intro x1_2 H locs ls hm hW hS hl
      rw [X12_isPrime_b2] at hm
      refine lv_iload_n hx hb dX12_isPrime_2 rfl (lv_at hl 1 rfl) ?_
      refine lv_iload_n hx hb dX12_isPrime_3 rfl (lv_at hl 0 rfl) ?_
      refine q_ifc hm (fun c2001 hm => ?_) (fun c2001 hm => ?_)
      · refine lv_icmp_ge (tgt := 21) hx hb dX12_isPrime_4 (by decide) (fun _ => ?_) (fun h => absurd c2001 h)
        refine lv_iload_n hx hb dX12_isPrime_21 rfl (lv_at hl 0 rfl) ?_
        refine lv_iconst (v := 2) hx hb dX12_isPrime_22 (by decide) ?_
        refine q_ifc hm (fun c2002 hm => ?_) (fun c2002 hm => ?_)
        · refine lv_icmp_lt (tgt := 30) hx hb dX12_isPrime_23 (by decide) (fun _ => ?_) (fun h => absurd c2002 h)
          refine lv_iconst (v := 0) hx hb dX12_isPrime_30 (by decide) ?_
          exact e_zl C hW hS (Or.inl rfl) hm dX12_isPrime_31
        refine lv_icmp_lt (tgt := 30) hx hb dX12_isPrime_23 (by decide) (fun h => absurd h c2002) (fun _ => ?_)
        refine lv_iconst (v := 1) hx hb dX12_isPrime_26 (by decide) ?_
        refine lv_goto (tgt := 31) hx hb dX12_isPrime_27 (by decide) ?_
        exact e_zl C hW hS (Or.inr rfl) hm dX12_isPrime_31
      refine lv_icmp_ge (tgt := 21) hx hb dX12_isPrime_4 (by decide) (fun h => absurd h c2001) (fun _ => ?_)
      refine lv_iload_n hx hb dX12_isPrime_7 rfl (lv_at hl 0 rfl) ?_
      refine lv_iload_n hx hb dX12_isPrime_8 rfl (lv_at hl 1 rfl) ?_
      obtain ⟨c2003, hm⟩ := q_ini hm
      refine lv_irem hx hb dX12_isPrime_9 c2003 ?_
      refine q_ifc hm (fun c2004 hm => ?_) (fun c2004 hm => ?_)
      · refine lv_if_ne (tgt := 15) hx hb dX12_isPrime_10 (by decide) (fun h => absurd c2004 h) (fun _ => ?_)
        refine lv_iconst (v := 0) hx hb dX12_isPrime_13 (by decide) ?_
        exact e_zl C hW hS (Or.inl rfl) hm dX12_isPrime_14
      refine lv_if_ne (tgt := 15) hx hb dX12_isPrime_10 (by decide) (fun _ => ?_) (fun h => absurd h c2004)
      refine lv_iinc (v := (x1_2 + 1)) (lv' := [(1, .int (x1_2 + 1)), (0, .int x0_2)]) hx hb dX12_isPrime_15 hl (k := 1) rfl rfl (by decide) rfl (fun ls hl => ?_)
      refine lv_goto (tgt := 2) hx hb dX12_isPrime_18 (by decide) ?_
      exact ih2 (x1_2 + 1) _ _ _ hm hW hS (lv_sub hl [1, 0] rfl)
  refine lv_iconst (v := 2) hx hb dX12_isPrime_0 (by decide) ?_
  refine lv_istore_n (i := 1) (lv' := [(1, .int 2), (0, .int x0)]) hx hb dX12_isPrime_1 rfl hl (by decide) rfl (fun ls hl => ?_)
  exact hB2 x0 q_FU 2 _ _ _ hm hW hS (lv_sub hl [1, 0] rfl)
theorem dX12_tellHop_0 : decode cX12_tellHop 0 = .ok (.bipush 6, 2) := by decide +kernel
theorem dX12_tellHop_2 : decode cX12_tellHop 2 = .ok (.aload_n 0, 1) := by decide +kernel
theorem dX12_tellHop_3 : decode cX12_tellHop 3 = .ok (.getfield 245, 3) := by decide +kernel
theorem dX12_tellHop_6 : decode cX12_tellHop 6 = .ok (.imul, 1) := by decide +kernel
theorem dX12_tellHop_7 : decode cX12_tellHop 7 = .ok (.aload_n 0, 1) := by decide +kernel
theorem dX12_tellHop_8 : decode cX12_tellHop 8 = .ok (.getfield 58, 3) := by decide +kernel
theorem dX12_tellHop_11 : decode cX12_tellHop 11 = .ok (.aload_n 0, 1) := by decide +kernel
theorem dX12_tellHop_12 : decode cX12_tellHop 12 = .ok (.getfield 245, 3) := by decide +kernel
theorem dX12_tellHop_15 : decode cX12_tellHop 15 = .ok (.iaload, 1) := by decide +kernel
theorem dX12_tellHop_16 : decode cX12_tellHop 16 = .ok (.iadd, 1) := by decide +kernel
theorem dX12_tellHop_17 : decode cX12_tellHop 17 = .ok (.istore_n 1, 1) := by decide +kernel
theorem dX12_tellHop_18 : decode cX12_tellHop 18 = .ok (.aload_n 0, 1) := by decide +kernel
theorem dX12_tellHop_19 : decode cX12_tellHop 19 = .ok (.invokevirtual 290, 3) := by decide +kernel
theorem dX12_tellHop_22 : decode cX12_tellHop 22 = .ok (.istore_n 2, 1) := by decide +kernel
theorem dX12_tellHop_23 : decode cX12_tellHop 23 = .ok (.aload_n 0, 1) := by decide +kernel
theorem dX12_tellHop_24 : decode cX12_tellHop 24 = .ok (.getfield 215, 3) := by decide +kernel
theorem dX12_tellHop_27 : decode cX12_tellHop 27 = .ok (.istore_n 3, 1) := by decide +kernel
theorem dX12_tellHop_28 : decode cX12_tellHop 28 = .ok (.aload_n 0, 1) := by decide +kernel
theorem dX12_tellHop_29 : decode cX12_tellHop 29 = .ok (.iconst 2, 1) := by decide +kernel
theorem dX12_tellHop_30 : decode cX12_tellHop 30 = .ok (.bipush 31, 2) := by decide +kernel
theorem dX12_tellHop_32 : decode cX12_tellHop 32 = .ok (.invokevirtual 276, 3) := by decide +kernel
theorem dX12_tellHop_35 : decode cX12_tellHop 35 = .ok (.istore 4, 2) := by decide +kernel
theorem dX12_tellHop_37 : decode cX12_tellHop 37 = .ok (.aload_n 0, 1) := by decide +kernel
theorem dX12_tellHop_38 : decode cX12_tellHop 38 = .ok (.getfield 212, 3) := by decide +kernel
theorem dX12_tellHop_41 : decode cX12_tellHop 41 = .ok (.ifCond .ne 29, 3) := by decide +kernel
theorem dX12_tellHop_44 : decode cX12_tellHop 44 = .ok (.aload_n 0, 1) := by decide +kernel
theorem dX12_tellHop_45 : decode cX12_tellHop 45 = .ok (.getfield 286, 3) := by decide +kernel
theorem dX12_tellHop_48 : decode cX12_tellHop 48 = .ok (.ifCond .eq 22, 3) := by decide +kernel
theorem dX12_tellHop_51 : decode cX12_tellHop 51 = .ok (.iload 4, 2) := by decide +kernel
theorem dX12_tellHop_53 : decode cX12_tellHop 53 = .ok (.invokestatic 321, 3) := by decide +kernel
theorem dX12_tellHop_56 : decode cX12_tellHop 56 = .ok (.ifCond .ne 14, 3) := by decide +kernel
theorem dX12_tellHop_59 : decode cX12_tellHop 59 = .ok (.aload_n 0, 1) := by decide +kernel
theorem dX12_tellHop_60 : decode cX12_tellHop 60 = .ok (.iconst 5, 1) := by decide +kernel
theorem dX12_tellHop_61 : decode cX12_tellHop 61 = .ok (.iload_n 3, 1) := by decide +kernel
theorem dX12_tellHop_62 : decode cX12_tellHop 62 = .ok (.invokevirtual 283, 3) := by decide +kernel
theorem dX12_tellHop_65 : decode cX12_tellHop 65 = .ok (.aload_n 0, 1) := by decide +kernel
theorem dX12_tellHop_66 : decode cX12_tellHop 66 = .ok (.iconst 0, 1) := by decide +kernel
theorem dX12_tellHop_67 : decode cX12_tellHop 67 = .ok (.putfield 286, 3) := by decide +kernel
theorem dX12_tellHop_70 : decode cX12_tellHop 70 = .ok (.aload_n 0, 1) := by decide +kernel
theorem dX12_tellHop_71 : decode cX12_tellHop 71 = .ok (.getfield 286, 3) := by decide +kernel
theorem dX12_tellHop_74 : decode cX12_tellHop 74 = .ok (.istore 5, 2) := by decide +kernel
theorem dX12_tellHop_76 : decode cX12_tellHop 76 = .ok (.aload_n 0, 1) := by decide +kernel
theorem dX12_tellHop_77 : decode cX12_tellHop 77 = .ok (.getfield 61, 3) := by decide +kernel
theorem dX12_tellHop_80 : decode cX12_tellHop 80 = .ok (.iload_n 1, 1) := by decide +kernel
theorem dX12_tellHop_81 : decode cX12_tellHop 81 = .ok (.iload 4, 2) := by decide +kernel
theorem dX12_tellHop_83 : decode cX12_tellHop 83 = .ok (.iastore, 1) := by decide +kernel
theorem dX12_tellHop_84 : decode cX12_tellHop 84 = .ok (.aload_n 0, 1) := by decide +kernel
theorem dX12_tellHop_85 : decode cX12_tellHop 85 = .ok (.getfield 64, 3) := by decide +kernel
theorem dX12_tellHop_88 : decode cX12_tellHop 88 = .ok (.iload_n 1, 1) := by decide +kernel
theorem dX12_tellHop_89 : decode cX12_tellHop 89 = .ok (.aload_n 0, 1) := by decide +kernel
theorem dX12_tellHop_90 : decode cX12_tellHop 90 = .ok (.iload 5, 2) := by decide +kernel
theorem dX12_tellHop_92 : decode cX12_tellHop 92 = .ok (.iconst 0, 1) := by decide +kernel
theorem dX12_tellHop_93 : decode cX12_tellHop 93 = .ok (.iload 5, 2) := by decide +kernel
theorem dX12_tellHop_95 : decode cX12_tellHop 95 = .ok (.ifCond .eq 10, 3) := by decide +kernel
theorem dX12_tellHop_98 : decode cX12_tellHop 98 = .ok (.iload 4, 2) := by decide +kernel
theorem dX12_tellHop_100 : decode cX12_tellHop 100 = .ok (.iconst 1, 1) := by decide +kernel
theorem dX12_tellHop_101 : decode cX12_tellHop 101 = .ok (.isub, 1) := by decide +kernel
theorem dX12_tellHop_102 : decode cX12_tellHop 102 = .ok (.goto 4, 3) := by decide +kernel
theorem dX12_tellHop_105 : decode cX12_tellHop 105 = .ok (.iconst 0, 1) := by decide +kernel
theorem dX12_tellHop_106 : decode cX12_tellHop 106 = .ok (.invokevirtual 294, 3) := by decide +kernel
theorem dX12_tellHop_109 : decode cX12_tellHop 109 = .ok (.iastore, 1) := by decide +kernel
theorem dX12_tellHop_110 : decode cX12_tellHop 110 = .ok (.aload_n 0, 1) := by decide +kernel
theorem dX12_tellHop_111 : decode cX12_tellHop 111 = .ok (.getfield 67, 3) := by decide +kernel
theorem dX12_tellHop_114 : decode cX12_tellHop 114 = .ok (.iload_n 1, 1) := by decide +kernel
theorem dX12_tellHop_115 : decode cX12_tellHop 115 = .ok (.aload_n 0, 1) := by decide +kernel
theorem dX12_tellHop_116 : decode cX12_tellHop 116 = .ok (.iload 5, 2) := by decide +kernel
theorem dX12_tellHop_118 : decode cX12_tellHop 118 = .ok (.iconst 0, 1) := by decide +kernel
theorem dX12_tellHop_119 : decode cX12_tellHop 119 = .ok (.iload 5, 2) := by decide +kernel
theorem dX12_tellHop_121 : decode cX12_tellHop 121 = .ok (.ifCond .eq 10, 3) := by decide +kernel
theorem dX12_tellHop_124 : decode cX12_tellHop 124 = .ok (.iload 4, 2) := by decide +kernel
theorem dX12_tellHop_126 : decode cX12_tellHop 126 = .ok (.iconst 1, 1) := by decide +kernel
theorem dX12_tellHop_127 : decode cX12_tellHop 127 = .ok (.isub, 1) := by decide +kernel
theorem dX12_tellHop_128 : decode cX12_tellHop 128 = .ok (.goto 4, 3) := by decide +kernel
theorem dX12_tellHop_131 : decode cX12_tellHop 131 = .ok (.iconst 0, 1) := by decide +kernel
theorem dX12_tellHop_132 : decode cX12_tellHop 132 = .ok (.invokevirtual 294, 3) := by decide +kernel
theorem dX12_tellHop_135 : decode cX12_tellHop 135 = .ok (.iastore, 1) := by decide +kernel
theorem dX12_tellHop_136 : decode cX12_tellHop 136 = .ok (.aload_n 0, 1) := by decide +kernel
theorem dX12_tellHop_137 : decode cX12_tellHop 137 = .ok (.iconst 4, 1) := by decide +kernel
theorem dX12_tellHop_138 : decode cX12_tellHop 138 = .ok (.invokevirtual 280, 3) := by decide +kernel
theorem dX12_tellHop_141 : decode cX12_tellHop 141 = .ok (.aload_n 0, 1) := by decide +kernel
theorem dX12_tellHop_142 : decode cX12_tellHop 142 = .ok (.getfield 212, 3) := by decide +kernel
theorem dX12_tellHop_145 : decode cX12_tellHop 145 = .ok (.ifCond .le 4, 3) := by decide +kernel
theorem dX12_tellHop_148 : decode cX12_tellHop 148 = .ok (.return_, 1) := by decide +kernel
theorem dX12_tellHop_149 : decode cX12_tellHop 149 = .ok (.aload_n 0, 1) := by decide +kernel
theorem dX12_tellHop_150 : decode cX12_tellHop 150 = .ok (.iload_n 2, 1) := by decide +kernel
theorem dX12_tellHop_151 : decode cX12_tellHop 151 = .ok (.iconst 1, 1) := by decide +kernel
theorem dX12_tellHop_152 : decode cX12_tellHop 152 = .ok (.aload_n 0, 1) := by decide +kernel
theorem dX12_tellHop_153 : decode cX12_tellHop 153 = .ok (.getfield 58, 3) := by decide +kernel
theorem dX12_tellHop_156 : decode cX12_tellHop 156 = .ok (.aload_n 0, 1) := by decide +kernel
theorem dX12_tellHop_157 : decode cX12_tellHop 157 = .ok (.getfield 245, 3) := by decide +kernel
theorem dX12_tellHop_160 : decode cX12_tellHop 160 = .ok (.iaload, 1) := by decide +kernel
theorem dX12_tellHop_161 : decode cX12_tellHop 161 = .ok (.invokevirtual 312, 3) := by decide +kernel
theorem dX12_tellHop_164 : decode cX12_tellHop 164 = .ok (.aload_n 0, 1) := by decide +kernel
theorem dX12_tellHop_165 : decode cX12_tellHop 165 = .ok (.getfield 58, 3) := by decide +kernel
theorem dX12_tellHop_168 : decode cX12_tellHop 168 = .ok (.aload_n 0, 1) := by decide +kernel
theorem dX12_tellHop_169 : decode cX12_tellHop 169 = .ok (.getfield 245, 3) := by decide +kernel
theorem dX12_tellHop_172 : decode cX12_tellHop 172 = .ok (.dup2, 1) := by decide +kernel
theorem dX12_tellHop_173 : decode cX12_tellHop 173 = .ok (.iaload, 1) := by decide +kernel
theorem dX12_tellHop_174 : decode cX12_tellHop 174 = .ok (.iconst 1, 1) := by decide +kernel
theorem dX12_tellHop_175 : decode cX12_tellHop 175 = .ok (.iadd, 1) := by decide +kernel
theorem dX12_tellHop_176 : decode cX12_tellHop 176 = .ok (.iastore, 1) := by decide +kernel
theorem dX12_tellHop_177 : decode cX12_tellHop 177 = .ok (.return_, 1) := by decide +kernel
set_option maxRecDepth 100000 in
theorem c_X12_tellHop (l : Launch) (D : q_D) (al : q_Al) (dt : q_Dt) (x0 : Nat) (kx0 : al.1 x0 = 13) (dt0 : q_Dt) (hm : X12_tellHop al dt x0 = some dt0) : q_Mt l yX12_tellHop cX12_tellHop 6 (none) 4 87 D al [.ref x0] dt 0 none dt0 := by
  refine q_Mt.of (by decide) (Nat.le_of_ble_eq_true rfl) ?_
  intro p e s m args below meth c ls C hargs hW hl
  have hx := C.1
  have hb := C.2.1
  have hown := C.2.2.2.2.2.1
  have hts := C.2.2.2.2.2.2.1
  have hS : va_S (q_A al) s.heap s.heap [] := va_S.rf
  have hl : lv_has ls 6 [(0, .ref x0)] := hl
  unfold X12_tellHop at hm
  have hB132 : ∀ (x0_132 : Nat) (x2_132 : Int32) (t0_132 : Nat) (t1_132 : Int32) (t2_132 : Nat) (t3_132 : Int32) (t4_132 : Int32) (t5_132 : Int32) (kx0_132 : al.1 x0_132 = 13) (kt0_132 : al.1 t0_132 = 21) (kt2_132 : al.1 t2_132 = 13) (dt : q_Dt) (H : Heap) (locs : List Loc) (ls : Array Slot) (hm : X12_tellHop_b132 al x0_132 x2_132 t0_132 t1_132 t2_132 t3_132 t4_132 t5_132 dt = some dt0) (hW : q_W D al dt H) (hS : va_S (q_A al) s.heap H locs) (hl : lv_has ls 6 [(0, .ref x0_132), (2, .int x2_132)]), W p l e { frames := 4, cells := 0, slots := 0, locals := 87 } s m args below meth c H locs 0 0 (MQ below (q_Q none (fun H => q_W D al dt0 H ∧ q_Rk al 0 none) (q_A al)) args s 0 0 (q_A al)) (F0 m 132 ls [.int t5_132, .int t4_132, .int t3_132, .ref t2_132, .int t1_132, .ref t0_132]) := by
    intro x0_132 x2_132 t0_132 t1_132 t2_132 t3_132 t4_132 t5_132 kx0_132 kt0_132 kt2_132 dt H locs ls hm hW hS hl
    unfold X12_tellHop_b132 at hm
    obtain ⟨v132002, dt132003, hc132001, hm⟩ := q_b2i hm
    refine q_callV C hW hS (As := [.int t3_132, .int t4_132, .int t5_132]) (rest := [.int t1_132, .ref t0_132]) (st1 := [.int v132002, .int t1_132, .ref t0_132]) (c_X12_hangs l D al dt t2_132 t3_132 t4_132 t5_132 kt2_132 v132002 dt132003 hc132001) yl_X12_hangs vl_X12_hangs ml_RX12_294 (ci := 12) rfl kt2_132 (by decide) rfl ⟨Nat.le_of_ble_eq_true rfl, Nat.le_of_ble_eq_true rfl⟩ hl rfl (Nat.le_of_ble_eq_true rfl) dX12_tellHop_132 ⟨Nat.le_refl _, Nat.le_refl _⟩ rfl (fun H locs k132004 hW hS => ?_)
    refine r_iast C hW hS hm kt0_132 dX12_tellHop_135 (fun dt132005 H locs hm hW hS => ?_)
    refine lv_aload_n hx hb dX12_tellHop_136 rfl (lv_at hl 0 rfl) ?_
    refine lv_iconst (v := 4) hx hb dX12_tellHop_137 (by decide) ?_
    obtain ⟨dt132007, hc132006, hm⟩ := q_b1i hm
    refine q_callV C hW hS (As := [.int 4]) (rest := []) (st1 := []) (c_X12_must l D al dt132005 x0_132 4 kx0_132 dt132007 hc132006) yl_X12_must vl_X12_must ml_RX12_280 (ci := 12) rfl kx0_132 (by decide) rfl ⟨Nat.le_of_ble_eq_true rfl, Nat.le_of_ble_eq_true rfl⟩ hl rfl (Nat.le_of_ble_eq_true rfl) dX12_tellHop_138 ⟨Nat.le_refl _, Nat.le_refl _⟩ rfl (fun H locs k132008 hW hS => ?_)
    refine lv_aload_n hx hb dX12_tellHop_141 rfl (lv_at hl 0 rfl) ?_
    refine r_getI C hW (ci := 12) kx0_132 ff_12_13 cl_12 fl_RX12_212 dX12_tellHop_142 ?_
    refine q_ifc hm (fun c132009 hm => ?_) (fun c132009 hm => ?_)
    · refine lv_if_le (tgt := 149) hx hb dX12_tellHop_145 (by decide) (fun _ => ?_) (fun h => absurd c132009 h)
      refine lv_aload_n hx hb dX12_tellHop_149 rfl (lv_at hl 0 rfl) ?_
      refine lv_iload_n hx hb dX12_tellHop_150 rfl (lv_at hl 1 rfl) ?_
      refine lv_iconst (v := 1) hx hb dX12_tellHop_151 (by decide) ?_
      refine lv_aload_n hx hb dX12_tellHop_152 rfl (lv_at hl 0 rfl) ?_
      refine r_getF C hW (ci := 12) kx0_132 ff_12_27 cl_12 fl_RX12_58 dX12_tellHop_153 (fun k132010 => ?_)
      refine lv_aload_n hx hb dX12_tellHop_156 rfl (lv_at hl 0 rfl) ?_
      refine r_getI C hW (ci := 12) kx0_132 ff_12_19 cl_12 fl_RX12_245 dX12_tellHop_157 ?_
      refine r_iald C hW hm k132010 dX12_tellHop_160 (fun hm => ?_)
      obtain ⟨dt132012, hc132011, hm⟩ := q_b1i hm
      refine q_callV C hW hS (As := [.int x2_132, .int 1, .int (dt132007.1 (al.2.2 x0_132 27) (Int32.toNatClampNeg (dt132007.1 x0_132 19)))]) (rest := []) (st1 := []) (c_X12_notes l D al dt132007 x0_132 x2_132 1 (dt132007.1 (al.2.2 x0_132 27) (Int32.toNatClampNeg (dt132007.1 x0_132 19))) kx0_132 dt132012 hc132011) yl_X12_notes vl_X12_notes ml_RX12_312 (ci := 12) rfl kx0_132 (by decide) rfl ⟨Nat.le_of_ble_eq_true rfl, Nat.le_of_ble_eq_true rfl⟩ hl rfl (Nat.le_of_ble_eq_true rfl) dX12_tellHop_161 ⟨Nat.le_refl _, Nat.le_refl _⟩ rfl (fun H locs k132013 hW hS => ?_)
      refine lv_aload_n hx hb dX12_tellHop_164 rfl (lv_at hl 0 rfl) ?_
      refine r_getF C hW (ci := 12) kx0_132 ff_12_27 cl_12 fl_RX12_58 dX12_tellHop_165 (fun k132014 => ?_)
      refine lv_aload_n hx hb dX12_tellHop_168 rfl (lv_at hl 0 rfl) ?_
      refine r_getI C hW (ci := 12) kx0_132 ff_12_19 cl_12 fl_RX12_245 dX12_tellHop_169 ?_
      refine lv_dup2_11 hx hb dX12_tellHop_172 rfl rfl ?_
      refine r_iald C hW hm k132014 dX12_tellHop_173 (fun hm => ?_)
      refine lv_iconst (v := 1) hx hb dX12_tellHop_174 (by decide) ?_
      refine lv_iadd hx hb dX12_tellHop_175 ?_
      refine r_iast C hW hS hm k132014 dX12_tellHop_176 (fun dt132015 H locs hm hW hS => ?_)
      exact e_vD C hW hS hm dX12_tellHop_177
    refine lv_if_le (tgt := 149) hx hb dX12_tellHop_145 (by decide) (fun h => absurd h c132009) (fun _ => ?_)
    exact e_vD C hW hS hm dX12_tellHop_148
  have hB106 : ∀ (x0_106 : Nat) (x1_106 : Int32) (x2_106 : Int32) (x4_106 : Int32) (x5_106 : Int32) (t0_106 : Nat) (t1_106 : Int32) (t2_106 : Nat) (t3_106 : Int32) (t4_106 : Int32) (t5_106 : Int32) (kx0_106 : al.1 x0_106 = 13) (kt0_106 : al.1 t0_106 = 21) (kt2_106 : al.1 t2_106 = 13) (dt : q_Dt) (H : Heap) (locs : List Loc) (ls : Array Slot) (hm : X12_tellHop_b106 al x0_106 x1_106 x2_106 x4_106 x5_106 t0_106 t1_106 t2_106 t3_106 t4_106 t5_106 dt = some dt0) (hW : q_W D al dt H) (hS : va_S (q_A al) s.heap H locs) (hl : lv_has ls 6 [(0, .ref x0_106), (1, .int x1_106), (2, .int x2_106), (4, .int x4_106), (5, .int x5_106)]), W p l e { frames := 4, cells := 0, slots := 0, locals := 87 } s m args below meth c H locs 0 0 (MQ below (q_Q none (fun H => q_W D al dt0 H ∧ q_Rk al 0 none) (q_A al)) args s 0 0 (q_A al)) (F0 m 106 ls [.int t5_106, .int t4_106, .int t3_106, .ref t2_106, .int t1_106, .ref t0_106]) := by
    intro x0_106 x1_106 x2_106 x4_106 x5_106 t0_106 t1_106 t2_106 t3_106 t4_106 t5_106 kx0_106 kt0_106 kt2_106 dt H locs ls hm hW hS hl
    unfold X12_tellHop_b106 at hm
    obtain ⟨v106002, dt106003, hc106001, hm⟩ := q_b2i hm
    refine q_callV C hW hS (As := [.int t3_106, .int t4_106, .int t5_106]) (rest := [.int t1_106, .ref t0_106]) (st1 := [.int v106002, .int t1_106, .ref t0_106]) (c_X12_hangs l D al dt t2_106 t3_106 t4_106 t5_106 kt2_106 v106002 dt106003 hc106001) yl_X12_hangs vl_X12_hangs ml_RX12_294 (ci := 12) rfl kt2_106 (by decide) rfl ⟨Nat.le_of_ble_eq_true rfl, Nat.le_of_ble_eq_true rfl⟩ hl rfl (Nat.le_of_ble_eq_true rfl) dX12_tellHop_106 ⟨Nat.le_refl _, Nat.le_refl _⟩ rfl (fun H locs k106004 hW hS => ?_)
    refine r_iast C hW hS hm kt0_106 dX12_tellHop_109 (fun dt106005 H locs hm hW hS => ?_)
    refine lv_aload_n hx hb dX12_tellHop_110 rfl (lv_at hl 0 rfl) ?_
    refine r_getF C hW (ci := 12) kx0_106 ff_12_30 cl_12 fl_RX12_67 dX12_tellHop_111 (fun k106006 => ?_)
    refine lv_iload_n hx hb dX12_tellHop_114 rfl (lv_at hl 1 rfl) ?_
    refine lv_aload_n hx hb dX12_tellHop_115 rfl (lv_at hl 0 rfl) ?_
    refine lv_iload hx hb dX12_tellHop_116 (lv_at hl 4 rfl) ?_
    refine lv_iconst (v := 0) hx hb dX12_tellHop_118 (by decide) ?_
    refine lv_iload hx hb dX12_tellHop_119 (lv_at hl 4 rfl) ?_
    refine q_ifc hm (fun c106007 hm => ?_) (fun c106007 hm => ?_)
    · refine lv_if_eq (tgt := 131) hx hb dX12_tellHop_121 (by decide) (fun _ => ?_) (fun h => absurd c106007 h)
      refine lv_iconst (v := 0) hx hb dX12_tellHop_131 (by decide) ?_
      exact hB132 x0_106 x2_106 (al.2.2 x0_106 30) x1_106 x0_106 x5_106 0 0 kx0_106 k106006 kx0_106 dt106005 _ _ _ hm hW hS (lv_sub hl [0, 2] rfl)
    refine lv_if_eq (tgt := 131) hx hb dX12_tellHop_121 (by decide) (fun h => absurd h c106007) (fun _ => ?_)
    refine lv_iload hx hb dX12_tellHop_124 (lv_at hl 3 rfl) ?_
    refine lv_iconst (v := 1) hx hb dX12_tellHop_126 (by decide) ?_
    refine lv_isub hx hb dX12_tellHop_127 ?_
    refine lv_goto (tgt := 132) hx hb dX12_tellHop_128 (by decide) ?_
    exact hB132 x0_106 x2_106 (al.2.2 x0_106 30) x1_106 x0_106 x5_106 0 (x4_106 - 1) kx0_106 k106006 kx0_106 dt106005 _ _ _ hm hW hS (lv_sub hl [0, 2] rfl)
  have hB70 : ∀ (x0_70 : Nat) (x1_70 : Int32) (x2_70 : Int32) (x4_70 : Int32) (kx0_70 : al.1 x0_70 = 13) (dt : q_Dt) (H : Heap) (locs : List Loc) (ls : Array Slot) (hm : X12_tellHop_b70 al x0_70 x1_70 x2_70 x4_70 dt = some dt0) (hW : q_W D al dt H) (hS : va_S (q_A al) s.heap H locs) (hl : lv_has ls 6 [(0, .ref x0_70), (1, .int x1_70), (2, .int x2_70), (4, .int x4_70)]), W p l e { frames := 4, cells := 0, slots := 0, locals := 87 } s m args below meth c H locs 0 0 (MQ below (q_Q none (fun H => q_W D al dt0 H ∧ q_Rk al 0 none) (q_A al)) args s 0 0 (q_A al)) (F0 m 70 ls []) := by
    intro x0_70 x1_70 x2_70 x4_70 kx0_70 dt H locs ls hm hW hS hl
    unfold X12_tellHop_b70 at hm
    refine lv_aload_n hx hb dX12_tellHop_70 rfl (lv_at hl 0 rfl) ?_
    refine r_getI C hW (ci := 12) kx0_70 ff_12_50 cl_12 fl_RX12_286 dX12_tellHop_71 ?_
    refine lv_istore (i := 5) (lv' := [(5, .int (dt.1 x0_70 50)), (0, .ref x0_70), (1, .int x1_70), (2, .int x2_70), (4, .int x4_70)]) hx hb dX12_tellHop_74 hl (by decide) rfl (fun ls hl => ?_)
    refine lv_aload_n hx hb dX12_tellHop_76 rfl (lv_at hl 1 rfl) ?_
    refine r_getF C hW (ci := 12) kx0_70 ff_12_28 cl_12 fl_RX12_61 dX12_tellHop_77 (fun k70001 => ?_)
    refine lv_iload_n hx hb dX12_tellHop_80 rfl (lv_at hl 2 rfl) ?_
    refine lv_iload hx hb dX12_tellHop_81 (lv_at hl 4 rfl) ?_
    refine r_iast C hW hS hm k70001 dX12_tellHop_83 (fun dt70002 H locs hm hW hS => ?_)
    refine lv_aload_n hx hb dX12_tellHop_84 rfl (lv_at hl 1 rfl) ?_
    refine r_getF C hW (ci := 12) kx0_70 ff_12_29 cl_12 fl_RX12_64 dX12_tellHop_85 (fun k70003 => ?_)
    refine lv_iload_n hx hb dX12_tellHop_88 rfl (lv_at hl 2 rfl) ?_
    refine lv_aload_n hx hb dX12_tellHop_89 rfl (lv_at hl 1 rfl) ?_
    refine lv_iload hx hb dX12_tellHop_90 (lv_at hl 0 rfl) ?_
    refine lv_iconst (v := 0) hx hb dX12_tellHop_92 (by decide) ?_
    refine lv_iload hx hb dX12_tellHop_93 (lv_at hl 0 rfl) ?_
    refine q_ifc hm (fun c70004 hm => ?_) (fun c70004 hm => ?_)
    · refine lv_if_eq (tgt := 105) hx hb dX12_tellHop_95 (by decide) (fun _ => ?_) (fun h => absurd c70004 h)
      refine lv_iconst (v := 0) hx hb dX12_tellHop_105 (by decide) ?_
      exact hB106 x0_70 x1_70 x2_70 x4_70 (dt.1 x0_70 50) (al.2.2 x0_70 29) x1_70 x0_70 (dt.1 x0_70 50) 0 0 kx0_70 k70003 kx0_70 dt70002 _ _ _ hm hW hS (lv_sub hl [1, 2, 3, 4, 0] rfl)
    refine lv_if_eq (tgt := 105) hx hb dX12_tellHop_95 (by decide) (fun h => absurd h c70004) (fun _ => ?_)
    refine lv_iload hx hb dX12_tellHop_98 (lv_at hl 4 rfl) ?_
    refine lv_iconst (v := 1) hx hb dX12_tellHop_100 (by decide) ?_
    refine lv_isub hx hb dX12_tellHop_101 ?_
    refine lv_goto (tgt := 106) hx hb dX12_tellHop_102 (by decide) ?_
    exact hB106 x0_70 x1_70 x2_70 x4_70 (dt.1 x0_70 50) (al.2.2 x0_70 29) x1_70 x0_70 (dt.1 x0_70 50) 0 (x4_70 - 1) kx0_70 k70003 kx0_70 dt70002 _ _ _ hm hW hS (lv_sub hl [1, 2, 3, 4, 0] rfl)
  refine lv_bipush (v := 6) hx hb dX12_tellHop_0 (by decide) ?_
  refine lv_aload_n hx hb dX12_tellHop_2 rfl (lv_at hl 0 rfl) ?_
  refine r_getI C hW (ci := 12) kx0 ff_12_19 cl_12 fl_RX12_245 dX12_tellHop_3 ?_
  refine lv_imul hx hb dX12_tellHop_6 ?_
  refine lv_aload_n hx hb dX12_tellHop_7 rfl (lv_at hl 0 rfl) ?_
  refine r_getF C hW (ci := 12) kx0 ff_12_27 cl_12 fl_RX12_58 dX12_tellHop_8 (fun k1000001 => ?_)
  refine lv_aload_n hx hb dX12_tellHop_11 rfl (lv_at hl 0 rfl) ?_
  refine r_getI C hW (ci := 12) kx0 ff_12_19 cl_12 fl_RX12_245 dX12_tellHop_12 ?_
  refine r_iald C hW hm k1000001 dX12_tellHop_15 (fun hm => ?_)
  refine lv_iadd hx hb dX12_tellHop_16 ?_
  refine q_nmI hm (fun v1000002 ev1000002 hm => ?_)
  refine lv_istore_n (i := 1) (lv' := [(1, .int v1000002), (0, .ref x0)]) hx hb dX12_tellHop_17 rfl hl (by decide) rfl (fun ls hl => ?_)
  refine lv_aload_n hx hb dX12_tellHop_18 rfl (lv_at hl 1 rfl) ?_
  obtain ⟨v1000004, dt1000005, hc1000003, hm⟩ := q_b2i hm
  refine q_callV C hW hS (As := []) (rest := []) (st1 := [.int v1000004]) (c_X12_named l D al dt x0 kx0 v1000004 dt1000005 hc1000003) yl_X12_named vl_X12_named ml_RX12_290 (ci := 12) rfl kx0 (by decide) rfl ⟨Nat.le_of_ble_eq_true rfl, Nat.le_of_ble_eq_true rfl⟩ hl rfl (Nat.le_of_ble_eq_true rfl) dX12_tellHop_19 ⟨Nat.le_refl _, Nat.le_refl _⟩ rfl (fun H locs k1000006 hW hS => ?_)
  refine lv_istore_n (i := 2) (lv' := [(2, .int v1000004), (1, .int v1000002), (0, .ref x0)]) hx hb dX12_tellHop_22 rfl hl (by decide) rfl (fun ls hl => ?_)
  refine lv_aload_n hx hb dX12_tellHop_23 rfl (lv_at hl 2 rfl) ?_
  refine r_getI C hW (ci := 12) kx0 ff_12_11 cl_12 fl_RX12_215 dX12_tellHop_24 ?_
  refine lv_istore_n (i := 3) (lv' := [(3, .int (dt1000005.1 x0 11)), (2, .int v1000004), (1, .int v1000002), (0, .ref x0)]) hx hb dX12_tellHop_27 rfl hl (by decide) rfl (fun ls hl => ?_)
  refine lv_aload_n hx hb dX12_tellHop_28 rfl (lv_at hl 3 rfl) ?_
  refine lv_iconst (v := 2) hx hb dX12_tellHop_29 (by decide) ?_
  refine lv_bipush (v := 31) hx hb dX12_tellHop_30 (by decide) ?_
  obtain ⟨v1000008, dt1000009, hc1000007, hm⟩ := q_b2i hm
  refine q_callV C hW hS (As := [.int 2, .int 31]) (rest := []) (st1 := [.int v1000008]) (c_X12_bounded l D al dt1000005 x0 2 31 kx0 v1000008 dt1000009 hc1000007) yl_X12_bounded vl_X12_bounded ml_RX12_276 (ci := 12) rfl kx0 (by decide) rfl ⟨Nat.le_of_ble_eq_true rfl, Nat.le_of_ble_eq_true rfl⟩ hl rfl (Nat.le_of_ble_eq_true rfl) dX12_tellHop_32 ⟨Nat.le_refl _, Nat.le_refl _⟩ rfl (fun H locs k1000010 hW hS => ?_)
  refine lv_istore (i := 4) (lv' := [(4, .int v1000008), (3, .int (dt1000005.1 x0 11)), (2, .int v1000004), (1, .int v1000002), (0, .ref x0)]) hx hb dX12_tellHop_35 hl (by decide) rfl (fun ls hl => ?_)
  refine lv_aload_n hx hb dX12_tellHop_37 rfl (lv_at hl 4 rfl) ?_
  refine r_getI C hW (ci := 12) kx0 ff_12_13 cl_12 fl_RX12_212 dX12_tellHop_38 ?_
  refine q_ifc hm (fun c1000011 hm => ?_) (fun c1000011 hm => ?_)
  · refine lv_if_ne (tgt := 70) hx hb dX12_tellHop_41 (by decide) (fun h => absurd c1000011 h) (fun _ => ?_)
    refine lv_aload_n hx hb dX12_tellHop_44 rfl (lv_at hl 4 rfl) ?_
    refine r_getI C hW (ci := 12) kx0 ff_12_50 cl_12 fl_RX12_286 dX12_tellHop_45 ?_
    refine q_ifc hm (fun c1000012 hm => ?_) (fun c1000012 hm => ?_)
    · refine lv_if_eq (tgt := 70) hx hb dX12_tellHop_48 (by decide) (fun _ => ?_) (fun h => absurd c1000012 h)
      exact hB70 x0 v1000002 v1000004 v1000008 kx0 dt1000009 _ _ _ hm hW hS (lv_sub hl [4, 3, 2, 0] rfl)
    refine lv_if_eq (tgt := 70) hx hb dX12_tellHop_48 (by decide) (fun h => absurd h c1000012) (fun _ => ?_)
    refine lv_iload hx hb dX12_tellHop_51 (lv_at hl 0 rfl) ?_
    obtain ⟨v1000014, hc1000013, hm⟩ := q_b1i hm
    refine q_callS C hW hS (As := [.int v1000008]) (rest := []) (st1 := [.int v1000014]) (c_X12_isPrime l D al dt1000009 v1000008 v1000014 hc1000013) yl_X12_isPrime sl_X12_isPrime ml_RX12_321 rfl ⟨Nat.le_of_ble_eq_true rfl, Nat.le_of_ble_eq_true rfl⟩ hl rfl (Nat.le_of_ble_eq_true rfl) dX12_tellHop_53 ⟨Nat.le_refl _, Nat.le_refl _⟩ rfl (fun H locs k1000015 hW hS => ?_)
    refine q_ifc hm (fun c1000016 hm => ?_) (fun c1000016 hm => ?_)
    · refine lv_if_ne (tgt := 70) hx hb dX12_tellHop_56 (by decide) (fun h => absurd c1000016 h) (fun _ => ?_)
      refine lv_aload_n hx hb dX12_tellHop_59 rfl (lv_at hl 4 rfl) ?_
      refine lv_iconst (v := 5) hx hb dX12_tellHop_60 (by decide) ?_
      refine lv_iload_n hx hb dX12_tellHop_61 rfl (lv_at hl 1 rfl) ?_
      obtain ⟨dt1000018, hc1000017, hm⟩ := q_b1i hm
      refine q_callV C hW hS (As := [.int 5, .int (dt1000005.1 x0 11)]) (rest := []) (st1 := []) (c_X12_amiss l D al dt1000009 x0 5 (dt1000005.1 x0 11) kx0 dt1000018 hc1000017) yl_X12_amiss vl_X12_amiss ml_RX12_283 (ci := 12) rfl kx0 (by decide) rfl ⟨Nat.le_of_ble_eq_true rfl, Nat.le_of_ble_eq_true rfl⟩ hl rfl (Nat.le_of_ble_eq_true rfl) dX12_tellHop_62 ⟨Nat.le_refl _, Nat.le_refl _⟩ rfl (fun H locs k1000019 hW hS => ?_)
      refine lv_aload_n hx hb dX12_tellHop_65 rfl (lv_at hl 4 rfl) ?_
      refine lv_iconst (v := 0) hx hb dX12_tellHop_66 (by decide) ?_
      refine r_putZ C hW hS hm (ci := 12) kx0 ff_12_50 cl_12 fl_RX12_286 (nf_12_50) rfl dX12_tellHop_67 (fun dt1000020 H locs hm hW hS => ?_)
      exact hB70 x0 v1000002 v1000004 v1000008 kx0 dt1000020 _ _ _ hm hW hS (lv_sub hl [4, 3, 2, 0] rfl)
    refine lv_if_ne (tgt := 70) hx hb dX12_tellHop_56 (by decide) (fun _ => ?_) (fun h => absurd h c1000016)
    exact hB70 x0 v1000002 v1000004 v1000008 kx0 dt1000009 _ _ _ hm hW hS (lv_sub hl [4, 3, 2, 0] rfl)
  refine lv_if_ne (tgt := 70) hx hb dX12_tellHop_41 (by decide) (fun _ => ?_) (fun h => absurd h c1000011)
  exact hB70 x0 v1000002 v1000004 v1000008 kx0 dt1000009 _ _ _ hm hW hS (lv_sub hl [4, 3, 2, 0] rfl)
theorem dX12_tellSend_0 : decode cX12_tellSend 0 = .ok (.bipush 6, 2) := by decide +kernel
theorem dX12_tellSend_2 : decode cX12_tellSend 2 = .ok (.aload_n 0, 1) := by decide +kernel
theorem dX12_tellSend_3 : decode cX12_tellSend 3 = .ok (.getfield 245, 3) := by decide +kernel
theorem dX12_tellSend_6 : decode cX12_tellSend 6 = .ok (.imul, 1) := by decide +kernel
theorem dX12_tellSend_7 : decode cX12_tellSend 7 = .ok (.aload_n 0, 1) := by decide +kernel
theorem dX12_tellSend_8 : decode cX12_tellSend 8 = .ok (.getfield 70, 3) := by decide +kernel
theorem dX12_tellSend_11 : decode cX12_tellSend 11 = .ok (.aload_n 0, 1) := by decide +kernel
theorem dX12_tellSend_12 : decode cX12_tellSend 12 = .ok (.getfield 245, 3) := by decide +kernel
theorem dX12_tellSend_15 : decode cX12_tellSend 15 = .ok (.iaload, 1) := by decide +kernel
theorem dX12_tellSend_16 : decode cX12_tellSend 16 = .ok (.iadd, 1) := by decide +kernel
theorem dX12_tellSend_17 : decode cX12_tellSend 17 = .ok (.istore_n 1, 1) := by decide +kernel
theorem dX12_tellSend_18 : decode cX12_tellSend 18 = .ok (.aload_n 0, 1) := by decide +kernel
theorem dX12_tellSend_19 : decode cX12_tellSend 19 = .ok (.invokevirtual 290, 3) := by decide +kernel
theorem dX12_tellSend_22 : decode cX12_tellSend 22 = .ok (.istore_n 2, 1) := by decide +kernel
theorem dX12_tellSend_23 : decode cX12_tellSend 23 = .ok (.aload_n 0, 1) := by decide +kernel
theorem dX12_tellSend_24 : decode cX12_tellSend 24 = .ok (.iconst 0, 1) := by decide +kernel
theorem dX12_tellSend_25 : decode cX12_tellSend 25 = .ok (.invokevirtual 315, 3) := by decide +kernel
theorem dX12_tellSend_28 : decode cX12_tellSend 28 = .ok (.istore_n 3, 1) := by decide +kernel
theorem dX12_tellSend_29 : decode cX12_tellSend 29 = .ok (.aload_n 0, 1) := by decide +kernel
theorem dX12_tellSend_30 : decode cX12_tellSend 30 = .ok (.getfield 73, 3) := by decide +kernel
theorem dX12_tellSend_33 : decode cX12_tellSend 33 = .ok (.iload_n 1, 1) := by decide +kernel
theorem dX12_tellSend_34 : decode cX12_tellSend 34 = .ok (.iload_n 3, 1) := by decide +kernel
theorem dX12_tellSend_35 : decode cX12_tellSend 35 = .ok (.iastore, 1) := by decide +kernel
theorem dX12_tellSend_36 : decode cX12_tellSend 36 = .ok (.aload_n 0, 1) := by decide +kernel
theorem dX12_tellSend_37 : decode cX12_tellSend 37 = .ok (.getfield 76, 3) := by decide +kernel
theorem dX12_tellSend_40 : decode cX12_tellSend 40 = .ok (.iload_n 1, 1) := by decide +kernel
theorem dX12_tellSend_41 : decode cX12_tellSend 41 = .ok (.aload_n 0, 1) := by decide +kernel
theorem dX12_tellSend_42 : decode cX12_tellSend 42 = .ok (.iconst 1, 1) := by decide +kernel
theorem dX12_tellSend_43 : decode cX12_tellSend 43 = .ok (.bipush 99, 2) := by decide +kernel
theorem dX12_tellSend_45 : decode cX12_tellSend 45 = .ok (.invokevirtual 276, 3) := by decide +kernel
theorem dX12_tellSend_48 : decode cX12_tellSend 48 = .ok (.iastore, 1) := by decide +kernel
theorem dX12_tellSend_49 : decode cX12_tellSend 49 = .ok (.aload_n 0, 1) := by decide +kernel
theorem dX12_tellSend_50 : decode cX12_tellSend 50 = .ok (.getfield 212, 3) := by decide +kernel
theorem dX12_tellSend_53 : decode cX12_tellSend 53 = .ok (.ifCond .ne 11, 3) := by decide +kernel
theorem dX12_tellSend_56 : decode cX12_tellSend 56 = .ok (.iload_n 3, 1) := by decide +kernel
theorem dX12_tellSend_57 : decode cX12_tellSend 57 = .ok (.ifCond .lt 7, 3) := by decide +kernel
theorem dX12_tellSend_60 : decode cX12_tellSend 60 = .ok (.iconst 1, 1) := by decide +kernel
theorem dX12_tellSend_61 : decode cX12_tellSend 61 = .ok (.goto 4, 3) := by decide +kernel
theorem dX12_tellSend_64 : decode cX12_tellSend 64 = .ok (.iconst 0, 1) := by decide +kernel
theorem dX12_tellSend_65 : decode cX12_tellSend 65 = .ok (.istore 4, 2) := by decide +kernel
theorem dX12_tellSend_67 : decode cX12_tellSend 67 = .ok (.aload_n 0, 1) := by decide +kernel
theorem dX12_tellSend_68 : decode cX12_tellSend 68 = .ok (.getfield 79, 3) := by decide +kernel
theorem dX12_tellSend_71 : decode cX12_tellSend 71 = .ok (.iload_n 1, 1) := by decide +kernel
theorem dX12_tellSend_72 : decode cX12_tellSend 72 = .ok (.aload_n 0, 1) := by decide +kernel
theorem dX12_tellSend_73 : decode cX12_tellSend 73 = .ok (.iload 4, 2) := by decide +kernel
theorem dX12_tellSend_75 : decode cX12_tellSend 75 = .ok (.iconst 0, 1) := by decide +kernel
theorem dX12_tellSend_76 : decode cX12_tellSend 76 = .ok (.iload 4, 2) := by decide +kernel
theorem dX12_tellSend_78 : decode cX12_tellSend 78 = .ok (.ifCond .eq 22, 3) := by decide +kernel
theorem dX12_tellSend_81 : decode cX12_tellSend 81 = .ok (.aload_n 0, 1) := by decide +kernel
theorem dX12_tellSend_82 : decode cX12_tellSend 82 = .ok (.getfield 52, 3) := by decide +kernel
theorem dX12_tellSend_85 : decode cX12_tellSend 85 = .ok (.bipush 8, 2) := by decide +kernel
theorem dX12_tellSend_87 : decode cX12_tellSend 87 = .ok (.aload_n 0, 1) := by decide +kernel
theorem dX12_tellSend_88 : decode cX12_tellSend 88 = .ok (.getfield 245, 3) := by decide +kernel
theorem dX12_tellSend_91 : decode cX12_tellSend 91 = .ok (.imul, 1) := by decide +kernel
theorem dX12_tellSend_92 : decode cX12_tellSend 92 = .ok (.iload_n 3, 1) := by decide +kernel
theorem dX12_tellSend_93 : decode cX12_tellSend 93 = .ok (.iadd, 1) := by decide +kernel
theorem dX12_tellSend_94 : decode cX12_tellSend 94 = .ok (.iaload, 1) := by decide +kernel
theorem dX12_tellSend_95 : decode cX12_tellSend 95 = .ok (.iconst 1, 1) := by decide +kernel
theorem dX12_tellSend_96 : decode cX12_tellSend 96 = .ok (.isub, 1) := by decide +kernel
theorem dX12_tellSend_97 : decode cX12_tellSend 97 = .ok (.goto 4, 3) := by decide +kernel
theorem dX12_tellSend_100 : decode cX12_tellSend 100 = .ok (.iconst 0, 1) := by decide +kernel
theorem dX12_tellSend_101 : decode cX12_tellSend 101 = .ok (.invokevirtual 294, 3) := by decide +kernel
theorem dX12_tellSend_104 : decode cX12_tellSend 104 = .ok (.iastore, 1) := by decide +kernel
theorem dX12_tellSend_105 : decode cX12_tellSend 105 = .ok (.aload_n 0, 1) := by decide +kernel
theorem dX12_tellSend_106 : decode cX12_tellSend 106 = .ok (.getfield 82, 3) := by decide +kernel
theorem dX12_tellSend_109 : decode cX12_tellSend 109 = .ok (.iload_n 1, 1) := by decide +kernel
theorem dX12_tellSend_110 : decode cX12_tellSend 110 = .ok (.aload_n 0, 1) := by decide +kernel
theorem dX12_tellSend_111 : decode cX12_tellSend 111 = .ok (.iconst 0, 1) := by decide +kernel
theorem dX12_tellSend_112 : decode cX12_tellSend 112 = .ok (.iconst 3, 1) := by decide +kernel
theorem dX12_tellSend_113 : decode cX12_tellSend 113 = .ok (.invokevirtual 276, 3) := by decide +kernel
theorem dX12_tellSend_116 : decode cX12_tellSend 116 = .ok (.iastore, 1) := by decide +kernel
theorem dX12_tellSend_117 : decode cX12_tellSend 117 = .ok (.aload_n 0, 1) := by decide +kernel
theorem dX12_tellSend_118 : decode cX12_tellSend 118 = .ok (.getfield 85, 3) := by decide +kernel
theorem dX12_tellSend_121 : decode cX12_tellSend 121 = .ok (.iload_n 1, 1) := by decide +kernel
theorem dX12_tellSend_122 : decode cX12_tellSend 122 = .ok (.aload_n 0, 1) := by decide +kernel
theorem dX12_tellSend_123 : decode cX12_tellSend 123 = .ok (.iconst 0, 1) := by decide +kernel
theorem dX12_tellSend_124 : decode cX12_tellSend 124 = .ok (.sipush 9999, 3) := by decide +kernel
theorem dX12_tellSend_127 : decode cX12_tellSend 127 = .ok (.invokevirtual 276, 3) := by decide +kernel
theorem dX12_tellSend_130 : decode cX12_tellSend 130 = .ok (.iastore, 1) := by decide +kernel
theorem dX12_tellSend_131 : decode cX12_tellSend 131 = .ok (.aload_n 0, 1) := by decide +kernel
theorem dX12_tellSend_132 : decode cX12_tellSend 132 = .ok (.getfield 88, 3) := by decide +kernel
theorem dX12_tellSend_135 : decode cX12_tellSend 135 = .ok (.iload_n 1, 1) := by decide +kernel
theorem dX12_tellSend_136 : decode cX12_tellSend 136 = .ok (.iconst 0, 1) := by decide +kernel
theorem dX12_tellSend_137 : decode cX12_tellSend 137 = .ok (.iastore, 1) := by decide +kernel
theorem dX12_tellSend_138 : decode cX12_tellSend 138 = .ok (.aload_n 0, 1) := by decide +kernel
theorem dX12_tellSend_139 : decode cX12_tellSend 139 = .ok (.getfield 212, 3) := by decide +kernel
theorem dX12_tellSend_142 : decode cX12_tellSend 142 = .ok (.ifCond .ne 29, 3) := by decide +kernel
theorem dX12_tellSend_145 : decode cX12_tellSend 145 = .ok (.aload_n 0, 1) := by decide +kernel
theorem dX12_tellSend_146 : decode cX12_tellSend 146 = .ok (.bipush 30, 2) := by decide +kernel
theorem dX12_tellSend_148 : decode cX12_tellSend 148 = .ok (.invokevirtual 230, 3) := by decide +kernel
theorem dX12_tellSend_151 : decode cX12_tellSend 151 = .ok (.ifCond .eq 20, 3) := by decide +kernel
theorem dX12_tellSend_154 : decode cX12_tellSend 154 = .ok (.aload_n 0, 1) := by decide +kernel
theorem dX12_tellSend_155 : decode cX12_tellSend 155 = .ok (.invokevirtual 233, 3) := by decide +kernel
theorem dX12_tellSend_158 : decode cX12_tellSend 158 = .ok (.aload_n 0, 1) := by decide +kernel
theorem dX12_tellSend_159 : decode cX12_tellSend 159 = .ok (.getfield 88, 3) := by decide +kernel
theorem dX12_tellSend_162 : decode cX12_tellSend 162 = .ok (.iload_n 1, 1) := by decide +kernel
theorem dX12_tellSend_163 : decode cX12_tellSend 163 = .ok (.aload_n 0, 1) := by decide +kernel
theorem dX12_tellSend_164 : decode cX12_tellSend 164 = .ok (.iconst 1, 1) := by decide +kernel
theorem dX12_tellSend_165 : decode cX12_tellSend 165 = .ok (.bipush 99, 2) := by decide +kernel
theorem dX12_tellSend_167 : decode cX12_tellSend 167 = .ok (.invokevirtual 276, 3) := by decide +kernel
theorem dX12_tellSend_170 : decode cX12_tellSend 170 = .ok (.iastore, 1) := by decide +kernel
theorem dX12_tellSend_171 : decode cX12_tellSend 171 = .ok (.aload_n 0, 1) := by decide +kernel
theorem dX12_tellSend_172 : decode cX12_tellSend 172 = .ok (.iconst 4, 1) := by decide +kernel
theorem dX12_tellSend_173 : decode cX12_tellSend 173 = .ok (.invokevirtual 280, 3) := by decide +kernel
theorem dX12_tellSend_176 : decode cX12_tellSend 176 = .ok (.aload_n 0, 1) := by decide +kernel
theorem dX12_tellSend_177 : decode cX12_tellSend 177 = .ok (.getfield 212, 3) := by decide +kernel
theorem dX12_tellSend_180 : decode cX12_tellSend 180 = .ok (.ifCond .le 4, 3) := by decide +kernel
theorem dX12_tellSend_183 : decode cX12_tellSend 183 = .ok (.return_, 1) := by decide +kernel
theorem dX12_tellSend_184 : decode cX12_tellSend 184 = .ok (.aload_n 0, 1) := by decide +kernel
theorem dX12_tellSend_185 : decode cX12_tellSend 185 = .ok (.iload_n 2, 1) := by decide +kernel
theorem dX12_tellSend_186 : decode cX12_tellSend 186 = .ok (.iconst 2, 1) := by decide +kernel
theorem dX12_tellSend_187 : decode cX12_tellSend 187 = .ok (.aload_n 0, 1) := by decide +kernel
theorem dX12_tellSend_188 : decode cX12_tellSend 188 = .ok (.getfield 70, 3) := by decide +kernel
theorem dX12_tellSend_191 : decode cX12_tellSend 191 = .ok (.aload_n 0, 1) := by decide +kernel
theorem dX12_tellSend_192 : decode cX12_tellSend 192 = .ok (.getfield 245, 3) := by decide +kernel
theorem dX12_tellSend_195 : decode cX12_tellSend 195 = .ok (.iaload, 1) := by decide +kernel
theorem dX12_tellSend_196 : decode cX12_tellSend 196 = .ok (.invokevirtual 312, 3) := by decide +kernel
theorem dX12_tellSend_199 : decode cX12_tellSend 199 = .ok (.aload_n 0, 1) := by decide +kernel
theorem dX12_tellSend_200 : decode cX12_tellSend 200 = .ok (.getfield 70, 3) := by decide +kernel
theorem dX12_tellSend_203 : decode cX12_tellSend 203 = .ok (.aload_n 0, 1) := by decide +kernel
theorem dX12_tellSend_204 : decode cX12_tellSend 204 = .ok (.getfield 245, 3) := by decide +kernel
theorem dX12_tellSend_207 : decode cX12_tellSend 207 = .ok (.dup2, 1) := by decide +kernel
theorem dX12_tellSend_208 : decode cX12_tellSend 208 = .ok (.iaload, 1) := by decide +kernel
theorem dX12_tellSend_209 : decode cX12_tellSend 209 = .ok (.iconst 1, 1) := by decide +kernel
theorem dX12_tellSend_210 : decode cX12_tellSend 210 = .ok (.iadd, 1) := by decide +kernel
theorem dX12_tellSend_211 : decode cX12_tellSend 211 = .ok (.iastore, 1) := by decide +kernel
theorem dX12_tellSend_212 : decode cX12_tellSend 212 = .ok (.return_, 1) := by decide +kernel
set_option maxRecDepth 100000 in
theorem c_X12_tellSend (l : Launch) (D : q_D) (al : q_Al) (dt : q_Dt) (x0 : Nat) (kx0 : al.1 x0 = 13) (dt0 : q_Dt) (hm : X12_tellSend al dt x0 = some dt0) : q_Mt l yX12_tellSend cX12_tellSend 5 (none) 4 87 D al [.ref x0] dt 0 none dt0 := by
  refine q_Mt.of (by decide) (Nat.le_of_ble_eq_true rfl) ?_
  intro p e s m args below meth c ls C hargs hW hl
  have hx := C.1
  have hb := C.2.1
  have hown := C.2.2.2.2.2.1
  have hts := C.2.2.2.2.2.2.1
  have hS : va_S (q_A al) s.heap s.heap [] := va_S.rf
  have hl : lv_has ls 5 [(0, .ref x0)] := hl
  unfold X12_tellSend at hm
  have hB171 : ∀ (x0_171 : Nat) (x2_171 : Int32) (kx0_171 : al.1 x0_171 = 13) (dt : q_Dt) (H : Heap) (locs : List Loc) (ls : Array Slot) (hm : X12_tellSend_b171 al x0_171 x2_171 dt = some dt0) (hW : q_W D al dt H) (hS : va_S (q_A al) s.heap H locs) (hl : lv_has ls 5 [(0, .ref x0_171), (2, .int x2_171)]), W p l e { frames := 4, cells := 0, slots := 0, locals := 87 } s m args below meth c H locs 0 0 (MQ below (q_Q none (fun H => q_W D al dt0 H ∧ q_Rk al 0 none) (q_A al)) args s 0 0 (q_A al)) (F0 m 171 ls []) := by
    intro x0_171 x2_171 kx0_171 dt H locs ls hm hW hS hl
    unfold X12_tellSend_b171 at hm
    refine lv_aload_n hx hb dX12_tellSend_171 rfl (lv_at hl 0 rfl) ?_
    refine lv_iconst (v := 4) hx hb dX12_tellSend_172 (by decide) ?_
    obtain ⟨dt171002, hc171001, hm⟩ := q_b1i hm
    refine q_callV C hW hS (As := [.int 4]) (rest := []) (st1 := []) (c_X12_must l D al dt x0_171 4 kx0_171 dt171002 hc171001) yl_X12_must vl_X12_must ml_RX12_280 (ci := 12) rfl kx0_171 (by decide) rfl ⟨Nat.le_of_ble_eq_true rfl, Nat.le_of_ble_eq_true rfl⟩ hl rfl (Nat.le_of_ble_eq_true rfl) dX12_tellSend_173 ⟨Nat.le_refl _, Nat.le_refl _⟩ rfl (fun H locs k171003 hW hS => ?_)
    refine lv_aload_n hx hb dX12_tellSend_176 rfl (lv_at hl 0 rfl) ?_
    refine r_getI C hW (ci := 12) kx0_171 ff_12_13 cl_12 fl_RX12_212 dX12_tellSend_177 ?_
    refine q_ifc hm (fun c171004 hm => ?_) (fun c171004 hm => ?_)
    · refine lv_if_le (tgt := 184) hx hb dX12_tellSend_180 (by decide) (fun _ => ?_) (fun h => absurd c171004 h)
      refine lv_aload_n hx hb dX12_tellSend_184 rfl (lv_at hl 0 rfl) ?_
      refine lv_iload_n hx hb dX12_tellSend_185 rfl (lv_at hl 1 rfl) ?_
      refine lv_iconst (v := 2) hx hb dX12_tellSend_186 (by decide) ?_
      refine lv_aload_n hx hb dX12_tellSend_187 rfl (lv_at hl 0 rfl) ?_
      refine r_getF C hW (ci := 12) kx0_171 ff_12_31 cl_12 fl_RX12_70 dX12_tellSend_188 (fun k171005 => ?_)
      refine lv_aload_n hx hb dX12_tellSend_191 rfl (lv_at hl 0 rfl) ?_
      refine r_getI C hW (ci := 12) kx0_171 ff_12_19 cl_12 fl_RX12_245 dX12_tellSend_192 ?_
      refine r_iald C hW hm k171005 dX12_tellSend_195 (fun hm => ?_)
      obtain ⟨dt171007, hc171006, hm⟩ := q_b1i hm
      refine q_callV C hW hS (As := [.int x2_171, .int 2, .int (dt171002.1 (al.2.2 x0_171 31) (Int32.toNatClampNeg (dt171002.1 x0_171 19)))]) (rest := []) (st1 := []) (c_X12_notes l D al dt171002 x0_171 x2_171 2 (dt171002.1 (al.2.2 x0_171 31) (Int32.toNatClampNeg (dt171002.1 x0_171 19))) kx0_171 dt171007 hc171006) yl_X12_notes vl_X12_notes ml_RX12_312 (ci := 12) rfl kx0_171 (by decide) rfl ⟨Nat.le_of_ble_eq_true rfl, Nat.le_of_ble_eq_true rfl⟩ hl rfl (Nat.le_of_ble_eq_true rfl) dX12_tellSend_196 ⟨Nat.le_refl _, Nat.le_refl _⟩ rfl (fun H locs k171008 hW hS => ?_)
      refine lv_aload_n hx hb dX12_tellSend_199 rfl (lv_at hl 0 rfl) ?_
      refine r_getF C hW (ci := 12) kx0_171 ff_12_31 cl_12 fl_RX12_70 dX12_tellSend_200 (fun k171009 => ?_)
      refine lv_aload_n hx hb dX12_tellSend_203 rfl (lv_at hl 0 rfl) ?_
      refine r_getI C hW (ci := 12) kx0_171 ff_12_19 cl_12 fl_RX12_245 dX12_tellSend_204 ?_
      refine lv_dup2_11 hx hb dX12_tellSend_207 rfl rfl ?_
      refine r_iald C hW hm k171009 dX12_tellSend_208 (fun hm => ?_)
      refine lv_iconst (v := 1) hx hb dX12_tellSend_209 (by decide) ?_
      refine lv_iadd hx hb dX12_tellSend_210 ?_
      refine r_iast C hW hS hm k171009 dX12_tellSend_211 (fun dt171010 H locs hm hW hS => ?_)
      exact e_vD C hW hS hm dX12_tellSend_212
    refine lv_if_le (tgt := 184) hx hb dX12_tellSend_180 (by decide) (fun h => absurd h c171004) (fun _ => ?_)
    exact e_vD C hW hS hm dX12_tellSend_183
  have hB101 : ∀ (x0_101 : Nat) (x1_101 : Int32) (x2_101 : Int32) (t0_101 : Nat) (t1_101 : Int32) (t2_101 : Nat) (t3_101 : Int32) (t4_101 : Int32) (t5_101 : Int32) (kx0_101 : al.1 x0_101 = 13) (kt0_101 : al.1 t0_101 = 21) (kt2_101 : al.1 t2_101 = 13) (dt : q_Dt) (H : Heap) (locs : List Loc) (ls : Array Slot) (hm : X12_tellSend_b101 al x0_101 x1_101 x2_101 t0_101 t1_101 t2_101 t3_101 t4_101 t5_101 dt = some dt0) (hW : q_W D al dt H) (hS : va_S (q_A al) s.heap H locs) (hl : lv_has ls 5 [(0, .ref x0_101), (1, .int x1_101), (2, .int x2_101)]), W p l e { frames := 4, cells := 0, slots := 0, locals := 87 } s m args below meth c H locs 0 0 (MQ below (q_Q none (fun H => q_W D al dt0 H ∧ q_Rk al 0 none) (q_A al)) args s 0 0 (q_A al)) (F0 m 101 ls [.int t5_101, .int t4_101, .int t3_101, .ref t2_101, .int t1_101, .ref t0_101]) := by
    intro x0_101 x1_101 x2_101 t0_101 t1_101 t2_101 t3_101 t4_101 t5_101 kx0_101 kt0_101 kt2_101 dt H locs ls hm hW hS hl
    unfold X12_tellSend_b101 at hm
    obtain ⟨v101002, dt101003, hc101001, hm⟩ := q_b2i hm
    refine q_callV C hW hS (As := [.int t3_101, .int t4_101, .int t5_101]) (rest := [.int t1_101, .ref t0_101]) (st1 := [.int v101002, .int t1_101, .ref t0_101]) (c_X12_hangs l D al dt t2_101 t3_101 t4_101 t5_101 kt2_101 v101002 dt101003 hc101001) yl_X12_hangs vl_X12_hangs ml_RX12_294 (ci := 12) rfl kt2_101 (by decide) rfl ⟨Nat.le_of_ble_eq_true rfl, Nat.le_of_ble_eq_true rfl⟩ hl rfl (Nat.le_of_ble_eq_true rfl) dX12_tellSend_101 ⟨Nat.le_refl _, Nat.le_refl _⟩ rfl (fun H locs k101004 hW hS => ?_)
    refine r_iast C hW hS hm kt0_101 dX12_tellSend_104 (fun dt101005 H locs hm hW hS => ?_)
    refine lv_aload_n hx hb dX12_tellSend_105 rfl (lv_at hl 0 rfl) ?_
    refine r_getF C hW (ci := 12) kx0_101 ff_12_35 cl_12 fl_RX12_82 dX12_tellSend_106 (fun k101006 => ?_)
    refine lv_iload_n hx hb dX12_tellSend_109 rfl (lv_at hl 1 rfl) ?_
    refine lv_aload_n hx hb dX12_tellSend_110 rfl (lv_at hl 0 rfl) ?_
    refine lv_iconst (v := 0) hx hb dX12_tellSend_111 (by decide) ?_
    refine lv_iconst (v := 3) hx hb dX12_tellSend_112 (by decide) ?_
    obtain ⟨v101008, dt101009, hc101007, hm⟩ := q_b2i hm
    refine q_callV C hW hS (As := [.int 0, .int 3]) (rest := [.int x1_101, .ref (al.2.2 x0_101 35)]) (st1 := [.int v101008, .int x1_101, .ref (al.2.2 x0_101 35)]) (c_X12_bounded l D al dt101005 x0_101 0 3 kx0_101 v101008 dt101009 hc101007) yl_X12_bounded vl_X12_bounded ml_RX12_276 (ci := 12) rfl kx0_101 (by decide) rfl ⟨Nat.le_of_ble_eq_true rfl, Nat.le_of_ble_eq_true rfl⟩ hl rfl (Nat.le_of_ble_eq_true rfl) dX12_tellSend_113 ⟨Nat.le_refl _, Nat.le_refl _⟩ rfl (fun H locs k101010 hW hS => ?_)
    refine r_iast C hW hS hm k101006 dX12_tellSend_116 (fun dt101011 H locs hm hW hS => ?_)
    refine lv_aload_n hx hb dX12_tellSend_117 rfl (lv_at hl 0 rfl) ?_
    refine r_getF C hW (ci := 12) kx0_101 ff_12_36 cl_12 fl_RX12_85 dX12_tellSend_118 (fun k101012 => ?_)
    refine lv_iload_n hx hb dX12_tellSend_121 rfl (lv_at hl 1 rfl) ?_
    refine lv_aload_n hx hb dX12_tellSend_122 rfl (lv_at hl 0 rfl) ?_
    refine lv_iconst (v := 0) hx hb dX12_tellSend_123 (by decide) ?_
    refine lv_sipush (v := 9999) hx hb dX12_tellSend_124 (by decide) ?_
    obtain ⟨v101014, dt101015, hc101013, hm⟩ := q_b2i hm
    refine q_callV C hW hS (As := [.int 0, .int 9999]) (rest := [.int x1_101, .ref (al.2.2 x0_101 36)]) (st1 := [.int v101014, .int x1_101, .ref (al.2.2 x0_101 36)]) (c_X12_bounded l D al dt101011 x0_101 0 9999 kx0_101 v101014 dt101015 hc101013) yl_X12_bounded vl_X12_bounded ml_RX12_276 (ci := 12) rfl kx0_101 (by decide) rfl ⟨Nat.le_of_ble_eq_true rfl, Nat.le_of_ble_eq_true rfl⟩ hl rfl (Nat.le_of_ble_eq_true rfl) dX12_tellSend_127 ⟨Nat.le_refl _, Nat.le_refl _⟩ rfl (fun H locs k101016 hW hS => ?_)
    refine r_iast C hW hS hm k101012 dX12_tellSend_130 (fun dt101017 H locs hm hW hS => ?_)
    refine lv_aload_n hx hb dX12_tellSend_131 rfl (lv_at hl 0 rfl) ?_
    refine r_getF C hW (ci := 12) kx0_101 ff_12_37 cl_12 fl_RX12_88 dX12_tellSend_132 (fun k101018 => ?_)
    refine lv_iload_n hx hb dX12_tellSend_135 rfl (lv_at hl 1 rfl) ?_
    refine lv_iconst (v := 0) hx hb dX12_tellSend_136 (by decide) ?_
    refine r_iast C hW hS hm k101018 dX12_tellSend_137 (fun dt101019 H locs hm hW hS => ?_)
    refine lv_aload_n hx hb dX12_tellSend_138 rfl (lv_at hl 0 rfl) ?_
    refine r_getI C hW (ci := 12) kx0_101 ff_12_13 cl_12 fl_RX12_212 dX12_tellSend_139 ?_
    refine q_ifc hm (fun c101020 hm => ?_) (fun c101020 hm => ?_)
    · refine lv_if_ne (tgt := 171) hx hb dX12_tellSend_142 (by decide) (fun h => absurd c101020 h) (fun _ => ?_)
      refine lv_aload_n hx hb dX12_tellSend_145 rfl (lv_at hl 0 rfl) ?_
      refine lv_bipush (v := 30) hx hb dX12_tellSend_146 (by decide) ?_
      obtain ⟨v101022, hc101021, hm⟩ := q_b1i hm
      refine q_callV C hW hS (As := [.int 30]) (rest := []) (st1 := [.int v101022]) (c_X12_is l D al dt101019 x0_101 30 kx0_101 v101022 hc101021) yl_X12_is vl_X12_is ml_RX12_230 (ci := 12) rfl kx0_101 (by decide) rfl ⟨Nat.le_of_ble_eq_true rfl, Nat.le_of_ble_eq_true rfl⟩ hl rfl (Nat.le_of_ble_eq_true rfl) dX12_tellSend_148 ⟨Nat.le_refl _, Nat.le_refl _⟩ rfl (fun H locs k101023 hW hS => ?_)
      refine q_ifc hm (fun c101024 hm => ?_) (fun c101024 hm => ?_)
      · refine lv_if_eq (tgt := 171) hx hb dX12_tellSend_151 (by decide) (fun _ => ?_) (fun h => absurd c101024 h)
        exact hB171 x0_101 x2_101 kx0_101 dt101019 _ _ _ hm hW hS (lv_sub hl [0, 2] rfl)
      refine lv_if_eq (tgt := 171) hx hb dX12_tellSend_151 (by decide) (fun h => absurd h c101024) (fun _ => ?_)
      refine lv_aload_n hx hb dX12_tellSend_154 rfl (lv_at hl 0 rfl) ?_
      obtain ⟨dt101026, hc101025, hm⟩ := q_b1i hm
      refine q_callV C hW hS (As := []) (rest := []) (st1 := []) (c_X12_goesOn l D al dt101019 x0_101 kx0_101 dt101026 hc101025) yl_X12_goesOn vl_X12_goesOn ml_RX12_233 (ci := 12) rfl kx0_101 (by decide) rfl ⟨Nat.le_of_ble_eq_true rfl, Nat.le_of_ble_eq_true rfl⟩ hl rfl (Nat.le_of_ble_eq_true rfl) dX12_tellSend_155 ⟨Nat.le_refl _, Nat.le_refl _⟩ rfl (fun H locs k101027 hW hS => ?_)
      refine lv_aload_n hx hb dX12_tellSend_158 rfl (lv_at hl 0 rfl) ?_
      refine r_getF C hW (ci := 12) kx0_101 ff_12_37 cl_12 fl_RX12_88 dX12_tellSend_159 (fun k101028 => ?_)
      refine lv_iload_n hx hb dX12_tellSend_162 rfl (lv_at hl 1 rfl) ?_
      refine lv_aload_n hx hb dX12_tellSend_163 rfl (lv_at hl 0 rfl) ?_
      refine lv_iconst (v := 1) hx hb dX12_tellSend_164 (by decide) ?_
      refine lv_bipush (v := 99) hx hb dX12_tellSend_165 (by decide) ?_
      obtain ⟨v101030, dt101031, hc101029, hm⟩ := q_b2i hm
      refine q_callV C hW hS (As := [.int 1, .int 99]) (rest := [.int x1_101, .ref (al.2.2 x0_101 37)]) (st1 := [.int v101030, .int x1_101, .ref (al.2.2 x0_101 37)]) (c_X12_bounded l D al dt101026 x0_101 1 99 kx0_101 v101030 dt101031 hc101029) yl_X12_bounded vl_X12_bounded ml_RX12_276 (ci := 12) rfl kx0_101 (by decide) rfl ⟨Nat.le_of_ble_eq_true rfl, Nat.le_of_ble_eq_true rfl⟩ hl rfl (Nat.le_of_ble_eq_true rfl) dX12_tellSend_167 ⟨Nat.le_refl _, Nat.le_refl _⟩ rfl (fun H locs k101032 hW hS => ?_)
      refine r_iast C hW hS hm k101028 dX12_tellSend_170 (fun dt101033 H locs hm hW hS => ?_)
      exact hB171 x0_101 x2_101 kx0_101 dt101033 _ _ _ hm hW hS (lv_sub hl [0, 2] rfl)
    refine lv_if_ne (tgt := 171) hx hb dX12_tellSend_142 (by decide) (fun _ => ?_) (fun h => absurd h c101020)
    exact hB171 x0_101 x2_101 kx0_101 dt101019 _ _ _ hm hW hS (lv_sub hl [0, 2] rfl)
  have hB65 : ∀ (x0_65 : Nat) (x1_65 : Int32) (x2_65 : Int32) (x3_65 : Int32) (t0_65 : Int32) (kx0_65 : al.1 x0_65 = 13) (dt : q_Dt) (H : Heap) (locs : List Loc) (ls : Array Slot) (hm : X12_tellSend_b65 al x0_65 x1_65 x2_65 x3_65 t0_65 dt = some dt0) (hW : q_W D al dt H) (hS : va_S (q_A al) s.heap H locs) (hl : lv_has ls 5 [(0, .ref x0_65), (1, .int x1_65), (2, .int x2_65), (3, .int x3_65)]), W p l e { frames := 4, cells := 0, slots := 0, locals := 87 } s m args below meth c H locs 0 0 (MQ below (q_Q none (fun H => q_W D al dt0 H ∧ q_Rk al 0 none) (q_A al)) args s 0 0 (q_A al)) (F0 m 65 ls [.int t0_65]) := by
    intro x0_65 x1_65 x2_65 x3_65 t0_65 kx0_65 dt H locs ls hm hW hS hl
    unfold X12_tellSend_b65 at hm
    refine lv_istore (i := 4) (lv' := [(4, .int t0_65), (0, .ref x0_65), (1, .int x1_65), (2, .int x2_65), (3, .int x3_65)]) hx hb dX12_tellSend_65 hl (by decide) rfl (fun ls hl => ?_)
    refine lv_aload_n hx hb dX12_tellSend_67 rfl (lv_at hl 1 rfl) ?_
    refine r_getF C hW (ci := 12) kx0_65 ff_12_34 cl_12 fl_RX12_79 dX12_tellSend_68 (fun k65001 => ?_)
    refine lv_iload_n hx hb dX12_tellSend_71 rfl (lv_at hl 2 rfl) ?_
    refine lv_aload_n hx hb dX12_tellSend_72 rfl (lv_at hl 1 rfl) ?_
    refine lv_iload hx hb dX12_tellSend_73 (lv_at hl 0 rfl) ?_
    refine lv_iconst (v := 0) hx hb dX12_tellSend_75 (by decide) ?_
    refine lv_iload hx hb dX12_tellSend_76 (lv_at hl 0 rfl) ?_
    refine q_ifc hm (fun c65002 hm => ?_) (fun c65002 hm => ?_)
    · refine lv_if_eq (tgt := 100) hx hb dX12_tellSend_78 (by decide) (fun _ => ?_) (fun h => absurd c65002 h)
      refine lv_iconst (v := 0) hx hb dX12_tellSend_100 (by decide) ?_
      exact hB101 x0_65 x1_65 x2_65 (al.2.2 x0_65 34) x1_65 x0_65 t0_65 0 0 kx0_65 k65001 kx0_65 dt _ _ _ hm hW hS (lv_sub hl [1, 2, 3] rfl)
    refine lv_if_eq (tgt := 100) hx hb dX12_tellSend_78 (by decide) (fun h => absurd h c65002) (fun _ => ?_)
    refine lv_aload_n hx hb dX12_tellSend_81 rfl (lv_at hl 1 rfl) ?_
    refine r_getF C hW (ci := 12) kx0_65 ff_12_25 cl_12 fl_RX12_52 dX12_tellSend_82 (fun k65003 => ?_)
    refine lv_bipush (v := 8) hx hb dX12_tellSend_85 (by decide) ?_
    refine lv_aload_n hx hb dX12_tellSend_87 rfl (lv_at hl 1 rfl) ?_
    refine r_getI C hW (ci := 12) kx0_65 ff_12_19 cl_12 fl_RX12_245 dX12_tellSend_88 ?_
    refine lv_imul hx hb dX12_tellSend_91 ?_
    refine lv_iload_n hx hb dX12_tellSend_92 rfl (lv_at hl 4 rfl) ?_
    refine lv_iadd hx hb dX12_tellSend_93 ?_
    refine r_iald C hW hm k65003 dX12_tellSend_94 (fun hm => ?_)
    refine lv_iconst (v := 1) hx hb dX12_tellSend_95 (by decide) ?_
    refine lv_isub hx hb dX12_tellSend_96 ?_
    refine lv_goto (tgt := 101) hx hb dX12_tellSend_97 (by decide) ?_
    exact hB101 x0_65 x1_65 x2_65 (al.2.2 x0_65 34) x1_65 x0_65 t0_65 0 ((dt.1 (al.2.2 x0_65 25) (Int32.toNatClampNeg ((8 * (dt.1 x0_65 19)) + x3_65))) - 1) kx0_65 k65001 kx0_65 dt _ _ _ hm hW hS (lv_sub hl [1, 2, 3] rfl)
  have hB64 : ∀ (x0_64 : Nat) (x1_64 : Int32) (x2_64 : Int32) (x3_64 : Int32) (kx0_64 : al.1 x0_64 = 13) (dt : q_Dt) (H : Heap) (locs : List Loc) (ls : Array Slot) (hm : X12_tellSend_b64 al x0_64 x1_64 x2_64 x3_64 dt = some dt0) (hW : q_W D al dt H) (hS : va_S (q_A al) s.heap H locs) (hl : lv_has ls 5 [(0, .ref x0_64), (1, .int x1_64), (2, .int x2_64), (3, .int x3_64)]), W p l e { frames := 4, cells := 0, slots := 0, locals := 87 } s m args below meth c H locs 0 0 (MQ below (q_Q none (fun H => q_W D al dt0 H ∧ q_Rk al 0 none) (q_A al)) args s 0 0 (q_A al)) (F0 m 64 ls []) := by
    intro x0_64 x1_64 x2_64 x3_64 kx0_64 dt H locs ls hm hW hS hl
    unfold X12_tellSend_b64 at hm
    refine lv_iconst (v := 0) hx hb dX12_tellSend_64 (by decide) ?_
    exact hB65 x0_64 x1_64 x2_64 x3_64 0 kx0_64 dt _ _ _ hm hW hS (lv_sub hl [0, 1, 2, 3] rfl)
  refine lv_bipush (v := 6) hx hb dX12_tellSend_0 (by decide) ?_
  refine lv_aload_n hx hb dX12_tellSend_2 rfl (lv_at hl 0 rfl) ?_
  refine r_getI C hW (ci := 12) kx0 ff_12_19 cl_12 fl_RX12_245 dX12_tellSend_3 ?_
  refine lv_imul hx hb dX12_tellSend_6 ?_
  refine lv_aload_n hx hb dX12_tellSend_7 rfl (lv_at hl 0 rfl) ?_
  refine r_getF C hW (ci := 12) kx0 ff_12_31 cl_12 fl_RX12_70 dX12_tellSend_8 (fun k1000001 => ?_)
  refine lv_aload_n hx hb dX12_tellSend_11 rfl (lv_at hl 0 rfl) ?_
  refine r_getI C hW (ci := 12) kx0 ff_12_19 cl_12 fl_RX12_245 dX12_tellSend_12 ?_
  refine r_iald C hW hm k1000001 dX12_tellSend_15 (fun hm => ?_)
  refine lv_iadd hx hb dX12_tellSend_16 ?_
  refine q_nmI hm (fun v1000002 ev1000002 hm => ?_)
  refine lv_istore_n (i := 1) (lv' := [(1, .int v1000002), (0, .ref x0)]) hx hb dX12_tellSend_17 rfl hl (by decide) rfl (fun ls hl => ?_)
  refine lv_aload_n hx hb dX12_tellSend_18 rfl (lv_at hl 1 rfl) ?_
  obtain ⟨v1000004, dt1000005, hc1000003, hm⟩ := q_b2i hm
  refine q_callV C hW hS (As := []) (rest := []) (st1 := [.int v1000004]) (c_X12_named l D al dt x0 kx0 v1000004 dt1000005 hc1000003) yl_X12_named vl_X12_named ml_RX12_290 (ci := 12) rfl kx0 (by decide) rfl ⟨Nat.le_of_ble_eq_true rfl, Nat.le_of_ble_eq_true rfl⟩ hl rfl (Nat.le_of_ble_eq_true rfl) dX12_tellSend_19 ⟨Nat.le_refl _, Nat.le_refl _⟩ rfl (fun H locs k1000006 hW hS => ?_)
  refine lv_istore_n (i := 2) (lv' := [(2, .int v1000004), (1, .int v1000002), (0, .ref x0)]) hx hb dX12_tellSend_22 rfl hl (by decide) rfl (fun ls hl => ?_)
  refine lv_aload_n hx hb dX12_tellSend_23 rfl (lv_at hl 2 rfl) ?_
  refine lv_iconst (v := 0) hx hb dX12_tellSend_24 (by decide) ?_
  obtain ⟨v1000008, dt1000009, hc1000007, hm⟩ := q_b2i hm
  refine q_callV C hW hS (As := [.int 0]) (rest := []) (st1 := [.int v1000008]) (c_X12_known l D al dt1000005 x0 0 kx0 v1000008 dt1000009 hc1000007) yl_X12_known vl_X12_known ml_RX12_315 (ci := 12) rfl kx0 (by decide) rfl ⟨Nat.le_of_ble_eq_true rfl, Nat.le_of_ble_eq_true rfl⟩ hl rfl (Nat.le_of_ble_eq_true rfl) dX12_tellSend_25 ⟨Nat.le_refl _, Nat.le_refl _⟩ rfl (fun H locs k1000010 hW hS => ?_)
  refine lv_istore_n (i := 3) (lv' := [(3, .int v1000008), (2, .int v1000004), (1, .int v1000002), (0, .ref x0)]) hx hb dX12_tellSend_28 rfl hl (by decide) rfl (fun ls hl => ?_)
  refine lv_aload_n hx hb dX12_tellSend_29 rfl (lv_at hl 3 rfl) ?_
  refine r_getF C hW (ci := 12) kx0 ff_12_32 cl_12 fl_RX12_73 dX12_tellSend_30 (fun k1000011 => ?_)
  refine lv_iload_n hx hb dX12_tellSend_33 rfl (lv_at hl 2 rfl) ?_
  refine lv_iload_n hx hb dX12_tellSend_34 rfl (lv_at hl 0 rfl) ?_
  refine r_iast C hW hS hm k1000011 dX12_tellSend_35 (fun dt1000012 H locs hm hW hS => ?_)
  refine lv_aload_n hx hb dX12_tellSend_36 rfl (lv_at hl 3 rfl) ?_
  refine r_getF C hW (ci := 12) kx0 ff_12_33 cl_12 fl_RX12_76 dX12_tellSend_37 (fun k1000013 => ?_)
  refine lv_iload_n hx hb dX12_tellSend_40 rfl (lv_at hl 2 rfl) ?_
  refine lv_aload_n hx hb dX12_tellSend_41 rfl (lv_at hl 3 rfl) ?_
  refine lv_iconst (v := 1) hx hb dX12_tellSend_42 (by decide) ?_
  refine lv_bipush (v := 99) hx hb dX12_tellSend_43 (by decide) ?_
  obtain ⟨v1000015, dt1000016, hc1000014, hm⟩ := q_b2i hm
  refine q_callV C hW hS (As := [.int 1, .int 99]) (rest := [.int v1000002, .ref (al.2.2 x0 33)]) (st1 := [.int v1000015, .int v1000002, .ref (al.2.2 x0 33)]) (c_X12_bounded l D al dt1000012 x0 1 99 kx0 v1000015 dt1000016 hc1000014) yl_X12_bounded vl_X12_bounded ml_RX12_276 (ci := 12) rfl kx0 (by decide) rfl ⟨Nat.le_of_ble_eq_true rfl, Nat.le_of_ble_eq_true rfl⟩ hl rfl (Nat.le_of_ble_eq_true rfl) dX12_tellSend_45 ⟨Nat.le_refl _, Nat.le_refl _⟩ rfl (fun H locs k1000017 hW hS => ?_)
  refine r_iast C hW hS hm k1000013 dX12_tellSend_48 (fun dt1000018 H locs hm hW hS => ?_)
  refine lv_aload_n hx hb dX12_tellSend_49 rfl (lv_at hl 3 rfl) ?_
  refine r_getI C hW (ci := 12) kx0 ff_12_13 cl_12 fl_RX12_212 dX12_tellSend_50 ?_
  refine q_ifc hm (fun c1000019 hm => ?_) (fun c1000019 hm => ?_)
  · refine lv_if_ne (tgt := 64) hx hb dX12_tellSend_53 (by decide) (fun h => absurd c1000019 h) (fun _ => ?_)
    refine lv_iload_n hx hb dX12_tellSend_56 rfl (lv_at hl 0 rfl) ?_
    refine q_ifc hm (fun c1000020 hm => ?_) (fun c1000020 hm => ?_)
    · refine lv_if_lt (tgt := 64) hx hb dX12_tellSend_57 (by decide) (fun _ => ?_) (fun h => absurd c1000020 h)
      exact hB64 x0 v1000002 v1000004 v1000008 kx0 dt1000018 _ _ _ hm hW hS (lv_sub hl [3, 2, 1, 0] rfl)
    refine lv_if_lt (tgt := 64) hx hb dX12_tellSend_57 (by decide) (fun h => absurd h c1000020) (fun _ => ?_)
    refine lv_iconst (v := 1) hx hb dX12_tellSend_60 (by decide) ?_
    refine lv_goto (tgt := 65) hx hb dX12_tellSend_61 (by decide) ?_
    exact hB65 x0 v1000002 v1000004 v1000008 1 kx0 dt1000018 _ _ _ hm hW hS (lv_sub hl [3, 2, 1, 0] rfl)
  refine lv_if_ne (tgt := 64) hx hb dX12_tellSend_53 (by decide) (fun _ => ?_) (fun h => absurd h c1000019)
  exact hB64 x0 v1000002 v1000004 v1000008 kx0 dt1000018 _ _ _ hm hW hS (lv_sub hl [3, 2, 1, 0] rfl)
theorem dX12_tellEcho_0 : decode cX12_tellEcho 0 = .ok (.bipush 6, 2) := by decide +kernel
theorem dX12_tellEcho_2 : decode cX12_tellEcho 2 = .ok (.aload_n 0, 1) := by decide +kernel
theorem dX12_tellEcho_3 : decode cX12_tellEcho 3 = .ok (.getfield 245, 3) := by decide +kernel
theorem dX12_tellEcho_6 : decode cX12_tellEcho 6 = .ok (.imul, 1) := by decide +kernel
theorem dX12_tellEcho_7 : decode cX12_tellEcho 7 = .ok (.aload_n 0, 1) := by decide +kernel
theorem dX12_tellEcho_8 : decode cX12_tellEcho 8 = .ok (.getfield 91, 3) := by decide +kernel
theorem dX12_tellEcho_11 : decode cX12_tellEcho 11 = .ok (.aload_n 0, 1) := by decide +kernel
theorem dX12_tellEcho_12 : decode cX12_tellEcho 12 = .ok (.getfield 245, 3) := by decide +kernel
theorem dX12_tellEcho_15 : decode cX12_tellEcho 15 = .ok (.iaload, 1) := by decide +kernel
theorem dX12_tellEcho_16 : decode cX12_tellEcho 16 = .ok (.iadd, 1) := by decide +kernel
theorem dX12_tellEcho_17 : decode cX12_tellEcho 17 = .ok (.istore_n 1, 1) := by decide +kernel
theorem dX12_tellEcho_18 : decode cX12_tellEcho 18 = .ok (.aload_n 0, 1) := by decide +kernel
theorem dX12_tellEcho_19 : decode cX12_tellEcho 19 = .ok (.getfield 94, 3) := by decide +kernel
theorem dX12_tellEcho_22 : decode cX12_tellEcho 22 = .ok (.iload_n 1, 1) := by decide +kernel
theorem dX12_tellEcho_23 : decode cX12_tellEcho 23 = .ok (.aload_n 0, 1) := by decide +kernel
theorem dX12_tellEcho_24 : decode cX12_tellEcho 24 = .ok (.iconst 2, 1) := by decide +kernel
theorem dX12_tellEcho_25 : decode cX12_tellEcho 25 = .ok (.invokevirtual 315, 3) := by decide +kernel
theorem dX12_tellEcho_28 : decode cX12_tellEcho 28 = .ok (.iastore, 1) := by decide +kernel
theorem dX12_tellEcho_29 : decode cX12_tellEcho 29 = .ok (.aload_n 0, 1) := by decide +kernel
theorem dX12_tellEcho_30 : decode cX12_tellEcho 30 = .ok (.getfield 97, 3) := by decide +kernel
theorem dX12_tellEcho_33 : decode cX12_tellEcho 33 = .ok (.iload_n 1, 1) := by decide +kernel
theorem dX12_tellEcho_34 : decode cX12_tellEcho 34 = .ok (.aload_n 0, 1) := by decide +kernel
theorem dX12_tellEcho_35 : decode cX12_tellEcho 35 = .ok (.iconst 1, 1) := by decide +kernel
theorem dX12_tellEcho_36 : decode cX12_tellEcho 36 = .ok (.bipush 99, 2) := by decide +kernel
theorem dX12_tellEcho_38 : decode cX12_tellEcho 38 = .ok (.invokevirtual 276, 3) := by decide +kernel
theorem dX12_tellEcho_41 : decode cX12_tellEcho 41 = .ok (.iastore, 1) := by decide +kernel
theorem dX12_tellEcho_42 : decode cX12_tellEcho 42 = .ok (.aload_n 0, 1) := by decide +kernel
theorem dX12_tellEcho_43 : decode cX12_tellEcho 43 = .ok (.getfield 212, 3) := by decide +kernel
theorem dX12_tellEcho_46 : decode cX12_tellEcho 46 = .ok (.ifCond .ne 15, 3) := by decide +kernel
theorem dX12_tellEcho_49 : decode cX12_tellEcho 49 = .ok (.aload_n 0, 1) := by decide +kernel
theorem dX12_tellEcho_50 : decode cX12_tellEcho 50 = .ok (.iconst 5, 1) := by decide +kernel
theorem dX12_tellEcho_51 : decode cX12_tellEcho 51 = .ok (.invokevirtual 230, 3) := by decide +kernel
theorem dX12_tellEcho_54 : decode cX12_tellEcho 54 = .ok (.ifCond .eq 7, 3) := by decide +kernel
theorem dX12_tellEcho_57 : decode cX12_tellEcho 57 = .ok (.iconst 1, 1) := by decide +kernel
theorem dX12_tellEcho_58 : decode cX12_tellEcho 58 = .ok (.goto 4, 3) := by decide +kernel
theorem dX12_tellEcho_61 : decode cX12_tellEcho 61 = .ok (.iconst 0, 1) := by decide +kernel
theorem dX12_tellEcho_62 : decode cX12_tellEcho 62 = .ok (.istore_n 2, 1) := by decide +kernel
theorem dX12_tellEcho_63 : decode cX12_tellEcho 63 = .ok (.iload_n 2, 1) := by decide +kernel
theorem dX12_tellEcho_64 : decode cX12_tellEcho 64 = .ok (.ifCond .eq 7, 3) := by decide +kernel
theorem dX12_tellEcho_67 : decode cX12_tellEcho 67 = .ok (.aload_n 0, 1) := by decide +kernel
theorem dX12_tellEcho_68 : decode cX12_tellEcho 68 = .ok (.invokevirtual 233, 3) := by decide +kernel
theorem dX12_tellEcho_71 : decode cX12_tellEcho 71 = .ok (.aload_n 0, 1) := by decide +kernel
theorem dX12_tellEcho_72 : decode cX12_tellEcho 72 = .ok (.iconst 1, 1) := by decide +kernel
theorem dX12_tellEcho_73 : decode cX12_tellEcho 73 = .ok (.bipush 99, 2) := by decide +kernel
theorem dX12_tellEcho_75 : decode cX12_tellEcho 75 = .ok (.invokevirtual 276, 3) := by decide +kernel
theorem dX12_tellEcho_78 : decode cX12_tellEcho 78 = .ok (.istore_n 3, 1) := by decide +kernel
theorem dX12_tellEcho_79 : decode cX12_tellEcho 79 = .ok (.aload_n 0, 1) := by decide +kernel
theorem dX12_tellEcho_80 : decode cX12_tellEcho 80 = .ok (.getfield 100, 3) := by decide +kernel
theorem dX12_tellEcho_83 : decode cX12_tellEcho 83 = .ok (.iload_n 1, 1) := by decide +kernel
theorem dX12_tellEcho_84 : decode cX12_tellEcho 84 = .ok (.iload_n 2, 1) := by decide +kernel
theorem dX12_tellEcho_85 : decode cX12_tellEcho 85 = .ok (.ifCond .eq 8, 3) := by decide +kernel
theorem dX12_tellEcho_88 : decode cX12_tellEcho 88 = .ok (.iload_n 3, 1) := by decide +kernel
theorem dX12_tellEcho_89 : decode cX12_tellEcho 89 = .ok (.ineg, 1) := by decide +kernel
theorem dX12_tellEcho_90 : decode cX12_tellEcho 90 = .ok (.goto 4, 3) := by decide +kernel
theorem dX12_tellEcho_93 : decode cX12_tellEcho 93 = .ok (.iload_n 3, 1) := by decide +kernel
theorem dX12_tellEcho_94 : decode cX12_tellEcho 94 = .ok (.iastore, 1) := by decide +kernel
theorem dX12_tellEcho_95 : decode cX12_tellEcho 95 = .ok (.aload_n 0, 1) := by decide +kernel
theorem dX12_tellEcho_96 : decode cX12_tellEcho 96 = .ok (.iconst 4, 1) := by decide +kernel
theorem dX12_tellEcho_97 : decode cX12_tellEcho 97 = .ok (.invokevirtual 280, 3) := by decide +kernel
theorem dX12_tellEcho_100 : decode cX12_tellEcho 100 = .ok (.aload_n 0, 1) := by decide +kernel
theorem dX12_tellEcho_101 : decode cX12_tellEcho 101 = .ok (.getfield 212, 3) := by decide +kernel
theorem dX12_tellEcho_104 : decode cX12_tellEcho 104 = .ok (.ifCond .ne 16, 3) := by decide +kernel
theorem dX12_tellEcho_107 : decode cX12_tellEcho 107 = .ok (.aload_n 0, 1) := by decide +kernel
theorem dX12_tellEcho_108 : decode cX12_tellEcho 108 = .ok (.getfield 91, 3) := by decide +kernel
theorem dX12_tellEcho_111 : decode cX12_tellEcho 111 = .ok (.aload_n 0, 1) := by decide +kernel
theorem dX12_tellEcho_112 : decode cX12_tellEcho 112 = .ok (.getfield 245, 3) := by decide +kernel
theorem dX12_tellEcho_115 : decode cX12_tellEcho 115 = .ok (.dup2, 1) := by decide +kernel
theorem dX12_tellEcho_116 : decode cX12_tellEcho 116 = .ok (.iaload, 1) := by decide +kernel
theorem dX12_tellEcho_117 : decode cX12_tellEcho 117 = .ok (.iconst 1, 1) := by decide +kernel
theorem dX12_tellEcho_118 : decode cX12_tellEcho 118 = .ok (.iadd, 1) := by decide +kernel
theorem dX12_tellEcho_119 : decode cX12_tellEcho 119 = .ok (.iastore, 1) := by decide +kernel
theorem dX12_tellEcho_120 : decode cX12_tellEcho 120 = .ok (.return_, 1) := by decide +kernel
set_option maxRecDepth 100000 in
theorem c_X12_tellEcho (l : Launch) (D : q_D) (al : q_Al) (dt : q_Dt) (x0 : Nat) (kx0 : al.1 x0 = 13) (dt0 : q_Dt) (hm : X12_tellEcho al dt x0 = some dt0) : q_Mt l yX12_tellEcho cX12_tellEcho 4 (none) 4 85 D al [.ref x0] dt 0 none dt0 := by
  refine q_Mt.of (by decide) (Nat.le_of_ble_eq_true rfl) ?_
  intro p e s m args below meth c ls C hargs hW hl
  have hx := C.1
  have hb := C.2.1
  have hown := C.2.2.2.2.2.1
  have hts := C.2.2.2.2.2.2.1
  have hS : va_S (q_A al) s.heap s.heap [] := va_S.rf
  have hl : lv_has ls 4 [(0, .ref x0)] := hl
  unfold X12_tellEcho at hm
  have hB94 : ∀ (x0_94 : Nat) (t0_94 : Nat) (t1_94 : Int32) (t2_94 : Int32) (kx0_94 : al.1 x0_94 = 13) (kt0_94 : al.1 t0_94 = 21) (dt : q_Dt) (H : Heap) (locs : List Loc) (ls : Array Slot) (hm : X12_tellEcho_b94 al x0_94 t0_94 t1_94 t2_94 dt = some dt0) (hW : q_W D al dt H) (hS : va_S (q_A al) s.heap H locs) (hl : lv_has ls 4 [(0, .ref x0_94)]), W p l e { frames := 4, cells := 0, slots := 0, locals := 85 } s m args below meth c H locs 0 0 (MQ below (q_Q none (fun H => q_W D al dt0 H ∧ q_Rk al 0 none) (q_A al)) args s 0 0 (q_A al)) (F0 m 94 ls [.int t2_94, .int t1_94, .ref t0_94]) := by
    intro x0_94 t0_94 t1_94 t2_94 kx0_94 kt0_94 dt H locs ls hm hW hS hl
    unfold X12_tellEcho_b94 at hm
    refine r_iast C hW hS hm kt0_94 dX12_tellEcho_94 (fun dt94001 H locs hm hW hS => ?_)
    refine lv_aload_n hx hb dX12_tellEcho_95 rfl (lv_at hl 0 rfl) ?_
    refine lv_iconst (v := 4) hx hb dX12_tellEcho_96 (by decide) ?_
    obtain ⟨dt94003, hc94002, hm⟩ := q_b1i hm
    refine q_callV C hW hS (As := [.int 4]) (rest := []) (st1 := []) (c_X12_must l D al dt94001 x0_94 4 kx0_94 dt94003 hc94002) yl_X12_must vl_X12_must ml_RX12_280 (ci := 12) rfl kx0_94 (by decide) rfl ⟨Nat.le_of_ble_eq_true rfl, Nat.le_of_ble_eq_true rfl⟩ hl rfl (Nat.le_of_ble_eq_true rfl) dX12_tellEcho_97 ⟨Nat.le_refl _, Nat.le_refl _⟩ rfl (fun H locs k94004 hW hS => ?_)
    refine lv_aload_n hx hb dX12_tellEcho_100 rfl (lv_at hl 0 rfl) ?_
    refine r_getI C hW (ci := 12) kx0_94 ff_12_13 cl_12 fl_RX12_212 dX12_tellEcho_101 ?_
    refine q_ifc hm (fun c94005 hm => ?_) (fun c94005 hm => ?_)
    · refine lv_if_ne (tgt := 120) hx hb dX12_tellEcho_104 (by decide) (fun h => absurd c94005 h) (fun _ => ?_)
      refine lv_aload_n hx hb dX12_tellEcho_107 rfl (lv_at hl 0 rfl) ?_
      refine r_getF C hW (ci := 12) kx0_94 ff_12_38 cl_12 fl_RX12_91 dX12_tellEcho_108 (fun k94006 => ?_)
      refine lv_aload_n hx hb dX12_tellEcho_111 rfl (lv_at hl 0 rfl) ?_
      refine r_getI C hW (ci := 12) kx0_94 ff_12_19 cl_12 fl_RX12_245 dX12_tellEcho_112 ?_
      refine lv_dup2_11 hx hb dX12_tellEcho_115 rfl rfl ?_
      refine r_iald C hW hm k94006 dX12_tellEcho_116 (fun hm => ?_)
      refine lv_iconst (v := 1) hx hb dX12_tellEcho_117 (by decide) ?_
      refine lv_iadd hx hb dX12_tellEcho_118 ?_
      refine r_iast C hW hS hm k94006 dX12_tellEcho_119 (fun dt94007 H locs hm hW hS => ?_)
      exact e_vD C hW hS hm dX12_tellEcho_120
    refine lv_if_ne (tgt := 120) hx hb dX12_tellEcho_104 (by decide) (fun _ => ?_) (fun h => absurd h c94005)
    exact e_vD C hW hS hm dX12_tellEcho_120
  have hB71 : ∀ (x0_71 : Nat) (x1_71 : Int32) (x2_71 : Int32) (kx0_71 : al.1 x0_71 = 13) (dt : q_Dt) (H : Heap) (locs : List Loc) (ls : Array Slot) (hm : X12_tellEcho_b71 al x0_71 x1_71 x2_71 dt = some dt0) (hW : q_W D al dt H) (hS : va_S (q_A al) s.heap H locs) (hl : lv_has ls 4 [(0, .ref x0_71), (1, .int x1_71), (2, .int x2_71)]), W p l e { frames := 4, cells := 0, slots := 0, locals := 85 } s m args below meth c H locs 0 0 (MQ below (q_Q none (fun H => q_W D al dt0 H ∧ q_Rk al 0 none) (q_A al)) args s 0 0 (q_A al)) (F0 m 71 ls []) := by
    intro x0_71 x1_71 x2_71 kx0_71 dt H locs ls hm hW hS hl
    unfold X12_tellEcho_b71 at hm
    refine lv_aload_n hx hb dX12_tellEcho_71 rfl (lv_at hl 0 rfl) ?_
    refine lv_iconst (v := 1) hx hb dX12_tellEcho_72 (by decide) ?_
    refine lv_bipush (v := 99) hx hb dX12_tellEcho_73 (by decide) ?_
    obtain ⟨v71002, dt71003, hc71001, hm⟩ := q_b2i hm
    refine q_callV C hW hS (As := [.int 1, .int 99]) (rest := []) (st1 := [.int v71002]) (c_X12_bounded l D al dt x0_71 1 99 kx0_71 v71002 dt71003 hc71001) yl_X12_bounded vl_X12_bounded ml_RX12_276 (ci := 12) rfl kx0_71 (by decide) rfl ⟨Nat.le_of_ble_eq_true rfl, Nat.le_of_ble_eq_true rfl⟩ hl rfl (Nat.le_of_ble_eq_true rfl) dX12_tellEcho_75 ⟨Nat.le_refl _, Nat.le_refl _⟩ rfl (fun H locs k71004 hW hS => ?_)
    refine lv_istore_n (i := 3) (lv' := [(3, .int v71002), (0, .ref x0_71), (1, .int x1_71), (2, .int x2_71)]) hx hb dX12_tellEcho_78 rfl hl (by decide) rfl (fun ls hl => ?_)
    refine lv_aload_n hx hb dX12_tellEcho_79 rfl (lv_at hl 1 rfl) ?_
    refine r_getF C hW (ci := 12) kx0_71 ff_12_41 cl_12 fl_RX12_100 dX12_tellEcho_80 (fun k71005 => ?_)
    refine lv_iload_n hx hb dX12_tellEcho_83 rfl (lv_at hl 2 rfl) ?_
    refine lv_iload_n hx hb dX12_tellEcho_84 rfl (lv_at hl 3 rfl) ?_
    refine q_ifc hm (fun c71006 hm => ?_) (fun c71006 hm => ?_)
    · refine lv_if_eq (tgt := 93) hx hb dX12_tellEcho_85 (by decide) (fun _ => ?_) (fun h => absurd c71006 h)
      refine lv_iload_n hx hb dX12_tellEcho_93 rfl (lv_at hl 0 rfl) ?_
      exact hB94 x0_71 (al.2.2 x0_71 41) x1_71 v71002 kx0_71 k71005 dt71003 _ _ _ hm hW hS (lv_sub hl [1] rfl)
    refine lv_if_eq (tgt := 93) hx hb dX12_tellEcho_85 (by decide) (fun h => absurd h c71006) (fun _ => ?_)
    refine lv_iload_n hx hb dX12_tellEcho_88 rfl (lv_at hl 0 rfl) ?_
    refine lv_ineg hx hb dX12_tellEcho_89 ?_
    refine lv_goto (tgt := 94) hx hb dX12_tellEcho_90 (by decide) ?_
    exact hB94 x0_71 (al.2.2 x0_71 41) x1_71 (-v71002) kx0_71 k71005 dt71003 _ _ _ hm hW hS (lv_sub hl [1] rfl)
  have hB62 : ∀ (x0_62 : Nat) (x1_62 : Int32) (t0_62 : Int32) (kx0_62 : al.1 x0_62 = 13) (dt : q_Dt) (H : Heap) (locs : List Loc) (ls : Array Slot) (hm : X12_tellEcho_b62 al x0_62 x1_62 t0_62 dt = some dt0) (hW : q_W D al dt H) (hS : va_S (q_A al) s.heap H locs) (hl : lv_has ls 4 [(0, .ref x0_62), (1, .int x1_62)]), W p l e { frames := 4, cells := 0, slots := 0, locals := 85 } s m args below meth c H locs 0 0 (MQ below (q_Q none (fun H => q_W D al dt0 H ∧ q_Rk al 0 none) (q_A al)) args s 0 0 (q_A al)) (F0 m 62 ls [.int t0_62]) := by
    intro x0_62 x1_62 t0_62 kx0_62 dt H locs ls hm hW hS hl
    unfold X12_tellEcho_b62 at hm
    refine lv_istore_n (i := 2) (lv' := [(2, .int t0_62), (0, .ref x0_62), (1, .int x1_62)]) hx hb dX12_tellEcho_62 rfl hl (by decide) rfl (fun ls hl => ?_)
    refine lv_iload_n hx hb dX12_tellEcho_63 rfl (lv_at hl 0 rfl) ?_
    refine q_ifc hm (fun c62001 hm => ?_) (fun c62001 hm => ?_)
    · refine lv_if_eq (tgt := 71) hx hb dX12_tellEcho_64 (by decide) (fun _ => ?_) (fun h => absurd c62001 h)
      exact hB71 x0_62 x1_62 t0_62 kx0_62 dt _ _ _ hm hW hS (lv_sub hl [1, 2, 0] rfl)
    refine lv_if_eq (tgt := 71) hx hb dX12_tellEcho_64 (by decide) (fun h => absurd h c62001) (fun _ => ?_)
    refine lv_aload_n hx hb dX12_tellEcho_67 rfl (lv_at hl 1 rfl) ?_
    obtain ⟨dt62003, hc62002, hm⟩ := q_b1i hm
    refine q_callV C hW hS (As := []) (rest := []) (st1 := []) (c_X12_goesOn l D al dt x0_62 kx0_62 dt62003 hc62002) yl_X12_goesOn vl_X12_goesOn ml_RX12_233 (ci := 12) rfl kx0_62 (by decide) rfl ⟨Nat.le_of_ble_eq_true rfl, Nat.le_of_ble_eq_true rfl⟩ hl rfl (Nat.le_of_ble_eq_true rfl) dX12_tellEcho_68 ⟨Nat.le_refl _, Nat.le_refl _⟩ rfl (fun H locs k62004 hW hS => ?_)
    exact hB71 x0_62 x1_62 t0_62 kx0_62 dt62003 _ _ _ hm hW hS (lv_sub hl [1, 2, 0] rfl)
  have hB61 : ∀ (x0_61 : Nat) (x1_61 : Int32) (kx0_61 : al.1 x0_61 = 13) (dt : q_Dt) (H : Heap) (locs : List Loc) (ls : Array Slot) (hm : X12_tellEcho_b61 al x0_61 x1_61 dt = some dt0) (hW : q_W D al dt H) (hS : va_S (q_A al) s.heap H locs) (hl : lv_has ls 4 [(0, .ref x0_61), (1, .int x1_61)]), W p l e { frames := 4, cells := 0, slots := 0, locals := 85 } s m args below meth c H locs 0 0 (MQ below (q_Q none (fun H => q_W D al dt0 H ∧ q_Rk al 0 none) (q_A al)) args s 0 0 (q_A al)) (F0 m 61 ls []) := by
    intro x0_61 x1_61 kx0_61 dt H locs ls hm hW hS hl
    unfold X12_tellEcho_b61 at hm
    refine lv_iconst (v := 0) hx hb dX12_tellEcho_61 (by decide) ?_
    exact hB62 x0_61 x1_61 0 kx0_61 dt _ _ _ hm hW hS (lv_sub hl [0, 1] rfl)
  refine lv_bipush (v := 6) hx hb dX12_tellEcho_0 (by decide) ?_
  refine lv_aload_n hx hb dX12_tellEcho_2 rfl (lv_at hl 0 rfl) ?_
  refine r_getI C hW (ci := 12) kx0 ff_12_19 cl_12 fl_RX12_245 dX12_tellEcho_3 ?_
  refine lv_imul hx hb dX12_tellEcho_6 ?_
  refine lv_aload_n hx hb dX12_tellEcho_7 rfl (lv_at hl 0 rfl) ?_
  refine r_getF C hW (ci := 12) kx0 ff_12_38 cl_12 fl_RX12_91 dX12_tellEcho_8 (fun k1000001 => ?_)
  refine lv_aload_n hx hb dX12_tellEcho_11 rfl (lv_at hl 0 rfl) ?_
  refine r_getI C hW (ci := 12) kx0 ff_12_19 cl_12 fl_RX12_245 dX12_tellEcho_12 ?_
  refine r_iald C hW hm k1000001 dX12_tellEcho_15 (fun hm => ?_)
  refine lv_iadd hx hb dX12_tellEcho_16 ?_
  refine q_nmI hm (fun v1000002 ev1000002 hm => ?_)
  refine lv_istore_n (i := 1) (lv' := [(1, .int v1000002), (0, .ref x0)]) hx hb dX12_tellEcho_17 rfl hl (by decide) rfl (fun ls hl => ?_)
  refine lv_aload_n hx hb dX12_tellEcho_18 rfl (lv_at hl 1 rfl) ?_
  refine r_getF C hW (ci := 12) kx0 ff_12_39 cl_12 fl_RX12_94 dX12_tellEcho_19 (fun k1000003 => ?_)
  refine lv_iload_n hx hb dX12_tellEcho_22 rfl (lv_at hl 0 rfl) ?_
  refine lv_aload_n hx hb dX12_tellEcho_23 rfl (lv_at hl 1 rfl) ?_
  refine lv_iconst (v := 2) hx hb dX12_tellEcho_24 (by decide) ?_
  obtain ⟨v1000005, dt1000006, hc1000004, hm⟩ := q_b2i hm
  refine q_callV C hW hS (As := [.int 2]) (rest := [.int v1000002, .ref (al.2.2 x0 39)]) (st1 := [.int v1000005, .int v1000002, .ref (al.2.2 x0 39)]) (c_X12_known l D al dt x0 2 kx0 v1000005 dt1000006 hc1000004) yl_X12_known vl_X12_known ml_RX12_315 (ci := 12) rfl kx0 (by decide) rfl ⟨Nat.le_of_ble_eq_true rfl, Nat.le_of_ble_eq_true rfl⟩ hl rfl (Nat.le_of_ble_eq_true rfl) dX12_tellEcho_25 ⟨Nat.le_refl _, Nat.le_refl _⟩ rfl (fun H locs k1000007 hW hS => ?_)
  refine r_iast C hW hS hm k1000003 dX12_tellEcho_28 (fun dt1000008 H locs hm hW hS => ?_)
  refine lv_aload_n hx hb dX12_tellEcho_29 rfl (lv_at hl 1 rfl) ?_
  refine r_getF C hW (ci := 12) kx0 ff_12_40 cl_12 fl_RX12_97 dX12_tellEcho_30 (fun k1000009 => ?_)
  refine lv_iload_n hx hb dX12_tellEcho_33 rfl (lv_at hl 0 rfl) ?_
  refine lv_aload_n hx hb dX12_tellEcho_34 rfl (lv_at hl 1 rfl) ?_
  refine lv_iconst (v := 1) hx hb dX12_tellEcho_35 (by decide) ?_
  refine lv_bipush (v := 99) hx hb dX12_tellEcho_36 (by decide) ?_
  obtain ⟨v1000011, dt1000012, hc1000010, hm⟩ := q_b2i hm
  refine q_callV C hW hS (As := [.int 1, .int 99]) (rest := [.int v1000002, .ref (al.2.2 x0 40)]) (st1 := [.int v1000011, .int v1000002, .ref (al.2.2 x0 40)]) (c_X12_bounded l D al dt1000008 x0 1 99 kx0 v1000011 dt1000012 hc1000010) yl_X12_bounded vl_X12_bounded ml_RX12_276 (ci := 12) rfl kx0 (by decide) rfl ⟨Nat.le_of_ble_eq_true rfl, Nat.le_of_ble_eq_true rfl⟩ hl rfl (Nat.le_of_ble_eq_true rfl) dX12_tellEcho_38 ⟨Nat.le_refl _, Nat.le_refl _⟩ rfl (fun H locs k1000013 hW hS => ?_)
  refine r_iast C hW hS hm k1000009 dX12_tellEcho_41 (fun dt1000014 H locs hm hW hS => ?_)
  refine lv_aload_n hx hb dX12_tellEcho_42 rfl (lv_at hl 1 rfl) ?_
  refine r_getI C hW (ci := 12) kx0 ff_12_13 cl_12 fl_RX12_212 dX12_tellEcho_43 ?_
  refine q_ifc hm (fun c1000015 hm => ?_) (fun c1000015 hm => ?_)
  · refine lv_if_ne (tgt := 61) hx hb dX12_tellEcho_46 (by decide) (fun h => absurd c1000015 h) (fun _ => ?_)
    refine lv_aload_n hx hb dX12_tellEcho_49 rfl (lv_at hl 1 rfl) ?_
    refine lv_iconst (v := 5) hx hb dX12_tellEcho_50 (by decide) ?_
    obtain ⟨v1000017, hc1000016, hm⟩ := q_b1i hm
    refine q_callV C hW hS (As := [.int 5]) (rest := []) (st1 := [.int v1000017]) (c_X12_is l D al dt1000014 x0 5 kx0 v1000017 hc1000016) yl_X12_is vl_X12_is ml_RX12_230 (ci := 12) rfl kx0 (by decide) rfl ⟨Nat.le_of_ble_eq_true rfl, Nat.le_of_ble_eq_true rfl⟩ hl rfl (Nat.le_of_ble_eq_true rfl) dX12_tellEcho_51 ⟨Nat.le_refl _, Nat.le_refl _⟩ rfl (fun H locs k1000018 hW hS => ?_)
    refine q_ifc hm (fun c1000019 hm => ?_) (fun c1000019 hm => ?_)
    · refine lv_if_eq (tgt := 61) hx hb dX12_tellEcho_54 (by decide) (fun _ => ?_) (fun h => absurd c1000019 h)
      exact hB61 x0 v1000002 kx0 dt1000014 _ _ _ hm hW hS (lv_sub hl [1, 0] rfl)
    refine lv_if_eq (tgt := 61) hx hb dX12_tellEcho_54 (by decide) (fun h => absurd h c1000019) (fun _ => ?_)
    refine lv_iconst (v := 1) hx hb dX12_tellEcho_57 (by decide) ?_
    refine lv_goto (tgt := 62) hx hb dX12_tellEcho_58 (by decide) ?_
    exact hB62 x0 v1000002 1 kx0 dt1000014 _ _ _ hm hW hS (lv_sub hl [1, 0] rfl)
  refine lv_if_ne (tgt := 61) hx hb dX12_tellEcho_46 (by decide) (fun _ => ?_) (fun h => absurd h c1000015)
  exact hB61 x0 v1000002 kx0 dt1000014 _ _ _ hm hW hS (lv_sub hl [1, 0] rfl)
