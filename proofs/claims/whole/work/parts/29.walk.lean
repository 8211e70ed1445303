theorem dX12_sumsUp_0 : decode cX12_sumsUp 0 = .ok (.iconst 0, 1) := by decide +kernel
theorem dX12_sumsUp_1 : decode cX12_sumsUp 1 = .ok (.istore 4, 2) := by decide +kernel
theorem dX12_sumsUp_3 : decode cX12_sumsUp 3 = .ok (.iload 4, 2) := by decide +kernel
theorem dX12_sumsUp_5 : decode cX12_sumsUp 5 = .ok (.sipush 512, 3) := by decide +kernel
theorem dX12_sumsUp_8 : decode cX12_sumsUp 8 = .ok (.if_icmp .ge 25, 3) := by decide +kernel
theorem dX12_sumsUp_11 : decode cX12_sumsUp 11 = .ok (.aload_n 0, 1) := by decide +kernel
theorem dX12_sumsUp_12 : decode cX12_sumsUp 12 = .ok (.getfield 158, 3) := by decide +kernel
theorem dX12_sumsUp_15 : decode cX12_sumsUp 15 = .ok (.iload 4, 2) := by decide +kernel
theorem dX12_sumsUp_17 : decode cX12_sumsUp 17 = .ok (.lconst 0, 1) := by decide +kernel
theorem dX12_sumsUp_18 : decode cX12_sumsUp 18 = .ok (.lastore, 1) := by decide +kernel
theorem dX12_sumsUp_19 : decode cX12_sumsUp 19 = .ok (.aload_n 0, 1) := by decide +kernel
theorem dX12_sumsUp_20 : decode cX12_sumsUp 20 = .ok (.getfield 161, 3) := by decide +kernel
theorem dX12_sumsUp_23 : decode cX12_sumsUp 23 = .ok (.iload 4, 2) := by decide +kernel
theorem dX12_sumsUp_25 : decode cX12_sumsUp 25 = .ok (.iconst 0, 1) := by decide +kernel
theorem dX12_sumsUp_26 : decode cX12_sumsUp 26 = .ok (.bastore, 1) := by decide +kernel
theorem dX12_sumsUp_27 : decode cX12_sumsUp 27 = .ok (.iinc 4 1, 3) := by decide +kernel
theorem dX12_sumsUp_30 : decode cX12_sumsUp 30 = .ok (.goto (-27), 3) := by decide +kernel
theorem dX12_sumsUp_33 : decode cX12_sumsUp 33 = .ok (.iconst 0, 1) := by decide +kernel
theorem dX12_sumsUp_34 : decode cX12_sumsUp 34 = .ok (.istore 4, 2) := by decide +kernel
theorem dX12_sumsUp_36 : decode cX12_sumsUp 36 = .ok (.iload 4, 2) := by decide +kernel
theorem dX12_sumsUp_38 : decode cX12_sumsUp 38 = .ok (.aload_n 0, 1) := by decide +kernel
theorem dX12_sumsUp_39 : decode cX12_sumsUp 39 = .ok (.invokevirtual 342, 3) := by decide +kernel
theorem dX12_sumsUp_42 : decode cX12_sumsUp 42 = .ok (.if_icmp .ge 226, 3) := by decide +kernel
theorem dX12_sumsUp_45 : decode cX12_sumsUp 45 = .ok (.aload_n 0, 1) := by decide +kernel
theorem dX12_sumsUp_46 : decode cX12_sumsUp 46 = .ok (.iload_n 2, 1) := by decide +kernel
theorem dX12_sumsUp_47 : decode cX12_sumsUp 47 = .ok (.iload 4, 2) := by decide +kernel
theorem dX12_sumsUp_49 : decode cX12_sumsUp 49 = .ok (.invokevirtual 345, 3) := by decide +kernel
theorem dX12_sumsUp_52 : decode cX12_sumsUp 52 = .ok (.istore 5, 2) := by decide +kernel
theorem dX12_sumsUp_54 : decode cX12_sumsUp 54 = .ok (.iload 5, 2) := by decide +kernel
theorem dX12_sumsUp_56 : decode cX12_sumsUp 56 = .ok (.ifCond .ge 6, 3) := by decide +kernel
theorem dX12_sumsUp_59 : decode cX12_sumsUp 59 = .ok (.goto 203, 3) := by decide +kernel
theorem dX12_sumsUp_62 : decode cX12_sumsUp 62 = .ok (.aload_n 0, 1) := by decide +kernel
theorem dX12_sumsUp_63 : decode cX12_sumsUp 63 = .ok (.getfield 161, 3) := by decide +kernel
theorem dX12_sumsUp_66 : decode cX12_sumsUp 66 = .ok (.iload 5, 2) := by decide +kernel
theorem dX12_sumsUp_68 : decode cX12_sumsUp 68 = .ok (.iconst 1, 1) := by decide +kernel
theorem dX12_sumsUp_69 : decode cX12_sumsUp 69 = .ok (.bastore, 1) := by decide +kernel
theorem dX12_sumsUp_70 : decode cX12_sumsUp 70 = .ok (.aload_n 0, 1) := by decide +kernel
theorem dX12_sumsUp_71 : decode cX12_sumsUp 71 = .ok (.iload_n 2, 1) := by decide +kernel
theorem dX12_sumsUp_72 : decode cX12_sumsUp 72 = .ok (.iload 4, 2) := by decide +kernel
theorem dX12_sumsUp_74 : decode cX12_sumsUp 74 = .ok (.invokevirtual 351, 3) := by decide +kernel
theorem dX12_sumsUp_77 : decode cX12_sumsUp 77 = .ok (.ifCond .eq 9, 3) := by decide +kernel
theorem dX12_sumsUp_80 : decode cX12_sumsUp 80 = .ok (.sipush 512, 3) := by decide +kernel
theorem dX12_sumsUp_83 : decode cX12_sumsUp 83 = .ok (.goto 4, 3) := by decide +kernel
theorem dX12_sumsUp_86 : decode cX12_sumsUp 86 = .ok (.iconst 0, 1) := by decide +kernel
theorem dX12_sumsUp_87 : decode cX12_sumsUp 87 = .ok (.istore 6, 2) := by decide +kernel
theorem dX12_sumsUp_89 : decode cX12_sumsUp 89 = .ok (.aload_n 0, 1) := by decide +kernel
theorem dX12_sumsUp_90 : decode cX12_sumsUp 90 = .ok (.iload_n 2, 1) := by decide +kernel
theorem dX12_sumsUp_91 : decode cX12_sumsUp 91 = .ok (.iload 4, 2) := by decide +kernel
theorem dX12_sumsUp_93 : decode cX12_sumsUp 93 = .ok (.invokevirtual 348, 3) := by decide +kernel
theorem dX12_sumsUp_96 : decode cX12_sumsUp 96 = .ok (.istore 7, 2) := by decide +kernel
theorem dX12_sumsUp_98 : decode cX12_sumsUp 98 = .ok (.iload_n 3, 1) := by decide +kernel
theorem dX12_sumsUp_99 : decode cX12_sumsUp 99 = .ok (.ifCond .ne 28, 3) := by decide +kernel
theorem dX12_sumsUp_102 : decode cX12_sumsUp 102 = .ok (.aload_n 0, 1) := by decide +kernel
theorem dX12_sumsUp_103 : decode cX12_sumsUp 103 = .ok (.getfield 158, 3) := by decide +kernel
theorem dX12_sumsUp_106 : decode cX12_sumsUp 106 = .ok (.iload 5, 2) := by decide +kernel
theorem dX12_sumsUp_108 : decode cX12_sumsUp 108 = .ok (.dup2, 1) := by decide +kernel
theorem dX12_sumsUp_109 : decode cX12_sumsUp 109 = .ok (.laload, 1) := by decide +kernel
theorem dX12_sumsUp_110 : decode cX12_sumsUp 110 = .ok (.iload 7, 2) := by decide +kernel
theorem dX12_sumsUp_112 : decode cX12_sumsUp 112 = .ok (.i2l, 1) := by decide +kernel
theorem dX12_sumsUp_113 : decode cX12_sumsUp 113 = .ok (.aload_n 1, 1) := by decide +kernel
theorem dX12_sumsUp_114 : decode cX12_sumsUp 114 = .ok (.iload 6, 2) := by decide +kernel
theorem dX12_sumsUp_116 : decode cX12_sumsUp 116 = .ok (.iload 4, 2) := by decide +kernel
theorem dX12_sumsUp_118 : decode cX12_sumsUp 118 = .ok (.iadd, 1) := by decide +kernel
theorem dX12_sumsUp_119 : decode cX12_sumsUp 119 = .ok (.iaload, 1) := by decide +kernel
theorem dX12_sumsUp_120 : decode cX12_sumsUp 120 = .ok (.i2l, 1) := by decide +kernel
theorem dX12_sumsUp_121 : decode cX12_sumsUp 121 = .ok (.lmul, 1) := by decide +kernel
theorem dX12_sumsUp_122 : decode cX12_sumsUp 122 = .ok (.ladd, 1) := by decide +kernel
theorem dX12_sumsUp_123 : decode cX12_sumsUp 123 = .ok (.lastore, 1) := by decide +kernel
theorem dX12_sumsUp_124 : decode cX12_sumsUp 124 = .ok (.goto 138, 3) := by decide +kernel
theorem dX12_sumsUp_127 : decode cX12_sumsUp 127 = .ok (.aload_n 1, 1) := by decide +kernel
theorem dX12_sumsUp_128 : decode cX12_sumsUp 128 = .ok (.iload 6, 2) := by decide +kernel
theorem dX12_sumsUp_130 : decode cX12_sumsUp 130 = .ok (.iload 4, 2) := by decide +kernel
theorem dX12_sumsUp_132 : decode cX12_sumsUp 132 = .ok (.iadd, 1) := by decide +kernel
theorem dX12_sumsUp_133 : decode cX12_sumsUp 133 = .ok (.iaload, 1) := by decide +kernel
theorem dX12_sumsUp_134 : decode cX12_sumsUp 134 = .ok (.i2l, 1) := by decide +kernel
theorem dX12_sumsUp_135 : decode cX12_sumsUp 135 = .ok (.aload_n 0, 1) := by decide +kernel
theorem dX12_sumsUp_136 : decode cX12_sumsUp 136 = .ok (.getfield 76, 3) := by decide +kernel
theorem dX12_sumsUp_139 : decode cX12_sumsUp 139 = .ok (.bipush 6, 2) := by decide +kernel
theorem dX12_sumsUp_141 : decode cX12_sumsUp 141 = .ok (.aload_n 0, 1) := by decide +kernel
theorem dX12_sumsUp_142 : decode cX12_sumsUp 142 = .ok (.getfield 242, 3) := by decide +kernel
theorem dX12_sumsUp_145 : decode cX12_sumsUp 145 = .ok (.imul, 1) := by decide +kernel
theorem dX12_sumsUp_146 : decode cX12_sumsUp 146 = .ok (.iload_n 2, 1) := by decide +kernel
theorem dX12_sumsUp_147 : decode cX12_sumsUp 147 = .ok (.iadd, 1) := by decide +kernel
theorem dX12_sumsUp_148 : decode cX12_sumsUp 148 = .ok (.iaload, 1) := by decide +kernel
theorem dX12_sumsUp_149 : decode cX12_sumsUp 149 = .ok (.i2l, 1) := by decide +kernel
theorem dX12_sumsUp_150 : decode cX12_sumsUp 150 = .ok (.lmul, 1) := by decide +kernel
theorem dX12_sumsUp_151 : decode cX12_sumsUp 151 = .ok (.lstore 8, 2) := by decide +kernel
theorem dX12_sumsUp_153 : decode cX12_sumsUp 153 = .ok (.iconst 0, 1) := by decide +kernel
theorem dX12_sumsUp_154 : decode cX12_sumsUp 154 = .ok (.istore 10, 2) := by decide +kernel
theorem dX12_sumsUp_156 : decode cX12_sumsUp 156 = .ok (.iload 10, 2) := by decide +kernel
theorem dX12_sumsUp_158 : decode cX12_sumsUp 158 = .ok (.aload_n 0, 1) := by decide +kernel
theorem dX12_sumsUp_159 : decode cX12_sumsUp 159 = .ok (.getfield 91, 3) := by decide +kernel
theorem dX12_sumsUp_162 : decode cX12_sumsUp 162 = .ok (.aload_n 0, 1) := by decide +kernel
theorem dX12_sumsUp_163 : decode cX12_sumsUp 163 = .ok (.getfield 242, 3) := by decide +kernel
theorem dX12_sumsUp_166 : decode cX12_sumsUp 166 = .ok (.iaload, 1) := by decide +kernel
theorem dX12_sumsUp_167 : decode cX12_sumsUp 167 = .ok (.if_icmp .ge 79, 3) := by decide +kernel
theorem dX12_sumsUp_170 : decode cX12_sumsUp 170 = .ok (.bipush 6, 2) := by decide +kernel
theorem dX12_sumsUp_172 : decode cX12_sumsUp 172 = .ok (.aload_n 0, 1) := by decide +kernel
theorem dX12_sumsUp_173 : decode cX12_sumsUp 173 = .ok (.getfield 242, 3) := by decide +kernel
theorem dX12_sumsUp_176 : decode cX12_sumsUp 176 = .ok (.imul, 1) := by decide +kernel
theorem dX12_sumsUp_177 : decode cX12_sumsUp 177 = .ok (.iload 10, 2) := by decide +kernel
theorem dX12_sumsUp_179 : decode cX12_sumsUp 179 = .ok (.iadd, 1) := by decide +kernel
theorem dX12_sumsUp_180 : decode cX12_sumsUp 180 = .ok (.istore 11, 2) := by decide +kernel
theorem dX12_sumsUp_182 : decode cX12_sumsUp 182 = .ok (.aload_n 0, 1) := by decide +kernel
theorem dX12_sumsUp_183 : decode cX12_sumsUp 183 = .ok (.getfield 94, 3) := by decide +kernel
theorem dX12_sumsUp_186 : decode cX12_sumsUp 186 = .ok (.iload 11, 2) := by decide +kernel
theorem dX12_sumsUp_188 : decode cX12_sumsUp 188 = .ok (.iaload, 1) := by decide +kernel
theorem dX12_sumsUp_189 : decode cX12_sumsUp 189 = .ok (.iload_n 2, 1) := by decide +kernel
theorem dX12_sumsUp_190 : decode cX12_sumsUp 190 = .ok (.if_icmp .ne 50, 3) := by decide +kernel
theorem dX12_sumsUp_193 : decode cX12_sumsUp 193 = .ok (.iload 4, 2) := by decide +kernel
theorem dX12_sumsUp_195 : decode cX12_sumsUp 195 = .ok (.aload_n 0, 1) := by decide +kernel
theorem dX12_sumsUp_196 : decode cX12_sumsUp 196 = .ok (.getfield 97, 3) := by decide +kernel
theorem dX12_sumsUp_199 : decode cX12_sumsUp 199 = .ok (.iload 11, 2) := by decide +kernel
theorem dX12_sumsUp_201 : decode cX12_sumsUp 201 = .ok (.iaload, 1) := by decide +kernel
theorem dX12_sumsUp_202 : decode cX12_sumsUp 202 = .ok (.iadd, 1) := by decide +kernel
theorem dX12_sumsUp_203 : decode cX12_sumsUp 203 = .ok (.aload_n 0, 1) := by decide +kernel
theorem dX12_sumsUp_204 : decode cX12_sumsUp 204 = .ok (.invokevirtual 342, 3) := by decide +kernel
theorem dX12_sumsUp_207 : decode cX12_sumsUp 207 = .ok (.if_icmp .ge 33, 3) := by decide +kernel
theorem dX12_sumsUp_210 : decode cX12_sumsUp 210 = .ok (.lload 8, 2) := by decide +kernel
theorem dX12_sumsUp_212 : decode cX12_sumsUp 212 = .ok (.aload_n 1, 1) := by decide +kernel
theorem dX12_sumsUp_213 : decode cX12_sumsUp 213 = .ok (.iload 6, 2) := by decide +kernel
theorem dX12_sumsUp_215 : decode cX12_sumsUp 215 = .ok (.iload 4, 2) := by decide +kernel
theorem dX12_sumsUp_217 : decode cX12_sumsUp 217 = .ok (.iadd, 1) := by decide +kernel
theorem dX12_sumsUp_218 : decode cX12_sumsUp 218 = .ok (.aload_n 0, 1) := by decide +kernel
theorem dX12_sumsUp_219 : decode cX12_sumsUp 219 = .ok (.getfield 97, 3) := by decide +kernel
theorem dX12_sumsUp_222 : decode cX12_sumsUp 222 = .ok (.iload 11, 2) := by decide +kernel
theorem dX12_sumsUp_224 : decode cX12_sumsUp 224 = .ok (.iaload, 1) := by decide +kernel
theorem dX12_sumsUp_225 : decode cX12_sumsUp 225 = .ok (.iadd, 1) := by decide +kernel
theorem dX12_sumsUp_226 : decode cX12_sumsUp 226 = .ok (.iaload, 1) := by decide +kernel
theorem dX12_sumsUp_227 : decode cX12_sumsUp 227 = .ok (.i2l, 1) := by decide +kernel
theorem dX12_sumsUp_228 : decode cX12_sumsUp 228 = .ok (.aload_n 0, 1) := by decide +kernel
theorem dX12_sumsUp_229 : decode cX12_sumsUp 229 = .ok (.getfield 100, 3) := by decide +kernel
theorem dX12_sumsUp_232 : decode cX12_sumsUp 232 = .ok (.iload 11, 2) := by decide +kernel
theorem dX12_sumsUp_234 : decode cX12_sumsUp 234 = .ok (.iaload, 1) := by decide +kernel
theorem dX12_sumsUp_235 : decode cX12_sumsUp 235 = .ok (.i2l, 1) := by decide +kernel
theorem dX12_sumsUp_236 : decode cX12_sumsUp 236 = .ok (.lmul, 1) := by decide +kernel
theorem dX12_sumsUp_237 : decode cX12_sumsUp 237 = .ok (.ladd, 1) := by decide +kernel
theorem dX12_sumsUp_238 : decode cX12_sumsUp 238 = .ok (.lstore 8, 2) := by decide +kernel
theorem dX12_sumsUp_240 : decode cX12_sumsUp 240 = .ok (.iinc 10 1, 3) := by decide +kernel
theorem dX12_sumsUp_243 : decode cX12_sumsUp 243 = .ok (.goto (-87), 3) := by decide +kernel
theorem dX12_sumsUp_246 : decode cX12_sumsUp 246 = .ok (.aload_n 0, 1) := by decide +kernel
theorem dX12_sumsUp_247 : decode cX12_sumsUp 247 = .ok (.getfield 158, 3) := by decide +kernel
theorem dX12_sumsUp_250 : decode cX12_sumsUp 250 = .ok (.iload 5, 2) := by decide +kernel
theorem dX12_sumsUp_252 : decode cX12_sumsUp 252 = .ok (.dup2, 1) := by decide +kernel
theorem dX12_sumsUp_253 : decode cX12_sumsUp 253 = .ok (.laload, 1) := by decide +kernel
theorem dX12_sumsUp_254 : decode cX12_sumsUp 254 = .ok (.iload 7, 2) := by decide +kernel
theorem dX12_sumsUp_256 : decode cX12_sumsUp 256 = .ok (.i2l, 1) := by decide +kernel
theorem dX12_sumsUp_257 : decode cX12_sumsUp 257 = .ok (.lload 8, 2) := by decide +kernel
theorem dX12_sumsUp_259 : decode cX12_sumsUp 259 = .ok (.lmul, 1) := by decide +kernel
theorem dX12_sumsUp_260 : decode cX12_sumsUp 260 = .ok (.ladd, 1) := by decide +kernel
theorem dX12_sumsUp_261 : decode cX12_sumsUp 261 = .ok (.lastore, 1) := by decide +kernel
theorem dX12_sumsUp_262 : decode cX12_sumsUp 262 = .ok (.iinc 4 1, 3) := by decide +kernel
theorem dX12_sumsUp_265 : decode cX12_sumsUp 265 = .ok (.goto (-229), 3) := by decide +kernel
theorem dX12_sumsUp_268 : decode cX12_sumsUp 268 = .ok (.return_, 1) := by decide +kernel
set_option maxRecDepth 100000 in
theorem c_X12_sumsUp (l : Launch) (D : q_D) (al : q_Al) (dt : q_Dt) (x0 : Nat) (x1 : Nat) (x2 : Int32) (x3 : Int32) (kx0 : al.1 x0 = 13) (kx1 : al.1 x1 = 21) (dt0 : q_Dt) (hm : X12_sumsUp al dt x0 x1 x2 x3 = some dt0) : q_Mt l yX12_sumsUp cX12_sumsUp 12 (none) 3 68 D al [.ref x0, .ref x1, .int x2, .int x3] dt 0 none dt0 := by
  refine q_Mt.of (by decide) (Nat.le_of_ble_eq_true rfl) ?_
  intro p e s m args below meth c ls C hargs hW hl
  have hx := C.1
  have hb := C.2.1
  have hown := C.2.2.2.2.2.1
  have hts := C.2.2.2.2.2.2.1
  have hS : va_S (q_A al) s.heap s.heap [] := va_S.rf
  have hl : lv_has ls 12 [(0, .ref x0), (1, .ref x1), (2, .int x2), (3, .int x3)] := hl
  unfold X12_sumsUp at hm
  have hB36 : ∀ (x0_36 : Nat) (x1_36 : Nat) (x2_36 : Int32) (x3_36 : Int32) (kx0_36 : al.1 x0_36 = 13) (kx1_36 : al.1 x1_36 = 21) (n_36 : Nat) (x4_36 : Int32) (dt : q_Dt) (H : Heap) (locs : List Loc) (ls : Array Slot) (hm : X12_sumsUp_b36 al x0_36 x1_36 x2_36 x3_36 n_36 x4_36 dt = some dt0) (hW : q_W D al dt H) (hS : va_S (q_A al) s.heap H locs) (hl : lv_has ls 12 [(0, .ref x0_36), (1, .ref x1_36), (2, .int x2_36), (3, .int x3_36), (4, .int x4_36)]), W p l e { frames := 3, cells := 0, slots := 0, locals := 68 } s m args below meth c H locs 0 0 (MQ below (q_Q none (fun H => q_W D al dt0 H ∧ q_Rk al 0 none) (q_A al)) args s 0 0 (q_A al)) (F0 m 36 ls []) := by
    intro x0_36 x1_36 x2_36 x3_36 kx0_36 kx1_36
    intro n_36
    induction n_36 with
    | zero => intro x4_36 dt H locs ls hm hW hS hl; cases hm
    | succ n_36 ih36 =>
      have hB262 : ∀ (x4_262 : Int32) (dt : q_Dt) (H : Heap) (locs : List Loc) (ls : Array Slot) (hm : X12_sumsUp_b262 al (X12_sumsUp_b36 al x0_36 x1_36 x2_36 x3_36 n_36) x0_36 x1_36 x2_36 x3_36 x4_262 dt = some dt0) (hW : q_W D al dt H) (hS : va_S (q_A al) s.heap H locs) (hl : lv_has ls 12 [(0, .ref x0_36), (1, .ref x1_36), (2, .int x2_36), (3, .int x3_36), (4, .int x4_262)]), W p l e { frames := 3, cells := 0, slots := 0, locals := 68 } s m args below meth c H locs 0 0 (MQ below (q_Q none (fun H => q_W D al dt0 H ∧ q_Rk al 0 none) (q_A al)) args s 0 0 (q_A al)) (F0 m 262 ls []) := by
        intro x4_262 dt H locs ls hm hW hS hl
        unfold X12_sumsUp_b262 at hm
        refine lv_iinc (v := (x4_262 + 1)) (lv' := [(4, .int (x4_262 + 1)), (0, .ref x0_36), (1, .ref x1_36), (2, .int x2_36), (3, .int x3_36)]) hx hb dX12_sumsUp_262 hl (k := 4) rfl rfl (by decide) rfl (fun ls hl => ?_)
        refine lv_goto (tgt := 36) hx hb dX12_sumsUp_265 (by decide) ?_
        exact ih36 (x4_262 + 1) dt _ _ _ hm hW hS (lv_sub hl [1, 2, 3, 4, 0] rfl)
      have hB156 : ∀ (x4_156 : Int32) (x5_156 : Int32) (x6_156 : Int32) (x7_156 : Int32) (n_156 : Nat) (x8_156 : Int64) (x10_156 : Int32) (dt : q_Dt) (H : Heap) (locs : List Loc) (ls : Array Slot) (hm : X12_sumsUp_b156 al (X12_sumsUp_b36 al x0_36 x1_36 x2_36 x3_36 n_36) x0_36 x1_36 x2_36 x3_36 x4_156 x5_156 x6_156 x7_156 n_156 x8_156 x10_156 dt = some dt0) (hW : q_W D al dt H) (hS : va_S (q_A al) s.heap H locs) (hl : lv_has ls 12 [(0, .ref x0_36), (1, .ref x1_36), (2, .int x2_36), (3, .int x3_36), (4, .int x4_156), (5, .int x5_156), (6, .int x6_156), (7, .int x7_156), (8, .long x8_156), (10, .int x10_156)]), W p l e { frames := 3, cells := 0, slots := 0, locals := 68 } s m args below meth c H locs 0 0 (MQ below (q_Q none (fun H => q_W D al dt0 H ∧ q_Rk al 0 none) (q_A al)) args s 0 0 (q_A al)) (F0 m 156 ls []) := by
        intro x4_156 x5_156 x6_156 x7_156
        intro n_156
        induction n_156 with
        | zero => intro x8_156 x10_156 dt H locs ls hm hW hS hl; cases hm
        | succ n_156 ih156 =>
          have hB240 : ∀ (x8_240 : Int64) (x10_240 : Int32) (dt : q_Dt) (H : Heap) (locs : List Loc) (ls : Array Slot) (hm : X12_sumsUp_b240 al (X12_sumsUp_b36 al x0_36 x1_36 x2_36 x3_36 n_36) (X12_sumsUp_b156 al (X12_sumsUp_b36 al x0_36 x1_36 x2_36 x3_36 n_36) x0_36 x1_36 x2_36 x3_36 x4_156 x5_156 x6_156 x7_156 n_156) x0_36 x1_36 x2_36 x3_36 x4_156 x5_156 x6_156 x7_156 x8_240 x10_240 dt = some dt0) (hW : q_W D al dt H) (hS : va_S (q_A al) s.heap H locs) (hl : lv_has ls 12 [(0, .ref x0_36), (1, .ref x1_36), (2, .int x2_36), (3, .int x3_36), (4, .int x4_156), (5, .int x5_156), (6, .int x6_156), (7, .int x7_156), (8, .long x8_240), (10, .int x10_240)]), W p l e { frames := 3, cells := 0, slots := 0, locals := 68 } s m args below meth c H locs 0 0 (MQ below (q_Q none (fun H => q_W D al dt0 H ∧ q_Rk al 0 none) (q_A al)) args s 0 0 (q_A al)) (F0 m 240 ls []) := by
            intro x8_240 x10_240 dt H locs ls hm hW hS hl
            unfold X12_sumsUp_b240 at hm
            refine lv_iinc (v := (x10_240 + 1)) (lv' := [(10, .int (x10_240 + 1)), (0, .ref x0_36), (1, .ref x1_36), (2, .int x2_36), (3, .int x3_36), (4, .int x4_156), (5, .int x5_156), (6, .int x6_156), (7, .int x7_156), (8, .long x8_240)]) hx hb dX12_sumsUp_240 hl (k := 9) rfl rfl (by decide) rfl (fun ls hl => ?_)
            refine lv_goto (tgt := 156) hx hb dX12_sumsUp_243 (by decide) ?_
            exact ih156 x8_240 (x10_240 + 1) dt _ _ _ hm hW hS (lv_sub hl [1, 2, 3, 4, 5, 6, 7, 8, 9, 0] rfl)
          intro x8_156 x10_156 dt H locs ls hm hW hS hl
          rw [X12_sumsUp_b156] at hm
          refine lv_iload hx hb dX12_sumsUp_156 (lv_at hl 9 rfl) ?_
          refine lv_aload_n hx hb dX12_sumsUp_158 rfl (lv_at hl 0 rfl) ?_
          refine r_getF C hW (ci := 12) kx0_36 ff_12_38 cl_12 fl_RX12_91 dX12_sumsUp_159 (fun k156001 => ?_)
          refine lv_aload_n hx hb dX12_sumsUp_162 rfl (lv_at hl 0 rfl) ?_
          refine r_getI C hW (ci := 12) kx0_36 ff_12_18 cl_12 fl_RX12_242 dX12_sumsUp_163 ?_
          refine r_iald C hW hm k156001 dX12_sumsUp_166 (fun hm => ?_)
          refine q_ifc hm (fun c156002 hm => ?_) (fun c156002 hm => ?_)
          · refine lv_icmp_ge (tgt := 246) hx hb dX12_sumsUp_167 (by decide) (fun _ => ?_) (fun h => absurd c156002 h)
            refine lv_aload_n hx hb dX12_sumsUp_246 rfl (lv_at hl 0 rfl) ?_
            refine r_getF C hW (ci := 12) kx0_36 ff_12_63 cl_12 fl_RX12_158 dX12_sumsUp_247 (fun k156003 => ?_)
            refine lv_iload hx hb dX12_sumsUp_250 (lv_at hl 5 rfl) ?_
            refine lv_dup2_11 hx hb dX12_sumsUp_252 rfl rfl ?_
            refine r_lald C hW hm k156003 dX12_sumsUp_253 (fun hm => ?_)
            refine lv_iload hx hb dX12_sumsUp_254 (lv_at hl 7 rfl) ?_
            refine lv_i2l (v := (Int32.toInt64 x7_156)) hx hb dX12_sumsUp_256 rfl ?_
            refine lv_lload hx hb dX12_sumsUp_257 (lv_at hl 8 rfl) ?_
            refine lv_lmul hx hb dX12_sumsUp_259 ?_
            refine lv_ladd hx hb dX12_sumsUp_260 ?_
            refine r_last C hW hS hm k156003 dX12_sumsUp_261 (fun dt156004 H locs hm hW hS => ?_)
            exact hB262 x4_156 dt156004 _ _ _ hm hW hS (lv_sub hl [0, 1, 2, 3, 4] rfl)
          refine lv_icmp_ge (tgt := 246) hx hb dX12_sumsUp_167 (by decide) (fun h => absurd h c156002) (fun _ => ?_)
          refine lv_bipush (v := 6) hx hb dX12_sumsUp_170 (by decide) ?_
          refine lv_aload_n hx hb dX12_sumsUp_172 rfl (lv_at hl 0 rfl) ?_
          refine r_getI C hW (ci := 12) kx0_36 ff_12_18 cl_12 fl_RX12_242 dX12_sumsUp_173 ?_
          refine lv_imul hx hb dX12_sumsUp_176 ?_
          refine lv_iload hx hb dX12_sumsUp_177 (lv_at hl 9 rfl) ?_
          refine lv_iadd hx hb dX12_sumsUp_179 ?_
          refine lv_istore (i := 11) (lv' := [(11, .int ((6 * (dt.1 x0_36 18)) + x10_156)), (0, .ref x0_36), (1, .ref x1_36), (2, .int x2_36), (3, .int x3_36), (4, .int x4_156), (5, .int x5_156), (6, .int x6_156), (7, .int x7_156), (8, .long x8_156), (10, .int x10_156)]) hx hb dX12_sumsUp_180 hl (by decide) rfl (fun ls hl => ?_)
          refine lv_aload_n hx hb dX12_sumsUp_182 rfl (lv_at hl 1 rfl) ?_
          refine r_getF C hW (ci := 12) kx0_36 ff_12_39 cl_12 fl_RX12_94 dX12_sumsUp_183 (fun k156005 => ?_)
          refine lv_iload hx hb dX12_sumsUp_186 (lv_at hl 0 rfl) ?_
          refine r_iald C hW hm k156005 dX12_sumsUp_188 (fun hm => ?_)
          refine lv_iload_n hx hb dX12_sumsUp_189 rfl (lv_at hl 3 rfl) ?_
          refine q_ifc hm (fun c156006 hm => ?_) (fun c156006 hm => ?_)
          · refine lv_icmp_ne (tgt := 240) hx hb dX12_sumsUp_190 (by decide) (fun h => absurd c156006 h) (fun _ => ?_)
            refine lv_iload hx hb dX12_sumsUp_193 (lv_at hl 5 rfl) ?_
            refine lv_aload_n hx hb dX12_sumsUp_195 rfl (lv_at hl 1 rfl) ?_
            refine r_getF C hW (ci := 12) kx0_36 ff_12_40 cl_12 fl_RX12_97 dX12_sumsUp_196 (fun k156007 => ?_)
            refine lv_iload hx hb dX12_sumsUp_199 (lv_at hl 0 rfl) ?_
            refine r_iald C hW hm k156007 dX12_sumsUp_201 (fun hm => ?_)
            refine lv_iadd hx hb dX12_sumsUp_202 ?_
            refine lv_aload_n hx hb dX12_sumsUp_203 rfl (lv_at hl 1 rfl) ?_
            obtain ⟨v156009, hc156008, hm⟩ := q_b1i hm
            refine q_callV C hW hS (As := []) (rest := [.int (x4_156 + (dt.1 (al.2.2 x0_36 40) (Int32.toNatClampNeg ((6 * (dt.1 x0_36 18)) + x10_156))))]) (st1 := [.int v156009, .int (x4_156 + (dt.1 (al.2.2 x0_36 40) (Int32.toNatClampNeg ((6 * (dt.1 x0_36 18)) + x10_156))))]) (c_X12_n l D al dt x0_36 kx0_36 v156009 hc156008) yl_X12_n vl_X12_n ml_RX12_342 (ci := 12) rfl kx0_36 (by decide) rfl ⟨Nat.le_of_ble_eq_true rfl, Nat.le_of_ble_eq_true rfl⟩ hl rfl (Nat.le_of_ble_eq_true rfl) dX12_sumsUp_204 ⟨Nat.le_refl _, Nat.le_refl _⟩ rfl (fun H locs k156010 hW hS => ?_)
            refine q_ifc hm (fun c156011 hm => ?_) (fun c156011 hm => ?_)
            · refine lv_icmp_ge (tgt := 240) hx hb dX12_sumsUp_207 (by decide) (fun _ => ?_) (fun h => absurd c156011 h)
              exact hB240 x8_156 x10_156 dt _ _ _ hm hW hS (lv_sub hl [1, 2, 3, 4, 5, 6, 7, 8, 9, 10] rfl)
            refine lv_icmp_ge (tgt := 240) hx hb dX12_sumsUp_207 (by decide) (fun h => absurd h c156011) (fun _ => ?_)
            refine lv_lload hx hb dX12_sumsUp_210 (lv_at hl 9 rfl) ?_
            refine lv_aload_n hx hb dX12_sumsUp_212 rfl (lv_at hl 2 rfl) ?_
            refine lv_iload hx hb dX12_sumsUp_213 (lv_at hl 7 rfl) ?_
            refine lv_iload hx hb dX12_sumsUp_215 (lv_at hl 5 rfl) ?_
            refine lv_iadd hx hb dX12_sumsUp_217 ?_
            refine lv_aload_n hx hb dX12_sumsUp_218 rfl (lv_at hl 1 rfl) ?_
            refine r_getF C hW (ci := 12) kx0_36 ff_12_40 cl_12 fl_RX12_97 dX12_sumsUp_219 (fun k156012 => ?_)
            refine lv_iload hx hb dX12_sumsUp_222 (lv_at hl 0 rfl) ?_
            refine r_iald C hW hm k156012 dX12_sumsUp_224 (fun hm => ?_)
            refine lv_iadd hx hb dX12_sumsUp_225 ?_
            refine r_iald C hW hm kx1_36 dX12_sumsUp_226 (fun hm => ?_)
            refine lv_i2l (v := (Int32.toInt64 (dt.1 x1_36 (Int32.toNatClampNeg ((x6_156 + x4_156) + (dt.1 (al.2.2 x0_36 40) (Int32.toNatClampNeg ((6 * (dt.1 x0_36 18)) + x10_156)))))))) hx hb dX12_sumsUp_227 rfl ?_
            refine lv_aload_n hx hb dX12_sumsUp_228 rfl (lv_at hl 1 rfl) ?_
            refine r_getF C hW (ci := 12) kx0_36 ff_12_41 cl_12 fl_RX12_100 dX12_sumsUp_229 (fun k156013 => ?_)
            refine lv_iload hx hb dX12_sumsUp_232 (lv_at hl 0 rfl) ?_
            refine r_iald C hW hm k156013 dX12_sumsUp_234 (fun hm => ?_)
            refine lv_i2l (v := (Int32.toInt64 (dt.1 (al.2.2 x0_36 41) (Int32.toNatClampNeg ((6 * (dt.1 x0_36 18)) + x10_156))))) hx hb dX12_sumsUp_235 rfl ?_
            refine lv_lmul hx hb dX12_sumsUp_236 ?_
            refine lv_ladd hx hb dX12_sumsUp_237 ?_
            refine q_nmL hm (fun v156014 ev156014 hm => ?_)
            refine lv_lstore (i := 8) (lv' := [(8, .long v156014), (11, .int ((6 * (dt.1 x0_36 18)) + x10_156)), (0, .ref x0_36), (1, .ref x1_36), (2, .int x2_36), (3, .int x3_36), (4, .int x4_156), (5, .int x5_156), (6, .int x6_156), (7, .int x7_156), (10, .int x10_156)]) hx hb dX12_sumsUp_238 hl (by decide) rfl (fun ls hl => ?_)
            exact hB240 v156014 x10_156 dt _ _ _ hm hW hS (lv_sub hl [2, 3, 4, 5, 6, 7, 8, 9, 0, 10] rfl)
          refine lv_icmp_ne (tgt := 240) hx hb dX12_sumsUp_190 (by decide) (fun _ => ?_) (fun h => absurd h c156006)
          exact hB240 x8_156 x10_156 dt _ _ _ hm hW hS (lv_sub hl [1, 2, 3, 4, 5, 6, 7, 8, 9, 10] rfl)
      have hB87 : ∀ (x4_87 : Int32) (x5_87 : Int32) (t0_87 : Int32) (dt : q_Dt) (H : Heap) (locs : List Loc) (ls : Array Slot) (hm : X12_sumsUp_b87 al (X12_sumsUp_b36 al x0_36 x1_36 x2_36 x3_36 n_36) x0_36 x1_36 x2_36 x3_36 x4_87 x5_87 t0_87 dt = some dt0) (hW : q_W D al dt H) (hS : va_S (q_A al) s.heap H locs) (hl : lv_has ls 12 [(0, .ref x0_36), (1, .ref x1_36), (2, .int x2_36), (3, .int x3_36), (4, .int x4_87), (5, .int x5_87)]), W p l e { frames := 3, cells := 0, slots := 0, locals := 68 } s m args below meth c H locs 0 0 (MQ below (q_Q none (fun H => q_W D al dt0 H ∧ q_Rk al 0 none) (q_A al)) args s 0 0 (q_A al)) (F0 m 87 ls [.int t0_87]) := by
        intro x4_87 x5_87 t0_87 dt H locs ls hm hW hS hl
        unfold X12_sumsUp_b87 at hm
        refine lv_istore (i := 6) (lv' := [(6, .int t0_87), (0, .ref x0_36), (1, .ref x1_36), (2, .int x2_36), (3, .int x3_36), (4, .int x4_87), (5, .int x5_87)]) hx hb dX12_sumsUp_87 hl (by decide) rfl (fun ls hl => ?_)
        refine lv_aload_n hx hb dX12_sumsUp_89 rfl (lv_at hl 1 rfl) ?_
        refine lv_iload_n hx hb dX12_sumsUp_90 rfl (lv_at hl 3 rfl) ?_
        refine lv_iload hx hb dX12_sumsUp_91 (lv_at hl 5 rfl) ?_
        obtain ⟨v87002, hc87001, hm⟩ := q_b1i hm
        refine q_callV C hW hS (As := [.int x2_36, .int x4_87]) (rest := []) (st1 := [.int v87002]) (c_X12_signAt l D al dt x0_36 x2_36 x4_87 kx0_36 v87002 hc87001) yl_X12_signAt vl_X12_signAt ml_RX12_348 (ci := 12) rfl kx0_36 (by decide) rfl ⟨Nat.le_of_ble_eq_true rfl, Nat.le_of_ble_eq_true rfl⟩ hl rfl (Nat.le_of_ble_eq_true rfl) dX12_sumsUp_93 ⟨Nat.le_refl _, Nat.le_refl _⟩ rfl (fun H locs k87003 hW hS => ?_)
        refine lv_istore (i := 7) (lv' := [(7, .int v87002), (6, .int t0_87), (0, .ref x0_36), (1, .ref x1_36), (2, .int x2_36), (3, .int x3_36), (4, .int x4_87), (5, .int x5_87)]) hx hb dX12_sumsUp_96 hl (by decide) rfl (fun ls hl => ?_)
        refine lv_iload_n hx hb dX12_sumsUp_98 rfl (lv_at hl 5 rfl) ?_
        refine q_ifc hm (fun c87004 hm => ?_) (fun c87004 hm => ?_)
        · refine lv_if_ne (tgt := 127) hx hb dX12_sumsUp_99 (by decide) (fun h => absurd c87004 h) (fun _ => ?_)
          refine lv_aload_n hx hb dX12_sumsUp_102 rfl (lv_at hl 2 rfl) ?_
          refine r_getF C hW (ci := 12) kx0_36 ff_12_63 cl_12 fl_RX12_158 dX12_sumsUp_103 (fun k87005 => ?_)
          refine lv_iload hx hb dX12_sumsUp_106 (lv_at hl 7 rfl) ?_
          refine lv_dup2_11 hx hb dX12_sumsUp_108 rfl rfl ?_
          refine r_lald C hW hm k87005 dX12_sumsUp_109 (fun hm => ?_)
          refine lv_iload hx hb dX12_sumsUp_110 (lv_at hl 0 rfl) ?_
          refine lv_i2l (v := (Int32.toInt64 v87002)) hx hb dX12_sumsUp_112 rfl ?_
          refine lv_aload_n hx hb dX12_sumsUp_113 rfl (lv_at hl 3 rfl) ?_
          refine lv_iload hx hb dX12_sumsUp_114 (lv_at hl 1 rfl) ?_
          refine lv_iload hx hb dX12_sumsUp_116 (lv_at hl 6 rfl) ?_
          refine lv_iadd hx hb dX12_sumsUp_118 ?_
          refine r_iald C hW hm kx1_36 dX12_sumsUp_119 (fun hm => ?_)
          refine lv_i2l (v := (Int32.toInt64 (dt.1 x1_36 (Int32.toNatClampNeg (t0_87 + x4_87))))) hx hb dX12_sumsUp_120 rfl ?_
          refine lv_lmul hx hb dX12_sumsUp_121 ?_
          refine lv_ladd hx hb dX12_sumsUp_122 ?_
          refine r_last C hW hS hm k87005 dX12_sumsUp_123 (fun dt87006 H locs hm hW hS => ?_)
          refine lv_goto (tgt := 262) hx hb dX12_sumsUp_124 (by decide) ?_
          exact hB262 x4_87 dt87006 _ _ _ hm hW hS (lv_sub hl [2, 3, 4, 5, 6] rfl)
        refine lv_if_ne (tgt := 127) hx hb dX12_sumsUp_99 (by decide) (fun _ => ?_) (fun h => absurd h c87004)
        refine lv_aload_n hx hb dX12_sumsUp_127 rfl (lv_at hl 3 rfl) ?_
        refine lv_iload hx hb dX12_sumsUp_128 (lv_at hl 1 rfl) ?_
        refine lv_iload hx hb dX12_sumsUp_130 (lv_at hl 6 rfl) ?_
        refine lv_iadd hx hb dX12_sumsUp_132 ?_
        refine r_iald C hW hm kx1_36 dX12_sumsUp_133 (fun hm => ?_)
        refine lv_i2l (v := (Int32.toInt64 (dt.1 x1_36 (Int32.toNatClampNeg (t0_87 + x4_87))))) hx hb dX12_sumsUp_134 rfl ?_
        refine lv_aload_n hx hb dX12_sumsUp_135 rfl (lv_at hl 2 rfl) ?_
        refine r_getF C hW (ci := 12) kx0_36 ff_12_33 cl_12 fl_RX12_76 dX12_sumsUp_136 (fun k87007 => ?_)
        refine lv_bipush (v := 6) hx hb dX12_sumsUp_139 (by decide) ?_
        refine lv_aload_n hx hb dX12_sumsUp_141 rfl (lv_at hl 2 rfl) ?_
        refine r_getI C hW (ci := 12) kx0_36 ff_12_18 cl_12 fl_RX12_242 dX12_sumsUp_142 ?_
        refine lv_imul hx hb dX12_sumsUp_145 ?_
        refine lv_iload_n hx hb dX12_sumsUp_146 rfl (lv_at hl 4 rfl) ?_
        refine lv_iadd hx hb dX12_sumsUp_147 ?_
        refine r_iald C hW hm k87007 dX12_sumsUp_148 (fun hm => ?_)
        refine lv_i2l (v := (Int32.toInt64 (dt.1 (al.2.2 x0_36 33) (Int32.toNatClampNeg ((6 * (dt.1 x0_36 18)) + x2_36))))) hx hb dX12_sumsUp_149 rfl ?_
        refine lv_lmul hx hb dX12_sumsUp_150 ?_
        refine q_nmL hm (fun v87008 ev87008 hm => ?_)
        refine lv_lstore (i := 8) (lv' := [(8, .long v87008), (7, .int v87002), (6, .int t0_87), (0, .ref x0_36), (1, .ref x1_36), (2, .int x2_36), (3, .int x3_36), (4, .int x4_87), (5, .int x5_87)]) hx hb dX12_sumsUp_151 hl (by decide) rfl (fun ls hl => ?_)
        refine lv_iconst (v := 0) hx hb dX12_sumsUp_153 (by decide) ?_
        refine lv_istore (i := 10) (lv' := [(10, .int 0), (8, .long v87008), (7, .int v87002), (6, .int t0_87), (0, .ref x0_36), (1, .ref x1_36), (2, .int x2_36), (3, .int x3_36), (4, .int x4_87), (5, .int x5_87)]) hx hb dX12_sumsUp_154 hl (by decide) rfl (fun ls hl => ?_)
        exact hB156 x4_87 x5_87 t0_87 v87002 q_FU v87008 0 dt _ _ _ hm hW hS (lv_sub hl [4, 5, 6, 7, 8, 9, 3, 2, 1, 0] rfl)
      intro x4_36 dt H locs ls hm hW hS hl
      rw [X12_sumsUp_b36] at hm
      refine lv_iload hx hb dX12_sumsUp_36 (lv_at hl 4 rfl) ?_
      refine lv_aload_n hx hb dX12_sumsUp_38 rfl (lv_at hl 0 rfl) ?_
      obtain ⟨v36002, hc36001, hm⟩ := q_b1i hm
      refine q_callV C hW hS (As := []) (rest := [.int x4_36]) (st1 := [.int v36002, .int x4_36]) (c_X12_n l D al dt x0_36 kx0_36 v36002 hc36001) yl_X12_n vl_X12_n ml_RX12_342 (ci := 12) rfl kx0_36 (by decide) rfl ⟨Nat.le_of_ble_eq_true rfl, Nat.le_of_ble_eq_true rfl⟩ hl rfl (Nat.le_of_ble_eq_true rfl) dX12_sumsUp_39 ⟨Nat.le_refl _, Nat.le_refl _⟩ rfl (fun H locs k36003 hW hS => ?_)
      refine q_ifc hm (fun c36004 hm => ?_) (fun c36004 hm => ?_)
      · refine lv_icmp_ge (tgt := 268) hx hb dX12_sumsUp_42 (by decide) (fun _ => ?_) (fun h => absurd c36004 h)
        exact e_vD C hW hS hm dX12_sumsUp_268
      refine lv_icmp_ge (tgt := 268) hx hb dX12_sumsUp_42 (by decide) (fun h => absurd h c36004) (fun _ => ?_)
      refine lv_aload_n hx hb dX12_sumsUp_45 rfl (lv_at hl 0 rfl) ?_
      refine lv_iload_n hx hb dX12_sumsUp_46 rfl (lv_at hl 2 rfl) ?_
      refine lv_iload hx hb dX12_sumsUp_47 (lv_at hl 4 rfl) ?_
      obtain ⟨v36006, hc36005, hm⟩ := q_b1i hm
      refine q_callV C hW hS (As := [.int x2_36, .int x4_36]) (rest := []) (st1 := [.int v36006]) (c_X12_periodAt l D al dt x0_36 x2_36 x4_36 kx0_36 v36006 hc36005) yl_X12_periodAt vl_X12_periodAt ml_RX12_345 (ci := 12) rfl kx0_36 (by decide) rfl ⟨Nat.le_of_ble_eq_true rfl, Nat.le_of_ble_eq_true rfl⟩ hl rfl (Nat.le_of_ble_eq_true rfl) dX12_sumsUp_49 ⟨Nat.le_refl _, Nat.le_refl _⟩ rfl (fun H locs k36007 hW hS => ?_)
      refine lv_istore (i := 5) (lv' := [(5, .int v36006), (0, .ref x0_36), (1, .ref x1_36), (2, .int x2_36), (3, .int x3_36), (4, .int x4_36)]) hx hb dX12_sumsUp_52 hl (by decide) rfl (fun ls hl => ?_)
      refine lv_iload hx hb dX12_sumsUp_54 (lv_at hl 0 rfl) ?_
      refine q_ifc hm (fun c36008 hm => ?_) (fun c36008 hm => ?_)
      · refine lv_if_ge (tgt := 62) hx hb dX12_sumsUp_56 (by decide) (fun _ => ?_) (fun h => absurd c36008 h)
        refine lv_aload_n hx hb dX12_sumsUp_62 rfl (lv_at hl 1 rfl) ?_
        refine r_getF C hW (ci := 12) kx0_36 ff_12_64 cl_12 fl_RX12_161 dX12_sumsUp_63 (fun k36009 => ?_)
        refine lv_iload hx hb dX12_sumsUp_66 (lv_at hl 0 rfl) ?_
        refine lv_iconst (v := 1) hx hb dX12_sumsUp_68 (by decide) ?_
        refine r_zast C hW hS hm k36009 dX12_sumsUp_69 (fun dt36010 H locs hm hW hS => ?_)
        refine lv_aload_n hx hb dX12_sumsUp_70 rfl (lv_at hl 1 rfl) ?_
        refine lv_iload_n hx hb dX12_sumsUp_71 rfl (lv_at hl 3 rfl) ?_
        refine lv_iload hx hb dX12_sumsUp_72 (lv_at hl 5 rfl) ?_
        obtain ⟨v36012, hc36011, hm⟩ := q_b1i hm
        refine q_callV C hW hS (As := [.int x2_36, .int x4_36]) (rest := []) (st1 := [.int v36012]) (c_X12_isIm l D al dt36010 x0_36 x2_36 x4_36 kx0_36 v36012 hc36011) yl_X12_isIm vl_X12_isIm ml_RX12_351 (ci := 12) rfl kx0_36 (by decide) rfl ⟨Nat.le_of_ble_eq_true rfl, Nat.le_of_ble_eq_true rfl⟩ hl rfl (Nat.le_of_ble_eq_true rfl) dX12_sumsUp_74 ⟨Nat.le_refl _, Nat.le_refl _⟩ rfl (fun H locs k36013 hW hS => ?_)
        refine q_ifc hm (fun c36014 hm => ?_) (fun c36014 hm => ?_)
        · refine lv_if_eq (tgt := 86) hx hb dX12_sumsUp_77 (by decide) (fun _ => ?_) (fun h => absurd c36014 h)
          refine lv_iconst (v := 0) hx hb dX12_sumsUp_86 (by decide) ?_
          exact hB87 x4_36 v36006 0 dt36010 _ _ _ hm hW hS (lv_sub hl [1, 2, 3, 4, 5, 0] rfl)
        refine lv_if_eq (tgt := 86) hx hb dX12_sumsUp_77 (by decide) (fun h => absurd h c36014) (fun _ => ?_)
        refine lv_sipush (v := 512) hx hb dX12_sumsUp_80 (by decide) ?_
        refine lv_goto (tgt := 87) hx hb dX12_sumsUp_83 (by decide) ?_
        exact hB87 x4_36 v36006 512 dt36010 _ _ _ hm hW hS (lv_sub hl [1, 2, 3, 4, 5, 0] rfl)
      refine lv_if_ge (tgt := 62) hx hb dX12_sumsUp_56 (by decide) (fun h => absurd h c36008) (fun _ => ?_)
      refine lv_goto (tgt := 262) hx hb dX12_sumsUp_59 (by decide) ?_
      exact hB262 x4_36 dt _ _ _ hm hW hS (lv_sub hl [1, 2, 3, 4, 5] rfl)
  have hB3 : ∀ (x0_3 : Nat) (x1_3 : Nat) (x2_3 : Int32) (x3_3 : Int32) (kx0_3 : al.1 x0_3 = 13) (kx1_3 : al.1 x1_3 = 21) (n_3 : Nat) (x4_3 : Int32) (dt : q_Dt) (H : Heap) (locs : List Loc) (ls : Array Slot) (hm : X12_sumsUp_b3 al x0_3 x1_3 x2_3 x3_3 n_3 x4_3 dt = some dt0) (hW : q_W D al dt H) (hS : va_S (q_A al) s.heap H locs) (hl : lv_has ls 12 [(0, .ref x0_3), (1, .ref x1_3), (2, .int x2_3), (3, .int x3_3), (4, .int x4_3)]), W p l e { frames := 3, cells := 0, slots := 0, locals := 68 } s m args below meth c H locs 0 0 (MQ below (q_Q none (fun H => q_W D al dt0 H ∧ q_Rk al 0 none) (q_A al)) args s 0 0 (q_A al)) (F0 m 3 ls []) := by
    intro x0_3 x1_3 x2_3 x3_3 kx0_3 kx1_3
    intro n_3
    induction n_3 with
    | zero => intro x4_3 dt H locs ls hm hW hS hl; cases hm
    | succ n_3 ih3 =>
      intro x4_3 dt H locs ls hm hW hS hl
      rw [X12_sumsUp_b3] at hm
      refine lv_iload hx hb dX12_sumsUp_3 (lv_at hl 4 rfl) ?_
      refine lv_sipush (v := 512) hx hb dX12_sumsUp_5 (by decide) ?_
      refine q_ifc hm (fun c3001 hm => ?_) (fun c3001 hm => ?_)
      · refine lv_icmp_ge (tgt := 33) hx hb dX12_sumsUp_8 (by decide) (fun _ => ?_) (fun h => absurd c3001 h)
        refine lv_iconst (v := 0) hx hb dX12_sumsUp_33 (by decide) ?_
        refine lv_istore (i := 4) (lv' := [(4, .int 0), (0, .ref x0_3), (1, .ref x1_3), (2, .int x2_3), (3, .int x3_3)]) hx hb dX12_sumsUp_34 hl (by decide) rfl (fun ls hl => ?_)
        exact hB36 x0_3 x1_3 x2_3 x3_3 kx0_3 kx1_3 q_FU 0 dt _ _ _ hm hW hS (lv_sub hl [1, 2, 3, 4, 0] rfl)
      refine lv_icmp_ge (tgt := 33) hx hb dX12_sumsUp_8 (by decide) (fun h => absurd h c3001) (fun _ => ?_)
      refine lv_aload_n hx hb dX12_sumsUp_11 rfl (lv_at hl 0 rfl) ?_
      refine r_getF C hW (ci := 12) kx0_3 ff_12_63 cl_12 fl_RX12_158 dX12_sumsUp_12 (fun k3002 => ?_)
      refine lv_iload hx hb dX12_sumsUp_15 (lv_at hl 4 rfl) ?_
      refine lv_lconst (v := 0) hx hb dX12_sumsUp_17 rfl ?_
      refine r_last C hW hS hm k3002 dX12_sumsUp_18 (fun dt3003 H locs hm hW hS => ?_)
      refine lv_aload_n hx hb dX12_sumsUp_19 rfl (lv_at hl 0 rfl) ?_
      refine r_getF C hW (ci := 12) kx0_3 ff_12_64 cl_12 fl_RX12_161 dX12_sumsUp_20 (fun k3004 => ?_)
      refine lv_iload hx hb dX12_sumsUp_23 (lv_at hl 4 rfl) ?_
      refine lv_iconst (v := 0) hx hb dX12_sumsUp_25 (by decide) ?_
      refine r_zast C hW hS hm k3004 dX12_sumsUp_26 (fun dt3005 H locs hm hW hS => ?_)
      refine lv_iinc (v := (x4_3 + 1)) (lv' := [(4, .int (x4_3 + 1)), (0, .ref x0_3), (1, .ref x1_3), (2, .int x2_3), (3, .int x3_3)]) hx hb dX12_sumsUp_27 hl (k := 4) rfl rfl (by decide) rfl (fun ls hl => ?_)
      refine lv_goto (tgt := 3) hx hb dX12_sumsUp_30 (by decide) ?_
      exact ih3 (x4_3 + 1) dt3005 _ _ _ hm hW hS (lv_sub hl [1, 2, 3, 4, 0] rfl)
  refine lv_iconst (v := 0) hx hb dX12_sumsUp_0 (by decide) ?_
  refine lv_istore (i := 4) (lv' := [(4, .int 0), (0, .ref x0), (1, .ref x1), (2, .int x2), (3, .int x3)]) hx hb dX12_sumsUp_1 hl (by decide) rfl (fun ls hl => ?_)
  exact hB3 x0 x1 x2 x3 kx0 kx1 q_FU 0 dt _ _ _ hm hW hS (lv_sub hl [1, 2, 3, 4, 0] rfl)
theorem dX12_bitOf_0 : decode cX12_bitOf 0 = .ok (.aload_n 0, 1) := by decide +kernel
theorem dX12_bitOf_1 : decode cX12_bitOf 1 = .ok (.getfield 161, 3) := by decide +kernel
theorem dX12_bitOf_4 : decode cX12_bitOf 4 = .ok (.iload_n 1, 1) := by decide +kernel
theorem dX12_bitOf_5 : decode cX12_bitOf 5 = .ok (.baload, 1) := by decide +kernel
theorem dX12_bitOf_6 : decode cX12_bitOf 6 = .ok (.ifCond .ne 8, 3) := by decide +kernel
theorem dX12_bitOf_9 : decode cX12_bitOf 9 = .ok (.bipush (-2), 2) := by decide +kernel
theorem dX12_bitOf_11 : decode cX12_bitOf 11 = .ok (.goto 19, 3) := by decide +kernel
theorem dX12_bitOf_14 : decode cX12_bitOf 14 = .ok (.aload_n 0, 1) := by decide +kernel
theorem dX12_bitOf_15 : decode cX12_bitOf 15 = .ok (.getfield 158, 3) := by decide +kernel
theorem dX12_bitOf_18 : decode cX12_bitOf 18 = .ok (.iload_n 1, 1) := by decide +kernel
theorem dX12_bitOf_19 : decode cX12_bitOf 19 = .ok (.laload, 1) := by decide +kernel
theorem dX12_bitOf_20 : decode cX12_bitOf 20 = .ok (.lconst 0, 1) := by decide +kernel
theorem dX12_bitOf_21 : decode cX12_bitOf 21 = .ok (.lcmp, 1) := by decide +kernel
theorem dX12_bitOf_22 : decode cX12_bitOf 22 = .ok (.ifCond .ge 7, 3) := by decide +kernel
theorem dX12_bitOf_25 : decode cX12_bitOf 25 = .ok (.iconst 1, 1) := by decide +kernel
theorem dX12_bitOf_26 : decode cX12_bitOf 26 = .ok (.goto 4, 3) := by decide +kernel
theorem dX12_bitOf_29 : decode cX12_bitOf 29 = .ok (.iconst 0, 1) := by decide +kernel
theorem dX12_bitOf_30 : decode cX12_bitOf 30 = .ok (.ireturn, 1) := by decide +kernel
set_option maxRecDepth 100000 in
theorem c_X12_bitOf (l : Launch) (D : q_D) (al : q_Al) (dt : q_Dt) (x0 : Nat) (x1 : Int32) (kx0 : al.1 x0 = 13) (r0 : Int32) (hm : X12_bitOf al dt x0 x1 = some r0) : q_Mt l yX12_bitOf cX12_bitOf 2 (some FieldType.int) 0 0 D al [.ref x0, .int x1] dt 0 (some (.int r0)) dt := by
  refine q_Mt.of (by decide) (Nat.le_of_ble_eq_true rfl) ?_
  intro p e s m args below meth c ls C hargs hW hl
  have hx := C.1
  have hb := C.2.1
  have hown := C.2.2.2.2.2.1
  have hts := C.2.2.2.2.2.2.1
  have hS : va_S (q_A al) s.heap s.heap [] := va_S.rf
  have hl : lv_has ls 2 [(0, .ref x0), (1, .int x1)] := hl
  unfold X12_bitOf at hm
  refine lv_aload_n hx hb dX12_bitOf_0 rfl (lv_at hl 0 rfl) ?_
  refine r_getF C hW (ci := 12) kx0 ff_12_64 cl_12 fl_RX12_161 dX12_bitOf_1 (fun k1000001 => ?_)
  refine lv_iload_n hx hb dX12_bitOf_4 rfl (lv_at hl 1 rfl) ?_
  refine r_zald C hW hm k1000001 dX12_bitOf_5 (fun hm => ?_)
  refine q_ifc hm (fun c1000002 hm => ?_) (fun c1000002 hm => ?_)
  · refine lv_if_ne (tgt := 14) hx hb dX12_bitOf_6 (by decide) (fun h => absurd c1000002 h) (fun _ => ?_)
    refine lv_bipush (v := (-2)) hx hb dX12_bitOf_9 (by decide) ?_
    refine lv_goto (tgt := 30) hx hb dX12_bitOf_11 (by decide) ?_
    exact e_i C hW hS hm dX12_bitOf_30
  refine lv_if_ne (tgt := 14) hx hb dX12_bitOf_6 (by decide) (fun _ => ?_) (fun h => absurd h c1000002)
  refine lv_aload_n hx hb dX12_bitOf_14 rfl (lv_at hl 0 rfl) ?_
  refine r_getF C hW (ci := 12) kx0 ff_12_63 cl_12 fl_RX12_158 dX12_bitOf_15 (fun k1000003 => ?_)
  refine lv_iload_n hx hb dX12_bitOf_18 rfl (lv_at hl 1 rfl) ?_
  refine r_lald C hW hm k1000003 dX12_bitOf_19 (fun hm => ?_)
  refine lv_lconst (v := 0) hx hb dX12_bitOf_20 rfl ?_
  refine W.lcmp hx hb dX12_bitOf_21 ?_
  refine q_ifc hm (fun c1000004 hm => ?_) (fun c1000004 hm => ?_)
  · refine lv_if_ge (tgt := 29) hx hb dX12_bitOf_22 (by decide) (fun _ => ?_) (fun h => absurd (q_cmp_ge.mpr c1000004) h)
    refine lv_iconst (v := 0) hx hb dX12_bitOf_29 (by decide) ?_
    exact e_i C hW hS hm dX12_bitOf_30
  refine lv_if_ge (tgt := 29) hx hb dX12_bitOf_22 (by decide) (fun h => absurd (q_cmp_ge.mp h) c1000004) (fun _ => ?_)
  refine lv_iconst (v := 1) hx hb dX12_bitOf_25 (by decide) ?_
  refine lv_goto (tgt := 30) hx hb dX12_bitOf_26 (by decide) ?_
  exact e_i C hW hS hm dX12_bitOf_30
theorem dX12_bitBy_0 : decode cX12_bitBy 0 = .ok (.aload_n 0, 1) := by decide +kernel
theorem dX12_bitBy_1 : decode cX12_bitBy 1 = .ok (.iload_n 1, 1) := by decide +kernel
theorem dX12_bitBy_2 : decode cX12_bitBy 2 = .ok (.invokevirtual 415, 3) := by decide +kernel
theorem dX12_bitBy_5 : decode cX12_bitBy 5 = .ok (.ifCond .eq 7, 3) := by decide +kernel
theorem dX12_bitBy_8 : decode cX12_bitBy 8 = .ok (.iload_n 2, 1) := by decide +kernel
theorem dX12_bitBy_9 : decode cX12_bitBy 9 = .ok (.ifCond .ge 5, 3) := by decide +kernel
theorem dX12_bitBy_12 : decode cX12_bitBy 12 = .ok (.iconst (-1), 1) := by decide +kernel
theorem dX12_bitBy_13 : decode cX12_bitBy 13 = .ok (.ireturn, 1) := by decide +kernel
theorem dX12_bitBy_14 : decode cX12_bitBy 14 = .ok (.iload_n 2, 1) := by decide +kernel
theorem dX12_bitBy_15 : decode cX12_bitBy 15 = .ok (.sipush 511, 3) := by decide +kernel
theorem dX12_bitBy_18 : decode cX12_bitBy 18 = .ok (.if_icmp .le 6, 3) := by decide +kernel
theorem dX12_bitBy_21 : decode cX12_bitBy 21 = .ok (.bipush (-2), 2) := by decide +kernel
theorem dX12_bitBy_23 : decode cX12_bitBy 23 = .ok (.ireturn, 1) := by decide +kernel
theorem dX12_bitBy_24 : decode cX12_bitBy 24 = .ok (.aload_n 0, 1) := by decide +kernel
theorem dX12_bitBy_25 : decode cX12_bitBy 25 = .ok (.aload_n 0, 1) := by decide +kernel
theorem dX12_bitBy_26 : decode cX12_bitBy 26 = .ok (.getfield 133, 3) := by decide +kernel
theorem dX12_bitBy_29 : decode cX12_bitBy 29 = .ok (.iload_n 1, 1) := by decide +kernel
theorem dX12_bitBy_30 : decode cX12_bitBy 30 = .ok (.iload_n 3, 1) := by decide +kernel
theorem dX12_bitBy_31 : decode cX12_bitBy 31 = .ok (.invokevirtual 450, 3) := by decide +kernel
theorem dX12_bitBy_34 : decode cX12_bitBy 34 = .ok (.aload_n 0, 1) := by decide +kernel
theorem dX12_bitBy_35 : decode cX12_bitBy 35 = .ok (.iload_n 2, 1) := by decide +kernel
theorem dX12_bitBy_36 : decode cX12_bitBy 36 = .ok (.invokevirtual 454, 3) := by decide +kernel
theorem dX12_bitBy_39 : decode cX12_bitBy 39 = .ok (.ireturn, 1) := by decide +kernel
set_option maxRecDepth 100000 in
theorem c_X12_bitBy (l : Launch) (D : q_D) (al : q_Al) (dt : q_Dt) (x0 : Nat) (x1 : Int32) (x2 : Int32) (x3 : Int32) (kx0 : al.1 x0 = 13) (r0 : Int32) (dt0 : q_Dt) (hm : X12_bitBy al dt x0 x1 x2 x3 = some (r0, dt0)) : q_Mt l yX12_bitBy cX12_bitBy 4 (some FieldType.int) 4 99 D al [.ref x0, .int x1, .int x2, .int x3] dt 0 (some (.int r0)) dt0 := by
  refine q_Mt.of (by decide) (Nat.le_of_ble_eq_true rfl) ?_
  intro p e s m args below meth c ls C hargs hW hl
  have hx := C.1
  have hb := C.2.1
  have hown := C.2.2.2.2.2.1
  have hts := C.2.2.2.2.2.2.1
  have hS : va_S (q_A al) s.heap s.heap [] := va_S.rf
  have hl : lv_has ls 4 [(0, .ref x0), (1, .int x1), (2, .int x2), (3, .int x3)] := hl
  unfold X12_bitBy at hm
  refine lv_aload_n hx hb dX12_bitBy_0 rfl (lv_at hl 0 rfl) ?_
  refine lv_iload_n hx hb dX12_bitBy_1 rfl (lv_at hl 1 rfl) ?_
  obtain ⟨v1000002, hc1000001, hm⟩ := q_b1i hm
  refine q_callV C hW hS (As := [.int x1]) (rest := []) (st1 := [.int v1000002]) (c_X12_isSender l D al dt x0 x1 kx0 v1000002 hc1000001) yl_X12_isSender vl_X12_isSender ml_RX12_415 (ci := 12) rfl kx0 (by decide) rfl ⟨Nat.le_of_ble_eq_true rfl, Nat.le_of_ble_eq_true rfl⟩ hl rfl (Nat.le_of_ble_eq_true rfl) dX12_bitBy_2 ⟨Nat.le_refl _, Nat.le_refl _⟩ rfl (fun H locs k1000003 hW hS => ?_)
  refine q_ifc hm (fun c1000004 hm => ?_) (fun c1000004 hm => ?_)
  · refine lv_if_eq (tgt := 12) hx hb dX12_bitBy_5 (by decide) (fun _ => ?_) (fun h => absurd c1000004 h)
    refine lv_iconst (v := (-1)) hx hb dX12_bitBy_12 (by decide) ?_
    exact e_iD C hW hS hm dX12_bitBy_13
  refine lv_if_eq (tgt := 12) hx hb dX12_bitBy_5 (by decide) (fun h => absurd h c1000004) (fun _ => ?_)
  refine lv_iload_n hx hb dX12_bitBy_8 rfl (lv_at hl 2 rfl) ?_
  refine q_ifc hm (fun c1000005 hm => ?_) (fun c1000005 hm => ?_)
  · refine lv_if_ge (tgt := 14) hx hb dX12_bitBy_9 (by decide) (fun _ => ?_) (fun h => absurd c1000005 h)
    refine lv_iload_n hx hb dX12_bitBy_14 rfl (lv_at hl 2 rfl) ?_
    refine lv_sipush (v := 511) hx hb dX12_bitBy_15 (by decide) ?_
    refine q_ifc hm (fun c1000006 hm => ?_) (fun c1000006 hm => ?_)
    · refine lv_icmp_le (tgt := 24) hx hb dX12_bitBy_18 (by decide) (fun _ => ?_) (fun h => absurd c1000006 h)
      refine lv_aload_n hx hb dX12_bitBy_24 rfl (lv_at hl 0 rfl) ?_
      refine lv_aload_n hx hb dX12_bitBy_25 rfl (lv_at hl 0 rfl) ?_
      refine r_getF C hW (ci := 12) kx0 ff_12_53 cl_12 fl_RX12_133 dX12_bitBy_26 (fun k1000007 => ?_)
      refine lv_iload_n hx hb dX12_bitBy_29 rfl (lv_at hl 1 rfl) ?_
      refine lv_iload_n hx hb dX12_bitBy_30 rfl (lv_at hl 3 rfl) ?_
      obtain ⟨dt1000009, hc1000008, hm⟩ := q_b1i hm
      refine q_callV C hW hS (As := [.ref (al.2.2 x0 53), .int x1, .int x3]) (rest := []) (st1 := []) (c_X12_sumsUp l D al dt x0 (al.2.2 x0 53) x1 x3 kx0 k1000007 dt1000009 hc1000008) yl_X12_sumsUp vl_X12_sumsUp ml_RX12_450 (ci := 12) rfl kx0 (by decide) rfl ⟨Nat.le_of_ble_eq_true rfl, Nat.le_of_ble_eq_true rfl⟩ hl rfl (Nat.le_of_ble_eq_true rfl) dX12_bitBy_31 ⟨Nat.le_refl _, Nat.le_refl _⟩ rfl (fun H locs k1000010 hW hS => ?_)
      refine lv_aload_n hx hb dX12_bitBy_34 rfl (lv_at hl 0 rfl) ?_
      refine lv_iload_n hx hb dX12_bitBy_35 rfl (lv_at hl 2 rfl) ?_
      obtain ⟨v1000012, hc1000011, hm⟩ := q_b1i hm
      refine q_callV C hW hS (As := [.int x2]) (rest := []) (st1 := [.int v1000012]) (c_X12_bitOf l D al dt1000009 x0 x2 kx0 v1000012 hc1000011) yl_X12_bitOf vl_X12_bitOf ml_RX12_454 (ci := 12) rfl kx0 (by decide) rfl ⟨Nat.le_of_ble_eq_true rfl, Nat.le_of_ble_eq_true rfl⟩ hl rfl (Nat.le_of_ble_eq_true rfl) dX12_bitBy_36 ⟨Nat.le_refl _, Nat.le_refl _⟩ rfl (fun H locs k1000013 hW hS => ?_)
      exact e_iD C hW hS hm dX12_bitBy_39
    refine lv_icmp_le (tgt := 24) hx hb dX12_bitBy_18 (by decide) (fun h => absurd h c1000006) (fun _ => ?_)
    refine lv_bipush (v := (-2)) hx hb dX12_bitBy_21 (by decide) ?_
    exact e_iD C hW hS hm dX12_bitBy_23
  refine lv_if_ge (tgt := 14) hx hb dX12_bitBy_9 (by decide) (fun h => absurd h c1000005) (fun _ => ?_)
  refine lv_iconst (v := (-1)) hx hb dX12_bitBy_12 (by decide) ?_
  exact e_iD C hW hS hm dX12_bitBy_13
theorem dX12_bit_0 : decode cX12_bit 0 = .ok (.aload_n 0, 1) := by decide +kernel
theorem dX12_bit_1 : decode cX12_bit 1 = .ok (.iload_n 1, 1) := by decide +kernel
theorem dX12_bit_2 : decode cX12_bit 2 = .ok (.iload_n 2, 1) := by decide +kernel
theorem dX12_bit_3 : decode cX12_bit 3 = .ok (.iconst 0, 1) := by decide +kernel
theorem dX12_bit_4 : decode cX12_bit 4 = .ok (.invokevirtual 457, 3) := by decide +kernel
theorem dX12_bit_7 : decode cX12_bit 7 = .ok (.ireturn, 1) := by decide +kernel
set_option maxRecDepth 100000 in
theorem c_X12_bit (l : Launch) (D : q_D) (al : q_Al) (dt : q_Dt) (x0 : Nat) (x1 : Int32) (x2 : Int32) (kx0 : al.1 x0 = 13) (r0 : Int32) (dt0 : q_Dt) (hm : X12_bit al dt x0 x1 x2 = some (r0, dt0)) : q_Mt l yX12_bit cX12_bit 3 (some FieldType.int) 5 122 D al [.ref x0, .int x1, .int x2] dt 0 (some (.int r0)) dt0 := by
  refine q_Mt.of (by decide) (Nat.le_of_ble_eq_true rfl) ?_
  intro p e s m args below meth c ls C hargs hW hl
  have hx := C.1
  have hb := C.2.1
  have hown := C.2.2.2.2.2.1
  have hts := C.2.2.2.2.2.2.1
  have hS : va_S (q_A al) s.heap s.heap [] := va_S.rf
  have hl : lv_has ls 3 [(0, .ref x0), (1, .int x1), (2, .int x2)] := hl
  unfold X12_bit at hm
  refine lv_aload_n hx hb dX12_bit_0 rfl (lv_at hl 0 rfl) ?_
  refine lv_iload_n hx hb dX12_bit_1 rfl (lv_at hl 1 rfl) ?_
  refine lv_iload_n hx hb dX12_bit_2 rfl (lv_at hl 2 rfl) ?_
  refine lv_iconst (v := 0) hx hb dX12_bit_3 (by decide) ?_
  obtain ⟨v1000002, dt1000003, hc1000001, hm⟩ := q_b2i hm
  refine q_callV C hW hS (As := [.int x1, .int x2, .int 0]) (rest := []) (st1 := [.int v1000002]) (c_X12_bitBy l D al dt x0 x1 x2 0 kx0 v1000002 dt1000003 hc1000001) yl_X12_bitBy vl_X12_bitBy ml_RX12_457 (ci := 12) rfl kx0 (by decide) rfl ⟨Nat.le_of_ble_eq_true rfl, Nat.le_of_ble_eq_true rfl⟩ hl rfl (Nat.le_of_ble_eq_true rfl) dX12_bit_4 ⟨Nat.le_refl _, Nat.le_refl _⟩ rfl (fun H locs k1000004 hW hS => ?_)
  exact e_iD C hW hS hm dX12_bit_7
theorem dX12_joined_0 : decode cX12_joined 0 = .ok (.aload_n 0, 1) := by decide +kernel
theorem dX12_joined_1 : decode cX12_joined 1 = .ok (.iload_n 1, 1) := by decide +kernel
theorem dX12_joined_2 : decode cX12_joined 2 = .ok (.iload_n 2, 1) := by decide +kernel
theorem dX12_joined_3 : decode cX12_joined 3 = .ok (.iconst 1, 1) := by decide +kernel
theorem dX12_joined_4 : decode cX12_joined 4 = .ok (.invokevirtual 457, 3) := by decide +kernel
theorem dX12_joined_7 : decode cX12_joined 7 = .ok (.ireturn, 1) := by decide +kernel
set_option maxRecDepth 100000 in
theorem c_X12_joined (l : Launch) (D : q_D) (al : q_Al) (dt : q_Dt) (x0 : Nat) (x1 : Int32) (x2 : Int32) (kx0 : al.1 x0 = 13) (r0 : Int32) (dt0 : q_Dt) (hm : X12_joined al dt x0 x1 x2 = some (r0, dt0)) : q_Mt l yX12_joined cX12_joined 3 (some FieldType.int) 5 122 D al [.ref x0, .int x1, .int x2] dt 0 (some (.int r0)) dt0 := by
  refine q_Mt.of (by decide) (Nat.le_of_ble_eq_true rfl) ?_
  intro p e s m args below meth c ls C hargs hW hl
  have hx := C.1
  have hb := C.2.1
  have hown := C.2.2.2.2.2.1
  have hts := C.2.2.2.2.2.2.1
  have hS : va_S (q_A al) s.heap s.heap [] := va_S.rf
  have hl : lv_has ls 3 [(0, .ref x0), (1, .int x1), (2, .int x2)] := hl
  unfold X12_joined at hm
  refine lv_aload_n hx hb dX12_joined_0 rfl (lv_at hl 0 rfl) ?_
  refine lv_iload_n hx hb dX12_joined_1 rfl (lv_at hl 1 rfl) ?_
  refine lv_iload_n hx hb dX12_joined_2 rfl (lv_at hl 2 rfl) ?_
  refine lv_iconst (v := 1) hx hb dX12_joined_3 (by decide) ?_
  obtain ⟨v1000002, dt1000003, hc1000001, hm⟩ := q_b2i hm
  refine q_callV C hW hS (As := [.int x1, .int x2, .int 1]) (rest := []) (st1 := [.int v1000002]) (c_X12_bitBy l D al dt x0 x1 x2 1 kx0 v1000002 dt1000003 hc1000001) yl_X12_bitBy vl_X12_bitBy ml_RX12_457 (ci := 12) rfl kx0 (by decide) rfl ⟨Nat.le_of_ble_eq_true rfl, Nat.le_of_ble_eq_true rfl⟩ hl rfl (Nat.le_of_ble_eq_true rfl) dX12_joined_4 ⟨Nat.le_refl _, Nat.le_refl _⟩ rfl (fun H locs k1000004 hW hS => ?_)
  exact e_iD C hW hS hm dX12_joined_7
theorem dX12_wrongOf_0 : decode cX12_wrongOf 0 = .ok (.aload_n 0, 1) := by decide +kernel
theorem dX12_wrongOf_1 : decode cX12_wrongOf 1 = .ok (.aload_n 1, 1) := by decide +kernel
theorem dX12_wrongOf_2 : decode cX12_wrongOf 2 = .ok (.iload_n 2, 1) := by decide +kernel
theorem dX12_wrongOf_3 : decode cX12_wrongOf 3 = .ok (.iconst 0, 1) := by decide +kernel
theorem dX12_wrongOf_4 : decode cX12_wrongOf 4 = .ok (.invokevirtual 450, 3) := by decide +kernel
theorem dX12_wrongOf_7 : decode cX12_wrongOf 7 = .ok (.iconst 0, 1) := by decide +kernel
theorem dX12_wrongOf_8 : decode cX12_wrongOf 8 = .ok (.istore_n 3, 1) := by decide +kernel
theorem dX12_wrongOf_9 : decode cX12_wrongOf 9 = .ok (.iconst 0, 1) := by decide +kernel
theorem dX12_wrongOf_10 : decode cX12_wrongOf 10 = .ok (.istore 4, 2) := by decide +kernel
theorem dX12_wrongOf_12 : decode cX12_wrongOf 12 = .ok (.iload 4, 2) := by decide +kernel
theorem dX12_wrongOf_14 : decode cX12_wrongOf 14 = .ok (.sipush 512, 3) := by decide +kernel
theorem dX12_wrongOf_17 : decode cX12_wrongOf 17 = .ok (.if_icmp .ge 38, 3) := by decide +kernel
theorem dX12_wrongOf_20 : decode cX12_wrongOf 20 = .ok (.aload_n 0, 1) := by decide +kernel
theorem dX12_wrongOf_21 : decode cX12_wrongOf 21 = .ok (.getfield 161, 3) := by decide +kernel
theorem dX12_wrongOf_24 : decode cX12_wrongOf 24 = .ok (.iload 4, 2) := by decide +kernel
theorem dX12_wrongOf_26 : decode cX12_wrongOf 26 = .ok (.baload, 1) := by decide +kernel
theorem dX12_wrongOf_27 : decode cX12_wrongOf 27 = .ok (.ifCond .eq 22, 3) := by decide +kernel
theorem dX12_wrongOf_30 : decode cX12_wrongOf 30 = .ok (.aload_n 0, 1) := by decide +kernel
theorem dX12_wrongOf_31 : decode cX12_wrongOf 31 = .ok (.iload 4, 2) := by decide +kernel
theorem dX12_wrongOf_33 : decode cX12_wrongOf 33 = .ok (.invokevirtual 454, 3) := by decide +kernel
theorem dX12_wrongOf_36 : decode cX12_wrongOf 36 = .ok (.aload_n 0, 1) := by decide +kernel
theorem dX12_wrongOf_37 : decode cX12_wrongOf 37 = .ok (.iload_n 2, 1) := by decide +kernel
theorem dX12_wrongOf_38 : decode cX12_wrongOf 38 = .ok (.iload 4, 2) := by decide +kernel
theorem dX12_wrongOf_40 : decode cX12_wrongOf 40 = .ok (.invokevirtual 339, 3) := by decide +kernel
theorem dX12_wrongOf_43 : decode cX12_wrongOf 43 = .ok (.if_icmp .eq 6, 3) := by decide +kernel
theorem dX12_wrongOf_46 : decode cX12_wrongOf 46 = .ok (.iinc 3 1, 3) := by decide +kernel
theorem dX12_wrongOf_49 : decode cX12_wrongOf 49 = .ok (.iinc 4 1, 3) := by decide +kernel
theorem dX12_wrongOf_52 : decode cX12_wrongOf 52 = .ok (.goto (-40), 3) := by decide +kernel
theorem dX12_wrongOf_55 : decode cX12_wrongOf 55 = .ok (.iload_n 3, 1) := by decide +kernel
theorem dX12_wrongOf_56 : decode cX12_wrongOf 56 = .ok (.ireturn, 1) := by decide +kernel
set_option maxRecDepth 100000 in
theorem c_X12_wrongOf (l : Launch) (D : q_D) (al : q_Al) (dt : q_Dt) (x0 : Nat) (x1 : Nat) (x2 : Int32) (kx0 : al.1 x0 = 13) (kx1 : al.1 x1 = 21) (r0 : Int32) (dt0 : q_Dt) (hm : X12_wrongOf al dt x0 x1 x2 = some (r0, dt0)) : q_Mt l yX12_wrongOf cX12_wrongOf 5 (some FieldType.int) 4 99 D al [.ref x0, .ref x1, .int x2] dt 0 (some (.int r0)) dt0 := by
  refine q_Mt.of (by decide) (Nat.le_of_ble_eq_true rfl) ?_
  intro p e s m args below meth c ls C hargs hW hl
  have hx := C.1
  have hb := C.2.1
  have hown := C.2.2.2.2.2.1
  have hts := C.2.2.2.2.2.2.1
  have hS : va_S (q_A al) s.heap s.heap [] := va_S.rf
  have hl : lv_has ls 5 [(0, .ref x0), (1, .ref x1), (2, .int x2)] := hl
  unfold X12_wrongOf at hm
  have hB12 : ∀ (x0_12 : Nat) (x2_12 : Int32) (kx0_12 : al.1 x0_12 = 13) (n_12 : Nat) (x3_12 : Int32) (x4_12 : Int32) (dt : q_Dt) (H : Heap) (locs : List Loc) (ls : Array Slot) (hm : X12_wrongOf_b12 al x0_12 x2_12 n_12 x3_12 x4_12 dt = some (r0, dt0)) (hW : q_W D al dt H) (hS : va_S (q_A al) s.heap H locs) (hl : lv_has ls 5 [(0, .ref x0_12), (2, .int x2_12), (3, .int x3_12), (4, .int x4_12)]), W p l e { frames := 4, cells := 0, slots := 0, locals := 99 } s m args below meth c H locs 0 0 (MQ below (q_Q (some (.int r0)) (fun H => q_W D al dt0 H ∧ q_Rk al 0 (some (.int r0))) (q_A al)) args s 0 0 (q_A al)) (F0 m 12 ls []) := by
    intro x0_12 x2_12 kx0_12
    intro n_12
    induction n_12 with
    | zero => intro x3_12 x4_12 dt H locs ls hm hW hS hl; cases hm
    | succ n_12 ih12 =>
      have hB49 : ∀ (x3_49 : Int32) (x4_49 : Int32) (dt : q_Dt) (H : Heap) (locs : List Loc) (ls : Array Slot) (hm : X12_wrongOf_b49 al (X12_wrongOf_b12 al x0_12 x2_12 n_12) x0_12 x2_12 x3_49 x4_49 dt = some (r0, dt0)) (hW : q_W D al dt H) (hS : va_S (q_A al) s.heap H locs) (hl : lv_has ls 5 [(0, .ref x0_12), (2, .int x2_12), (3, .int x3_49), (4, .int x4_49)]), W p l e { frames := 4, cells := 0, slots := 0, locals := 99 } s m args below meth c H locs 0 0 (MQ below (q_Q (some (.int r0)) (fun H => q_W D al dt0 H ∧ q_Rk al 0 (some (.int r0))) (q_A al)) args s 0 0 (q_A al)) (F0 m 49 ls []) := by
        intro x3_49 x4_49 dt H locs ls hm hW hS hl
        unfold X12_wrongOf_b49 at hm
        refine lv_iinc (v := (x4_49 + 1)) (lv' := [(4, .int (x4_49 + 1)), (0, .ref x0_12), (2, .int x2_12), (3, .int x3_49)]) hx hb dX12_wrongOf_49 hl (k := 3) rfl rfl (by decide) rfl (fun ls hl => ?_)
        refine lv_goto (tgt := 12) hx hb dX12_wrongOf_52 (by decide) ?_
        exact ih12 x3_49 (x4_49 + 1) dt _ _ _ hm hW hS (lv_sub hl [1, 2, 3, 0] rfl)
      intro x3_12 x4_12 dt H locs ls hm hW hS hl
      rw [X12_wrongOf_b12] at hm
      refine lv_iload hx hb dX12_wrongOf_12 (lv_at hl 3 rfl) ?_
      refine lv_sipush (v := 512) hx hb dX12_wrongOf_14 (by decide) ?_
      refine q_ifc hm (fun c12001 hm => ?_) (fun c12001 hm => ?_)
      · refine lv_icmp_ge (tgt := 55) hx hb dX12_wrongOf_17 (by decide) (fun _ => ?_) (fun h => absurd c12001 h)
        refine lv_iload_n hx hb dX12_wrongOf_55 rfl (lv_at hl 2 rfl) ?_
        exact e_iD C hW hS hm dX12_wrongOf_56
      refine lv_icmp_ge (tgt := 55) hx hb dX12_wrongOf_17 (by decide) (fun h => absurd h c12001) (fun _ => ?_)
      refine lv_aload_n hx hb dX12_wrongOf_20 rfl (lv_at hl 0 rfl) ?_
      refine r_getF C hW (ci := 12) kx0_12 ff_12_64 cl_12 fl_RX12_161 dX12_wrongOf_21 (fun k12002 => ?_)
      refine lv_iload hx hb dX12_wrongOf_24 (lv_at hl 3 rfl) ?_
      refine r_zald C hW hm k12002 dX12_wrongOf_26 (fun hm => ?_)
      refine q_ifc hm (fun c12003 hm => ?_) (fun c12003 hm => ?_)
      · refine lv_if_eq (tgt := 49) hx hb dX12_wrongOf_27 (by decide) (fun _ => ?_) (fun h => absurd c12003 h)
        exact hB49 x3_12 x4_12 dt _ _ _ hm hW hS (lv_sub hl [0, 1, 2, 3] rfl)
      refine lv_if_eq (tgt := 49) hx hb dX12_wrongOf_27 (by decide) (fun h => absurd h c12003) (fun _ => ?_)
      refine lv_aload_n hx hb dX12_wrongOf_30 rfl (lv_at hl 0 rfl) ?_
      refine lv_iload hx hb dX12_wrongOf_31 (lv_at hl 3 rfl) ?_
      obtain ⟨v12005, hc12004, hm⟩ := q_b1i hm
      refine q_callV C hW hS (As := [.int x4_12]) (rest := []) (st1 := [.int v12005]) (c_X12_bitOf l D al dt x0_12 x4_12 kx0_12 v12005 hc12004) yl_X12_bitOf vl_X12_bitOf ml_RX12_454 (ci := 12) rfl kx0_12 (by decide) rfl ⟨Nat.le_of_ble_eq_true rfl, Nat.le_of_ble_eq_true rfl⟩ hl rfl (Nat.le_of_ble_eq_true rfl) dX12_wrongOf_33 ⟨Nat.le_refl _, Nat.le_refl _⟩ rfl (fun H locs k12006 hW hS => ?_)
      refine lv_aload_n hx hb dX12_wrongOf_36 rfl (lv_at hl 0 rfl) ?_
      refine lv_iload_n hx hb dX12_wrongOf_37 rfl (lv_at hl 1 rfl) ?_
      refine lv_iload hx hb dX12_wrongOf_38 (lv_at hl 3 rfl) ?_
      obtain ⟨v12008, hc12007, hm⟩ := q_b1i hm
      refine q_callV C hW hS (As := [.int x2_12, .int x4_12]) (rest := [.int v12005]) (st1 := [.int v12008, .int v12005]) (c_X12_dataBit l D al dt x0_12 x2_12 x4_12 kx0_12 v12008 hc12007) yl_X12_dataBit vl_X12_dataBit ml_RX12_339 (ci := 12) rfl kx0_12 (by decide) rfl ⟨Nat.le_of_ble_eq_true rfl, Nat.le_of_ble_eq_true rfl⟩ hl rfl (Nat.le_of_ble_eq_true rfl) dX12_wrongOf_40 ⟨Nat.le_refl _, Nat.le_refl _⟩ rfl (fun H locs k12009 hW hS => ?_)
      refine q_ifc hm (fun c12010 hm => ?_) (fun c12010 hm => ?_)
      · refine lv_icmp_eq (tgt := 49) hx hb dX12_wrongOf_43 (by decide) (fun _ => ?_) (fun h => absurd c12010 h)
        exact hB49 x3_12 x4_12 dt _ _ _ hm hW hS (lv_sub hl [0, 1, 2, 3] rfl)
      refine lv_icmp_eq (tgt := 49) hx hb dX12_wrongOf_43 (by decide) (fun h => absurd h c12010) (fun _ => ?_)
      refine lv_iinc (v := (x3_12 + 1)) (lv' := [(3, .int (x3_12 + 1)), (0, .ref x0_12), (2, .int x2_12), (4, .int x4_12)]) hx hb dX12_wrongOf_46 hl (k := 2) rfl rfl (by decide) rfl (fun ls hl => ?_)
      exact hB49 (x3_12 + 1) x4_12 dt _ _ _ hm hW hS (lv_sub hl [1, 2, 0, 3] rfl)
  refine lv_aload_n hx hb dX12_wrongOf_0 rfl (lv_at hl 0 rfl) ?_
  refine lv_aload_n hx hb dX12_wrongOf_1 rfl (lv_at hl 1 rfl) ?_
  refine lv_iload_n hx hb dX12_wrongOf_2 rfl (lv_at hl 2 rfl) ?_
  refine lv_iconst (v := 0) hx hb dX12_wrongOf_3 (by decide) ?_
  obtain ⟨dt1000002, hc1000001, hm⟩ := q_b1i hm
  refine q_callV C hW hS (As := [.ref x1, .int x2, .int 0]) (rest := []) (st1 := []) (c_X12_sumsUp l D al dt x0 x1 x2 0 kx0 kx1 dt1000002 hc1000001) yl_X12_sumsUp vl_X12_sumsUp ml_RX12_450 (ci := 12) rfl kx0 (by decide) rfl ⟨Nat.le_of_ble_eq_true rfl, Nat.le_of_ble_eq_true rfl⟩ hl rfl (Nat.le_of_ble_eq_true rfl) dX12_wrongOf_4 ⟨Nat.le_refl _, Nat.le_refl _⟩ rfl (fun H locs k1000003 hW hS => ?_)
  refine lv_iconst (v := 0) hx hb dX12_wrongOf_7 (by decide) ?_
  refine lv_istore_n (i := 3) (lv' := [(3, .int 0), (0, .ref x0), (1, .ref x1), (2, .int x2)]) hx hb dX12_wrongOf_8 rfl hl (by decide) rfl (fun ls hl => ?_)
  refine lv_iconst (v := 0) hx hb dX12_wrongOf_9 (by decide) ?_
  refine lv_istore (i := 4) (lv' := [(4, .int 0), (3, .int 0), (0, .ref x0), (1, .ref x1), (2, .int x2)]) hx hb dX12_wrongOf_10 hl (by decide) rfl (fun ls hl => ?_)
  exact hB12 x0 x2 kx0 q_FU 0 0 dt1000002 _ _ _ hm hW hS (lv_sub hl [2, 4, 1, 0] rfl)
theorem dX12_wrong_0 : decode cX12_wrong 0 = .ok (.aload_n 0, 1) := by decide +kernel
theorem dX12_wrong_1 : decode cX12_wrong 1 = .ok (.iload_n 1, 1) := by decide +kernel
theorem dX12_wrong_2 : decode cX12_wrong 2 = .ok (.invokevirtual 415, 3) := by decide +kernel
theorem dX12_wrong_5 : decode cX12_wrong 5 = .ok (.ifCond .eq 15, 3) := by decide +kernel
theorem dX12_wrong_8 : decode cX12_wrong 8 = .ok (.aload_n 0, 1) := by decide +kernel
theorem dX12_wrong_9 : decode cX12_wrong 9 = .ok (.aload_n 0, 1) := by decide +kernel
theorem dX12_wrong_10 : decode cX12_wrong 10 = .ok (.getfield 133, 3) := by decide +kernel
theorem dX12_wrong_13 : decode cX12_wrong 13 = .ok (.iload_n 1, 1) := by decide +kernel
theorem dX12_wrong_14 : decode cX12_wrong 14 = .ok (.invokevirtual 461, 3) := by decide +kernel
theorem dX12_wrong_17 : decode cX12_wrong 17 = .ok (.goto 4, 3) := by decide +kernel
theorem dX12_wrong_20 : decode cX12_wrong 20 = .ok (.iconst (-1), 1) := by decide +kernel
theorem dX12_wrong_21 : decode cX12_wrong 21 = .ok (.ireturn, 1) := by decide +kernel
set_option maxRecDepth 100000 in
theorem c_X12_wrong (l : Launch) (D : q_D) (al : q_Al) (dt : q_Dt) (x0 : Nat) (x1 : Int32) (kx0 : al.1 x0 = 13) (r0 : Int32) (dt0 : q_Dt) (hm : X12_wrong al dt x0 x1 = some (r0, dt0)) : q_Mt l yX12_wrong cX12_wrong 2 (some FieldType.int) 5 123 D al [.ref x0, .int x1] dt 0 (some (.int r0)) dt0 := by
  refine q_Mt.of (by decide) (Nat.le_of_ble_eq_true rfl) ?_
  intro p e s m args below meth c ls C hargs hW hl
  have hx := C.1
  have hb := C.2.1
  have hown := C.2.2.2.2.2.1
  have hts := C.2.2.2.2.2.2.1
  have hS : va_S (q_A al) s.heap s.heap [] := va_S.rf
  have hl : lv_has ls 2 [(0, .ref x0), (1, .int x1)] := hl
  unfold X12_wrong at hm
  refine lv_aload_n hx hb dX12_wrong_0 rfl (lv_at hl 0 rfl) ?_
  refine lv_iload_n hx hb dX12_wrong_1 rfl (lv_at hl 1 rfl) ?_
  obtain ⟨v1000002, hc1000001, hm⟩ := q_b1i hm
  refine q_callV C hW hS (As := [.int x1]) (rest := []) (st1 := [.int v1000002]) (c_X12_isSender l D al dt x0 x1 kx0 v1000002 hc1000001) yl_X12_isSender vl_X12_isSender ml_RX12_415 (ci := 12) rfl kx0 (by decide) rfl ⟨Nat.le_of_ble_eq_true rfl, Nat.le_of_ble_eq_true rfl⟩ hl rfl (Nat.le_of_ble_eq_true rfl) dX12_wrong_2 ⟨Nat.le_refl _, Nat.le_refl _⟩ rfl (fun H locs k1000003 hW hS => ?_)
  refine q_ifc hm (fun c1000004 hm => ?_) (fun c1000004 hm => ?_)
  · refine lv_if_eq (tgt := 20) hx hb dX12_wrong_5 (by decide) (fun _ => ?_) (fun h => absurd c1000004 h)
    refine lv_iconst (v := (-1)) hx hb dX12_wrong_20 (by decide) ?_
    exact e_iD C hW hS hm dX12_wrong_21
  refine lv_if_eq (tgt := 20) hx hb dX12_wrong_5 (by decide) (fun h => absurd h c1000004) (fun _ => ?_)
  refine lv_aload_n hx hb dX12_wrong_8 rfl (lv_at hl 0 rfl) ?_
  refine lv_aload_n hx hb dX12_wrong_9 rfl (lv_at hl 0 rfl) ?_
  refine r_getF C hW (ci := 12) kx0 ff_12_53 cl_12 fl_RX12_133 dX12_wrong_10 (fun k1000005 => ?_)
  refine lv_iload_n hx hb dX12_wrong_13 rfl (lv_at hl 1 rfl) ?_
  obtain ⟨v1000007, dt1000008, hc1000006, hm⟩ := q_b2i hm
  refine q_callV C hW hS (As := [.ref (al.2.2 x0 53), .int x1]) (rest := []) (st1 := [.int v1000007]) (c_X12_wrongOf l D al dt x0 (al.2.2 x0 53) x1 kx0 k1000005 v1000007 dt1000008 hc1000006) yl_X12_wrongOf vl_X12_wrongOf ml_RX12_461 (ci := 12) rfl kx0 (by decide) rfl ⟨Nat.le_of_ble_eq_true rfl, Nat.le_of_ble_eq_true rfl⟩ hl rfl (Nat.le_of_ble_eq_true rfl) dX12_wrong_14 ⟨Nat.le_refl _, Nat.le_refl _⟩ rfl (fun H locs k1000009 hW hS => ?_)
  refine lv_goto (tgt := 21) hx hb dX12_wrong_17 (by decide) ?_
  exact e_iD C hW hS hm dX12_wrong_21
theorem dX12_frame_0 : decode cX12_frame 0 = .ok (.aload_n 0, 1) := by decide +kernel
theorem dX12_frame_1 : decode cX12_frame 1 = .ok (.iload_n 1, 1) := by decide +kernel
theorem dX12_frame_2 : decode cX12_frame 2 = .ok (.invokevirtual 415, 3) := by decide +kernel
theorem dX12_frame_5 : decode cX12_frame 5 = .ok (.ifCond .eq 26, 3) := by decide +kernel
theorem dX12_frame_8 : decode cX12_frame 8 = .ok (.iload_n 3, 1) := by decide +kernel
theorem dX12_frame_9 : decode cX12_frame 9 = .ok (.iconst 1, 1) := by decide +kernel
theorem dX12_frame_10 : decode cX12_frame 10 = .ok (.bipush 13, 2) := by decide +kernel
theorem dX12_frame_12 : decode cX12_frame 12 = .ok (.invokestatic 376, 3) := by decide +kernel
theorem dX12_frame_15 : decode cX12_frame 15 = .ok (.ifCond .eq 16, 3) := by decide +kernel
theorem dX12_frame_18 : decode cX12_frame 18 = .ok (.iload_n 2, 1) := by decide +kernel
theorem dX12_frame_19 : decode cX12_frame 19 = .ok (.iconst 0, 1) := by decide +kernel
theorem dX12_frame_20 : decode cX12_frame 20 = .ok (.iconst 1, 1) := by decide +kernel
theorem dX12_frame_21 : decode cX12_frame 21 = .ok (.iload_n 3, 1) := by decide +kernel
theorem dX12_frame_22 : decode cX12_frame 22 = .ok (.ishl, 1) := by decide +kernel
theorem dX12_frame_23 : decode cX12_frame 23 = .ok (.iconst 1, 1) := by decide +kernel
theorem dX12_frame_24 : decode cX12_frame 24 = .ok (.isub, 1) := by decide +kernel
theorem dX12_frame_25 : decode cX12_frame 25 = .ok (.invokestatic 376, 3) := by decide +kernel
theorem dX12_frame_28 : decode cX12_frame 28 = .ok (.ifCond .ne 5, 3) := by decide +kernel
theorem dX12_frame_31 : decode cX12_frame 31 = .ok (.iconst (-1), 1) := by decide +kernel
theorem dX12_frame_32 : decode cX12_frame 32 = .ok (.ireturn, 1) := by decide +kernel
theorem dX12_frame_33 : decode cX12_frame 33 = .ok (.aload_n 0, 1) := by decide +kernel
theorem dX12_frame_34 : decode cX12_frame 34 = .ok (.aload_n 0, 1) := by decide +kernel
theorem dX12_frame_35 : decode cX12_frame 35 = .ok (.getfield 133, 3) := by decide +kernel
theorem dX12_frame_38 : decode cX12_frame 38 = .ok (.iload_n 1, 1) := by decide +kernel
theorem dX12_frame_39 : decode cX12_frame 39 = .ok (.iconst 0, 1) := by decide +kernel
theorem dX12_frame_40 : decode cX12_frame 40 = .ok (.invokevirtual 450, 3) := by decide +kernel
theorem dX12_frame_43 : decode cX12_frame 43 = .ok (.iconst 0, 1) := by decide +kernel
theorem dX12_frame_44 : decode cX12_frame 44 = .ok (.istore 4, 2) := by decide +kernel
theorem dX12_frame_46 : decode cX12_frame 46 = .ok (.iload 4, 2) := by decide +kernel
theorem dX12_frame_48 : decode cX12_frame 48 = .ok (.iload_n 3, 1) := by decide +kernel
theorem dX12_frame_49 : decode cX12_frame 49 = .ok (.iadd, 1) := by decide +kernel
theorem dX12_frame_50 : decode cX12_frame 50 = .ok (.sipush 512, 3) := by decide +kernel
theorem dX12_frame_53 : decode cX12_frame 53 = .ok (.if_icmp .gt 65, 3) := by decide +kernel
theorem dX12_frame_56 : decode cX12_frame 56 = .ok (.iconst 1, 1) := by decide +kernel
theorem dX12_frame_57 : decode cX12_frame 57 = .ok (.istore 5, 2) := by decide +kernel
theorem dX12_frame_59 : decode cX12_frame 59 = .ok (.iconst 0, 1) := by decide +kernel
theorem dX12_frame_60 : decode cX12_frame 60 = .ok (.istore 6, 2) := by decide +kernel
theorem dX12_frame_62 : decode cX12_frame 62 = .ok (.iload 6, 2) := by decide +kernel
theorem dX12_frame_64 : decode cX12_frame 64 = .ok (.iload_n 3, 1) := by decide +kernel
theorem dX12_frame_65 : decode cX12_frame 65 = .ok (.if_icmp .ge 39, 3) := by decide +kernel
theorem dX12_frame_68 : decode cX12_frame 68 = .ok (.iload 5, 2) := by decide +kernel
theorem dX12_frame_70 : decode cX12_frame 70 = .ok (.ifCond .eq 25, 3) := by decide +kernel
theorem dX12_frame_73 : decode cX12_frame 73 = .ok (.aload_n 0, 1) := by decide +kernel
theorem dX12_frame_74 : decode cX12_frame 74 = .ok (.iload 4, 2) := by decide +kernel
theorem dX12_frame_76 : decode cX12_frame 76 = .ok (.iload 6, 2) := by decide +kernel
theorem dX12_frame_78 : decode cX12_frame 78 = .ok (.iadd, 1) := by decide +kernel
theorem dX12_frame_79 : decode cX12_frame 79 = .ok (.invokevirtual 454, 3) := by decide +kernel
theorem dX12_frame_82 : decode cX12_frame 82 = .ok (.iload_n 2, 1) := by decide +kernel
theorem dX12_frame_83 : decode cX12_frame 83 = .ok (.iload 6, 2) := by decide +kernel
theorem dX12_frame_85 : decode cX12_frame 85 = .ok (.ishr, 1) := by decide +kernel
theorem dX12_frame_86 : decode cX12_frame 86 = .ok (.iconst 1, 1) := by decide +kernel
theorem dX12_frame_87 : decode cX12_frame 87 = .ok (.iand, 1) := by decide +kernel
theorem dX12_frame_88 : decode cX12_frame 88 = .ok (.if_icmp .ne 7, 3) := by decide +kernel
theorem dX12_frame_91 : decode cX12_frame 91 = .ok (.iconst 1, 1) := by decide +kernel
theorem dX12_frame_92 : decode cX12_frame 92 = .ok (.goto 4, 3) := by decide +kernel
theorem dX12_frame_95 : decode cX12_frame 95 = .ok (.iconst 0, 1) := by decide +kernel
theorem dX12_frame_96 : decode cX12_frame 96 = .ok (.istore 5, 2) := by decide +kernel
theorem dX12_frame_98 : decode cX12_frame 98 = .ok (.iinc 6 1, 3) := by decide +kernel
theorem dX12_frame_101 : decode cX12_frame 101 = .ok (.goto (-39), 3) := by decide +kernel
theorem dX12_frame_104 : decode cX12_frame 104 = .ok (.iload 5, 2) := by decide +kernel
theorem dX12_frame_106 : decode cX12_frame 106 = .ok (.ifCond .eq 6, 3) := by decide +kernel
theorem dX12_frame_109 : decode cX12_frame 109 = .ok (.iload 4, 2) := by decide +kernel
theorem dX12_frame_111 : decode cX12_frame 111 = .ok (.ireturn, 1) := by decide +kernel
theorem dX12_frame_112 : decode cX12_frame 112 = .ok (.iinc 4 1, 3) := by decide +kernel
theorem dX12_frame_115 : decode cX12_frame 115 = .ok (.goto (-69), 3) := by decide +kernel
theorem dX12_frame_118 : decode cX12_frame 118 = .ok (.bipush (-2), 2) := by decide +kernel
theorem dX12_frame_120 : decode cX12_frame 120 = .ok (.ireturn, 1) := by decide +kernel
set_option maxRecDepth 100000 in
theorem c_X12_frame (l : Launch) (D : q_D) (al : q_Al) (dt : q_Dt) (x0 : Nat) (x1 : Int32) (x2 : Int32) (x3 : Int32) (kx0 : al.1 x0 = 13) (r0 : Int32) (dt0 : q_Dt) (hm : X12_frame al dt x0 x1 x2 x3 = some (r0, dt0)) : q_Mt l yX12_frame cX12_frame 7 (some FieldType.int) 4 99 D al [.ref x0, .int x1, .int x2, .int x3] dt 0 (some (.int r0)) dt0 := by
  refine q_Mt.of (by decide) (Nat.le_of_ble_eq_true rfl) ?_
  intro p e s m args below meth c ls C hargs hW hl
  have hx := C.1
  have hb := C.2.1
  have hown := C.2.2.2.2.2.1
  have hts := C.2.2.2.2.2.2.1
  have hS : va_S (q_A al) s.heap s.heap [] := va_S.rf
  have hl : lv_has ls 7 [(0, .ref x0), (1, .int x1), (2, .int x2), (3, .int x3)] := hl
  unfold X12_frame at hm
  have hB46 : ∀ (x0_46 : Nat) (x2_46 : Int32) (x3_46 : Int32) (kx0_46 : al.1 x0_46 = 13) (n_46 : Nat) (x4_46 : Int32) (dt : q_Dt) (H : Heap) (locs : List Loc) (ls : Array Slot) (hm : X12_frame_b46 al x0_46 x2_46 x3_46 n_46 x4_46 dt = some (r0, dt0)) (hW : q_W D al dt H) (hS : va_S (q_A al) s.heap H locs) (hl : lv_has ls 7 [(0, .ref x0_46), (2, .int x2_46), (3, .int x3_46), (4, .int x4_46)]), W p l e { frames := 4, cells := 0, slots := 0, locals := 99 } s m args below meth c H locs 0 0 (MQ below (q_Q (some (.int r0)) (fun H => q_W D al dt0 H ∧ q_Rk al 0 (some (.int r0))) (q_A al)) args s 0 0 (q_A al)) (F0 m 46 ls []) := by
    intro x0_46 x2_46 x3_46 kx0_46
    intro n_46
    induction n_46 with
    | zero => intro x4_46 dt H locs ls hm hW hS hl; cases hm
    | succ n_46 ih46 =>
      have hB62 : ∀ (x4_62 : Int32) (n_62 : Nat) (x5_62 : Int32) (x6_62 : Int32) (dt : q_Dt) (H : Heap) (locs : List Loc) (ls : Array Slot) (hm : X12_frame_b62 al (X12_frame_b46 al x0_46 x2_46 x3_46 n_46) x0_46 x2_46 x3_46 x4_62 n_62 x5_62 x6_62 dt = some (r0, dt0)) (hW : q_W D al dt H) (hS : va_S (q_A al) s.heap H locs) (hl : lv_has ls 7 [(0, .ref x0_46), (2, .int x2_46), (3, .int x3_46), (4, .int x4_62), (5, .int x5_62), (6, .int x6_62)]), W p l e { frames := 4, cells := 0, slots := 0, locals := 99 } s m args below meth c H locs 0 0 (MQ below (q_Q (some (.int r0)) (fun H => q_W D al dt0 H ∧ q_Rk al 0 (some (.int r0))) (q_A al)) args s 0 0 (q_A al)) (F0 m 62 ls []) := by
        intro x4_62
        intro n_62
        induction n_62 with
        | zero => intro x5_62 x6_62 dt H locs ls hm hW hS hl; cases hm
        | succ n_62 ih62 =>
          have hB96 : ∀ (x6_96 : Int32) (t0_96 : Int32) (dt : q_Dt) (H : Heap) (locs : List Loc) (ls : Array Slot) (hm : X12_frame_b96 al (X12_frame_b46 al x0_46 x2_46 x3_46 n_46) (X12_frame_b62 al (X12_frame_b46 al x0_46 x2_46 x3_46 n_46) x0_46 x2_46 x3_46 x4_62 n_62) x0_46 x2_46 x3_46 x4_62 x6_96 t0_96 dt = some (r0, dt0)) (hW : q_W D al dt H) (hS : va_S (q_A al) s.heap H locs) (hl : lv_has ls 7 [(0, .ref x0_46), (2, .int x2_46), (3, .int x3_46), (4, .int x4_62), (6, .int x6_96)]), W p l e { frames := 4, cells := 0, slots := 0, locals := 99 } s m args below meth c H locs 0 0 (MQ below (q_Q (some (.int r0)) (fun H => q_W D al dt0 H ∧ q_Rk al 0 (some (.int r0))) (q_A al)) args s 0 0 (q_A al)) (F0 m 96 ls [.int t0_96]) := by
            intro x6_96 t0_96 dt H locs ls hm hW hS hl
            unfold X12_frame_b96 at hm
            refine lv_istore (i := 5) (lv' := [(5, .int t0_96), (0, .ref x0_46), (2, .int x2_46), (3, .int x3_46), (4, .int x4_62), (6, .int x6_96)]) hx hb dX12_frame_96 hl (by decide) rfl (fun ls hl => ?_)
            refine lv_iinc (v := (x6_96 + 1)) (lv' := [(6, .int (x6_96 + 1)), (5, .int t0_96), (0, .ref x0_46), (2, .int x2_46), (3, .int x3_46), (4, .int x4_62)]) hx hb dX12_frame_98 hl (k := 5) rfl rfl (by decide) rfl (fun ls hl => ?_)
            refine lv_goto (tgt := 62) hx hb dX12_frame_101 (by decide) ?_
            exact ih62 t0_96 (x6_96 + 1) dt _ _ _ hm hW hS (lv_sub hl [2, 3, 4, 5, 1, 0] rfl)
          have hB95 : ∀ (x6_95 : Int32) (dt : q_Dt) (H : Heap) (locs : List Loc) (ls : Array Slot) (hm : X12_frame_b95 al (X12_frame_b46 al x0_46 x2_46 x3_46 n_46) (X12_frame_b62 al (X12_frame_b46 al x0_46 x2_46 x3_46 n_46) x0_46 x2_46 x3_46 x4_62 n_62) x0_46 x2_46 x3_46 x4_62 x6_95 dt = some (r0, dt0)) (hW : q_W D al dt H) (hS : va_S (q_A al) s.heap H locs) (hl : lv_has ls 7 [(0, .ref x0_46), (2, .int x2_46), (3, .int x3_46), (4, .int x4_62), (6, .int x6_95)]), W p l e { frames := 4, cells := 0, slots := 0, locals := 99 } s m args below meth c H locs 0 0 (MQ below (q_Q (some (.int r0)) (fun H => q_W D al dt0 H ∧ q_Rk al 0 (some (.int r0))) (q_A al)) args s 0 0 (q_A al)) (F0 m 95 ls []) := by
            intro x6_95 dt H locs ls hm hW hS hl
            unfold X12_frame_b95 at hm
            refine lv_iconst (v := 0) hx hb dX12_frame_95 (by decide) ?_
            exact hB96 x6_95 0 dt _ _ _ hm hW hS (lv_sub hl [0, 1, 2, 3, 4] rfl)
          intro x5_62 x6_62 dt H locs ls hm hW hS hl
          rw [X12_frame_b62] at hm
          refine lv_iload hx hb dX12_frame_62 (lv_at hl 5 rfl) ?_
          refine lv_iload_n hx hb dX12_frame_64 rfl (lv_at hl 2 rfl) ?_
          refine q_ifc hm (fun c62001 hm => ?_) (fun c62001 hm => ?_)
          · refine lv_icmp_ge (tgt := 104) hx hb dX12_frame_65 (by decide) (fun _ => ?_) (fun h => absurd c62001 h)
            refine lv_iload hx hb dX12_frame_104 (lv_at hl 4 rfl) ?_
            refine q_ifc hm (fun c62002 hm => ?_) (fun c62002 hm => ?_)
            · refine lv_if_eq (tgt := 112) hx hb dX12_frame_106 (by decide) (fun _ => ?_) (fun h => absurd c62002 h)
              refine lv_iinc (v := (x4_62 + 1)) (lv' := [(4, .int (x4_62 + 1)), (0, .ref x0_46), (2, .int x2_46), (3, .int x3_46), (5, .int x5_62), (6, .int x6_62)]) hx hb dX12_frame_112 hl (k := 3) rfl rfl (by decide) rfl (fun ls hl => ?_)
              refine lv_goto (tgt := 46) hx hb dX12_frame_115 (by decide) ?_
              exact ih46 (x4_62 + 1) dt _ _ _ hm hW hS (lv_sub hl [1, 2, 3, 0] rfl)
            refine lv_if_eq (tgt := 112) hx hb dX12_frame_106 (by decide) (fun h => absurd h c62002) (fun _ => ?_)
            refine lv_iload hx hb dX12_frame_109 (lv_at hl 3 rfl) ?_
            exact e_iD C hW hS hm dX12_frame_111
          refine lv_icmp_ge (tgt := 104) hx hb dX12_frame_65 (by decide) (fun h => absurd h c62001) (fun _ => ?_)
          refine lv_iload hx hb dX12_frame_68 (lv_at hl 4 rfl) ?_
          refine q_ifc hm (fun c62003 hm => ?_) (fun c62003 hm => ?_)
          · refine lv_if_eq (tgt := 95) hx hb dX12_frame_70 (by decide) (fun _ => ?_) (fun h => absurd c62003 h)
            exact hB95 x6_62 dt _ _ _ hm hW hS (lv_sub hl [0, 1, 2, 3, 5] rfl)
          refine lv_if_eq (tgt := 95) hx hb dX12_frame_70 (by decide) (fun h => absurd h c62003) (fun _ => ?_)
          refine lv_aload_n hx hb dX12_frame_73 rfl (lv_at hl 0 rfl) ?_
          refine lv_iload hx hb dX12_frame_74 (lv_at hl 3 rfl) ?_
          refine lv_iload hx hb dX12_frame_76 (lv_at hl 5 rfl) ?_
          refine lv_iadd hx hb dX12_frame_78 ?_
          obtain ⟨v62005, hc62004, hm⟩ := q_b1i hm
          refine q_callV C hW hS (As := [.int (x4_62 + x6_62)]) (rest := []) (st1 := [.int v62005]) (c_X12_bitOf l D al dt x0_46 (x4_62 + x6_62) kx0_46 v62005 hc62004) yl_X12_bitOf vl_X12_bitOf ml_RX12_454 (ci := 12) rfl kx0_46 (by decide) rfl ⟨Nat.le_of_ble_eq_true rfl, Nat.le_of_ble_eq_true rfl⟩ hl rfl (Nat.le_of_ble_eq_true rfl) dX12_frame_79 ⟨Nat.le_refl _, Nat.le_refl _⟩ rfl (fun H locs k62006 hW hS => ?_)
          refine lv_iload_n hx hb dX12_frame_82 rfl (lv_at hl 1 rfl) ?_
          refine lv_iload hx hb dX12_frame_83 (lv_at hl 5 rfl) ?_
          refine lv_ishr hx hb dX12_frame_85 ?_
          refine lv_iconst (v := 1) hx hb dX12_frame_86 (by decide) ?_
          refine lv_iand hx hb dX12_frame_87 ?_
          refine q_ifc hm (fun c62007 hm => ?_) (fun c62007 hm => ?_)
          · refine lv_icmp_ne (tgt := 95) hx hb dX12_frame_88 (by decide) (fun h => absurd c62007 h) (fun _ => ?_)
            refine lv_iconst (v := 1) hx hb dX12_frame_91 (by decide) ?_
            refine lv_goto (tgt := 96) hx hb dX12_frame_92 (by decide) ?_
            exact hB96 x6_62 1 dt _ _ _ hm hW hS (lv_sub hl [0, 1, 2, 3, 5] rfl)
          refine lv_icmp_ne (tgt := 95) hx hb dX12_frame_88 (by decide) (fun _ => ?_) (fun h => absurd h c62007)
          exact hB95 x6_62 dt _ _ _ hm hW hS (lv_sub hl [0, 1, 2, 3, 5] rfl)
      intro x4_46 dt H locs ls hm hW hS hl
      rw [X12_frame_b46] at hm
      refine lv_iload hx hb dX12_frame_46 (lv_at hl 3 rfl) ?_
      refine lv_iload_n hx hb dX12_frame_48 rfl (lv_at hl 2 rfl) ?_
      refine lv_iadd hx hb dX12_frame_49 ?_
      refine lv_sipush (v := 512) hx hb dX12_frame_50 (by decide) ?_
      refine q_ifc hm (fun c46001 hm => ?_) (fun c46001 hm => ?_)
      · refine lv_icmp_gt (tgt := 118) hx hb dX12_frame_53 (by decide) (fun _ => ?_) (fun h => absurd c46001 h)
        refine lv_bipush (v := (-2)) hx hb dX12_frame_118 (by decide) ?_
        exact e_iD C hW hS hm dX12_frame_120
      refine lv_icmp_gt (tgt := 118) hx hb dX12_frame_53 (by decide) (fun h => absurd h c46001) (fun _ => ?_)
      refine lv_iconst (v := 1) hx hb dX12_frame_56 (by decide) ?_
      refine lv_istore (i := 5) (lv' := [(5, .int 1), (0, .ref x0_46), (2, .int x2_46), (3, .int x3_46), (4, .int x4_46)]) hx hb dX12_frame_57 hl (by decide) rfl (fun ls hl => ?_)
      refine lv_iconst (v := 0) hx hb dX12_frame_59 (by decide) ?_
      refine lv_istore (i := 6) (lv' := [(6, .int 0), (5, .int 1), (0, .ref x0_46), (2, .int x2_46), (3, .int x3_46), (4, .int x4_46)]) hx hb dX12_frame_60 hl (by decide) rfl (fun ls hl => ?_)
      exact hB62 x4_46 q_FU 1 0 dt _ _ _ hm hW hS (lv_sub hl [2, 3, 4, 5, 1, 0] rfl)
  refine lv_aload_n hx hb dX12_frame_0 rfl (lv_at hl 0 rfl) ?_
  refine lv_iload_n hx hb dX12_frame_1 rfl (lv_at hl 1 rfl) ?_
  obtain ⟨v1000002, hc1000001, hm⟩ := q_b1i hm
  refine q_callV C hW hS (As := [.int x1]) (rest := []) (st1 := [.int v1000002]) (c_X12_isSender l D al dt x0 x1 kx0 v1000002 hc1000001) yl_X12_isSender vl_X12_isSender ml_RX12_415 (ci := 12) rfl kx0 (by decide) rfl ⟨Nat.le_of_ble_eq_true rfl, Nat.le_of_ble_eq_true rfl⟩ hl rfl (Nat.le_of_ble_eq_true rfl) dX12_frame_2 ⟨Nat.le_refl _, Nat.le_refl _⟩ rfl (fun H locs k1000003 hW hS => ?_)
  refine q_ifc hm (fun c1000004 hm => ?_) (fun c1000004 hm => ?_)
  · refine lv_if_eq (tgt := 31) hx hb dX12_frame_5 (by decide) (fun _ => ?_) (fun h => absurd c1000004 h)
    refine lv_iconst (v := (-1)) hx hb dX12_frame_31 (by decide) ?_
    exact e_iD C hW hS hm dX12_frame_32
  refine lv_if_eq (tgt := 31) hx hb dX12_frame_5 (by decide) (fun h => absurd h c1000004) (fun _ => ?_)
  refine lv_iload_n hx hb dX12_frame_8 rfl (lv_at hl 3 rfl) ?_
  refine lv_iconst (v := 1) hx hb dX12_frame_9 (by decide) ?_
  refine lv_bipush (v := 13) hx hb dX12_frame_10 (by decide) ?_
  obtain ⟨v1000006, hc1000005, hm⟩ := q_b1i hm
  refine q_callS C hW hS (As := [.int x3, .int 1, .int 13]) (rest := []) (st1 := [.int v1000006]) (c_X12_in l D al dt x3 1 13 v1000006 hc1000005) yl_X12_in sl_X12_in ml_RX12_376 rfl ⟨Nat.le_of_ble_eq_true rfl, Nat.le_of_ble_eq_true rfl⟩ hl rfl (Nat.le_of_ble_eq_true rfl) dX12_frame_12 ⟨Nat.le_refl _, Nat.le_refl _⟩ rfl (fun H locs k1000007 hW hS => ?_)
  refine q_ifc hm (fun c1000008 hm => ?_) (fun c1000008 hm => ?_)
  · refine lv_if_eq (tgt := 31) hx hb dX12_frame_15 (by decide) (fun _ => ?_) (fun h => absurd c1000008 h)
    refine lv_iconst (v := (-1)) hx hb dX12_frame_31 (by decide) ?_
    exact e_iD C hW hS hm dX12_frame_32
  refine lv_if_eq (tgt := 31) hx hb dX12_frame_15 (by decide) (fun h => absurd h c1000008) (fun _ => ?_)
  refine lv_iload_n hx hb dX12_frame_18 rfl (lv_at hl 2 rfl) ?_
  refine lv_iconst (v := 0) hx hb dX12_frame_19 (by decide) ?_
  refine lv_iconst (v := 1) hx hb dX12_frame_20 (by decide) ?_
  refine lv_iload_n hx hb dX12_frame_21 rfl (lv_at hl 3 rfl) ?_
  refine lv_ishl hx hb dX12_frame_22 ?_
  refine lv_iconst (v := 1) hx hb dX12_frame_23 (by decide) ?_
  refine lv_isub hx hb dX12_frame_24 ?_
  obtain ⟨v1000010, hc1000009, hm⟩ := q_b1i hm
  refine q_callS C hW hS (As := [.int x2, .int 0, .int ((1 <<< (x3 &&& 31)) - 1)]) (rest := []) (st1 := [.int v1000010]) (c_X12_in l D al dt x2 0 ((1 <<< (x3 &&& 31)) - 1) v1000010 hc1000009) yl_X12_in sl_X12_in ml_RX12_376 rfl ⟨Nat.le_of_ble_eq_true rfl, Nat.le_of_ble_eq_true rfl⟩ hl rfl (Nat.le_of_ble_eq_true rfl) dX12_frame_25 ⟨Nat.le_refl _, Nat.le_refl _⟩ rfl (fun H locs k1000011 hW hS => ?_)
  refine q_ifc hm (fun c1000012 hm => ?_) (fun c1000012 hm => ?_)
  · refine lv_if_ne (tgt := 33) hx hb dX12_frame_28 (by decide) (fun h => absurd c1000012 h) (fun _ => ?_)
    refine lv_iconst (v := (-1)) hx hb dX12_frame_31 (by decide) ?_
    exact e_iD C hW hS hm dX12_frame_32
  refine lv_if_ne (tgt := 33) hx hb dX12_frame_28 (by decide) (fun _ => ?_) (fun h => absurd h c1000012)
  refine lv_aload_n hx hb dX12_frame_33 rfl (lv_at hl 0 rfl) ?_
  refine lv_aload_n hx hb dX12_frame_34 rfl (lv_at hl 0 rfl) ?_
  refine r_getF C hW (ci := 12) kx0 ff_12_53 cl_12 fl_RX12_133 dX12_frame_35 (fun k1000013 => ?_)
  refine lv_iload_n hx hb dX12_frame_38 rfl (lv_at hl 1 rfl) ?_
  refine lv_iconst (v := 0) hx hb dX12_frame_39 (by decide) ?_
  obtain ⟨dt1000015, hc1000014, hm⟩ := q_b1i hm
  refine q_callV C hW hS (As := [.ref (al.2.2 x0 53), .int x1, .int 0]) (rest := []) (st1 := []) (c_X12_sumsUp l D al dt x0 (al.2.2 x0 53) x1 0 kx0 k1000013 dt1000015 hc1000014) yl_X12_sumsUp vl_X12_sumsUp ml_RX12_450 (ci := 12) rfl kx0 (by decide) rfl ⟨Nat.le_of_ble_eq_true rfl, Nat.le_of_ble_eq_true rfl⟩ hl rfl (Nat.le_of_ble_eq_true rfl) dX12_frame_40 ⟨Nat.le_refl _, Nat.le_refl _⟩ rfl (fun H locs k1000016 hW hS => ?_)
  refine lv_iconst (v := 0) hx hb dX12_frame_43 (by decide) ?_
  refine lv_istore (i := 4) (lv' := [(4, .int 0), (0, .ref x0), (1, .int x1), (2, .int x2), (3, .int x3)]) hx hb dX12_frame_44 hl (by decide) rfl (fun ls hl => ?_)
  exact hB46 x0 x2 x3 kx0 q_FU 0 dt1000015 _ _ _ hm hW hS (lv_sub hl [1, 3, 4, 0] rfl)
theorem dX12_hurt_0 : decode cX12_hurt 0 = .ok (.aload_n 0, 1) := by decide +kernel
theorem dX12_hurt_1 : decode cX12_hurt 1 = .ok (.iload_n 1, 1) := by decide +kernel
theorem dX12_hurt_2 : decode cX12_hurt 2 = .ok (.invokevirtual 415, 3) := by decide +kernel
theorem dX12_hurt_5 : decode cX12_hurt 5 = .ok (.ifCond .eq 33, 3) := by decide +kernel
theorem dX12_hurt_8 : decode cX12_hurt 8 = .ok (.iload_n 2, 1) := by decide +kernel
theorem dX12_hurt_9 : decode cX12_hurt 9 = .ok (.iconst 1, 1) := by decide +kernel
theorem dX12_hurt_10 : decode cX12_hurt 10 = .ok (.bipush 99, 2) := by decide +kernel
theorem dX12_hurt_12 : decode cX12_hurt 12 = .ok (.invokestatic 376, 3) := by decide +kernel
theorem dX12_hurt_15 : decode cX12_hurt 15 = .ok (.ifCond .eq 23, 3) := by decide +kernel
theorem dX12_hurt_18 : decode cX12_hurt 18 = .ok (.iload_n 3, 1) := by decide +kernel
theorem dX12_hurt_19 : decode cX12_hurt 19 = .ok (.iconst 1, 1) := by decide +kernel
theorem dX12_hurt_20 : decode cX12_hurt 20 = .ok (.bipush 99, 2) := by decide +kernel
theorem dX12_hurt_22 : decode cX12_hurt 22 = .ok (.invokestatic 376, 3) := by decide +kernel
theorem dX12_hurt_25 : decode cX12_hurt 25 = .ok (.ifCond .eq 13, 3) := by decide +kernel
theorem dX12_hurt_28 : decode cX12_hurt 28 = .ok (.iload 4, 2) := by decide +kernel
theorem dX12_hurt_30 : decode cX12_hurt 30 = .ok (.iconst 0, 1) := by decide +kernel
theorem dX12_hurt_31 : decode cX12_hurt 31 = .ok (.iconst 1, 1) := by decide +kernel
theorem dX12_hurt_32 : decode cX12_hurt 32 = .ok (.invokestatic 376, 3) := by decide +kernel
theorem dX12_hurt_35 : decode cX12_hurt 35 = .ok (.ifCond .ne 5, 3) := by decide +kernel
theorem dX12_hurt_38 : decode cX12_hurt 38 = .ok (.iconst (-1), 1) := by decide +kernel
theorem dX12_hurt_39 : decode cX12_hurt 39 = .ok (.ireturn, 1) := by decide +kernel
theorem dX12_hurt_40 : decode cX12_hurt 40 = .ok (.iconst 0, 1) := by decide +kernel
theorem dX12_hurt_41 : decode cX12_hurt 41 = .ok (.istore 5, 2) := by decide +kernel
theorem dX12_hurt_43 : decode cX12_hurt 43 = .ok (.iconst (-1), 1) := by decide +kernel
theorem dX12_hurt_44 : decode cX12_hurt 44 = .ok (.istore 6, 2) := by decide +kernel
theorem dX12_hurt_46 : decode cX12_hurt 46 = .ok (.iconst 0, 1) := by decide +kernel
theorem dX12_hurt_47 : decode cX12_hurt 47 = .ok (.istore 7, 2) := by decide +kernel
theorem dX12_hurt_49 : decode cX12_hurt 49 = .ok (.iload 7, 2) := by decide +kernel
theorem dX12_hurt_51 : decode cX12_hurt 51 = .ok (.aload_n 0, 1) := by decide +kernel
theorem dX12_hurt_52 : decode cX12_hurt 52 = .ok (.invokevirtual 342, 3) := by decide +kernel
theorem dX12_hurt_55 : decode cX12_hurt 55 = .ok (.if_icmp .ge 108, 3) := by decide +kernel
theorem dX12_hurt_58 : decode cX12_hurt 58 = .ok (.iconst 0, 1) := by decide +kernel
theorem dX12_hurt_59 : decode cX12_hurt 59 = .ok (.istore 8, 2) := by decide +kernel
theorem dX12_hurt_61 : decode cX12_hurt 61 = .ok (.iload 8, 2) := by decide +kernel
theorem dX12_hurt_63 : decode cX12_hurt 63 = .ok (.sipush 1024, 3) := by decide +kernel
theorem dX12_hurt_66 : decode cX12_hurt 66 = .ok (.if_icmp .ge 23, 3) := by decide +kernel
theorem dX12_hurt_69 : decode cX12_hurt 69 = .ok (.aload_n 0, 1) := by decide +kernel
theorem dX12_hurt_70 : decode cX12_hurt 70 = .ok (.getfield 136, 3) := by decide +kernel
theorem dX12_hurt_73 : decode cX12_hurt 73 = .ok (.iload 8, 2) := by decide +kernel
theorem dX12_hurt_75 : decode cX12_hurt 75 = .ok (.aload_n 0, 1) := by decide +kernel
theorem dX12_hurt_76 : decode cX12_hurt 76 = .ok (.getfield 133, 3) := by decide +kernel
theorem dX12_hurt_79 : decode cX12_hurt 79 = .ok (.iload 8, 2) := by decide +kernel
theorem dX12_hurt_81 : decode cX12_hurt 81 = .ok (.iaload, 1) := by decide +kernel
theorem dX12_hurt_82 : decode cX12_hurt 82 = .ok (.iastore, 1) := by decide +kernel
theorem dX12_hurt_83 : decode cX12_hurt 83 = .ok (.iinc 8 1, 3) := by decide +kernel
theorem dX12_hurt_86 : decode cX12_hurt 86 = .ok (.goto (-25), 3) := by decide +kernel
theorem dX12_hurt_89 : decode cX12_hurt 89 = .ok (.iload 7, 2) := by decide +kernel
theorem dX12_hurt_91 : decode cX12_hurt 91 = .ok (.istore 8, 2) := by decide +kernel
theorem dX12_hurt_93 : decode cX12_hurt 93 = .ok (.iload 8, 2) := by decide +kernel
theorem dX12_hurt_95 : decode cX12_hurt 95 = .ok (.iload 7, 2) := by decide +kernel
theorem dX12_hurt_97 : decode cX12_hurt 97 = .ok (.iload_n 2, 1) := by decide +kernel
theorem dX12_hurt_98 : decode cX12_hurt 98 = .ok (.iadd, 1) := by decide +kernel
theorem dX12_hurt_99 : decode cX12_hurt 99 = .ok (.if_icmp .ge 29, 3) := by decide +kernel
theorem dX12_hurt_102 : decode cX12_hurt 102 = .ok (.iload 8, 2) := by decide +kernel
theorem dX12_hurt_104 : decode cX12_hurt 104 = .ok (.aload_n 0, 1) := by decide +kernel
theorem dX12_hurt_105 : decode cX12_hurt 105 = .ok (.invokevirtual 342, 3) := by decide +kernel
theorem dX12_hurt_108 : decode cX12_hurt 108 = .ok (.if_icmp .ge 20, 3) := by decide +kernel
theorem dX12_hurt_111 : decode cX12_hurt 111 = .ok (.aload_n 0, 1) := by decide +kernel
theorem dX12_hurt_112 : decode cX12_hurt 112 = .ok (.getfield 136, 3) := by decide +kernel
theorem dX12_hurt_115 : decode cX12_hurt 115 = .ok (.iload 8, 2) := by decide +kernel
theorem dX12_hurt_117 : decode cX12_hurt 117 = .ok (.dup2, 1) := by decide +kernel
theorem dX12_hurt_118 : decode cX12_hurt 118 = .ok (.iaload, 1) := by decide +kernel
theorem dX12_hurt_119 : decode cX12_hurt 119 = .ok (.iload_n 3, 1) := by decide +kernel
theorem dX12_hurt_120 : decode cX12_hurt 120 = .ok (.iadd, 1) := by decide +kernel
theorem dX12_hurt_121 : decode cX12_hurt 121 = .ok (.iastore, 1) := by decide +kernel
theorem dX12_hurt_122 : decode cX12_hurt 122 = .ok (.iinc 8 1, 3) := by decide +kernel
theorem dX12_hurt_125 : decode cX12_hurt 125 = .ok (.goto (-32), 3) := by decide +kernel
theorem dX12_hurt_128 : decode cX12_hurt 128 = .ok (.aload_n 0, 1) := by decide +kernel
theorem dX12_hurt_129 : decode cX12_hurt 129 = .ok (.aload_n 0, 1) := by decide +kernel
theorem dX12_hurt_130 : decode cX12_hurt 130 = .ok (.getfield 136, 3) := by decide +kernel
theorem dX12_hurt_133 : decode cX12_hurt 133 = .ok (.iload_n 1, 1) := by decide +kernel
theorem dX12_hurt_134 : decode cX12_hurt 134 = .ok (.invokevirtual 461, 3) := by decide +kernel
theorem dX12_hurt_137 : decode cX12_hurt 137 = .ok (.istore 8, 2) := by decide +kernel
theorem dX12_hurt_139 : decode cX12_hurt 139 = .ok (.iload 8, 2) := by decide +kernel
theorem dX12_hurt_141 : decode cX12_hurt 141 = .ok (.iload 6, 2) := by decide +kernel
theorem dX12_hurt_143 : decode cX12_hurt 143 = .ok (.if_icmp .gt 6, 3) := by decide +kernel
theorem dX12_hurt_146 : decode cX12_hurt 146 = .ok (.goto 11, 3) := by decide +kernel
theorem dX12_hurt_149 : decode cX12_hurt 149 = .ok (.iload 7, 2) := by decide +kernel
theorem dX12_hurt_151 : decode cX12_hurt 151 = .ok (.istore 5, 2) := by decide +kernel
theorem dX12_hurt_153 : decode cX12_hurt 153 = .ok (.iload 8, 2) := by decide +kernel
theorem dX12_hurt_155 : decode cX12_hurt 155 = .ok (.istore 6, 2) := by decide +kernel
theorem dX12_hurt_157 : decode cX12_hurt 157 = .ok (.iinc 7 1, 3) := by decide +kernel
theorem dX12_hurt_160 : decode cX12_hurt 160 = .ok (.goto (-111), 3) := by decide +kernel
theorem dX12_hurt_163 : decode cX12_hurt 163 = .ok (.iload 4, 2) := by decide +kernel
theorem dX12_hurt_165 : decode cX12_hurt 165 = .ok (.ifCond .ne 8, 3) := by decide +kernel
theorem dX12_hurt_168 : decode cX12_hurt 168 = .ok (.iload 5, 2) := by decide +kernel
theorem dX12_hurt_170 : decode cX12_hurt 170 = .ok (.goto 5, 3) := by decide +kernel
theorem dX12_hurt_173 : decode cX12_hurt 173 = .ok (.iload 6, 2) := by decide +kernel
theorem dX12_hurt_175 : decode cX12_hurt 175 = .ok (.ireturn, 1) := by decide +kernel
set_option maxRecDepth 100000 in
theorem c_X12_hurt (l : Launch) (D : q_D) (al : q_Al) (dt : q_Dt) (x0 : Nat) (x1 : Int32) (x2 : Int32) (x3 : Int32) (x4 : Int32) (kx0 : al.1 x0 = 13) (r0 : Int32) (dt0 : q_Dt) (hm : X12_hurt al dt x0 x1 x2 x3 x4 = some (r0, dt0)) : q_Mt l yX12_hurt cX12_hurt 9 (some FieldType.int) 5 123 D al [.ref x0, .int x1, .int x2, .int x3, .int x4] dt 0 (some (.int r0)) dt0 := by
  refine q_Mt.of (by decide) (Nat.le_of_ble_eq_true rfl) ?_
  intro p e s m args below meth c ls C hargs hW hl
  have hx := C.1
  have hb := C.2.1
  have hown := C.2.2.2.2.2.1
  have hts := C.2.2.2.2.2.2.1
  have hS : va_S (q_A al) s.heap s.heap [] := va_S.rf
  have hl : lv_has ls 9 [(0, .ref x0), (1, .int x1), (2, .int x2), (3, .int x3), (4, .int x4)] := hl
  unfold X12_hurt at hm
  have hB49 : ∀ (x0_49 : Nat) (x1_49 : Int32) (x2_49 : Int32) (x3_49 : Int32) (x4_49 : Int32) (kx0_49 : al.1 x0_49 = 13) (n_49 : Nat) (x5_49 : Int32) (x6_49 : Int32) (x7_49 : Int32) (dt : q_Dt) (H : Heap) (locs : List Loc) (ls : Array Slot) (hm : X12_hurt_b49 al x0_49 x1_49 x2_49 x3_49 x4_49 n_49 x5_49 x6_49 x7_49 dt = some (r0, dt0)) (hW : q_W D al dt H) (hS : va_S (q_A al) s.heap H locs) (hl : lv_has ls 9 [(0, .ref x0_49), (1, .int x1_49), (2, .int x2_49), (3, .int x3_49), (4, .int x4_49), (5, .int x5_49), (6, .int x6_49), (7, .int x7_49)]), W p l e { frames := 5, cells := 0, slots := 0, locals := 123 } s m args below meth c H locs 0 0 (MQ below (q_Q (some (.int r0)) (fun H => q_W D al dt0 H ∧ q_Rk al 0 (some (.int r0))) (q_A al)) args s 0 0 (q_A al)) (F0 m 49 ls []) := by
    intro x0_49 x1_49 x2_49 x3_49 x4_49 kx0_49
    intro n_49
    induction n_49 with
    | zero => intro x5_49 x6_49 x7_49 dt H locs ls hm hW hS hl; cases hm
    | succ n_49 ih49 =>
      have hB157 : ∀ (x5_157 : Int32) (x6_157 : Int32) (x7_157 : Int32) (dt : q_Dt) (H : Heap) (locs : List Loc) (ls : Array Slot) (hm : X12_hurt_b157 al (X12_hurt_b49 al x0_49 x1_49 x2_49 x3_49 x4_49 n_49) x0_49 x1_49 x2_49 x3_49 x4_49 x5_157 x6_157 x7_157 dt = some (r0, dt0)) (hW : q_W D al dt H) (hS : va_S (q_A al) s.heap H locs) (hl : lv_has ls 9 [(0, .ref x0_49), (1, .int x1_49), (2, .int x2_49), (3, .int x3_49), (4, .int x4_49), (5, .int x5_157), (6, .int x6_157), (7, .int x7_157)]), W p l e { frames := 5, cells := 0, slots := 0, locals := 123 } s m args below meth c H locs 0 0 (MQ below (q_Q (some (.int r0)) (fun H => q_W D al dt0 H ∧ q_Rk al 0 (some (.int r0))) (q_A al)) args s 0 0 (q_A al)) (F0 m 157 ls []) := by
        intro x5_157 x6_157 x7_157 dt H locs ls hm hW hS hl
        unfold X12_hurt_b157 at hm
        refine lv_iinc (v := (x7_157 + 1)) (lv' := [(7, .int (x7_157 + 1)), (0, .ref x0_49), (1, .int x1_49), (2, .int x2_49), (3, .int x3_49), (4, .int x4_49), (5, .int x5_157), (6, .int x6_157)]) hx hb dX12_hurt_157 hl (k := 7) rfl rfl (by decide) rfl (fun ls hl => ?_)
        refine lv_goto (tgt := 49) hx hb dX12_hurt_160 (by decide) ?_
        exact ih49 x5_157 x6_157 (x7_157 + 1) dt _ _ _ hm hW hS (lv_sub hl [1, 2, 3, 4, 5, 6, 7, 0] rfl)
      have hB128 : ∀ (x5_128 : Int32) (x6_128 : Int32) (x7_128 : Int32) (dt : q_Dt) (H : Heap) (locs : List Loc) (ls : Array Slot) (hm : X12_hurt_b128 al (X12_hurt_b49 al x0_49 x1_49 x2_49 x3_49 x4_49 n_49) x0_49 x1_49 x2_49 x3_49 x4_49 x5_128 x6_128 x7_128 dt = some (r0, dt0)) (hW : q_W D al dt H) (hS : va_S (q_A al) s.heap H locs) (hl : lv_has ls 9 [(0, .ref x0_49), (1, .int x1_49), (2, .int x2_49), (3, .int x3_49), (4, .int x4_49), (5, .int x5_128), (6, .int x6_128), (7, .int x7_128)]), W p l e { frames := 5, cells := 0, slots := 0, locals := 123 } s m args below meth c H locs 0 0 (MQ below (q_Q (some (.int r0)) (fun H => q_W D al dt0 H ∧ q_Rk al 0 (some (.int r0))) (q_A al)) args s 0 0 (q_A al)) (F0 m 128 ls []) := by
        intro x5_128 x6_128 x7_128 dt H locs ls hm hW hS hl
        unfold X12_hurt_b128 at hm
        refine lv_aload_n hx hb dX12_hurt_128 rfl (lv_at hl 0 rfl) ?_
        refine lv_aload_n hx hb dX12_hurt_129 rfl (lv_at hl 0 rfl) ?_
        refine r_getF C hW (ci := 12) kx0_49 ff_12_54 cl_12 fl_RX12_136 dX12_hurt_130 (fun k128001 => ?_)
        refine lv_iload_n hx hb dX12_hurt_133 rfl (lv_at hl 1 rfl) ?_
        obtain ⟨v128003, dt128004, hc128002, hm⟩ := q_b2i hm
        refine q_callV C hW hS (As := [.ref (al.2.2 x0_49 54), .int x1_49]) (rest := []) (st1 := [.int v128003]) (c_X12_wrongOf l D al dt x0_49 (al.2.2 x0_49 54) x1_49 kx0_49 k128001 v128003 dt128004 hc128002) yl_X12_wrongOf vl_X12_wrongOf ml_RX12_461 (ci := 12) rfl kx0_49 (by decide) rfl ⟨Nat.le_of_ble_eq_true rfl, Nat.le_of_ble_eq_true rfl⟩ hl rfl (Nat.le_of_ble_eq_true rfl) dX12_hurt_134 ⟨Nat.le_refl _, Nat.le_refl _⟩ rfl (fun H locs k128005 hW hS => ?_)
        refine lv_istore (i := 8) (lv' := [(8, .int v128003), (0, .ref x0_49), (1, .int x1_49), (2, .int x2_49), (3, .int x3_49), (4, .int x4_49), (5, .int x5_128), (6, .int x6_128), (7, .int x7_128)]) hx hb dX12_hurt_137 hl (by decide) rfl (fun ls hl => ?_)
        refine lv_iload hx hb dX12_hurt_139 (lv_at hl 0 rfl) ?_
        refine lv_iload hx hb dX12_hurt_141 (lv_at hl 7 rfl) ?_
        refine q_ifc hm (fun c128006 hm => ?_) (fun c128006 hm => ?_)
        · refine lv_icmp_gt (tgt := 149) hx hb dX12_hurt_143 (by decide) (fun _ => ?_) (fun h => absurd c128006 h)
          refine lv_iload hx hb dX12_hurt_149 (lv_at hl 8 rfl) ?_
          refine lv_istore (i := 5) (lv' := [(5, .int x7_128), (8, .int v128003), (0, .ref x0_49), (1, .int x1_49), (2, .int x2_49), (3, .int x3_49), (4, .int x4_49), (6, .int x6_128), (7, .int x7_128)]) hx hb dX12_hurt_151 hl (by decide) rfl (fun ls hl => ?_)
          refine lv_iload hx hb dX12_hurt_153 (lv_at hl 1 rfl) ?_
          refine lv_istore (i := 6) (lv' := [(6, .int v128003), (5, .int x7_128), (8, .int v128003), (0, .ref x0_49), (1, .int x1_49), (2, .int x2_49), (3, .int x3_49), (4, .int x4_49), (7, .int x7_128)]) hx hb dX12_hurt_155 hl (by decide) rfl (fun ls hl => ?_)
          exact hB157 x7_128 v128003 x7_128 dt128004 _ _ _ hm hW hS (lv_sub hl [3, 4, 5, 6, 7, 1, 0, 8] rfl)
        refine lv_icmp_gt (tgt := 149) hx hb dX12_hurt_143 (by decide) (fun h => absurd h c128006) (fun _ => ?_)
        refine lv_goto (tgt := 157) hx hb dX12_hurt_146 (by decide) ?_
        exact hB157 x5_128 x6_128 x7_128 dt128004 _ _ _ hm hW hS (lv_sub hl [1, 2, 3, 4, 5, 6, 7, 8] rfl)
      have hB93 : ∀ (x5_93 : Int32) (x6_93 : Int32) (x7_93 : Int32) (n_93 : Nat) (x8_93 : Int32) (dt : q_Dt) (H : Heap) (locs : List Loc) (ls : Array Slot) (hm : X12_hurt_b93 al (X12_hurt_b49 al x0_49 x1_49 x2_49 x3_49 x4_49 n_49) x0_49 x1_49 x2_49 x3_49 x4_49 x5_93 x6_93 x7_93 n_93 x8_93 dt = some (r0, dt0)) (hW : q_W D al dt H) (hS : va_S (q_A al) s.heap H locs) (hl : lv_has ls 9 [(0, .ref x0_49), (1, .int x1_49), (2, .int x2_49), (3, .int x3_49), (4, .int x4_49), (5, .int x5_93), (6, .int x6_93), (7, .int x7_93), (8, .int x8_93)]), W p l e { frames := 5, cells := 0, slots := 0, locals := 123 } s m args below meth c H locs 0 0 (MQ below (q_Q (some (.int r0)) (fun H => q_W D al dt0 H ∧ q_Rk al 0 (some (.int r0))) (q_A al)) args s 0 0 (q_A al)) (F0 m 93 ls []) := by
        intro x5_93 x6_93 x7_93
        intro n_93
        induction n_93 with
        | zero => intro x8_93 dt H locs ls hm hW hS hl; cases hm
        | succ n_93 ih93 =>
          intro x8_93 dt H locs ls hm hW hS hl
          rw [X12_hurt_b93] at hm
          refine lv_iload hx hb dX12_hurt_93 (lv_at hl 8 rfl) ?_
          refine lv_iload hx hb dX12_hurt_95 (lv_at hl 7 rfl) ?_
          refine lv_iload_n hx hb dX12_hurt_97 rfl (lv_at hl 2 rfl) ?_
          refine lv_iadd hx hb dX12_hurt_98 ?_
          refine q_ifc hm (fun c93001 hm => ?_) (fun c93001 hm => ?_)
          · refine lv_icmp_ge (tgt := 128) hx hb dX12_hurt_99 (by decide) (fun _ => ?_) (fun h => absurd c93001 h)
            exact hB128 x5_93 x6_93 x7_93 dt _ _ _ hm hW hS (lv_sub hl [0, 1, 2, 3, 4, 5, 6, 7] rfl)
          refine lv_icmp_ge (tgt := 128) hx hb dX12_hurt_99 (by decide) (fun h => absurd h c93001) (fun _ => ?_)
          refine lv_iload hx hb dX12_hurt_102 (lv_at hl 8 rfl) ?_
          refine lv_aload_n hx hb dX12_hurt_104 rfl (lv_at hl 0 rfl) ?_
          obtain ⟨v93003, hc93002, hm⟩ := q_b1i hm
          refine q_callV C hW hS (As := []) (rest := [.int x8_93]) (st1 := [.int v93003, .int x8_93]) (c_X12_n l D al dt x0_49 kx0_49 v93003 hc93002) yl_X12_n vl_X12_n ml_RX12_342 (ci := 12) rfl kx0_49 (by decide) rfl ⟨Nat.le_of_ble_eq_true rfl, Nat.le_of_ble_eq_true rfl⟩ hl rfl (Nat.le_of_ble_eq_true rfl) dX12_hurt_105 ⟨Nat.le_refl _, Nat.le_refl _⟩ rfl (fun H locs k93004 hW hS => ?_)
          refine q_ifc hm (fun c93005 hm => ?_) (fun c93005 hm => ?_)
          · refine lv_icmp_ge (tgt := 128) hx hb dX12_hurt_108 (by decide) (fun _ => ?_) (fun h => absurd c93005 h)
            exact hB128 x5_93 x6_93 x7_93 dt _ _ _ hm hW hS (lv_sub hl [0, 1, 2, 3, 4, 5, 6, 7] rfl)
          refine lv_icmp_ge (tgt := 128) hx hb dX12_hurt_108 (by decide) (fun h => absurd h c93005) (fun _ => ?_)
          refine lv_aload_n hx hb dX12_hurt_111 rfl (lv_at hl 0 rfl) ?_
          refine r_getF C hW (ci := 12) kx0_49 ff_12_54 cl_12 fl_RX12_136 dX12_hurt_112 (fun k93006 => ?_)
          refine lv_iload hx hb dX12_hurt_115 (lv_at hl 8 rfl) ?_
          refine lv_dup2_11 hx hb dX12_hurt_117 rfl rfl ?_
          refine r_iald C hW hm k93006 dX12_hurt_118 (fun hm => ?_)
          refine lv_iload_n hx hb dX12_hurt_119 rfl (lv_at hl 3 rfl) ?_
          refine lv_iadd hx hb dX12_hurt_120 ?_
          refine r_iast C hW hS hm k93006 dX12_hurt_121 (fun dt93007 H locs hm hW hS => ?_)
          refine lv_iinc (v := (x8_93 + 1)) (lv' := [(8, .int (x8_93 + 1)), (0, .ref x0_49), (1, .int x1_49), (2, .int x2_49), (3, .int x3_49), (4, .int x4_49), (5, .int x5_93), (6, .int x6_93), (7, .int x7_93)]) hx hb dX12_hurt_122 hl (k := 8) rfl rfl (by decide) rfl (fun ls hl => ?_)
          refine lv_goto (tgt := 93) hx hb dX12_hurt_125 (by decide) ?_
          exact ih93 (x8_93 + 1) dt93007 _ _ _ hm hW hS (lv_sub hl [1, 2, 3, 4, 5, 6, 7, 8, 0] rfl)
      have hB61 : ∀ (x5_61 : Int32) (x6_61 : Int32) (x7_61 : Int32) (n_61 : Nat) (x8_61 : Int32) (dt : q_Dt) (H : Heap) (locs : List Loc) (ls : Array Slot) (hm : X12_hurt_b61 al (X12_hurt_b49 al x0_49 x1_49 x2_49 x3_49 x4_49 n_49) x0_49 x1_49 x2_49 x3_49 x4_49 x5_61 x6_61 x7_61 n_61 x8_61 dt = some (r0, dt0)) (hW : q_W D al dt H) (hS : va_S (q_A al) s.heap H locs) (hl : lv_has ls 9 [(0, .ref x0_49), (1, .int x1_49), (2, .int x2_49), (3, .int x3_49), (4, .int x4_49), (5, .int x5_61), (6, .int x6_61), (7, .int x7_61), (8, .int x8_61)]), W p l e { frames := 5, cells := 0, slots := 0, locals := 123 } s m args below meth c H locs 0 0 (MQ below (q_Q (some (.int r0)) (fun H => q_W D al dt0 H ∧ q_Rk al 0 (some (.int r0))) (q_A al)) args s 0 0 (q_A al)) (F0 m 61 ls []) := by
        intro x5_61 x6_61 x7_61
        intro n_61
        induction n_61 with
        | zero => intro x8_61 dt H locs ls hm hW hS hl; cases hm
        | succ n_61 ih61 =>
          intro x8_61 dt H locs ls hm hW hS hl
          rw [X12_hurt_b61] at hm
          refine lv_iload hx hb dX12_hurt_61 (lv_at hl 8 rfl) ?_
          refine lv_sipush (v := 1024) hx hb dX12_hurt_63 (by decide) ?_
          refine q_ifc hm (fun c61001 hm => ?_) (fun c61001 hm => ?_)
          · refine lv_icmp_ge (tgt := 89) hx hb dX12_hurt_66 (by decide) (fun _ => ?_) (fun h => absurd c61001 h)
            refine lv_iload hx hb dX12_hurt_89 (lv_at hl 7 rfl) ?_
            refine lv_istore (i := 8) (lv' := [(8, .int x7_61), (0, .ref x0_49), (1, .int x1_49), (2, .int x2_49), (3, .int x3_49), (4, .int x4_49), (5, .int x5_61), (6, .int x6_61), (7, .int x7_61)]) hx hb dX12_hurt_91 hl (by decide) rfl (fun ls hl => ?_)
            exact hB93 x5_61 x6_61 x7_61 q_FU x7_61 dt _ _ _ hm hW hS (lv_sub hl [1, 2, 3, 4, 5, 6, 7, 8, 0] rfl)
          refine lv_icmp_ge (tgt := 89) hx hb dX12_hurt_66 (by decide) (fun h => absurd h c61001) (fun _ => ?_)
          refine lv_aload_n hx hb dX12_hurt_69 rfl (lv_at hl 0 rfl) ?_
          refine r_getF C hW (ci := 12) kx0_49 ff_12_54 cl_12 fl_RX12_136 dX12_hurt_70 (fun k61002 => ?_)
          refine lv_iload hx hb dX12_hurt_73 (lv_at hl 8 rfl) ?_
          refine lv_aload_n hx hb dX12_hurt_75 rfl (lv_at hl 0 rfl) ?_
          refine r_getF C hW (ci := 12) kx0_49 ff_12_53 cl_12 fl_RX12_133 dX12_hurt_76 (fun k61003 => ?_)
          refine lv_iload hx hb dX12_hurt_79 (lv_at hl 8 rfl) ?_
          refine r_iald C hW hm k61003 dX12_hurt_81 (fun hm => ?_)
          refine r_iast C hW hS hm k61002 dX12_hurt_82 (fun dt61004 H locs hm hW hS => ?_)
          refine lv_iinc (v := (x8_61 + 1)) (lv' := [(8, .int (x8_61 + 1)), (0, .ref x0_49), (1, .int x1_49), (2, .int x2_49), (3, .int x3_49), (4, .int x4_49), (5, .int x5_61), (6, .int x6_61), (7, .int x7_61)]) hx hb dX12_hurt_83 hl (k := 8) rfl rfl (by decide) rfl (fun ls hl => ?_)
          refine lv_goto (tgt := 61) hx hb dX12_hurt_86 (by decide) ?_
          exact ih61 (x8_61 + 1) dt61004 _ _ _ hm hW hS (lv_sub hl [1, 2, 3, 4, 5, 6, 7, 8, 0] rfl)
      intro x5_49 x6_49 x7_49 dt H locs ls hm hW hS hl
      rw [X12_hurt_b49] at hm
      refine lv_iload hx hb dX12_hurt_49 (lv_at hl 7 rfl) ?_
      refine lv_aload_n hx hb dX12_hurt_51 rfl (lv_at hl 0 rfl) ?_
      obtain ⟨v49002, hc49001, hm⟩ := q_b1i hm
      refine q_callV C hW hS (As := []) (rest := [.int x7_49]) (st1 := [.int v49002, .int x7_49]) (c_X12_n l D al dt x0_49 kx0_49 v49002 hc49001) yl_X12_n vl_X12_n ml_RX12_342 (ci := 12) rfl kx0_49 (by decide) rfl ⟨Nat.le_of_ble_eq_true rfl, Nat.le_of_ble_eq_true rfl⟩ hl rfl (Nat.le_of_ble_eq_true rfl) dX12_hurt_52 ⟨Nat.le_refl _, Nat.le_refl _⟩ rfl (fun H locs k49003 hW hS => ?_)
      refine q_ifc hm (fun c49004 hm => ?_) (fun c49004 hm => ?_)
      · refine lv_icmp_ge (tgt := 163) hx hb dX12_hurt_55 (by decide) (fun _ => ?_) (fun h => absurd c49004 h)
        refine lv_iload hx hb dX12_hurt_163 (lv_at hl 4 rfl) ?_
        refine q_ifc hm (fun c49005 hm => ?_) (fun c49005 hm => ?_)
        · refine lv_if_ne (tgt := 173) hx hb dX12_hurt_165 (by decide) (fun h => absurd c49005 h) (fun _ => ?_)
          refine lv_iload hx hb dX12_hurt_168 (lv_at hl 5 rfl) ?_
          refine lv_goto (tgt := 175) hx hb dX12_hurt_170 (by decide) ?_
          exact e_iD C hW hS hm dX12_hurt_175
        refine lv_if_ne (tgt := 173) hx hb dX12_hurt_165 (by decide) (fun _ => ?_) (fun h => absurd h c49005)
        refine lv_iload hx hb dX12_hurt_173 (lv_at hl 6 rfl) ?_
        exact e_iD C hW hS hm dX12_hurt_175
      refine lv_icmp_ge (tgt := 163) hx hb dX12_hurt_55 (by decide) (fun h => absurd h c49004) (fun _ => ?_)
      refine lv_iconst (v := 0) hx hb dX12_hurt_58 (by decide) ?_
      refine lv_istore (i := 8) (lv' := [(8, .int 0), (0, .ref x0_49), (1, .int x1_49), (2, .int x2_49), (3, .int x3_49), (4, .int x4_49), (5, .int x5_49), (6, .int x6_49), (7, .int x7_49)]) hx hb dX12_hurt_59 hl (by decide) rfl (fun ls hl => ?_)
      exact hB61 x5_49 x6_49 x7_49 q_FU 0 dt _ _ _ hm hW hS (lv_sub hl [1, 2, 3, 4, 5, 6, 7, 8, 0] rfl)
  refine lv_aload_n hx hb dX12_hurt_0 rfl (lv_at hl 0 rfl) ?_
  refine lv_iload_n hx hb dX12_hurt_1 rfl (lv_at hl 1 rfl) ?_
  obtain ⟨v1000002, hc1000001, hm⟩ := q_b1i hm
  refine q_callV C hW hS (As := [.int x1]) (rest := []) (st1 := [.int v1000002]) (c_X12_isSender l D al dt x0 x1 kx0 v1000002 hc1000001) yl_X12_isSender vl_X12_isSender ml_RX12_415 (ci := 12) rfl kx0 (by decide) rfl ⟨Nat.le_of_ble_eq_true rfl, Nat.le_of_ble_eq_true rfl⟩ hl rfl (Nat.le_of_ble_eq_true rfl) dX12_hurt_2 ⟨Nat.le_refl _, Nat.le_refl _⟩ rfl (fun H locs k1000003 hW hS => ?_)
  refine q_ifc hm (fun c1000004 hm => ?_) (fun c1000004 hm => ?_)
  · refine lv_if_eq (tgt := 38) hx hb dX12_hurt_5 (by decide) (fun _ => ?_) (fun h => absurd c1000004 h)
    refine lv_iconst (v := (-1)) hx hb dX12_hurt_38 (by decide) ?_
    exact e_iD C hW hS hm dX12_hurt_39
  refine lv_if_eq (tgt := 38) hx hb dX12_hurt_5 (by decide) (fun h => absurd h c1000004) (fun _ => ?_)
  refine lv_iload_n hx hb dX12_hurt_8 rfl (lv_at hl 2 rfl) ?_
  refine lv_iconst (v := 1) hx hb dX12_hurt_9 (by decide) ?_
  refine lv_bipush (v := 99) hx hb dX12_hurt_10 (by decide) ?_
  obtain ⟨v1000006, hc1000005, hm⟩ := q_b1i hm
  refine q_callS C hW hS (As := [.int x2, .int 1, .int 99]) (rest := []) (st1 := [.int v1000006]) (c_X12_in l D al dt x2 1 99 v1000006 hc1000005) yl_X12_in sl_X12_in ml_RX12_376 rfl ⟨Nat.le_of_ble_eq_true rfl, Nat.le_of_ble_eq_true rfl⟩ hl rfl (Nat.le_of_ble_eq_true rfl) dX12_hurt_12 ⟨Nat.le_refl _, Nat.le_refl _⟩ rfl (fun H locs k1000007 hW hS => ?_)
  refine q_ifc hm (fun c1000008 hm => ?_) (fun c1000008 hm => ?_)
  · refine lv_if_eq (tgt := 38) hx hb dX12_hurt_15 (by decide) (fun _ => ?_) (fun h => absurd c1000008 h)
    refine lv_iconst (v := (-1)) hx hb dX12_hurt_38 (by decide) ?_
    exact e_iD C hW hS hm dX12_hurt_39
  refine lv_if_eq (tgt := 38) hx hb dX12_hurt_15 (by decide) (fun h => absurd h c1000008) (fun _ => ?_)
  refine lv_iload_n hx hb dX12_hurt_18 rfl (lv_at hl 3 rfl) ?_
  refine lv_iconst (v := 1) hx hb dX12_hurt_19 (by decide) ?_
  refine lv_bipush (v := 99) hx hb dX12_hurt_20 (by decide) ?_
  obtain ⟨v1000010, hc1000009, hm⟩ := q_b1i hm
  refine q_callS C hW hS (As := [.int x3, .int 1, .int 99]) (rest := []) (st1 := [.int v1000010]) (c_X12_in l D al dt x3 1 99 v1000010 hc1000009) yl_X12_in sl_X12_in ml_RX12_376 rfl ⟨Nat.le_of_ble_eq_true rfl, Nat.le_of_ble_eq_true rfl⟩ hl rfl (Nat.le_of_ble_eq_true rfl) dX12_hurt_22 ⟨Nat.le_refl _, Nat.le_refl _⟩ rfl (fun H locs k1000011 hW hS => ?_)
  refine q_ifc hm (fun c1000012 hm => ?_) (fun c1000012 hm => ?_)
  · refine lv_if_eq (tgt := 38) hx hb dX12_hurt_25 (by decide) (fun _ => ?_) (fun h => absurd c1000012 h)
    refine lv_iconst (v := (-1)) hx hb dX12_hurt_38 (by decide) ?_
    exact e_iD C hW hS hm dX12_hurt_39
  refine lv_if_eq (tgt := 38) hx hb dX12_hurt_25 (by decide) (fun h => absurd h c1000012) (fun _ => ?_)
  refine lv_iload hx hb dX12_hurt_28 (lv_at hl 4 rfl) ?_
  refine lv_iconst (v := 0) hx hb dX12_hurt_30 (by decide) ?_
  refine lv_iconst (v := 1) hx hb dX12_hurt_31 (by decide) ?_
  obtain ⟨v1000014, hc1000013, hm⟩ := q_b1i hm
  refine q_callS C hW hS (As := [.int x4, .int 0, .int 1]) (rest := []) (st1 := [.int v1000014]) (c_X12_in l D al dt x4 0 1 v1000014 hc1000013) yl_X12_in sl_X12_in ml_RX12_376 rfl ⟨Nat.le_of_ble_eq_true rfl, Nat.le_of_ble_eq_true rfl⟩ hl rfl (Nat.le_of_ble_eq_true rfl) dX12_hurt_32 ⟨Nat.le_refl _, Nat.le_refl _⟩ rfl (fun H locs k1000015 hW hS => ?_)
  refine q_ifc hm (fun c1000016 hm => ?_) (fun c1000016 hm => ?_)
  · refine lv_if_ne (tgt := 40) hx hb dX12_hurt_35 (by decide) (fun h => absurd c1000016 h) (fun _ => ?_)
    refine lv_iconst (v := (-1)) hx hb dX12_hurt_38 (by decide) ?_
    exact e_iD C hW hS hm dX12_hurt_39
  refine lv_if_ne (tgt := 40) hx hb dX12_hurt_35 (by decide) (fun _ => ?_) (fun h => absurd h c1000016)
  refine lv_iconst (v := 0) hx hb dX12_hurt_40 (by decide) ?_
  refine lv_istore (i := 5) (lv' := [(5, .int 0), (0, .ref x0), (1, .int x1), (2, .int x2), (3, .int x3), (4, .int x4)]) hx hb dX12_hurt_41 hl (by decide) rfl (fun ls hl => ?_)
  refine lv_iconst (v := (-1)) hx hb dX12_hurt_43 (by decide) ?_
  refine lv_istore (i := 6) (lv' := [(6, .int (-1)), (5, .int 0), (0, .ref x0), (1, .int x1), (2, .int x2), (3, .int x3), (4, .int x4)]) hx hb dX12_hurt_44 hl (by decide) rfl (fun ls hl => ?_)
  refine lv_iconst (v := 0) hx hb dX12_hurt_46 (by decide) ?_
  refine lv_istore (i := 7) (lv' := [(7, .int 0), (6, .int (-1)), (5, .int 0), (0, .ref x0), (1, .int x1), (2, .int x2), (3, .int x3), (4, .int x4)]) hx hb dX12_hurt_47 hl (by decide) rfl (fun ls hl => ?_)
  exact hB49 x0 x1 x2 x3 x4 kx0 q_FU 0 (-1) 0 dt _ _ _ hm hW hS (lv_sub hl [3, 4, 5, 6, 7, 2, 1, 0] rfl)
theorem dX12_byAmplitude_0 : decode cX12_byAmplitude 0 = .ok (.iconst 0, 1) := by decide +kernel
theorem dX12_byAmplitude_1 : decode cX12_byAmplitude 1 = .ok (.istore_n 2, 1) := by decide +kernel
theorem dX12_byAmplitude_2 : decode cX12_byAmplitude 2 = .ok (.iload_n 2, 1) := by decide +kernel
theorem dX12_byAmplitude_3 : decode cX12_byAmplitude 3 = .ok (.aload_n 0, 1) := by decide +kernel
theorem dX12_byAmplitude_4 : decode cX12_byAmplitude 4 = .ok (.getfield 70, 3) := by decide +kernel
theorem dX12_byAmplitude_7 : decode cX12_byAmplitude 7 = .ok (.aload_n 0, 1) := by decide +kernel
theorem dX12_byAmplitude_8 : decode cX12_byAmplitude 8 = .ok (.getfield 242, 3) := by decide +kernel
theorem dX12_byAmplitude_11 : decode cX12_byAmplitude 11 = .ok (.iaload, 1) := by decide +kernel
theorem dX12_byAmplitude_12 : decode cX12_byAmplitude 12 = .ok (.if_icmp .ge 97, 3) := by decide +kernel
theorem dX12_byAmplitude_15 : decode cX12_byAmplitude 15 = .ok (.iconst 0, 1) := by decide +kernel
theorem dX12_byAmplitude_16 : decode cX12_byAmplitude 16 = .ok (.istore_n 3, 1) := by decide +kernel
theorem dX12_byAmplitude_17 : decode cX12_byAmplitude 17 = .ok (.iconst 0, 1) := by decide +kernel
theorem dX12_byAmplitude_18 : decode cX12_byAmplitude 18 = .ok (.istore 4, 2) := by decide +kernel
theorem dX12_byAmplitude_20 : decode cX12_byAmplitude 20 = .ok (.iload 4, 2) := by decide +kernel
theorem dX12_byAmplitude_22 : decode cX12_byAmplitude 22 = .ok (.aload_n 0, 1) := by decide +kernel
theorem dX12_byAmplitude_23 : decode cX12_byAmplitude 23 = .ok (.getfield 70, 3) := by decide +kernel
theorem dX12_byAmplitude_26 : decode cX12_byAmplitude 26 = .ok (.aload_n 0, 1) := by decide +kernel
theorem dX12_byAmplitude_27 : decode cX12_byAmplitude 27 = .ok (.getfield 242, 3) := by decide +kernel
theorem dX12_byAmplitude_30 : decode cX12_byAmplitude 30 = .ok (.iaload, 1) := by decide +kernel
theorem dX12_byAmplitude_31 : decode cX12_byAmplitude 31 = .ok (.if_icmp .ge 65, 3) := by decide +kernel
theorem dX12_byAmplitude_34 : decode cX12_byAmplitude 34 = .ok (.aload_n 0, 1) := by decide +kernel
theorem dX12_byAmplitude_35 : decode cX12_byAmplitude 35 = .ok (.getfield 76, 3) := by decide +kernel
theorem dX12_byAmplitude_38 : decode cX12_byAmplitude 38 = .ok (.bipush 6, 2) := by decide +kernel
theorem dX12_byAmplitude_40 : decode cX12_byAmplitude 40 = .ok (.aload_n 0, 1) := by decide +kernel
theorem dX12_byAmplitude_41 : decode cX12_byAmplitude 41 = .ok (.getfield 242, 3) := by decide +kernel
theorem dX12_byAmplitude_44 : decode cX12_byAmplitude 44 = .ok (.imul, 1) := by decide +kernel
theorem dX12_byAmplitude_45 : decode cX12_byAmplitude 45 = .ok (.iload 4, 2) := by decide +kernel
theorem dX12_byAmplitude_47 : decode cX12_byAmplitude 47 = .ok (.iadd, 1) := by decide +kernel
theorem dX12_byAmplitude_48 : decode cX12_byAmplitude 48 = .ok (.iaload, 1) := by decide +kernel
theorem dX12_byAmplitude_49 : decode cX12_byAmplitude 49 = .ok (.istore 5, 2) := by decide +kernel
theorem dX12_byAmplitude_51 : decode cX12_byAmplitude 51 = .ok (.aload_n 0, 1) := by decide +kernel
theorem dX12_byAmplitude_52 : decode cX12_byAmplitude 52 = .ok (.getfield 76, 3) := by decide +kernel
theorem dX12_byAmplitude_55 : decode cX12_byAmplitude 55 = .ok (.bipush 6, 2) := by decide +kernel
theorem dX12_byAmplitude_57 : decode cX12_byAmplitude 57 = .ok (.aload_n 0, 1) := by decide +kernel
theorem dX12_byAmplitude_58 : decode cX12_byAmplitude 58 = .ok (.getfield 242, 3) := by decide +kernel
theorem dX12_byAmplitude_61 : decode cX12_byAmplitude 61 = .ok (.imul, 1) := by decide +kernel
theorem dX12_byAmplitude_62 : decode cX12_byAmplitude 62 = .ok (.iload_n 2, 1) := by decide +kernel
theorem dX12_byAmplitude_63 : decode cX12_byAmplitude 63 = .ok (.iadd, 1) := by decide +kernel
theorem dX12_byAmplitude_64 : decode cX12_byAmplitude 64 = .ok (.iaload, 1) := by decide +kernel
theorem dX12_byAmplitude_65 : decode cX12_byAmplitude 65 = .ok (.istore 6, 2) := by decide +kernel
theorem dX12_byAmplitude_67 : decode cX12_byAmplitude 67 = .ok (.iload 5, 2) := by decide +kernel
theorem dX12_byAmplitude_69 : decode cX12_byAmplitude 69 = .ok (.iload 6, 2) := by decide +kernel
theorem dX12_byAmplitude_71 : decode cX12_byAmplitude 71 = .ok (.if_icmp .gt 16, 3) := by decide +kernel
theorem dX12_byAmplitude_74 : decode cX12_byAmplitude 74 = .ok (.iload 5, 2) := by decide +kernel
theorem dX12_byAmplitude_76 : decode cX12_byAmplitude 76 = .ok (.iload 6, 2) := by decide +kernel
theorem dX12_byAmplitude_78 : decode cX12_byAmplitude 78 = .ok (.if_icmp .ne 12, 3) := by decide +kernel
theorem dX12_byAmplitude_81 : decode cX12_byAmplitude 81 = .ok (.iload 4, 2) := by decide +kernel
theorem dX12_byAmplitude_83 : decode cX12_byAmplitude 83 = .ok (.iload_n 2, 1) := by decide +kernel
theorem dX12_byAmplitude_84 : decode cX12_byAmplitude 84 = .ok (.if_icmp .ge 6, 3) := by decide +kernel
theorem dX12_byAmplitude_87 : decode cX12_byAmplitude 87 = .ok (.iinc 3 1, 3) := by decide +kernel
theorem dX12_byAmplitude_90 : decode cX12_byAmplitude 90 = .ok (.iinc 4 1, 3) := by decide +kernel
theorem dX12_byAmplitude_93 : decode cX12_byAmplitude 93 = .ok (.goto (-73), 3) := by decide +kernel
theorem dX12_byAmplitude_96 : decode cX12_byAmplitude 96 = .ok (.iload_n 3, 1) := by decide +kernel
theorem dX12_byAmplitude_97 : decode cX12_byAmplitude 97 = .ok (.iload_n 1, 1) := by decide +kernel
theorem dX12_byAmplitude_98 : decode cX12_byAmplitude 98 = .ok (.if_icmp .ne 5, 3) := by decide +kernel
theorem dX12_byAmplitude_101 : decode cX12_byAmplitude 101 = .ok (.iload_n 2, 1) := by decide +kernel
theorem dX12_byAmplitude_102 : decode cX12_byAmplitude 102 = .ok (.ireturn, 1) := by decide +kernel
theorem dX12_byAmplitude_103 : decode cX12_byAmplitude 103 = .ok (.iinc 2 1, 3) := by decide +kernel
theorem dX12_byAmplitude_106 : decode cX12_byAmplitude 106 = .ok (.goto (-104), 3) := by decide +kernel
theorem dX12_byAmplitude_109 : decode cX12_byAmplitude 109 = .ok (.iconst (-1), 1) := by decide +kernel
theorem dX12_byAmplitude_110 : decode cX12_byAmplitude 110 = .ok (.ireturn, 1) := by decide +kernel
set_option maxRecDepth 100000 in
theorem c_X12_byAmplitude (l : Launch) (D : q_D) (al : q_Al) (dt : q_Dt) (x0 : Nat) (x1 : Int32) (kx0 : al.1 x0 = 13) (r0 : Int32) (hm : X12_byAmplitude al dt x0 x1 = some r0) : q_Mt l yX12_byAmplitude cX12_byAmplitude 7 (some FieldType.int) 0 0 D al [.ref x0, .int x1] dt 0 (some (.int r0)) dt := by
  refine q_Mt.of (by decide) (Nat.le_of_ble_eq_true rfl) ?_
  intro p e s m args below meth c ls C hargs hW hl
  have hx := C.1
  have hb := C.2.1
  have hown := C.2.2.2.2.2.1
  have hts := C.2.2.2.2.2.2.1
  have hS : va_S (q_A al) s.heap s.heap [] := va_S.rf
  have hl : lv_has ls 7 [(0, .ref x0), (1, .int x1)] := hl
  unfold X12_byAmplitude at hm
  have hB2 : ∀ (x0_2 : Nat) (x1_2 : Int32) (kx0_2 : al.1 x0_2 = 13) (n_2 : Nat) (x2_2 : Int32) (H : Heap) (locs : List Loc) (ls : Array Slot) (hm : X12_byAmplitude_b2 al dt x0_2 x1_2 n_2 x2_2 = some r0) (hW : q_W D al dt H) (hS : va_S (q_A al) s.heap H locs) (hl : lv_has ls 7 [(0, .ref x0_2), (1, .int x1_2), (2, .int x2_2)]), W p l e { frames := 0, cells := 0, slots := 0, locals := 0 } s m args below meth c H locs 0 0 (MQ below (q_Q (some (.int r0)) (fun H => q_W D al dt H ∧ q_Rk al 0 (some (.int r0))) (q_A al)) args s 0 0 (q_A al)) (F0 m 2 ls []) := by
    intro x0_2 x1_2 kx0_2
    intro n_2
    induction n_2 with
    | zero => intro x2_2 H locs ls hm hW hS hl; cases hm
    | succ n_2 ih2 =>
      have hB20 : ∀ (x2_20 : Int32) (n_20 : Nat) (x3_20 : Int32) (x4_20 : Int32) (H : Heap) (locs : List Loc) (ls : Array Slot) (hm : X12_byAmplitude_b20 al dt (X12_byAmplitude_b2 al dt x0_2 x1_2 n_2) x0_2 x1_2 x2_20 n_20 x3_20 x4_20 = some r0) (hW : q_W D al dt H) (hS : va_S (q_A al) s.heap H locs) (hl : lv_has ls 7 [(0, .ref x0_2), (1, .int x1_2), (2, .int x2_20), (3, .int x3_20), (4, .int x4_20)]), W p l e { frames := 0, cells := 0, slots := 0, locals := 0 } s m args below meth c H locs 0 0 (MQ below (q_Q (some (.int r0)) (fun H => q_W D al dt H ∧ q_Rk al 0 (some (.int r0))) (q_A al)) args s 0 0 (q_A al)) (F0 m 20 ls []) := by
        intro x2_20
        intro n_20
        induction n_20 with
        | zero => intro x3_20 x4_20 H locs ls hm hW hS hl; cases hm
        | succ n_20 ih20 =>
          have hB90 : ∀ (x3_90 : Int32) (x4_90 : Int32) (H : Heap) (locs : List Loc) (ls : Array Slot) (hm : X12_byAmplitude_b90 al dt (X12_byAmplitude_b2 al dt x0_2 x1_2 n_2) (X12_byAmplitude_b20 al dt (X12_byAmplitude_b2 al dt x0_2 x1_2 n_2) x0_2 x1_2 x2_20 n_20) x0_2 x1_2 x2_20 x3_90 x4_90 = some r0) (hW : q_W D al dt H) (hS : va_S (q_A al) s.heap H locs) (hl : lv_has ls 7 [(0, .ref x0_2), (1, .int x1_2), (2, .int x2_20), (3, .int x3_90), (4, .int x4_90)]), W p l e { frames := 0, cells := 0, slots := 0, locals := 0 } s m args below meth c H locs 0 0 (MQ below (q_Q (some (.int r0)) (fun H => q_W D al dt H ∧ q_Rk al 0 (some (.int r0))) (q_A al)) args s 0 0 (q_A al)) (F0 m 90 ls []) := by
            intro x3_90 x4_90 H locs ls hm hW hS hl
            unfold X12_byAmplitude_b90 at hm
            refine lv_iinc (v := (x4_90 + 1)) (lv' := [(4, .int (x4_90 + 1)), (0, .ref x0_2), (1, .int x1_2), (2, .int x2_20), (3, .int x3_90)]) hx hb dX12_byAmplitude_90 hl (k := 4) rfl rfl (by decide) rfl (fun ls hl => ?_)
            refine lv_goto (tgt := 20) hx hb dX12_byAmplitude_93 (by decide) ?_
            exact ih20 x3_90 (x4_90 + 1) _ _ _ hm hW hS (lv_sub hl [1, 2, 3, 4, 0] rfl)
          have hB87 : ∀ (x3_87 : Int32) (x4_87 : Int32) (H : Heap) (locs : List Loc) (ls : Array Slot) (hm : X12_byAmplitude_b87 al dt (X12_byAmplitude_b2 al dt x0_2 x1_2 n_2) (X12_byAmplitude_b20 al dt (X12_byAmplitude_b2 al dt x0_2 x1_2 n_2) x0_2 x1_2 x2_20 n_20) x0_2 x1_2 x2_20 x3_87 x4_87 = some r0) (hW : q_W D al dt H) (hS : va_S (q_A al) s.heap H locs) (hl : lv_has ls 7 [(0, .ref x0_2), (1, .int x1_2), (2, .int x2_20), (3, .int x3_87), (4, .int x4_87)]), W p l e { frames := 0, cells := 0, slots := 0, locals := 0 } s m args below meth c H locs 0 0 (MQ below (q_Q (some (.int r0)) (fun H => q_W D al dt H ∧ q_Rk al 0 (some (.int r0))) (q_A al)) args s 0 0 (q_A al)) (F0 m 87 ls []) := by
            intro x3_87 x4_87 H locs ls hm hW hS hl
            unfold X12_byAmplitude_b87 at hm
            refine lv_iinc (v := (x3_87 + 1)) (lv' := [(3, .int (x3_87 + 1)), (0, .ref x0_2), (1, .int x1_2), (2, .int x2_20), (4, .int x4_87)]) hx hb dX12_byAmplitude_87 hl (k := 3) rfl rfl (by decide) rfl (fun ls hl => ?_)
            exact hB90 (x3_87 + 1) x4_87 _ _ _ hm hW hS (lv_sub hl [1, 2, 3, 0, 4] rfl)
          intro x3_20 x4_20 H locs ls hm hW hS hl
          rw [X12_byAmplitude_b20] at hm
          refine lv_iload hx hb dX12_byAmplitude_20 (lv_at hl 4 rfl) ?_
          refine lv_aload_n hx hb dX12_byAmplitude_22 rfl (lv_at hl 0 rfl) ?_
          refine r_getF C hW (ci := 12) kx0_2 ff_12_31 cl_12 fl_RX12_70 dX12_byAmplitude_23 (fun k20001 => ?_)
          refine lv_aload_n hx hb dX12_byAmplitude_26 rfl (lv_at hl 0 rfl) ?_
          refine r_getI C hW (ci := 12) kx0_2 ff_12_18 cl_12 fl_RX12_242 dX12_byAmplitude_27 ?_
          refine r_iald C hW hm k20001 dX12_byAmplitude_30 (fun hm => ?_)
          refine q_ifc hm (fun c20002 hm => ?_) (fun c20002 hm => ?_)
          · refine lv_icmp_ge (tgt := 96) hx hb dX12_byAmplitude_31 (by decide) (fun _ => ?_) (fun h => absurd c20002 h)
            refine lv_iload_n hx hb dX12_byAmplitude_96 rfl (lv_at hl 3 rfl) ?_
            refine lv_iload_n hx hb dX12_byAmplitude_97 rfl (lv_at hl 1 rfl) ?_
            refine q_ifc hm (fun c20003 hm => ?_) (fun c20003 hm => ?_)
            · refine lv_icmp_ne (tgt := 103) hx hb dX12_byAmplitude_98 (by decide) (fun h => absurd c20003 h) (fun _ => ?_)
              refine lv_iload_n hx hb dX12_byAmplitude_101 rfl (lv_at hl 2 rfl) ?_
              exact e_i C hW hS hm dX12_byAmplitude_102
            refine lv_icmp_ne (tgt := 103) hx hb dX12_byAmplitude_98 (by decide) (fun _ => ?_) (fun h => absurd h c20003)
            refine lv_iinc (v := (x2_20 + 1)) (lv' := [(2, .int (x2_20 + 1)), (0, .ref x0_2), (1, .int x1_2), (3, .int x3_20), (4, .int x4_20)]) hx hb dX12_byAmplitude_103 hl (k := 2) rfl rfl (by decide) rfl (fun ls hl => ?_)
            refine lv_goto (tgt := 2) hx hb dX12_byAmplitude_106 (by decide) ?_
            exact ih2 (x2_20 + 1) _ _ _ hm hW hS (lv_sub hl [1, 2, 0] rfl)
          refine lv_icmp_ge (tgt := 96) hx hb dX12_byAmplitude_31 (by decide) (fun h => absurd h c20002) (fun _ => ?_)
          refine lv_aload_n hx hb dX12_byAmplitude_34 rfl (lv_at hl 0 rfl) ?_
          refine r_getF C hW (ci := 12) kx0_2 ff_12_33 cl_12 fl_RX12_76 dX12_byAmplitude_35 (fun k20004 => ?_)
          refine lv_bipush (v := 6) hx hb dX12_byAmplitude_38 (by decide) ?_
          refine lv_aload_n hx hb dX12_byAmplitude_40 rfl (lv_at hl 0 rfl) ?_
          refine r_getI C hW (ci := 12) kx0_2 ff_12_18 cl_12 fl_RX12_242 dX12_byAmplitude_41 ?_
          refine lv_imul hx hb dX12_byAmplitude_44 ?_
          refine lv_iload hx hb dX12_byAmplitude_45 (lv_at hl 4 rfl) ?_
          refine lv_iadd hx hb dX12_byAmplitude_47 ?_
          refine r_iald C hW hm k20004 dX12_byAmplitude_48 (fun hm => ?_)
          refine q_nmI hm (fun v20005 ev20005 hm => ?_)
          refine lv_istore (i := 5) (lv' := [(5, .int v20005), (0, .ref x0_2), (1, .int x1_2), (2, .int x2_20), (3, .int x3_20), (4, .int x4_20)]) hx hb dX12_byAmplitude_49 hl (by decide) rfl (fun ls hl => ?_)
          refine lv_aload_n hx hb dX12_byAmplitude_51 rfl (lv_at hl 1 rfl) ?_
          refine r_getF C hW (ci := 12) kx0_2 ff_12_33 cl_12 fl_RX12_76 dX12_byAmplitude_52 (fun k20006 => ?_)
          refine lv_bipush (v := 6) hx hb dX12_byAmplitude_55 (by decide) ?_
          refine lv_aload_n hx hb dX12_byAmplitude_57 rfl (lv_at hl 1 rfl) ?_
          refine r_getI C hW (ci := 12) kx0_2 ff_12_18 cl_12 fl_RX12_242 dX12_byAmplitude_58 ?_
          refine lv_imul hx hb dX12_byAmplitude_61 ?_
          refine lv_iload_n hx hb dX12_byAmplitude_62 rfl (lv_at hl 3 rfl) ?_
          refine lv_iadd hx hb dX12_byAmplitude_63 ?_
          refine r_iald C hW hm k20006 dX12_byAmplitude_64 (fun hm => ?_)
          refine q_nmI hm (fun v20007 ev20007 hm => ?_)
          refine lv_istore (i := 6) (lv' := [(6, .int v20007), (5, .int v20005), (0, .ref x0_2), (1, .int x1_2), (2, .int x2_20), (3, .int x3_20), (4, .int x4_20)]) hx hb dX12_byAmplitude_65 hl (by decide) rfl (fun ls hl => ?_)
          refine lv_iload hx hb dX12_byAmplitude_67 (lv_at hl 1 rfl) ?_
          refine lv_iload hx hb dX12_byAmplitude_69 (lv_at hl 0 rfl) ?_
          refine q_ifc hm (fun c20008 hm => ?_) (fun c20008 hm => ?_)
          · refine lv_icmp_gt (tgt := 87) hx hb dX12_byAmplitude_71 (by decide) (fun _ => ?_) (fun h => absurd c20008 h)
            exact hB87 x3_20 x4_20 _ _ _ hm hW hS (lv_sub hl [2, 3, 4, 5, 6] rfl)
          refine lv_icmp_gt (tgt := 87) hx hb dX12_byAmplitude_71 (by decide) (fun h => absurd h c20008) (fun _ => ?_)
          refine lv_iload hx hb dX12_byAmplitude_74 (lv_at hl 1 rfl) ?_
          refine lv_iload hx hb dX12_byAmplitude_76 (lv_at hl 0 rfl) ?_
          refine q_ifc hm (fun c20009 hm => ?_) (fun c20009 hm => ?_)
          · refine lv_icmp_ne (tgt := 90) hx hb dX12_byAmplitude_78 (by decide) (fun h => absurd c20009 h) (fun _ => ?_)
            refine lv_iload hx hb dX12_byAmplitude_81 (lv_at hl 6 rfl) ?_
            refine lv_iload_n hx hb dX12_byAmplitude_83 rfl (lv_at hl 4 rfl) ?_
            refine q_ifc hm (fun c20010 hm => ?_) (fun c20010 hm => ?_)
            · refine lv_icmp_ge (tgt := 90) hx hb dX12_byAmplitude_84 (by decide) (fun _ => ?_) (fun h => absurd c20010 h)
              exact hB90 x3_20 x4_20 _ _ _ hm hW hS (lv_sub hl [2, 3, 4, 5, 6] rfl)
            refine lv_icmp_ge (tgt := 90) hx hb dX12_byAmplitude_84 (by decide) (fun h => absurd h c20010) (fun _ => ?_)
            exact hB87 x3_20 x4_20 _ _ _ hm hW hS (lv_sub hl [2, 3, 4, 5, 6] rfl)
          refine lv_icmp_ne (tgt := 90) hx hb dX12_byAmplitude_78 (by decide) (fun _ => ?_) (fun h => absurd h c20009)
          exact hB90 x3_20 x4_20 _ _ _ hm hW hS (lv_sub hl [2, 3, 4, 5, 6] rfl)
      intro x2_2 H locs ls hm hW hS hl
      rw [X12_byAmplitude_b2] at hm
      refine lv_iload_n hx hb dX12_byAmplitude_2 rfl (lv_at hl 2 rfl) ?_
      refine lv_aload_n hx hb dX12_byAmplitude_3 rfl (lv_at hl 0 rfl) ?_
      refine r_getF C hW (ci := 12) kx0_2 ff_12_31 cl_12 fl_RX12_70 dX12_byAmplitude_4 (fun k2001 => ?_)
      refine lv_aload_n hx hb dX12_byAmplitude_7 rfl (lv_at hl 0 rfl) ?_
      refine r_getI C hW (ci := 12) kx0_2 ff_12_18 cl_12 fl_RX12_242 dX12_byAmplitude_8 ?_
      refine r_iald C hW hm k2001 dX12_byAmplitude_11 (fun hm => ?_)
      refine q_ifc hm (fun c2002 hm => ?_) (fun c2002 hm => ?_)
      · refine lv_icmp_ge (tgt := 109) hx hb dX12_byAmplitude_12 (by decide) (fun _ => ?_) (fun h => absurd c2002 h)
        refine lv_iconst (v := (-1)) hx hb dX12_byAmplitude_109 (by decide) ?_
        exact e_i C hW hS hm dX12_byAmplitude_110
      refine lv_icmp_ge (tgt := 109) hx hb dX12_byAmplitude_12 (by decide) (fun h => absurd h c2002) (fun _ => ?_)
      refine lv_iconst (v := 0) hx hb dX12_byAmplitude_15 (by decide) ?_
      refine lv_istore_n (i := 3) (lv' := [(3, .int 0), (0, .ref x0_2), (1, .int x1_2), (2, .int x2_2)]) hx hb dX12_byAmplitude_16 rfl hl (by decide) rfl (fun ls hl => ?_)
      refine lv_iconst (v := 0) hx hb dX12_byAmplitude_17 (by decide) ?_
      refine lv_istore (i := 4) (lv' := [(4, .int 0), (3, .int 0), (0, .ref x0_2), (1, .int x1_2), (2, .int x2_2)]) hx hb dX12_byAmplitude_18 hl (by decide) rfl (fun ls hl => ?_)
      exact hB20 x2_2 q_FU 0 0 _ _ _ hm hW hS (lv_sub hl [2, 3, 4, 1, 0] rfl)
  refine lv_iconst (v := 0) hx hb dX12_byAmplitude_0 (by decide) ?_
  refine lv_istore_n (i := 2) (lv' := [(2, .int 0), (0, .ref x0), (1, .int x1)]) hx hb dX12_byAmplitude_1 rfl hl (by decide) rfl (fun ls hl => ?_)
  exact hB2 x0 x1 kx0 q_FU 0 _ _ _ hm hW hS (lv_sub hl [1, 2, 0] rfl)
