theorem dX12_count_0 : decode cX12_count 0 = .ok (.iload_n 1, 1) := by decide +kernel
theorem dX12_count_1 : decode cX12_count 1 = .ok (.tableswitch 171 0 8 #[51, 61, 71, 81, 91, 101, 111, 116, 161], 51) := by decide +kernel
theorem dX12_count_52 : decode cX12_count 52 = .ok (.aload_n 0, 1) := by decide +kernel
theorem dX12_count_53 : decode cX12_count 53 = .ok (.getfield 49, 3) := by decide +kernel
theorem dX12_count_56 : decode cX12_count 56 = .ok (.aload_n 0, 1) := by decide +kernel
theorem dX12_count_57 : decode cX12_count 57 = .ok (.getfield 242, 3) := by decide +kernel
theorem dX12_count_60 : decode cX12_count 60 = .ok (.iaload, 1) := by decide +kernel
theorem dX12_count_61 : decode cX12_count 61 = .ok (.ireturn, 1) := by decide +kernel
theorem dX12_count_62 : decode cX12_count 62 = .ok (.aload_n 0, 1) := by decide +kernel
theorem dX12_count_63 : decode cX12_count 63 = .ok (.getfield 58, 3) := by decide +kernel
theorem dX12_count_66 : decode cX12_count 66 = .ok (.aload_n 0, 1) := by decide +kernel
theorem dX12_count_67 : decode cX12_count 67 = .ok (.getfield 242, 3) := by decide +kernel
theorem dX12_count_70 : decode cX12_count 70 = .ok (.iaload, 1) := by decide +kernel
theorem dX12_count_71 : decode cX12_count 71 = .ok (.ireturn, 1) := by decide +kernel
theorem dX12_count_72 : decode cX12_count 72 = .ok (.aload_n 0, 1) := by decide +kernel
theorem dX12_count_73 : decode cX12_count 73 = .ok (.getfield 70, 3) := by decide +kernel
theorem dX12_count_76 : decode cX12_count 76 = .ok (.aload_n 0, 1) := by decide +kernel
theorem dX12_count_77 : decode cX12_count 77 = .ok (.getfield 242, 3) := by decide +kernel
theorem dX12_count_80 : decode cX12_count 80 = .ok (.iaload, 1) := by decide +kernel
theorem dX12_count_81 : decode cX12_count 81 = .ok (.ireturn, 1) := by decide +kernel
theorem dX12_count_82 : decode cX12_count 82 = .ok (.aload_n 0, 1) := by decide +kernel
theorem dX12_count_83 : decode cX12_count 83 = .ok (.getfield 91, 3) := by decide +kernel
theorem dX12_count_86 : decode cX12_count 86 = .ok (.aload_n 0, 1) := by decide +kernel
theorem dX12_count_87 : decode cX12_count 87 = .ok (.getfield 242, 3) := by decide +kernel
theorem dX12_count_90 : decode cX12_count 90 = .ok (.iaload, 1) := by decide +kernel
theorem dX12_count_91 : decode cX12_count 91 = .ok (.ireturn, 1) := by decide +kernel
theorem dX12_count_92 : decode cX12_count 92 = .ok (.aload_n 0, 1) := by decide +kernel
theorem dX12_count_93 : decode cX12_count 93 = .ok (.getfield 103, 3) := by decide +kernel
theorem dX12_count_96 : decode cX12_count 96 = .ok (.aload_n 0, 1) := by decide +kernel
theorem dX12_count_97 : decode cX12_count 97 = .ok (.getfield 242, 3) := by decide +kernel
theorem dX12_count_100 : decode cX12_count 100 = .ok (.iaload, 1) := by decide +kernel
theorem dX12_count_101 : decode cX12_count 101 = .ok (.ireturn, 1) := by decide +kernel
theorem dX12_count_102 : decode cX12_count 102 = .ok (.aload_n 0, 1) := by decide +kernel
theorem dX12_count_103 : decode cX12_count 103 = .ok (.getfield 124, 3) := by decide +kernel
theorem dX12_count_106 : decode cX12_count 106 = .ok (.aload_n 0, 1) := by decide +kernel
theorem dX12_count_107 : decode cX12_count 107 = .ok (.getfield 242, 3) := by decide +kernel
theorem dX12_count_110 : decode cX12_count 110 = .ok (.iaload, 1) := by decide +kernel
theorem dX12_count_111 : decode cX12_count 111 = .ok (.ireturn, 1) := by decide +kernel
theorem dX12_count_112 : decode cX12_count 112 = .ok (.aload_n 0, 1) := by decide +kernel
theorem dX12_count_113 : decode cX12_count 113 = .ok (.getfield 174, 3) := by decide +kernel
theorem dX12_count_116 : decode cX12_count 116 = .ok (.ireturn, 1) := by decide +kernel
theorem dX12_count_117 : decode cX12_count 117 = .ok (.aload_n 0, 1) := by decide +kernel
theorem dX12_count_118 : decode cX12_count 118 = .ok (.getfield 164, 3) := by decide +kernel
theorem dX12_count_121 : decode cX12_count 121 = .ok (.iconst 0, 1) := by decide +kernel
theorem dX12_count_122 : decode cX12_count 122 = .ok (.baload, 1) := by decide +kernel
theorem dX12_count_123 : decode cX12_count 123 = .ok (.ifCond .eq 7, 3) := by decide +kernel
theorem dX12_count_126 : decode cX12_count 126 = .ok (.iconst 1, 1) := by decide +kernel
theorem dX12_count_127 : decode cX12_count 127 = .ok (.goto 4, 3) := by decide +kernel
theorem dX12_count_130 : decode cX12_count 130 = .ok (.iconst 0, 1) := by decide +kernel
theorem dX12_count_131 : decode cX12_count 131 = .ok (.aload_n 0, 1) := by decide +kernel
theorem dX12_count_132 : decode cX12_count 132 = .ok (.getfield 164, 3) := by decide +kernel
theorem dX12_count_135 : decode cX12_count 135 = .ok (.iconst 1, 1) := by decide +kernel
theorem dX12_count_136 : decode cX12_count 136 = .ok (.baload, 1) := by decide +kernel
theorem dX12_count_137 : decode cX12_count 137 = .ok (.ifCond .eq 7, 3) := by decide +kernel
theorem dX12_count_140 : decode cX12_count 140 = .ok (.iconst 1, 1) := by decide +kernel
theorem dX12_count_141 : decode cX12_count 141 = .ok (.goto 4, 3) := by decide +kernel
theorem dX12_count_144 : decode cX12_count 144 = .ok (.iconst 0, 1) := by decide +kernel
theorem dX12_count_145 : decode cX12_count 145 = .ok (.iadd, 1) := by decide +kernel
theorem dX12_count_146 : decode cX12_count 146 = .ok (.aload_n 0, 1) := by decide +kernel
theorem dX12_count_147 : decode cX12_count 147 = .ok (.getfield 164, 3) := by decide +kernel
theorem dX12_count_150 : decode cX12_count 150 = .ok (.iconst 2, 1) := by decide +kernel
theorem dX12_count_151 : decode cX12_count 151 = .ok (.baload, 1) := by decide +kernel
theorem dX12_count_152 : decode cX12_count 152 = .ok (.ifCond .eq 7, 3) := by decide +kernel
theorem dX12_count_155 : decode cX12_count 155 = .ok (.iconst 1, 1) := by decide +kernel
theorem dX12_count_156 : decode cX12_count 156 = .ok (.goto 4, 3) := by decide +kernel
theorem dX12_count_159 : decode cX12_count 159 = .ok (.iconst 0, 1) := by decide +kernel
theorem dX12_count_160 : decode cX12_count 160 = .ok (.iadd, 1) := by decide +kernel
theorem dX12_count_161 : decode cX12_count 161 = .ok (.ireturn, 1) := by decide +kernel
theorem dX12_count_162 : decode cX12_count 162 = .ok (.aload_n 0, 1) := by decide +kernel
theorem dX12_count_163 : decode cX12_count 163 = .ok (.getfield 118, 3) := by decide +kernel
theorem dX12_count_166 : decode cX12_count 166 = .ok (.aload_n 0, 1) := by decide +kernel
theorem dX12_count_167 : decode cX12_count 167 = .ok (.getfield 242, 3) := by decide +kernel
theorem dX12_count_170 : decode cX12_count 170 = .ok (.iaload, 1) := by decide +kernel
theorem dX12_count_171 : decode cX12_count 171 = .ok (.ireturn, 1) := by decide +kernel
theorem dX12_count_172 : decode cX12_count 172 = .ok (.aload_n 0, 1) := by decide +kernel
theorem dX12_count_173 : decode cX12_count 173 = .ok (.iload_n 1, 1) := by decide +kernel
theorem dX12_count_174 : decode cX12_count 174 = .ok (.bipush 10, 2) := by decide +kernel
theorem dX12_count_176 : decode cX12_count 176 = .ok (.isub, 1) := by decide +kernel
theorem dX12_count_177 : decode cX12_count 177 = .ok (.invokevirtual 415, 3) := by decide +kernel
theorem dX12_count_180 : decode cX12_count 180 = .ok (.ifCond .eq 12, 3) := by decide +kernel
theorem dX12_count_183 : decode cX12_count 183 = .ok (.aload_n 0, 1) := by decide +kernel
theorem dX12_count_184 : decode cX12_count 184 = .ok (.iload_n 1, 1) := by decide +kernel
theorem dX12_count_185 : decode cX12_count 185 = .ok (.bipush 10, 2) := by decide +kernel
theorem dX12_count_187 : decode cX12_count 187 = .ok (.isub, 1) := by decide +kernel
theorem dX12_count_188 : decode cX12_count 188 = .ok (.invokevirtual 509, 3) := by decide +kernel
theorem dX12_count_191 : decode cX12_count 191 = .ok (.ireturn, 1) := by decide +kernel
theorem dX12_count_192 : decode cX12_count 192 = .ok (.aload_n 0, 1) := by decide +kernel
theorem dX12_count_193 : decode cX12_count 193 = .ok (.iload_n 1, 1) := by decide +kernel
theorem dX12_count_194 : decode cX12_count 194 = .ok (.bipush 20, 2) := by decide +kernel
theorem dX12_count_196 : decode cX12_count 196 = .ok (.isub, 1) := by decide +kernel
theorem dX12_count_197 : decode cX12_count 197 = .ok (.invokevirtual 491, 3) := by decide +kernel
theorem dX12_count_200 : decode cX12_count 200 = .ok (.ifCond .eq 14, 3) := by decide +kernel
theorem dX12_count_203 : decode cX12_count 203 = .ok (.aload_n 0, 1) := by decide +kernel
theorem dX12_count_204 : decode cX12_count 204 = .ok (.iload_n 1, 1) := by decide +kernel
theorem dX12_count_205 : decode cX12_count 205 = .ok (.bipush 20, 2) := by decide +kernel
theorem dX12_count_207 : decode cX12_count 207 = .ok (.isub, 1) := by decide +kernel
theorem dX12_count_208 : decode cX12_count 208 = .ok (.invokevirtual 488, 3) := by decide +kernel
theorem dX12_count_211 : decode cX12_count 211 = .ok (.goto 4, 3) := by decide +kernel
theorem dX12_count_214 : decode cX12_count 214 = .ok (.iconst (-1), 1) := by decide +kernel
theorem dX12_count_215 : decode cX12_count 215 = .ok (.ireturn, 1) := by decide +kernel
set_option maxRecDepth 100000 in
theorem c_X12_count (l : Launch) (D : q_D) (al : q_Al) (dt : q_Dt) (x0 : Nat) (x1 : Int32) (kx0 : al.1 x0 = 13) (r0 : Int32) (dt0 : q_Dt) (hm : X12_count al dt x0 x1 = some (r0, dt0)) : q_Mt l yX12_count cX12_count 2 (some FieldType.int) 5 122 D al [.ref x0, .int x1] dt 0 (some (.int r0)) dt0 := by
  refine q_Mt.of (by decide) (Nat.le_of_ble_eq_true rfl) ?_
  intro p e s m args below meth c ls C hargs hW hl
  have hx := C.1
  have hb := C.2.1
  have hown := C.2.2.2.2.2.1
  have hts := C.2.2.2.2.2.2.1
  have hS : va_S (q_A al) s.heap s.heap [] := va_S.rf
  have hl : lv_has ls 2 [(0, .ref x0), (1, .int x1)] := hl
  unfold X12_count at hm
  have hB160 : ∀ (t0_160 : Int32) (t1_160 : Int32) (dt : q_Dt) (H : Heap) (locs : List Loc) (ls : Array Slot) (hm : X12_count_b160 al t0_160 t1_160 dt = some (r0, dt0)) (hW : q_W D al dt H) (hS : va_S (q_A al) s.heap H locs) (hl : lv_has ls 2 []), W p l e { frames := 5, cells := 0, slots := 0, locals := 122 } s m args below meth c H locs 0 0 (MQ below (q_Q (some (.int r0)) (fun H => q_W D al dt0 H ∧ q_Rk al 0 (some (.int r0))) (q_A al)) args s 0 0 (q_A al)) (F0 m 160 ls [.int t1_160, .int t0_160]) := by
    intro t0_160 t1_160 dt H locs ls hm hW hS hl
    unfold X12_count_b160 at hm
    refine lv_iadd hx hb dX12_count_160 ?_
    exact e_iD C hW hS hm dX12_count_161
  have hB145 : ∀ (x0_145 : Nat) (t0_145 : Int32) (t1_145 : Int32) (kx0_145 : al.1 x0_145 = 13) (dt : q_Dt) (H : Heap) (locs : List Loc) (ls : Array Slot) (hm : X12_count_b145 al x0_145 t0_145 t1_145 dt = some (r0, dt0)) (hW : q_W D al dt H) (hS : va_S (q_A al) s.heap H locs) (hl : lv_has ls 2 [(0, .ref x0_145)]), W p l e { frames := 5, cells := 0, slots := 0, locals := 122 } s m args below meth c H locs 0 0 (MQ below (q_Q (some (.int r0)) (fun H => q_W D al dt0 H ∧ q_Rk al 0 (some (.int r0))) (q_A al)) args s 0 0 (q_A al)) (F0 m 145 ls [.int t1_145, .int t0_145]) := by
    intro x0_145 t0_145 t1_145 kx0_145 dt H locs ls hm hW hS hl
    unfold X12_count_b145 at hm
    refine lv_iadd hx hb dX12_count_145 ?_
    refine lv_aload_n hx hb dX12_count_146 rfl (lv_at hl 0 rfl) ?_
    refine r_getF C hW (ci := 12) kx0_145 ff_12_65 cl_12 fl_RX12_164 dX12_count_147 (fun k145001 => ?_)
    refine lv_iconst (v := 2) hx hb dX12_count_150 (by decide) ?_
    refine r_zald C hW hm k145001 dX12_count_151 (fun hm => ?_)
    refine q_ifc hm (fun c145002 hm => ?_) (fun c145002 hm => ?_)
    · refine lv_if_eq (tgt := 159) hx hb dX12_count_152 (by decide) (fun _ => ?_) (fun h => absurd c145002 h)
      refine lv_iconst (v := 0) hx hb dX12_count_159 (by decide) ?_
      exact hB160 (t0_145 + t1_145) 0 dt _ _ _ hm hW hS (lv_sub hl [] rfl)
    refine lv_if_eq (tgt := 159) hx hb dX12_count_152 (by decide) (fun h => absurd h c145002) (fun _ => ?_)
    refine lv_iconst (v := 1) hx hb dX12_count_155 (by decide) ?_
    refine lv_goto (tgt := 160) hx hb dX12_count_156 (by decide) ?_
    exact hB160 (t0_145 + t1_145) 1 dt _ _ _ hm hW hS (lv_sub hl [] rfl)
  have hB131 : ∀ (x0_131 : Nat) (t0_131 : Int32) (kx0_131 : al.1 x0_131 = 13) (dt : q_Dt) (H : Heap) (locs : List Loc) (ls : Array Slot) (hm : X12_count_b131 al x0_131 t0_131 dt = some (r0, dt0)) (hW : q_W D al dt H) (hS : va_S (q_A al) s.heap H locs) (hl : lv_has ls 2 [(0, .ref x0_131)]), W p l e { frames := 5, cells := 0, slots := 0, locals := 122 } s m args below meth c H locs 0 0 (MQ below (q_Q (some (.int r0)) (fun H => q_W D al dt0 H ∧ q_Rk al 0 (some (.int r0))) (q_A al)) args s 0 0 (q_A al)) (F0 m 131 ls [.int t0_131]) := by
    intro x0_131 t0_131 kx0_131 dt H locs ls hm hW hS hl
    unfold X12_count_b131 at hm
    refine lv_aload_n hx hb dX12_count_131 rfl (lv_at hl 0 rfl) ?_
    refine r_getF C hW (ci := 12) kx0_131 ff_12_65 cl_12 fl_RX12_164 dX12_count_132 (fun k131001 => ?_)
    refine lv_iconst (v := 1) hx hb dX12_count_135 (by decide) ?_
    refine r_zald C hW hm k131001 dX12_count_136 (fun hm => ?_)
    refine q_ifc hm (fun c131002 hm => ?_) (fun c131002 hm => ?_)
    · refine lv_if_eq (tgt := 144) hx hb dX12_count_137 (by decide) (fun _ => ?_) (fun h => absurd c131002 h)
      refine lv_iconst (v := 0) hx hb dX12_count_144 (by decide) ?_
      exact hB145 x0_131 t0_131 0 kx0_131 dt _ _ _ hm hW hS (lv_sub hl [0] rfl)
    refine lv_if_eq (tgt := 144) hx hb dX12_count_137 (by decide) (fun h => absurd h c131002) (fun _ => ?_)
    refine lv_iconst (v := 1) hx hb dX12_count_140 (by decide) ?_
    refine lv_goto (tgt := 145) hx hb dX12_count_141 (by decide) ?_
    exact hB145 x0_131 t0_131 1 kx0_131 dt _ _ _ hm hW hS (lv_sub hl [0] rfl)
  refine lv_iload_n hx hb dX12_count_0 rfl (lv_at hl 1 rfl) ?_
  refine q_ifc hm (fun c1000001 hm => ?_) (fun c1000001 hm => ?_)
  · refine lv_tableIn (tgt := 52) hx hb dX12_count_1 (by rw [c1000001]; decide) (by rw [c1000001]; decide) (by rw [c1000001]; rfl) (by decide) ?_
    refine lv_aload_n hx hb dX12_count_52 rfl (lv_at hl 0 rfl) ?_
    refine r_getF C hW (ci := 12) kx0 ff_12_24 cl_12 fl_RX12_49 dX12_count_53 (fun k1000002 => ?_)
    refine lv_aload_n hx hb dX12_count_56 rfl (lv_at hl 0 rfl) ?_
    refine r_getI C hW (ci := 12) kx0 ff_12_18 cl_12 fl_RX12_242 dX12_count_57 ?_
    refine r_iald C hW hm k1000002 dX12_count_60 (fun hm => ?_)
    exact e_iD C hW hS hm dX12_count_61
  refine q_ifc hm (fun c1000003 hm => ?_) (fun c1000003 hm => ?_)
  · refine lv_tableIn (tgt := 62) hx hb dX12_count_1 (by rw [c1000003]; decide) (by rw [c1000003]; decide) (by rw [c1000003]; rfl) (by decide) ?_
    refine lv_aload_n hx hb dX12_count_62 rfl (lv_at hl 0 rfl) ?_
    refine r_getF C hW (ci := 12) kx0 ff_12_27 cl_12 fl_RX12_58 dX12_count_63 (fun k1000004 => ?_)
    refine lv_aload_n hx hb dX12_count_66 rfl (lv_at hl 0 rfl) ?_
    refine r_getI C hW (ci := 12) kx0 ff_12_18 cl_12 fl_RX12_242 dX12_count_67 ?_
    refine r_iald C hW hm k1000004 dX12_count_70 (fun hm => ?_)
    exact e_iD C hW hS hm dX12_count_71
  refine q_ifc hm (fun c1000005 hm => ?_) (fun c1000005 hm => ?_)
  · refine lv_tableIn (tgt := 72) hx hb dX12_count_1 (by rw [c1000005]; decide) (by rw [c1000005]; decide) (by rw [c1000005]; rfl) (by decide) ?_
    refine lv_aload_n hx hb dX12_count_72 rfl (lv_at hl 0 rfl) ?_
    refine r_getF C hW (ci := 12) kx0 ff_12_31 cl_12 fl_RX12_70 dX12_count_73 (fun k1000006 => ?_)
    refine lv_aload_n hx hb dX12_count_76 rfl (lv_at hl 0 rfl) ?_
    refine r_getI C hW (ci := 12) kx0 ff_12_18 cl_12 fl_RX12_242 dX12_count_77 ?_
    refine r_iald C hW hm k1000006 dX12_count_80 (fun hm => ?_)
    exact e_iD C hW hS hm dX12_count_81
  refine q_ifc hm (fun c1000007 hm => ?_) (fun c1000007 hm => ?_)
  · refine lv_tableIn (tgt := 82) hx hb dX12_count_1 (by rw [c1000007]; decide) (by rw [c1000007]; decide) (by rw [c1000007]; rfl) (by decide) ?_
    refine lv_aload_n hx hb dX12_count_82 rfl (lv_at hl 0 rfl) ?_
    refine r_getF C hW (ci := 12) kx0 ff_12_38 cl_12 fl_RX12_91 dX12_count_83 (fun k1000008 => ?_)
    refine lv_aload_n hx hb dX12_count_86 rfl (lv_at hl 0 rfl) ?_
    refine r_getI C hW (ci := 12) kx0 ff_12_18 cl_12 fl_RX12_242 dX12_count_87 ?_
    refine r_iald C hW hm k1000008 dX12_count_90 (fun hm => ?_)
    exact e_iD C hW hS hm dX12_count_91
  refine q_ifc hm (fun c1000009 hm => ?_) (fun c1000009 hm => ?_)
  · refine lv_tableIn (tgt := 92) hx hb dX12_count_1 (by rw [c1000009]; decide) (by rw [c1000009]; decide) (by rw [c1000009]; rfl) (by decide) ?_
    refine lv_aload_n hx hb dX12_count_92 rfl (lv_at hl 0 rfl) ?_
    refine r_getF C hW (ci := 12) kx0 ff_12_42 cl_12 fl_RX12_103 dX12_count_93 (fun k1000010 => ?_)
    refine lv_aload_n hx hb dX12_count_96 rfl (lv_at hl 0 rfl) ?_
    refine r_getI C hW (ci := 12) kx0 ff_12_18 cl_12 fl_RX12_242 dX12_count_97 ?_
    refine r_iald C hW hm k1000010 dX12_count_100 (fun hm => ?_)
    exact e_iD C hW hS hm dX12_count_101
  refine q_ifc hm (fun c1000011 hm => ?_) (fun c1000011 hm => ?_)
  · refine lv_tableIn (tgt := 102) hx hb dX12_count_1 (by rw [c1000011]; decide) (by rw [c1000011]; decide) (by rw [c1000011]; rfl) (by decide) ?_
    refine lv_aload_n hx hb dX12_count_102 rfl (lv_at hl 0 rfl) ?_
    refine r_getF C hW (ci := 12) kx0 ff_12_49 cl_12 fl_RX12_124 dX12_count_103 (fun k1000012 => ?_)
    refine lv_aload_n hx hb dX12_count_106 rfl (lv_at hl 0 rfl) ?_
    refine r_getI C hW (ci := 12) kx0 ff_12_18 cl_12 fl_RX12_242 dX12_count_107 ?_
    refine r_iald C hW hm k1000012 dX12_count_110 (fun hm => ?_)
    exact e_iD C hW hS hm dX12_count_111
  refine q_ifc hm (fun c1000013 hm => ?_) (fun c1000013 hm => ?_)
  · refine lv_tableIn (tgt := 112) hx hb dX12_count_1 (by rw [c1000013]; decide) (by rw [c1000013]; decide) (by rw [c1000013]; rfl) (by decide) ?_
    refine lv_aload_n hx hb dX12_count_112 rfl (lv_at hl 0 rfl) ?_
    refine r_getI C hW (ci := 12) kx0 ff_12_2 cl_12 fl_RX12_174 dX12_count_113 ?_
    exact e_iD C hW hS hm dX12_count_116
  refine q_ifc hm (fun c1000014 hm => ?_) (fun c1000014 hm => ?_)
  · refine lv_tableIn (tgt := 117) hx hb dX12_count_1 (by rw [c1000014]; decide) (by rw [c1000014]; decide) (by rw [c1000014]; rfl) (by decide) ?_
    refine lv_aload_n hx hb dX12_count_117 rfl (lv_at hl 0 rfl) ?_
    refine r_getF C hW (ci := 12) kx0 ff_12_65 cl_12 fl_RX12_164 dX12_count_118 (fun k1000015 => ?_)
    refine lv_iconst (v := 0) hx hb dX12_count_121 (by decide) ?_
    refine r_zald C hW hm k1000015 dX12_count_122 (fun hm => ?_)
    refine q_ifc hm (fun c1000016 hm => ?_) (fun c1000016 hm => ?_)
    · refine lv_if_eq (tgt := 130) hx hb dX12_count_123 (by decide) (fun _ => ?_) (fun h => absurd c1000016 h)
      refine lv_iconst (v := 0) hx hb dX12_count_130 (by decide) ?_
      exact hB131 x0 0 kx0 dt _ _ _ hm hW hS (lv_sub hl [0] rfl)
    refine lv_if_eq (tgt := 130) hx hb dX12_count_123 (by decide) (fun h => absurd h c1000016) (fun _ => ?_)
    refine lv_iconst (v := 1) hx hb dX12_count_126 (by decide) ?_
    refine lv_goto (tgt := 131) hx hb dX12_count_127 (by decide) ?_
    exact hB131 x0 1 kx0 dt _ _ _ hm hW hS (lv_sub hl [0] rfl)
  refine q_ifc hm (fun c1000017 hm => ?_) (fun c1000017 hm => ?_)
  · refine lv_tableIn (tgt := 162) hx hb dX12_count_1 (by rw [c1000017]; decide) (by rw [c1000017]; decide) (by rw [c1000017]; rfl) (by decide) ?_
    refine lv_aload_n hx hb dX12_count_162 rfl (lv_at hl 0 rfl) ?_
    refine r_getF C hW (ci := 12) kx0 ff_12_47 cl_12 fl_RX12_118 dX12_count_163 (fun k1000018 => ?_)
    refine lv_aload_n hx hb dX12_count_166 rfl (lv_at hl 0 rfl) ?_
    refine r_getI C hW (ci := 12) kx0 ff_12_18 cl_12 fl_RX12_242 dX12_count_167 ?_
    refine r_iald C hW hm k1000018 dX12_count_170 (fun hm => ?_)
    exact e_iD C hW hS hm dX12_count_171
  have c1000001_z := lv_neT c1000001 (a := 0) rfl
  have c1000003_z := lv_neT c1000003 (a := 1) rfl
  have c1000005_z := lv_neT c1000005 (a := 2) rfl
  have c1000007_z := lv_neT c1000007 (a := 3) rfl
  have c1000009_z := lv_neT c1000009 (a := 4) rfl
  have c1000011_z := lv_neT c1000011 (a := 5) rfl
  have c1000013_z := lv_neT c1000013 (a := 6) rfl
  have c1000014_z := lv_neT c1000014 (a := 7) rfl
  have c1000017_z := lv_neT c1000017 (a := 8) rfl
  refine lv_tableOut (tgt := 172) hx hb dX12_count_1 (by omega) (by decide) ?_
  refine lv_aload_n hx hb dX12_count_172 rfl (lv_at hl 0 rfl) ?_
  refine lv_iload_n hx hb dX12_count_173 rfl (lv_at hl 1 rfl) ?_
  refine lv_bipush (v := 10) hx hb dX12_count_174 (by decide) ?_
  refine lv_isub hx hb dX12_count_176 ?_
  obtain ⟨v1000020, hc1000019, hm⟩ := q_b1i hm
  refine q_callV C hW hS (As := [.int (x1 - 10)]) (rest := []) (st1 := [.int v1000020]) (c_X12_isSender l D al dt x0 (x1 - 10) kx0 v1000020 hc1000019) yl_X12_isSender vl_X12_isSender ml_RX12_415 (ci := 12) rfl kx0 (by decide) rfl ⟨Nat.le_of_ble_eq_true rfl, Nat.le_of_ble_eq_true rfl⟩ hl rfl (Nat.le_of_ble_eq_true rfl) dX12_count_177 ⟨Nat.le_refl _, Nat.le_refl _⟩ rfl (fun H locs k1000021 hW hS => ?_)
  refine q_ifc hm (fun c1000022 hm => ?_) (fun c1000022 hm => ?_)
  · refine lv_if_eq (tgt := 192) hx hb dX12_count_180 (by decide) (fun _ => ?_) (fun h => absurd c1000022 h)
    refine lv_aload_n hx hb dX12_count_192 rfl (lv_at hl 0 rfl) ?_
    refine lv_iload_n hx hb dX12_count_193 rfl (lv_at hl 1 rfl) ?_
    refine lv_bipush (v := 20) hx hb dX12_count_194 (by decide) ?_
    refine lv_isub hx hb dX12_count_196 ?_
    obtain ⟨v1000024, hc1000023, hm⟩ := q_b1i hm
    refine q_callV C hW hS (As := [.int (x1 - 20)]) (rest := []) (st1 := [.int v1000024]) (c_X12_isHop l D al dt x0 (x1 - 20) kx0 v1000024 hc1000023) yl_X12_isHop vl_X12_isHop ml_RX12_491 (ci := 12) rfl kx0 (by decide) rfl ⟨Nat.le_of_ble_eq_true rfl, Nat.le_of_ble_eq_true rfl⟩ hl rfl (Nat.le_of_ble_eq_true rfl) dX12_count_197 ⟨Nat.le_refl _, Nat.le_refl _⟩ rfl (fun H locs k1000025 hW hS => ?_)
    refine q_ifc hm (fun c1000026 hm => ?_) (fun c1000026 hm => ?_)
    · refine lv_if_eq (tgt := 214) hx hb dX12_count_200 (by decide) (fun _ => ?_) (fun h => absurd c1000026 h)
      refine lv_iconst (v := (-1)) hx hb dX12_count_214 (by decide) ?_
      exact e_iD C hW hS hm dX12_count_215
    refine lv_if_eq (tgt := 214) hx hb dX12_count_200 (by decide) (fun h => absurd h c1000026) (fun _ => ?_)
    refine lv_aload_n hx hb dX12_count_203 rfl (lv_at hl 0 rfl) ?_
    refine lv_iload_n hx hb dX12_count_204 rfl (lv_at hl 1 rfl) ?_
    refine lv_bipush (v := 20) hx hb dX12_count_205 (by decide) ?_
    refine lv_isub hx hb dX12_count_207 ?_
    obtain ⟨v1000028, hc1000027, hm⟩ := q_b1i hm
    refine q_callV C hW hS (As := [.int (x1 - 20)]) (rest := []) (st1 := [.int v1000028]) (c_X12_p l D al dt x0 (x1 - 20) kx0 v1000028 hc1000027) yl_X12_p vl_X12_p ml_RX12_488 (ci := 12) rfl kx0 (by decide) rfl ⟨Nat.le_of_ble_eq_true rfl, Nat.le_of_ble_eq_true rfl⟩ hl rfl (Nat.le_of_ble_eq_true rfl) dX12_count_208 ⟨Nat.le_refl _, Nat.le_refl _⟩ rfl (fun H locs k1000029 hW hS => ?_)
    refine lv_goto (tgt := 215) hx hb dX12_count_211 (by decide) ?_
    exact e_iD C hW hS hm dX12_count_215
  refine lv_if_eq (tgt := 192) hx hb dX12_count_180 (by decide) (fun h => absurd h c1000022) (fun _ => ?_)
  refine lv_aload_n hx hb dX12_count_183 rfl (lv_at hl 0 rfl) ?_
  refine lv_iload_n hx hb dX12_count_184 rfl (lv_at hl 1 rfl) ?_
  refine lv_bipush (v := 10) hx hb dX12_count_185 (by decide) ?_
  refine lv_isub hx hb dX12_count_187 ?_
  obtain ⟨v1000031, dt1000032, hc1000030, hm⟩ := q_b2i hm
  refine q_callV C hW hS (As := [.int (x1 - 10)]) (rest := []) (st1 := [.int v1000031]) (c_X12_periodsOf l D al dt x0 (x1 - 10) kx0 v1000031 dt1000032 hc1000030) yl_X12_periodsOf vl_X12_periodsOf ml_RX12_509 (ci := 12) rfl kx0 (by decide) rfl ⟨Nat.le_of_ble_eq_true rfl, Nat.le_of_ble_eq_true rfl⟩ hl rfl (Nat.le_of_ble_eq_true rfl) dX12_count_188 ⟨Nat.le_refl _, Nat.le_refl _⟩ rfl (fun H locs k1000033 hW hS => ?_)
  exact e_iD C hW hS hm dX12_count_191
