theorem dX3_makeEcho_0 : decode cX3_makeEcho 0 = .ok (.aload_n 0, 1) := by decide +kernel
theorem dX3_makeEcho_1 : decode cX3_makeEcho 1 = .ok (.getfield 12, 3) := by decide +kernel
theorem dX3_makeEcho_4 : decode cX3_makeEcho 4 = .ok (.getfield 109, 3) := by decide +kernel
theorem dX3_makeEcho_7 : decode cX3_makeEcho 7 = .ok (.aload_n 0, 1) := by decide +kernel
theorem dX3_makeEcho_8 : decode cX3_makeEcho 8 = .ok (.getfield 37, 3) := by decide +kernel
theorem dX3_makeEcho_11 : decode cX3_makeEcho 11 = .ok (.invokevirtual 60, 3) := by decide +kernel
theorem dX3_makeEcho_14 : decode cX3_makeEcho 14 = .ok (.istore_n 2, 1) := by decide +kernel
theorem dX3_makeEcho_15 : decode cX3_makeEcho 15 = .ok (.aload_n 1, 1) := by decide +kernel
theorem dX3_makeEcho_16 : decode cX3_makeEcho 16 = .ok (.aload_n 0, 1) := by decide +kernel
theorem dX3_makeEcho_17 : decode cX3_makeEcho 17 = .ok (.iconst 5, 1) := by decide +kernel
theorem dX3_makeEcho_18 : decode cX3_makeEcho 18 = .ok (.invokevirtual 124, 3) := by decide +kernel
theorem dX3_makeEcho_21 : decode cX3_makeEcho 21 = .ok (.invokevirtual 214, 3) := by decide +kernel
theorem dX3_makeEcho_24 : decode cX3_makeEcho 24 = .ok (.astore_n 3, 1) := by decide +kernel
theorem dX3_makeEcho_25 : decode cX3_makeEcho 25 = .ok (.aload_n 3, 1) := by decide +kernel
theorem dX3_makeEcho_26 : decode cX3_makeEcho 26 = .ok (.ifnonnull 9, 3) := by decide +kernel
theorem dX3_makeEcho_29 : decode cX3_makeEcho 29 = .ok (.aload_n 0, 1) := by decide +kernel
theorem dX3_makeEcho_30 : decode cX3_makeEcho 30 = .ok (.iconst 4, 1) := by decide +kernel
theorem dX3_makeEcho_31 : decode cX3_makeEcho 31 = .ok (.iload_n 2, 1) := by decide +kernel
theorem dX3_makeEcho_32 : decode cX3_makeEcho 32 = .ok (.invokevirtual 112, 3) := by decide +kernel
theorem dX3_makeEcho_35 : decode cX3_makeEcho 35 = .ok (.aload_n 0, 1) := by decide +kernel
theorem dX3_makeEcho_36 : decode cX3_makeEcho 36 = .ok (.iconst 1, 1) := by decide +kernel
theorem dX3_makeEcho_37 : decode cX3_makeEcho 37 = .ok (.bipush 99, 2) := by decide +kernel
theorem dX3_makeEcho_39 : decode cX3_makeEcho 39 = .ok (.invokevirtual 93, 3) := by decide +kernel
theorem dX3_makeEcho_42 : decode cX3_makeEcho 42 = .ok (.istore 4, 2) := by decide +kernel
theorem dX3_makeEcho_44 : decode cX3_makeEcho 44 = .ok (.aload_n 0, 1) := by decide +kernel
theorem dX3_makeEcho_45 : decode cX3_makeEcho 45 = .ok (.getfield 12, 3) := by decide +kernel
theorem dX3_makeEcho_48 : decode cX3_makeEcho 48 = .ok (.getfield 209, 3) := by decide +kernel
theorem dX3_makeEcho_51 : decode cX3_makeEcho 51 = .ok (.aload_n 0, 1) := by decide +kernel
theorem dX3_makeEcho_52 : decode cX3_makeEcho 52 = .ok (.getfield 37, 3) := by decide +kernel
theorem dX3_makeEcho_55 : decode cX3_makeEcho 55 = .ok (.invokevirtual 106, 3) := by decide +kernel
theorem dX3_makeEcho_58 : decode cX3_makeEcho 58 = .ok (.ldc2_w 218, 3) := by decide +kernel
theorem dX3_makeEcho_61 : decode cX3_makeEcho 61 = .ok (.lcmp, 1) := by decide +kernel
theorem dX3_makeEcho_62 : decode cX3_makeEcho 62 = .ok (.ifCond .ne 7, 3) := by decide +kernel
theorem dX3_makeEcho_65 : decode cX3_makeEcho 65 = .ok (.iconst 1, 1) := by decide +kernel
theorem dX3_makeEcho_66 : decode cX3_makeEcho 66 = .ok (.goto 4, 3) := by decide +kernel
theorem dX3_makeEcho_69 : decode cX3_makeEcho 69 = .ok (.iconst 0, 1) := by decide +kernel
theorem dX3_makeEcho_70 : decode cX3_makeEcho 70 = .ok (.istore 5, 2) := by decide +kernel
theorem dX3_makeEcho_72 : decode cX3_makeEcho 72 = .ok (.aload_n 0, 1) := by decide +kernel
theorem dX3_makeEcho_73 : decode cX3_makeEcho 73 = .ok (.dup, 1) := by decide +kernel
theorem dX3_makeEcho_74 : decode cX3_makeEcho 74 = .ok (.getfield 37, 3) := by decide +kernel
theorem dX3_makeEcho_77 : decode cX3_makeEcho 77 = .ok (.iload 5, 2) := by decide +kernel
theorem dX3_makeEcho_79 : decode cX3_makeEcho 79 = .ok (.ifCond .eq 7, 3) := by decide +kernel
theorem dX3_makeEcho_82 : decode cX3_makeEcho 82 = .ok (.iconst 1, 1) := by decide +kernel
theorem dX3_makeEcho_83 : decode cX3_makeEcho 83 = .ok (.goto 4, 3) := by decide +kernel
theorem dX3_makeEcho_86 : decode cX3_makeEcho 86 = .ok (.iconst 0, 1) := by decide +kernel
theorem dX3_makeEcho_87 : decode cX3_makeEcho 87 = .ok (.iadd, 1) := by decide +kernel
theorem dX3_makeEcho_88 : decode cX3_makeEcho 88 = .ok (.putfield 37, 3) := by decide +kernel
theorem dX3_makeEcho_91 : decode cX3_makeEcho 91 = .ok (.aload_n 0, 1) := by decide +kernel
theorem dX3_makeEcho_92 : decode cX3_makeEcho 92 = .ok (.iconst 1, 1) := by decide +kernel
theorem dX3_makeEcho_93 : decode cX3_makeEcho 93 = .ok (.bipush 99, 2) := by decide +kernel
theorem dX3_makeEcho_95 : decode cX3_makeEcho 95 = .ok (.invokevirtual 93, 3) := by decide +kernel
theorem dX3_makeEcho_98 : decode cX3_makeEcho 98 = .ok (.istore 6, 2) := by decide +kernel
theorem dX3_makeEcho_100 : decode cX3_makeEcho 100 = .ok (.aload_n 3, 1) := by decide +kernel
theorem dX3_makeEcho_101 : decode cX3_makeEcho 101 = .ok (.ifnull 22, 3) := by decide +kernel
theorem dX3_makeEcho_104 : decode cX3_makeEcho 104 = .ok (.aload_n 3, 1) := by decide +kernel
theorem dX3_makeEcho_105 : decode cX3_makeEcho 105 = .ok (.iload 4, 2) := by decide +kernel
theorem dX3_makeEcho_107 : decode cX3_makeEcho 107 = .ok (.iload 5, 2) := by decide +kernel
theorem dX3_makeEcho_109 : decode cX3_makeEcho 109 = .ok (.ifCond .eq 9, 3) := by decide +kernel
theorem dX3_makeEcho_112 : decode cX3_makeEcho 112 = .ok (.iload 6, 2) := by decide +kernel
theorem dX3_makeEcho_114 : decode cX3_makeEcho 114 = .ok (.ineg, 1) := by decide +kernel
theorem dX3_makeEcho_115 : decode cX3_makeEcho 115 = .ok (.goto 5, 3) := by decide +kernel
theorem dX3_makeEcho_118 : decode cX3_makeEcho 118 = .ok (.iload 6, 2) := by decide +kernel
theorem dX3_makeEcho_120 : decode cX3_makeEcho 120 = .ok (.invokevirtual 220, 3) := by decide +kernel
theorem dX3_makeEcho_123 : decode cX3_makeEcho 123 = .ok (.aload_n 1, 1) := by decide +kernel
theorem dX3_makeEcho_124 : decode cX3_makeEcho 124 = .ok (.dup, 1) := by decide +kernel
theorem dX3_makeEcho_125 : decode cX3_makeEcho 125 = .ok (.getfield 223, 3) := by decide +kernel
theorem dX3_makeEcho_128 : decode cX3_makeEcho 128 = .ok (.iconst 1, 1) := by decide +kernel
theorem dX3_makeEcho_129 : decode cX3_makeEcho 129 = .ok (.iadd, 1) := by decide +kernel
theorem dX3_makeEcho_130 : decode cX3_makeEcho 130 = .ok (.putfield 223, 3) := by decide +kernel
theorem dX3_makeEcho_133 : decode cX3_makeEcho 133 = .ok (.return_, 1) := by decide +kernel
set_option maxRecDepth 100000 in
theorem c_X3_makeEcho (l : Launch) (D : q_D) (al : q_Al) (dt : q_Dt) (x0 : Nat) (x1 : Nat) (kx0 : al.1 x0 = 4) (kx1 : al.1 x1 = 11) (dt0 : q_Dt) (hm : X3_makeEcho al dt x0 x1 = some dt0) : q_Mt l yX3_makeEcho cX3_makeEcho 7 (none) 3 66 D al [.ref x0, .ref x1] dt 0 none dt0 := by
  refine q_Mt.of (by decide) (Nat.le_of_ble_eq_true rfl) ?_
  intro p e s m args below meth c ls C hargs hW hl
  have hx := C.1
  have hb := C.2.1
  have hown := C.2.2.2.2.2.1
  have hts := C.2.2.2.2.2.2.1
  have hS : va_S (q_A al) s.heap s.heap [] := va_S.rf
  have hl : lv_has ls 7 [(0, .ref x0), (1, .ref x1)] := hl
  unfold X3_makeEcho at hm
  have hB123 : ∀ (x1_123 : Nat) (kx1_123 : al.1 x1_123 = 11) (dt : q_Dt) (H : Heap) (locs : List Loc) (ls : Array Slot) (hm : X3_makeEcho_b123 al x1_123 dt = some dt0) (hW : q_W D al dt H) (hS : va_S (q_A al) s.heap H locs) (hl : lv_has ls 7 [(1, .ref x1_123)]), W p l e { frames := 3, cells := 0, slots := 0, locals := 66 } s m args below meth c H locs 0 0 (MQ below (q_Q none (fun H => q_W D al dt0 H ∧ q_Rk al 0 none) (q_A al)) args s 0 0 (q_A al)) (F0 m 123 ls []) := by
    intro x1_123 kx1_123 dt H locs ls hm hW hS hl
    unfold X3_makeEcho_b123 at hm
    refine lv_aload_n hx hb dX3_makeEcho_123 rfl (lv_at hl 0 rfl) ?_
    refine lv_dup hx hb dX3_makeEcho_124 rfl ?_
    refine r_getI C hW (ci := 10) kx1_123 ff_10_10 cl_10 fl_RX3_223 dX3_makeEcho_125 ?_
    refine lv_iconst (v := 1) hx hb dX3_makeEcho_128 (by decide) ?_
    refine lv_iadd hx hb dX3_makeEcho_129 ?_
    refine r_putI C hW hS hm (ci := 10) kx1_123 ff_10_10 cl_10 fl_RX3_223 (nf_10_10) rfl dX3_makeEcho_130 (fun dt123001 H locs hm hW hS => ?_)
    exact e_vD C hW hS hm dX3_makeEcho_133
  have hB120 : ∀ (x1_120 : Nat) (t0_120 : Nat) (t1_120 : Int32) (t2_120 : Int32) (kx1_120 : al.1 x1_120 = 11) (kt0_120 : al.1 t0_120 = 8) (dt : q_Dt) (H : Heap) (locs : List Loc) (ls : Array Slot) (hm : X3_makeEcho_b120 al x1_120 t0_120 t1_120 t2_120 dt = some dt0) (hW : q_W D al dt H) (hS : va_S (q_A al) s.heap H locs) (hl : lv_has ls 7 [(1, .ref x1_120)]), W p l e { frames := 3, cells := 0, slots := 0, locals := 66 } s m args below meth c H locs 0 0 (MQ below (q_Q none (fun H => q_W D al dt0 H ∧ q_Rk al 0 none) (q_A al)) args s 0 0 (q_A al)) (F0 m 120 ls [.int t2_120, .int t1_120, .ref t0_120]) := by
    intro x1_120 t0_120 t1_120 t2_120 kx1_120 kt0_120 dt H locs ls hm hW hS hl
    unfold X3_makeEcho_b120 at hm
    obtain ⟨dt120002, hc120001, hm⟩ := q_b1i hm
    refine q_callV C hW hS (As := [.int t1_120, .int t2_120]) (rest := []) (st1 := []) (c_X7_layEcho l D al dt t0_120 t1_120 t2_120 kt0_120 dt120002 hc120001) yl_X7_layEcho vl_X7_layEcho ml_RX3_220 (ci := 7) rfl kt0_120 (by decide) rfl ⟨Nat.le_of_ble_eq_true rfl, Nat.le_of_ble_eq_true rfl⟩ hl rfl (Nat.le_of_ble_eq_true rfl) dX3_makeEcho_120 ⟨Nat.le_refl _, Nat.le_refl _⟩ rfl (fun H locs k120003 hW hS => ?_)
    exact hB123 x1_120 kx1_120 dt120002 _ _ _ hm hW hS (lv_sub hl [0] rfl)
  have hB87 : ∀ (x0_87 : Nat) (x1_87 : Nat) (x3_87 : Option Nat) (x4_87 : Int32) (x5_87 : Int32) (t0_87 : Nat) (t1_87 : Int32) (t2_87 : Int32) (kx0_87 : al.1 x0_87 = 4) (kx1_87 : al.1 x1_87 = 11) (kx3_87 : ∀ b, x3_87 = some b → al.1 b = 8) (kt0_87 : al.1 t0_87 = 4) (dt : q_Dt) (H : Heap) (locs : List Loc) (ls : Array Slot) (hm : X3_makeEcho_b87 al x0_87 x1_87 x3_87 x4_87 x5_87 t0_87 t1_87 t2_87 dt = some dt0) (hW : q_W D al dt H) (hS : va_S (q_A al) s.heap H locs) (hl : lv_has ls 7 [(0, .ref x0_87), (1, .ref x1_87), (3, va_rf x3_87), (4, .int x4_87), (5, .int x5_87)]), W p l e { frames := 3, cells := 0, slots := 0, locals := 66 } s m args below meth c H locs 0 0 (MQ below (q_Q none (fun H => q_W D al dt0 H ∧ q_Rk al 0 none) (q_A al)) args s 0 0 (q_A al)) (F0 m 87 ls [.int t2_87, .int t1_87, .ref t0_87]) := by
    intro x0_87 x1_87 x3_87 x4_87 x5_87 t0_87 t1_87 t2_87 kx0_87 kx1_87 kx3_87 kt0_87 dt H locs ls hm hW hS hl
    unfold X3_makeEcho_b87 at hm
    refine lv_iadd hx hb dX3_makeEcho_87 ?_
    refine r_putI C hW hS hm (ci := 3) kt0_87 ff_3_5 cl_3 fl_RX3_37 (nf_3_5) rfl dX3_makeEcho_88 (fun dt87001 H locs hm hW hS => ?_)
    refine lv_aload_n hx hb dX3_makeEcho_91 rfl (lv_at hl 0 rfl) ?_
    refine lv_iconst (v := 1) hx hb dX3_makeEcho_92 (by decide) ?_
    refine lv_bipush (v := 99) hx hb dX3_makeEcho_93 (by decide) ?_
    obtain ⟨v87003, dt87004, hc87002, hm⟩ := q_b2i hm
    refine q_callV C hW hS (As := [.int 1, .int 99]) (rest := []) (st1 := [.int v87003]) (c_X3_number l D al dt87001 x0_87 1 99 kx0_87 v87003 dt87004 hc87002) yl_X3_number vl_X3_number ml_RX3_93 (ci := 3) rfl kx0_87 (by decide) rfl ⟨Nat.le_of_ble_eq_true rfl, Nat.le_of_ble_eq_true rfl⟩ hl rfl (Nat.le_of_ble_eq_true rfl) dX3_makeEcho_95 ⟨Nat.le_refl _, Nat.le_refl _⟩ rfl (fun H locs k87005 hW hS => ?_)
    refine lv_istore (i := 6) (lv' := [(6, .int v87003), (0, .ref x0_87), (1, .ref x1_87), (3, va_rf x3_87), (4, .int x4_87), (5, .int x5_87)]) hx hb dX3_makeEcho_98 hl (by decide) rfl (fun ls hl => ?_)
    refine q_aloadQ_n C dX3_makeEcho_100 rfl (lv_at hl 3 rfl) ?_
    refine q_ifnull C hm (tgt := 123) dX3_makeEcho_101 (by decide) (fun e87008 hq87009 => ?_) (fun b87006 e87008 hq87009 => ?_)
    · subst e87008
      have hm := hq87009
      exact hB123 x1_87 kx1_87 dt87004 _ _ _ hm hW hS (lv_sub hl [2] rfl)
    subst e87008
    have hm := hq87009
    have k87007 := kx3_87 b87006 rfl
    refine lv_aload_n hx hb dX3_makeEcho_104 rfl (lv_at hl 3 rfl) ?_
    refine lv_iload hx hb dX3_makeEcho_105 (lv_at hl 4 rfl) ?_
    refine lv_iload hx hb dX3_makeEcho_107 (lv_at hl 5 rfl) ?_
    refine q_ifc hm (fun c87010 hm => ?_) (fun c87010 hm => ?_)
    · refine lv_if_eq (tgt := 118) hx hb dX3_makeEcho_109 (by decide) (fun _ => ?_) (fun h => absurd c87010 h)
      refine lv_iload hx hb dX3_makeEcho_118 (lv_at hl 0 rfl) ?_
      exact hB120 x1_87 b87006 x4_87 v87003 kx1_87 k87007 dt87004 _ _ _ hm hW hS (lv_sub hl [2] rfl)
    refine lv_if_eq (tgt := 118) hx hb dX3_makeEcho_109 (by decide) (fun h => absurd h c87010) (fun _ => ?_)
    refine lv_iload hx hb dX3_makeEcho_112 (lv_at hl 0 rfl) ?_
    refine lv_ineg hx hb dX3_makeEcho_114 ?_
    refine lv_goto (tgt := 120) hx hb dX3_makeEcho_115 (by decide) ?_
    exact hB120 x1_87 b87006 x4_87 (-v87003) kx1_87 k87007 dt87004 _ _ _ hm hW hS (lv_sub hl [2] rfl)
  have hB70 : ∀ (x0_70 : Nat) (x1_70 : Nat) (x3_70 : Option Nat) (x4_70 : Int32) (t0_70 : Int32) (kx0_70 : al.1 x0_70 = 4) (kx1_70 : al.1 x1_70 = 11) (kx3_70 : ∀ b, x3_70 = some b → al.1 b = 8) (dt : q_Dt) (H : Heap) (locs : List Loc) (ls : Array Slot) (hm : X3_makeEcho_b70 al x0_70 x1_70 x3_70 x4_70 t0_70 dt = some dt0) (hW : q_W D al dt H) (hS : va_S (q_A al) s.heap H locs) (hl : lv_has ls 7 [(0, .ref x0_70), (1, .ref x1_70), (3, va_rf x3_70), (4, .int x4_70)]), W p l e { frames := 3, cells := 0, slots := 0, locals := 66 } s m args below meth c H locs 0 0 (MQ below (q_Q none (fun H => q_W D al dt0 H ∧ q_Rk al 0 none) (q_A al)) args s 0 0 (q_A al)) (F0 m 70 ls [.int t0_70]) := by
    intro x0_70 x1_70 x3_70 x4_70 t0_70 kx0_70 kx1_70 kx3_70 dt H locs ls hm hW hS hl
    unfold X3_makeEcho_b70 at hm
    refine lv_istore (i := 5) (lv' := [(5, .int t0_70), (0, .ref x0_70), (1, .ref x1_70), (3, va_rf x3_70), (4, .int x4_70)]) hx hb dX3_makeEcho_70 hl (by decide) rfl (fun ls hl => ?_)
    refine lv_aload_n hx hb dX3_makeEcho_72 rfl (lv_at hl 1 rfl) ?_
    refine lv_dup hx hb dX3_makeEcho_73 rfl ?_
    refine r_getI C hW (ci := 3) kx0_70 ff_3_5 cl_3 fl_RX3_37 dX3_makeEcho_74 ?_
    refine lv_iload hx hb dX3_makeEcho_77 (lv_at hl 0 rfl) ?_
    refine q_ifc hm (fun c70001 hm => ?_) (fun c70001 hm => ?_)
    · refine lv_if_eq (tgt := 86) hx hb dX3_makeEcho_79 (by decide) (fun _ => ?_) (fun h => absurd c70001 h)
      refine lv_iconst (v := 0) hx hb dX3_makeEcho_86 (by decide) ?_
      exact hB87 x0_70 x1_70 x3_70 x4_70 t0_70 x0_70 (dt.1 x0_70 5) 0 kx0_70 kx1_70 kx3_70 kx0_70 dt _ _ _ hm hW hS (lv_sub hl [1, 2, 3, 4, 0] rfl)
    refine lv_if_eq (tgt := 86) hx hb dX3_makeEcho_79 (by decide) (fun h => absurd h c70001) (fun _ => ?_)
    refine lv_iconst (v := 1) hx hb dX3_makeEcho_82 (by decide) ?_
    refine lv_goto (tgt := 87) hx hb dX3_makeEcho_83 (by decide) ?_
    exact hB87 x0_70 x1_70 x3_70 x4_70 t0_70 x0_70 (dt.1 x0_70 5) 1 kx0_70 kx1_70 kx3_70 kx0_70 dt _ _ _ hm hW hS (lv_sub hl [1, 2, 3, 4, 0] rfl)
  have hB35 : ∀ (x0_35 : Nat) (x1_35 : Nat) (x3_35 : Option Nat) (kx0_35 : al.1 x0_35 = 4) (kx1_35 : al.1 x1_35 = 11) (kx3_35 : ∀ b, x3_35 = some b → al.1 b = 8) (dt : q_Dt) (H : Heap) (locs : List Loc) (ls : Array Slot) (hm : X3_makeEcho_b35 al x0_35 x1_35 x3_35 dt = some dt0) (hW : q_W D al dt H) (hS : va_S (q_A al) s.heap H locs) (hl : lv_has ls 7 [(0, .ref x0_35), (1, .ref x1_35), (3, va_rf x3_35)]), W p l e { frames := 3, cells := 0, slots := 0, locals := 66 } s m args below meth c H locs 0 0 (MQ below (q_Q none (fun H => q_W D al dt0 H ∧ q_Rk al 0 none) (q_A al)) args s 0 0 (q_A al)) (F0 m 35 ls []) := by
    intro x0_35 x1_35 x3_35 kx0_35 kx1_35 kx3_35 dt H locs ls hm hW hS hl
    unfold X3_makeEcho_b35 at hm
    refine lv_aload_n hx hb dX3_makeEcho_35 rfl (lv_at hl 0 rfl) ?_
    refine lv_iconst (v := 1) hx hb dX3_makeEcho_36 (by decide) ?_
    refine lv_bipush (v := 99) hx hb dX3_makeEcho_37 (by decide) ?_
    obtain ⟨v35002, dt35003, hc35001, hm⟩ := q_b2i hm
    refine q_callV C hW hS (As := [.int 1, .int 99]) (rest := []) (st1 := [.int v35002]) (c_X3_number l D al dt x0_35 1 99 kx0_35 v35002 dt35003 hc35001) yl_X3_number vl_X3_number ml_RX3_93 (ci := 3) rfl kx0_35 (by decide) rfl ⟨Nat.le_of_ble_eq_true rfl, Nat.le_of_ble_eq_true rfl⟩ hl rfl (Nat.le_of_ble_eq_true rfl) dX3_makeEcho_39 ⟨Nat.le_refl _, Nat.le_refl _⟩ rfl (fun H locs k35004 hW hS => ?_)
    refine lv_istore (i := 4) (lv' := [(4, .int v35002), (0, .ref x0_35), (1, .ref x1_35), (3, va_rf x3_35)]) hx hb dX3_makeEcho_42 hl (by decide) (by simp [q_cat, q_catR, q_catI, q_catL] <;> rfl) (fun ls hl => ?_)
    refine lv_aload_n hx hb dX3_makeEcho_44 rfl (lv_at hl 1 rfl) ?_
    refine r_getF C hW (ci := 3) kx0_35 ff_3_0 cl_3 fl_RX3_12 dX3_makeEcho_45 (fun k35005 => ?_)
    refine r_getF C hW (ci := 9) k35005 ff_9_1 cl_9 fl_RX3_209 dX3_makeEcho_48 (fun k35006 => ?_)
    refine lv_aload_n hx hb dX3_makeEcho_51 rfl (lv_at hl 1 rfl) ?_
    refine r_getI C hW (ci := 3) kx0_35 ff_3_5 cl_3 fl_RX3_37 dX3_makeEcho_52 ?_
    obtain ⟨v35008, hc35007, hm⟩ := q_b1i hm
    refine q_callV C hW hS (As := [.int (dt35003.1 x0_35 5)]) (rest := []) (st1 := [.long v35008]) (c_X5_at l D al dt35003 (al.2.2 (al.2.2 x0_35 0) 1) (dt35003.1 x0_35 5) k35006 v35008 hc35007) yl_X5_at vl_X5_at ml_RX3_106 (ci := 5) rfl k35006 (by decide) rfl ⟨Nat.le_of_ble_eq_true rfl, Nat.le_of_ble_eq_true rfl⟩ hl rfl (Nat.le_of_ble_eq_true rfl) dX3_makeEcho_55 ⟨Nat.le_refl _, Nat.le_refl _⟩ rfl (fun H locs k35009 hW hS => ?_)
    refine lv_ldc2 (own := RX3) (v := 5) hx hb hown (hts _ wc_RX3_218) dX3_makeEcho_58 ?_
    refine W.lcmp hx hb dX3_makeEcho_61 ?_
    refine q_ifc hm (fun c35010 hm => ?_) (fun c35010 hm => ?_)
    · refine lv_if_ne (tgt := 69) hx hb dX3_makeEcho_62 (by decide) (fun h => absurd (q_cmp_eq.mpr c35010) h) (fun _ => ?_)
      refine lv_iconst (v := 1) hx hb dX3_makeEcho_65 (by decide) ?_
      refine lv_goto (tgt := 70) hx hb dX3_makeEcho_66 (by decide) ?_
      exact hB70 x0_35 x1_35 x3_35 v35002 1 kx0_35 kx1_35 kx3_35 dt35003 _ _ _ hm hW hS (lv_sub hl [1, 2, 3, 0] rfl)
    refine lv_if_ne (tgt := 69) hx hb dX3_makeEcho_62 (by decide) (fun _ => ?_) (fun h => absurd (q_cmp_eq.mp h) c35010)
    refine lv_iconst (v := 0) hx hb dX3_makeEcho_69 (by decide) ?_
    exact hB70 x0_35 x1_35 x3_35 v35002 0 kx0_35 kx1_35 kx3_35 dt35003 _ _ _ hm hW hS (lv_sub hl [1, 2, 3, 0] rfl)
  refine lv_aload_n hx hb dX3_makeEcho_0 rfl (lv_at hl 0 rfl) ?_
  refine r_getF C hW (ci := 3) kx0 ff_3_0 cl_3 fl_RX3_12 dX3_makeEcho_1 (fun k1000001 => ?_)
  refine r_getF C hW (ci := 9) k1000001 ff_9_2 cl_9 fl_RX3_109 dX3_makeEcho_4 (fun k1000002 => ?_)
  refine lv_aload_n hx hb dX3_makeEcho_7 rfl (lv_at hl 0 rfl) ?_
  refine r_getI C hW (ci := 3) kx0 ff_3_5 cl_3 fl_RX3_37 dX3_makeEcho_8 ?_
  obtain ⟨v1000004, hc1000003, hm⟩ := q_b1i hm
  refine q_callV C hW hS (As := [.int (dt.1 x0 5)]) (rest := []) (st1 := [.int v1000004]) (c_X5_small l D al dt (al.2.2 (al.2.2 x0 0) 2) (dt.1 x0 5) k1000002 v1000004 hc1000003) yl_X5_small vl_X5_small ml_RX3_60 (ci := 5) rfl k1000002 (by decide) rfl ⟨Nat.le_of_ble_eq_true rfl, Nat.le_of_ble_eq_true rfl⟩ hl rfl (Nat.le_of_ble_eq_true rfl) dX3_makeEcho_11 ⟨Nat.le_refl _, Nat.le_refl _⟩ rfl (fun H locs k1000005 hW hS => ?_)
  refine lv_istore_n (i := 2) (lv' := [(2, .int v1000004), (0, .ref x0), (1, .ref x1)]) hx hb dX3_makeEcho_14 rfl hl (by decide) rfl (fun ls hl => ?_)
  refine lv_aload_n hx hb dX3_makeEcho_15 rfl (lv_at hl 2 rfl) ?_
  refine lv_aload_n hx hb dX3_makeEcho_16 rfl (lv_at hl 1 rfl) ?_
  refine lv_iconst (v := 5) hx hb dX3_makeEcho_17 (by decide) ?_
  obtain ⟨v1000007, dt1000008, hc1000006, hm⟩ := q_b2i hm
  refine q_callV C hW hS (As := [.int 5]) (rest := [.ref x1]) (st1 := [.int v1000007, .ref x1]) (c_X3_numberNamed l D al dt x0 5 kx0 v1000007 dt1000008 hc1000006) yl_X3_numberNamed vl_X3_numberNamed ml_RX3_124 (ci := 3) rfl kx0 (by decide) rfl ⟨Nat.le_of_ble_eq_true rfl, Nat.le_of_ble_eq_true rfl⟩ hl rfl (Nat.le_of_ble_eq_true rfl) dX3_makeEcho_18 ⟨Nat.le_refl _, Nat.le_refl _⟩ rfl (fun H locs k1000009 hW hS => ?_)
  obtain ⟨v1000011, hc1000010, hm⟩ := q_b1i hm
  refine q_callV C hW hS (As := [.int v1000007]) (rest := []) (st1 := [va_rf v1000011]) (c_X10_senderAt l D al dt1000008 x1 v1000007 kx1 v1000011 hc1000010) yl_X10_senderAt vl_X10_senderAt ml_RX3_214 (ci := 10) rfl kx1 (by decide) rfl ⟨Nat.le_of_ble_eq_true rfl, Nat.le_of_ble_eq_true rfl⟩ hl rfl (Nat.le_of_ble_eq_true rfl) dX3_makeEcho_21 ⟨Nat.le_refl _, Nat.le_refl _⟩ rfl (fun H locs k1000012 hW hS => ?_)
  have k1000012 := q_rk k1000012 (by decide)
  refine q_astoreQ_n (i := 3) (lv' := [(3, va_rf v1000011), (2, .int v1000004), (0, .ref x0), (1, .ref x1)]) C dX3_makeEcho_24 rfl hl (by decide) rfl (fun ls hl => ?_)
  refine q_aloadQ_n C dX3_makeEcho_25 rfl (lv_at hl 0 rfl) ?_
  refine q_ifnonnull C hm (tgt := 35) dX3_makeEcho_26 (by decide) (fun e1000015 hq1000016 => ?_) (fun b1000013 e1000015 hq1000016 => ?_)
  · subst e1000015
    have hm := hq1000016
    refine lv_aload_n hx hb dX3_makeEcho_29 rfl (lv_at hl 2 rfl) ?_
    refine lv_iconst (v := 4) hx hb dX3_makeEcho_30 (by decide) ?_
    refine lv_iload_n hx hb dX3_makeEcho_31 rfl (lv_at hl 1 rfl) ?_
    obtain ⟨dt1000018, hc1000017, hm⟩ := q_b1i hm
    refine q_callV C hW hS (As := [.int 4, .int v1000004]) (rest := []) (st1 := []) (c_X3_refuse l D al dt1000008 x0 4 v1000004 kx0 dt1000018 hc1000017) yl_X3_refuse vl_X3_refuse ml_RX3_112 (ci := 3) rfl kx0 (by decide) rfl ⟨Nat.le_of_ble_eq_true rfl, Nat.le_of_ble_eq_true rfl⟩ hl rfl (Nat.le_of_ble_eq_true rfl) dX3_makeEcho_32 ⟨Nat.le_refl _, Nat.le_refl _⟩ rfl (fun H locs k1000019 hW hS => ?_)
    exact hB35 x0 x1 none kx0 kx1 q_kn dt1000018 _ _ _ hm hW hS (lv_sub hl [2, 3, 0] rfl)
  subst e1000015
  have hm := hq1000016
  have k1000014 := k1000012 b1000013 rfl
  exact hB35 x0 x1 (some b1000013) kx0 kx1 (q_ks k1000014) dt1000008 _ _ _ hm hW hS (lv_sub hl [2, 3, 0] rfl)
theorem dX10_layJam_0 : decode cX10_layJam 0 = .ok (.aload_n 0, 1) := by decide +kernel
theorem dX10_layJam_1 : decode cX10_layJam 1 = .ok (.getfield 34, 3) := by decide +kernel
theorem dX10_layJam_4 : decode cX10_layJam 4 = .ok (.aload_n 0, 1) := by decide +kernel
theorem dX10_layJam_5 : decode cX10_layJam 5 = .ok (.getfield 60, 3) := by decide +kernel
theorem dX10_layJam_8 : decode cX10_layJam 8 = .ok (.iload_n 1, 1) := by decide +kernel
theorem dX10_layJam_9 : decode cX10_layJam 9 = .ok (.i2l, 1) := by decide +kernel
theorem dX10_layJam_10 : decode cX10_layJam 10 = .ok (.invokevirtual 87, 3) := by decide +kernel
theorem dX10_layJam_13 : decode cX10_layJam 13 = .ok (.aload_n 0, 1) := by decide +kernel
theorem dX10_layJam_14 : decode cX10_layJam 14 = .ok (.getfield 38, 3) := by decide +kernel
theorem dX10_layJam_17 : decode cX10_layJam 17 = .ok (.aload_n 0, 1) := by decide +kernel
theorem dX10_layJam_18 : decode cX10_layJam 18 = .ok (.getfield 60, 3) := by decide +kernel
theorem dX10_layJam_21 : decode cX10_layJam 21 = .ok (.iload_n 2, 1) := by decide +kernel
theorem dX10_layJam_22 : decode cX10_layJam 22 = .ok (.i2l, 1) := by decide +kernel
theorem dX10_layJam_23 : decode cX10_layJam 23 = .ok (.invokevirtual 87, 3) := by decide +kernel
theorem dX10_layJam_26 : decode cX10_layJam 26 = .ok (.aload_n 0, 1) := by decide +kernel
theorem dX10_layJam_27 : decode cX10_layJam 27 = .ok (.getfield 41, 3) := by decide +kernel
theorem dX10_layJam_30 : decode cX10_layJam 30 = .ok (.aload_n 0, 1) := by decide +kernel
theorem dX10_layJam_31 : decode cX10_layJam 31 = .ok (.getfield 60, 3) := by decide +kernel
theorem dX10_layJam_34 : decode cX10_layJam 34 = .ok (.iload_n 3, 1) := by decide +kernel
theorem dX10_layJam_35 : decode cX10_layJam 35 = .ok (.i2l, 1) := by decide +kernel
theorem dX10_layJam_36 : decode cX10_layJam 36 = .ok (.invokevirtual 87, 3) := by decide +kernel
theorem dX10_layJam_39 : decode cX10_layJam 39 = .ok (.aload_n 0, 1) := by decide +kernel
theorem dX10_layJam_40 : decode cX10_layJam 40 = .ok (.getfield 44, 3) := by decide +kernel
theorem dX10_layJam_43 : decode cX10_layJam 43 = .ok (.aload_n 0, 1) := by decide +kernel
theorem dX10_layJam_44 : decode cX10_layJam 44 = .ok (.getfield 60, 3) := by decide +kernel
theorem dX10_layJam_47 : decode cX10_layJam 47 = .ok (.iload 4, 2) := by decide +kernel
theorem dX10_layJam_49 : decode cX10_layJam 49 = .ok (.i2l, 1) := by decide +kernel
theorem dX10_layJam_50 : decode cX10_layJam 50 = .ok (.invokevirtual 87, 3) := by decide +kernel
theorem dX10_layJam_53 : decode cX10_layJam 53 = .ok (.aload_n 0, 1) := by decide +kernel
theorem dX10_layJam_54 : decode cX10_layJam 54 = .ok (.dup, 1) := by decide +kernel
theorem dX10_layJam_55 : decode cX10_layJam 55 = .ok (.getfield 60, 3) := by decide +kernel
theorem dX10_layJam_58 : decode cX10_layJam 58 = .ok (.iconst 1, 1) := by decide +kernel
theorem dX10_layJam_59 : decode cX10_layJam 59 = .ok (.iadd, 1) := by decide +kernel
theorem dX10_layJam_60 : decode cX10_layJam 60 = .ok (.putfield 60, 3) := by decide +kernel
theorem dX10_layJam_63 : decode cX10_layJam 63 = .ok (.return_, 1) := by decide +kernel
set_option maxRecDepth 100000 in
theorem c_X10_layJam (l : Launch) (D : q_D) (al : q_Al) (dt : q_Dt) (x0 : Nat) (x1 : Int32) (x2 : Int32) (x3 : Int32) (x4 : Int32) (kx0 : al.1 x0 = 11) (dt0 : q_Dt) (hm : X10_layJam al dt x0 x1 x2 x3 x4 = some dt0) : q_Mt l yX10_layJam cX10_layJam 5 (none) 1 23 D al [.ref x0, .int x1, .int x2, .int x3, .int x4] dt 0 none dt0 := by
  refine q_Mt.of (by decide) (Nat.le_of_ble_eq_true rfl) ?_
  intro p e s m args below meth c ls C hargs hW hl
  have hx := C.1
  have hb := C.2.1
  have hown := C.2.2.2.2.2.1
  have hts := C.2.2.2.2.2.2.1
  have hS : va_S (q_A al) s.heap s.heap [] := va_S.rf
  have hl : lv_has ls 5 [(0, .ref x0), (1, .int x1), (2, .int x2), (3, .int x3), (4, .int x4)] := hl
  unfold X10_layJam at hm
  refine lv_aload_n hx hb dX10_layJam_0 rfl (lv_at hl 0 rfl) ?_
  refine r_getF C hW (ci := 10) kx0 ff_10_3 cl_10 fl_RX10_34 dX10_layJam_1 (fun k1000001 => ?_)
  refine lv_aload_n hx hb dX10_layJam_4 rfl (lv_at hl 0 rfl) ?_
  refine r_getI C hW (ci := 10) kx0 ff_10_11 cl_10 fl_RX10_60 dX10_layJam_5 ?_
  refine lv_iload_n hx hb dX10_layJam_8 rfl (lv_at hl 1 rfl) ?_
  refine lv_i2l (v := (Int32.toInt64 x1)) hx hb dX10_layJam_9 rfl ?_
  obtain ⟨dt1000003, hc1000002, hm⟩ := q_b1i hm
  refine q_callV C hW hS (As := [.int (dt.1 x0 11), .long (Int32.toInt64 x1)]) (rest := []) (st1 := []) (c_X5_put l D al dt (al.2.2 x0 3) (dt.1 x0 11) (Int32.toInt64 x1) k1000001 dt1000003 hc1000002) yl_X5_put vl_X5_put ml_RX10_87 (ci := 5) rfl k1000001 (by decide) rfl ⟨Nat.le_of_ble_eq_true rfl, Nat.le_of_ble_eq_true rfl⟩ hl rfl (Nat.le_of_ble_eq_true rfl) dX10_layJam_10 ⟨Nat.le_refl _, Nat.le_refl _⟩ rfl (fun H locs k1000004 hW hS => ?_)
  refine lv_aload_n hx hb dX10_layJam_13 rfl (lv_at hl 0 rfl) ?_
  refine r_getF C hW (ci := 10) kx0 ff_10_4 cl_10 fl_RX10_38 dX10_layJam_14 (fun k1000005 => ?_)
  refine lv_aload_n hx hb dX10_layJam_17 rfl (lv_at hl 0 rfl) ?_
  refine r_getI C hW (ci := 10) kx0 ff_10_11 cl_10 fl_RX10_60 dX10_layJam_18 ?_
  refine lv_iload_n hx hb dX10_layJam_21 rfl (lv_at hl 2 rfl) ?_
  refine lv_i2l (v := (Int32.toInt64 x2)) hx hb dX10_layJam_22 rfl ?_
  obtain ⟨dt1000007, hc1000006, hm⟩ := q_b1i hm
  refine q_callV C hW hS (As := [.int (dt1000003.1 x0 11), .long (Int32.toInt64 x2)]) (rest := []) (st1 := []) (c_X5_put l D al dt1000003 (al.2.2 x0 4) (dt1000003.1 x0 11) (Int32.toInt64 x2) k1000005 dt1000007 hc1000006) yl_X5_put vl_X5_put ml_RX10_87 (ci := 5) rfl k1000005 (by decide) rfl ⟨Nat.le_of_ble_eq_true rfl, Nat.le_of_ble_eq_true rfl⟩ hl rfl (Nat.le_of_ble_eq_true rfl) dX10_layJam_23 ⟨Nat.le_refl _, Nat.le_refl _⟩ rfl (fun H locs k1000008 hW hS => ?_)
  refine lv_aload_n hx hb dX10_layJam_26 rfl (lv_at hl 0 rfl) ?_
  refine r_getF C hW (ci := 10) kx0 ff_10_5 cl_10 fl_RX10_41 dX10_layJam_27 (fun k1000009 => ?_)
  refine lv_aload_n hx hb dX10_layJam_30 rfl (lv_at hl 0 rfl) ?_
  refine r_getI C hW (ci := 10) kx0 ff_10_11 cl_10 fl_RX10_60 dX10_layJam_31 ?_
  refine lv_iload_n hx hb dX10_layJam_34 rfl (lv_at hl 3 rfl) ?_
  refine lv_i2l (v := (Int32.toInt64 x3)) hx hb dX10_layJam_35 rfl ?_
  obtain ⟨dt1000011, hc1000010, hm⟩ := q_b1i hm
  refine q_callV C hW hS (As := [.int (dt1000007.1 x0 11), .long (Int32.toInt64 x3)]) (rest := []) (st1 := []) (c_X5_put l D al dt1000007 (al.2.2 x0 5) (dt1000007.1 x0 11) (Int32.toInt64 x3) k1000009 dt1000011 hc1000010) yl_X5_put vl_X5_put ml_RX10_87 (ci := 5) rfl k1000009 (by decide) rfl ⟨Nat.le_of_ble_eq_true rfl, Nat.le_of_ble_eq_true rfl⟩ hl rfl (Nat.le_of_ble_eq_true rfl) dX10_layJam_36 ⟨Nat.le_refl _, Nat.le_refl _⟩ rfl (fun H locs k1000012 hW hS => ?_)
  refine lv_aload_n hx hb dX10_layJam_39 rfl (lv_at hl 0 rfl) ?_
  refine r_getF C hW (ci := 10) kx0 ff_10_6 cl_10 fl_RX10_44 dX10_layJam_40 (fun k1000013 => ?_)
  refine lv_aload_n hx hb dX10_layJam_43 rfl (lv_at hl 0 rfl) ?_
  refine r_getI C hW (ci := 10) kx0 ff_10_11 cl_10 fl_RX10_60 dX10_layJam_44 ?_
  refine lv_iload hx hb dX10_layJam_47 (lv_at hl 4 rfl) ?_
  refine lv_i2l (v := (Int32.toInt64 x4)) hx hb dX10_layJam_49 rfl ?_
  obtain ⟨dt1000015, hc1000014, hm⟩ := q_b1i hm
  refine q_callV C hW hS (As := [.int (dt1000011.1 x0 11), .long (Int32.toInt64 x4)]) (rest := []) (st1 := []) (c_X5_put l D al dt1000011 (al.2.2 x0 6) (dt1000011.1 x0 11) (Int32.toInt64 x4) k1000013 dt1000015 hc1000014) yl_X5_put vl_X5_put ml_RX10_87 (ci := 5) rfl k1000013 (by decide) rfl ⟨Nat.le_of_ble_eq_true rfl, Nat.le_of_ble_eq_true rfl⟩ hl rfl (Nat.le_of_ble_eq_true rfl) dX10_layJam_50 ⟨Nat.le_refl _, Nat.le_refl _⟩ rfl (fun H locs k1000016 hW hS => ?_)
  refine lv_aload_n hx hb dX10_layJam_53 rfl (lv_at hl 0 rfl) ?_
  refine lv_dup hx hb dX10_layJam_54 rfl ?_
  refine r_getI C hW (ci := 10) kx0 ff_10_11 cl_10 fl_RX10_60 dX10_layJam_55 ?_
  refine lv_iconst (v := 1) hx hb dX10_layJam_58 (by decide) ?_
  refine lv_iadd hx hb dX10_layJam_59 ?_
  refine r_putI C hW hS hm (ci := 10) kx0 ff_10_11 cl_10 fl_RX10_60 (nf_10_11) rfl dX10_layJam_60 (fun dt1000017 H locs hm hW hS => ?_)
  exact e_vD C hW hS hm dX10_layJam_63
theorem dX3_makeJam_0 : decode cX3_makeJam 0 = .ok (.aload_n 0, 1) := by decide +kernel
theorem dX3_makeJam_1 : decode cX3_makeJam 1 = .ok (.iconst 0, 1) := by decide +kernel
theorem dX3_makeJam_2 : decode cX3_makeJam 2 = .ok (.sipush 511, 3) := by decide +kernel
theorem dX3_makeJam_5 : decode cX3_makeJam 5 = .ok (.invokevirtual 93, 3) := by decide +kernel
theorem dX3_makeJam_8 : decode cX3_makeJam 8 = .ok (.istore_n 2, 1) := by decide +kernel
theorem dX3_makeJam_9 : decode cX3_makeJam 9 = .ok (.aload_n 0, 1) := by decide +kernel
theorem dX3_makeJam_10 : decode cX3_makeJam 10 = .ok (.iload_n 2, 1) := by decide +kernel
theorem dX3_makeJam_11 : decode cX3_makeJam 11 = .ok (.sipush 511, 3) := by decide +kernel
theorem dX3_makeJam_14 : decode cX3_makeJam 14 = .ok (.invokevirtual 93, 3) := by decide +kernel
theorem dX3_makeJam_17 : decode cX3_makeJam 17 = .ok (.istore_n 3, 1) := by decide +kernel
theorem dX3_makeJam_18 : decode cX3_makeJam 18 = .ok (.aload_n 0, 1) := by decide +kernel
theorem dX3_makeJam_19 : decode cX3_makeJam 19 = .ok (.iconst 1, 1) := by decide +kernel
theorem dX3_makeJam_20 : decode cX3_makeJam 20 = .ok (.bipush 99, 2) := by decide +kernel
theorem dX3_makeJam_22 : decode cX3_makeJam 22 = .ok (.invokevirtual 93, 3) := by decide +kernel
theorem dX3_makeJam_25 : decode cX3_makeJam 25 = .ok (.istore 4, 2) := by decide +kernel
theorem dX3_makeJam_27 : decode cX3_makeJam 27 = .ok (.aload_n 1, 1) := by decide +kernel
theorem dX3_makeJam_28 : decode cX3_makeJam 28 = .ok (.iload_n 2, 1) := by decide +kernel
theorem dX3_makeJam_29 : decode cX3_makeJam 29 = .ok (.iload_n 3, 1) := by decide +kernel
theorem dX3_makeJam_30 : decode cX3_makeJam 30 = .ok (.iload 4, 2) := by decide +kernel
theorem dX3_makeJam_32 : decode cX3_makeJam 32 = .ok (.aload_n 0, 1) := by decide +kernel
theorem dX3_makeJam_33 : decode cX3_makeJam 33 = .ok (.iconst 1, 1) := by decide +kernel
theorem dX3_makeJam_34 : decode cX3_makeJam 34 = .ok (.bipush 99, 2) := by decide +kernel
theorem dX3_makeJam_36 : decode cX3_makeJam 36 = .ok (.invokevirtual 93, 3) := by decide +kernel
theorem dX3_makeJam_39 : decode cX3_makeJam 39 = .ok (.invokevirtual 226, 3) := by decide +kernel
theorem dX3_makeJam_42 : decode cX3_makeJam 42 = .ok (.return_, 1) := by decide +kernel
set_option maxRecDepth 100000 in
theorem c_X3_makeJam (l : Launch) (D : q_D) (al : q_Al) (dt : q_Dt) (x0 : Nat) (x1 : Nat) (kx0 : al.1 x0 = 4) (kx1 : al.1 x1 = 11) (dt0 : q_Dt) (hm : X3_makeJam al dt x0 x1 = some dt0) : q_Mt l yX3_makeJam cX3_makeJam 5 (none) 2 47 D al [.ref x0, .ref x1] dt 0 none dt0 := by
  refine q_Mt.of (by decide) (Nat.le_of_ble_eq_true rfl) ?_
  intro p e s m args below meth c ls C hargs hW hl
  have hx := C.1
  have hb := C.2.1
  have hown := C.2.2.2.2.2.1
  have hts := C.2.2.2.2.2.2.1
  have hS : va_S (q_A al) s.heap s.heap [] := va_S.rf
  have hl : lv_has ls 5 [(0, .ref x0), (1, .ref x1)] := hl
  unfold X3_makeJam at hm
  refine lv_aload_n hx hb dX3_makeJam_0 rfl (lv_at hl 0 rfl) ?_
  refine lv_iconst (v := 0) hx hb dX3_makeJam_1 (by decide) ?_
  refine lv_sipush (v := 511) hx hb dX3_makeJam_2 (by decide) ?_
  obtain ⟨v1000002, dt1000003, hc1000001, hm⟩ := q_b2i hm
  refine q_callV C hW hS (As := [.int 0, .int 511]) (rest := []) (st1 := [.int v1000002]) (c_X3_number l D al dt x0 0 511 kx0 v1000002 dt1000003 hc1000001) yl_X3_number vl_X3_number ml_RX3_93 (ci := 3) rfl kx0 (by decide) rfl ⟨Nat.le_of_ble_eq_true rfl, Nat.le_of_ble_eq_true rfl⟩ hl rfl (Nat.le_of_ble_eq_true rfl) dX3_makeJam_5 ⟨Nat.le_refl _, Nat.le_refl _⟩ rfl (fun H locs k1000004 hW hS => ?_)
  refine lv_istore_n (i := 2) (lv' := [(2, .int v1000002), (0, .ref x0), (1, .ref x1)]) hx hb dX3_makeJam_8 rfl hl (by decide) rfl (fun ls hl => ?_)
  refine lv_aload_n hx hb dX3_makeJam_9 rfl (lv_at hl 1 rfl) ?_
  refine lv_iload_n hx hb dX3_makeJam_10 rfl (lv_at hl 0 rfl) ?_
  refine lv_sipush (v := 511) hx hb dX3_makeJam_11 (by decide) ?_
  obtain ⟨v1000006, dt1000007, hc1000005, hm⟩ := q_b2i hm
  refine q_callV C hW hS (As := [.int v1000002, .int 511]) (rest := []) (st1 := [.int v1000006]) (c_X3_number l D al dt1000003 x0 v1000002 511 kx0 v1000006 dt1000007 hc1000005) yl_X3_number vl_X3_number ml_RX3_93 (ci := 3) rfl kx0 (by decide) rfl ⟨Nat.le_of_ble_eq_true rfl, Nat.le_of_ble_eq_true rfl⟩ hl rfl (Nat.le_of_ble_eq_true rfl) dX3_makeJam_14 ⟨Nat.le_refl _, Nat.le_refl _⟩ rfl (fun H locs k1000008 hW hS => ?_)
  refine lv_istore_n (i := 3) (lv' := [(3, .int v1000006), (2, .int v1000002), (0, .ref x0), (1, .ref x1)]) hx hb dX3_makeJam_17 rfl hl (by decide) rfl (fun ls hl => ?_)
  refine lv_aload_n hx hb dX3_makeJam_18 rfl (lv_at hl 2 rfl) ?_
  refine lv_iconst (v := 1) hx hb dX3_makeJam_19 (by decide) ?_
  refine lv_bipush (v := 99) hx hb dX3_makeJam_20 (by decide) ?_
  obtain ⟨v1000010, dt1000011, hc1000009, hm⟩ := q_b2i hm
  refine q_callV C hW hS (As := [.int 1, .int 99]) (rest := []) (st1 := [.int v1000010]) (c_X3_number l D al dt1000007 x0 1 99 kx0 v1000010 dt1000011 hc1000009) yl_X3_number vl_X3_number ml_RX3_93 (ci := 3) rfl kx0 (by decide) rfl ⟨Nat.le_of_ble_eq_true rfl, Nat.le_of_ble_eq_true rfl⟩ hl rfl (Nat.le_of_ble_eq_true rfl) dX3_makeJam_22 ⟨Nat.le_refl _, Nat.le_refl _⟩ rfl (fun H locs k1000012 hW hS => ?_)
  refine lv_istore (i := 4) (lv' := [(4, .int v1000010), (3, .int v1000006), (2, .int v1000002), (0, .ref x0), (1, .ref x1)]) hx hb dX3_makeJam_25 hl (by decide) rfl (fun ls hl => ?_)
  refine lv_aload_n hx hb dX3_makeJam_27 rfl (lv_at hl 4 rfl) ?_
  refine lv_iload_n hx hb dX3_makeJam_28 rfl (lv_at hl 2 rfl) ?_
  refine lv_iload_n hx hb dX3_makeJam_29 rfl (lv_at hl 1 rfl) ?_
  refine lv_iload hx hb dX3_makeJam_30 (lv_at hl 0 rfl) ?_
  refine lv_aload_n hx hb dX3_makeJam_32 rfl (lv_at hl 3 rfl) ?_
  refine lv_iconst (v := 1) hx hb dX3_makeJam_33 (by decide) ?_
  refine lv_bipush (v := 99) hx hb dX3_makeJam_34 (by decide) ?_
  obtain ⟨v1000014, dt1000015, hc1000013, hm⟩ := q_b2i hm
  refine q_callV C hW hS (As := [.int 1, .int 99]) (rest := [.int v1000010, .int v1000006, .int v1000002, .ref x1]) (st1 := [.int v1000014, .int v1000010, .int v1000006, .int v1000002, .ref x1]) (c_X3_number l D al dt1000011 x0 1 99 kx0 v1000014 dt1000015 hc1000013) yl_X3_number vl_X3_number ml_RX3_93 (ci := 3) rfl kx0 (by decide) rfl ⟨Nat.le_of_ble_eq_true rfl, Nat.le_of_ble_eq_true rfl⟩ hl rfl (Nat.le_of_ble_eq_true rfl) dX3_makeJam_36 ⟨Nat.le_refl _, Nat.le_refl _⟩ rfl (fun H locs k1000016 hW hS => ?_)
  obtain ⟨dt1000018, hc1000017, hm⟩ := q_b1i hm
  refine q_callV C hW hS (As := [.int v1000002, .int v1000006, .int v1000010, .int v1000014]) (rest := []) (st1 := []) (c_X10_layJam l D al dt1000015 x1 v1000002 v1000006 v1000010 v1000014 kx1 dt1000018 hc1000017) yl_X10_layJam vl_X10_layJam ml_RX3_226 (ci := 10) rfl kx1 (by decide) rfl ⟨Nat.le_of_ble_eq_true rfl, Nat.le_of_ble_eq_true rfl⟩ hl rfl (Nat.le_of_ble_eq_true rfl) dX3_makeJam_39 ⟨Nat.le_refl _, Nat.le_refl _⟩ rfl (fun H locs k1000019 hW hS => ?_)
  exact e_vD C hW hS hm dX3_makeJam_42
theorem dX3_makeTell_0 : decode cX3_makeTell 0 = .ok (.iload_n 2, 1) := by decide +kernel
theorem dX3_makeTell_1 : decode cX3_makeTell 1 = .ok (.tableswitch 161 0 9 #[55, 63, 71, 79, 87, 95, 103, 111, 119, 145], 55) := by decide +kernel
theorem dX3_makeTell_56 : decode cX3_makeTell 56 = .ok (.aload_n 0, 1) := by decide +kernel
theorem dX3_makeTell_57 : decode cX3_makeTell 57 = .ok (.aload_n 1, 1) := by decide +kernel
theorem dX3_makeTell_58 : decode cX3_makeTell 58 = .ok (.invokevirtual 68, 3) := by decide +kernel
theorem dX3_makeTell_61 : decode cX3_makeTell 61 = .ok (.goto 101, 3) := by decide +kernel
theorem dX3_makeTell_64 : decode cX3_makeTell 64 = .ok (.aload_n 0, 1) := by decide +kernel
theorem dX3_makeTell_65 : decode cX3_makeTell 65 = .ok (.aload_n 1, 1) := by decide +kernel
theorem dX3_makeTell_66 : decode cX3_makeTell 66 = .ok (.invokevirtual 72, 3) := by decide +kernel
theorem dX3_makeTell_69 : decode cX3_makeTell 69 = .ok (.goto 93, 3) := by decide +kernel
theorem dX3_makeTell_72 : decode cX3_makeTell 72 = .ok (.aload_n 0, 1) := by decide +kernel
theorem dX3_makeTell_73 : decode cX3_makeTell 73 = .ok (.aload_n 1, 1) := by decide +kernel
theorem dX3_makeTell_74 : decode cX3_makeTell 74 = .ok (.invokevirtual 75, 3) := by decide +kernel
theorem dX3_makeTell_77 : decode cX3_makeTell 77 = .ok (.goto 85, 3) := by decide +kernel
theorem dX3_makeTell_80 : decode cX3_makeTell 80 = .ok (.aload_n 0, 1) := by decide +kernel
theorem dX3_makeTell_81 : decode cX3_makeTell 81 = .ok (.aload_n 1, 1) := by decide +kernel
theorem dX3_makeTell_82 : decode cX3_makeTell 82 = .ok (.invokevirtual 78, 3) := by decide +kernel
theorem dX3_makeTell_85 : decode cX3_makeTell 85 = .ok (.goto 77, 3) := by decide +kernel
theorem dX3_makeTell_88 : decode cX3_makeTell 88 = .ok (.aload_n 0, 1) := by decide +kernel
theorem dX3_makeTell_89 : decode cX3_makeTell 89 = .ok (.aload_n 1, 1) := by decide +kernel
theorem dX3_makeTell_90 : decode cX3_makeTell 90 = .ok (.invokevirtual 81, 3) := by decide +kernel
theorem dX3_makeTell_93 : decode cX3_makeTell 93 = .ok (.goto 69, 3) := by decide +kernel
theorem dX3_makeTell_96 : decode cX3_makeTell 96 = .ok (.aload_n 0, 1) := by decide +kernel
theorem dX3_makeTell_97 : decode cX3_makeTell 97 = .ok (.aload_n 1, 1) := by decide +kernel
theorem dX3_makeTell_98 : decode cX3_makeTell 98 = .ok (.invokevirtual 84, 3) := by decide +kernel
theorem dX3_makeTell_101 : decode cX3_makeTell 101 = .ok (.goto 61, 3) := by decide +kernel
theorem dX3_makeTell_104 : decode cX3_makeTell 104 = .ok (.aload_n 0, 1) := by decide +kernel
theorem dX3_makeTell_105 : decode cX3_makeTell 105 = .ok (.aload_n 1, 1) := by decide +kernel
theorem dX3_makeTell_106 : decode cX3_makeTell 106 = .ok (.invokevirtual 87, 3) := by decide +kernel
theorem dX3_makeTell_109 : decode cX3_makeTell 109 = .ok (.goto 53, 3) := by decide +kernel
theorem dX3_makeTell_112 : decode cX3_makeTell 112 = .ok (.aload_n 0, 1) := by decide +kernel
theorem dX3_makeTell_113 : decode cX3_makeTell 113 = .ok (.aload_n 1, 1) := by decide +kernel
theorem dX3_makeTell_114 : decode cX3_makeTell 114 = .ok (.invokevirtual 90, 3) := by decide +kernel
theorem dX3_makeTell_117 : decode cX3_makeTell 117 = .ok (.goto 45, 3) := by decide +kernel
theorem dX3_makeTell_120 : decode cX3_makeTell 120 = .ok (.aload_n 1, 1) := by decide +kernel
theorem dX3_makeTell_121 : decode cX3_makeTell 121 = .ok (.aload_n 0, 1) := by decide +kernel
theorem dX3_makeTell_122 : decode cX3_makeTell 122 = .ok (.iconst 0, 1) := by decide +kernel
theorem dX3_makeTell_123 : decode cX3_makeTell 123 = .ok (.bipush 50, 2) := by decide +kernel
theorem dX3_makeTell_125 : decode cX3_makeTell 125 = .ok (.invokevirtual 93, 3) := by decide +kernel
theorem dX3_makeTell_128 : decode cX3_makeTell 128 = .ok (.putfield 97, 3) := by decide +kernel
theorem dX3_makeTell_131 : decode cX3_makeTell 131 = .ok (.aload_n 1, 1) := by decide +kernel
theorem dX3_makeTell_132 : decode cX3_makeTell 132 = .ok (.aload_n 0, 1) := by decide +kernel
theorem dX3_makeTell_133 : decode cX3_makeTell 133 = .ok (.iconst 0, 1) := by decide +kernel
theorem dX3_makeTell_134 : decode cX3_makeTell 134 = .ok (.sipush 9999, 3) := by decide +kernel
theorem dX3_makeTell_137 : decode cX3_makeTell 137 = .ok (.invokevirtual 93, 3) := by decide +kernel
theorem dX3_makeTell_140 : decode cX3_makeTell 140 = .ok (.putfield 100, 3) := by decide +kernel
theorem dX3_makeTell_143 : decode cX3_makeTell 143 = .ok (.goto 19, 3) := by decide +kernel
theorem dX3_makeTell_146 : decode cX3_makeTell 146 = .ok (.aload_n 1, 1) := by decide +kernel
theorem dX3_makeTell_147 : decode cX3_makeTell 147 = .ok (.aload_n 0, 1) := by decide +kernel
theorem dX3_makeTell_148 : decode cX3_makeTell 148 = .ok (.bipush 16, 2) := by decide +kernel
theorem dX3_makeTell_150 : decode cX3_makeTell 150 = .ok (.sipush 512, 3) := by decide +kernel
theorem dX3_makeTell_153 : decode cX3_makeTell 153 = .ok (.invokevirtual 93, 3) := by decide +kernel
theorem dX3_makeTell_156 : decode cX3_makeTell 156 = .ok (.putfield 103, 3) := by decide +kernel
theorem dX3_makeTell_159 : decode cX3_makeTell 159 = .ok (.goto 3, 3) := by decide +kernel
theorem dX3_makeTell_162 : decode cX3_makeTell 162 = .ok (.return_, 1) := by decide +kernel
set_option maxRecDepth 100000 in
theorem c_X3_makeTell (l : Launch) (D : q_D) (al : q_Al) (dt : q_Dt) (x0 : Nat) (x1 : Nat) (x2 : Int32) (kx0 : al.1 x0 = 4) (kx1 : al.1 x1 = 11) (dt0 : q_Dt) (hm : X3_makeTell al dt x0 x1 x2 = some dt0) : q_Mt l yX3_makeTell cX3_makeTell 3 (none) 5 115 D al [.ref x0, .ref x1, .int x2] dt 0 none dt0 := by
  refine q_Mt.of (by decide) (Nat.le_of_ble_eq_true rfl) ?_
  intro p e s m args below meth c ls C hargs hW hl
  have hx := C.1
  have hb := C.2.1
  have hown := C.2.2.2.2.2.1
  have hts := C.2.2.2.2.2.2.1
  have hS : va_S (q_A al) s.heap s.heap [] := va_S.rf
  have hl : lv_has ls 3 [(0, .ref x0), (1, .ref x1), (2, .int x2)] := hl
  unfold X3_makeTell at hm
  refine lv_iload_n hx hb dX3_makeTell_0 rfl (lv_at hl 2 rfl) ?_
  refine q_ifc hm (fun c1000001 hm => ?_) (fun c1000001 hm => ?_)
  · refine lv_tableIn (tgt := 56) hx hb dX3_makeTell_1 (by rw [c1000001]; decide) (by rw [c1000001]; decide) (by rw [c1000001]; rfl) (by decide) ?_
    refine lv_aload_n hx hb dX3_makeTell_56 rfl (lv_at hl 0 rfl) ?_
    refine lv_aload_n hx hb dX3_makeTell_57 rfl (lv_at hl 1 rfl) ?_
    obtain ⟨dt1000003, hc1000002, hm⟩ := q_b1i hm
    refine q_callV C hW hS (As := [.ref x1]) (rest := []) (st1 := []) (c_X3_makeRegister l D al dt x0 x1 kx0 kx1 dt1000003 hc1000002) yl_X3_makeRegister vl_X3_makeRegister ml_RX3_68 (ci := 3) rfl kx0 (by decide) rfl ⟨Nat.le_of_ble_eq_true rfl, Nat.le_of_ble_eq_true rfl⟩ hl rfl (Nat.le_of_ble_eq_true rfl) dX3_makeTell_58 ⟨Nat.le_refl _, Nat.le_refl _⟩ rfl (fun H locs k1000004 hW hS => ?_)
    refine lv_goto (tgt := 162) hx hb dX3_makeTell_61 (by decide) ?_
    exact e_vD C hW hS hm dX3_makeTell_162
  refine q_ifc hm (fun c1000005 hm => ?_) (fun c1000005 hm => ?_)
  · refine lv_tableIn (tgt := 64) hx hb dX3_makeTell_1 (by rw [c1000005]; decide) (by rw [c1000005]; decide) (by rw [c1000005]; rfl) (by decide) ?_
    refine lv_aload_n hx hb dX3_makeTell_64 rfl (lv_at hl 0 rfl) ?_
    refine lv_aload_n hx hb dX3_makeTell_65 rfl (lv_at hl 1 rfl) ?_
    obtain ⟨dt1000007, hc1000006, hm⟩ := q_b1i hm
    refine q_callV C hW hS (As := [.ref x1]) (rest := []) (st1 := []) (c_X3_makeWalsh l D al dt x0 x1 kx0 kx1 dt1000007 hc1000006) yl_X3_makeWalsh vl_X3_makeWalsh ml_RX3_72 (ci := 3) rfl kx0 (by decide) rfl ⟨Nat.le_of_ble_eq_true rfl, Nat.le_of_ble_eq_true rfl⟩ hl rfl (Nat.le_of_ble_eq_true rfl) dX3_makeTell_66 ⟨Nat.le_refl _, Nat.le_refl _⟩ rfl (fun H locs k1000008 hW hS => ?_)
    refine lv_goto (tgt := 162) hx hb dX3_makeTell_69 (by decide) ?_
    exact e_vD C hW hS hm dX3_makeTell_162
  refine q_ifc hm (fun c1000009 hm => ?_) (fun c1000009 hm => ?_)
  · refine lv_tableIn (tgt := 72) hx hb dX3_makeTell_1 (by rw [c1000009]; decide) (by rw [c1000009]; decide) (by rw [c1000009]; rfl) (by decide) ?_
    refine lv_aload_n hx hb dX3_makeTell_72 rfl (lv_at hl 0 rfl) ?_
    refine lv_aload_n hx hb dX3_makeTell_73 rfl (lv_at hl 1 rfl) ?_
    obtain ⟨dt1000011, hc1000010, hm⟩ := q_b1i hm
    refine q_callV C hW hS (As := [.ref x1]) (rest := []) (st1 := []) (c_X3_makeBits l D al dt x0 x1 kx0 kx1 dt1000011 hc1000010) yl_X3_makeBits vl_X3_makeBits ml_RX3_75 (ci := 3) rfl kx0 (by decide) rfl ⟨Nat.le_of_ble_eq_true rfl, Nat.le_of_ble_eq_true rfl⟩ hl rfl (Nat.le_of_ble_eq_true rfl) dX3_makeTell_74 ⟨Nat.le_refl _, Nat.le_refl _⟩ rfl (fun H locs k1000012 hW hS => ?_)
    refine lv_goto (tgt := 162) hx hb dX3_makeTell_77 (by decide) ?_
    exact e_vD C hW hS hm dX3_makeTell_162
  refine q_ifc hm (fun c1000013 hm => ?_) (fun c1000013 hm => ?_)
  · refine lv_tableIn (tgt := 80) hx hb dX3_makeTell_1 (by rw [c1000013]; decide) (by rw [c1000013]; decide) (by rw [c1000013]; rfl) (by decide) ?_
    refine lv_aload_n hx hb dX3_makeTell_80 rfl (lv_at hl 0 rfl) ?_
    refine lv_aload_n hx hb dX3_makeTell_81 rfl (lv_at hl 1 rfl) ?_
    obtain ⟨dt1000015, hc1000014, hm⟩ := q_b1i hm
    refine q_callV C hW hS (As := [.ref x1]) (rest := []) (st1 := []) (c_X3_makeBoth l D al dt x0 x1 kx0 kx1 dt1000015 hc1000014) yl_X3_makeBoth vl_X3_makeBoth ml_RX3_78 (ci := 3) rfl kx0 (by decide) rfl ⟨Nat.le_of_ble_eq_true rfl, Nat.le_of_ble_eq_true rfl⟩ hl rfl (Nat.le_of_ble_eq_true rfl) dX3_makeTell_82 ⟨Nat.le_refl _, Nat.le_refl _⟩ rfl (fun H locs k1000016 hW hS => ?_)
    refine lv_goto (tgt := 162) hx hb dX3_makeTell_85 (by decide) ?_
    exact e_vD C hW hS hm dX3_makeTell_162
  refine q_ifc hm (fun c1000017 hm => ?_) (fun c1000017 hm => ?_)
  · refine lv_tableIn (tgt := 88) hx hb dX3_makeTell_1 (by rw [c1000017]; decide) (by rw [c1000017]; decide) (by rw [c1000017]; rfl) (by decide) ?_
    refine lv_aload_n hx hb dX3_makeTell_88 rfl (lv_at hl 0 rfl) ?_
    refine lv_aload_n hx hb dX3_makeTell_89 rfl (lv_at hl 1 rfl) ?_
    obtain ⟨dt1000019, hc1000018, hm⟩ := q_b1i hm
    refine q_callV C hW hS (As := [.ref x1]) (rest := []) (st1 := []) (c_X3_makeHop l D al dt x0 x1 kx0 kx1 dt1000019 hc1000018) yl_X3_makeHop vl_X3_makeHop ml_RX3_81 (ci := 3) rfl kx0 (by decide) rfl ⟨Nat.le_of_ble_eq_true rfl, Nat.le_of_ble_eq_true rfl⟩ hl rfl (Nat.le_of_ble_eq_true rfl) dX3_makeTell_90 ⟨Nat.le_refl _, Nat.le_refl _⟩ rfl (fun H locs k1000020 hW hS => ?_)
    refine lv_goto (tgt := 162) hx hb dX3_makeTell_93 (by decide) ?_
    exact e_vD C hW hS hm dX3_makeTell_162
  refine q_ifc hm (fun c1000021 hm => ?_) (fun c1000021 hm => ?_)
  · refine lv_tableIn (tgt := 96) hx hb dX3_makeTell_1 (by rw [c1000021]; decide) (by rw [c1000021]; decide) (by rw [c1000021]; rfl) (by decide) ?_
    refine lv_aload_n hx hb dX3_makeTell_96 rfl (lv_at hl 0 rfl) ?_
    refine lv_aload_n hx hb dX3_makeTell_97 rfl (lv_at hl 1 rfl) ?_
    obtain ⟨dt1000023, hc1000022, hm⟩ := q_b1i hm
    refine q_callV C hW hS (As := [.ref x1]) (rest := []) (st1 := []) (c_X3_makeSender l D al dt x0 x1 kx0 kx1 dt1000023 hc1000022) yl_X3_makeSender vl_X3_makeSender ml_RX3_84 (ci := 3) rfl kx0 (by decide) rfl ⟨Nat.le_of_ble_eq_true rfl, Nat.le_of_ble_eq_true rfl⟩ hl rfl (Nat.le_of_ble_eq_true rfl) dX3_makeTell_98 ⟨Nat.le_refl _, Nat.le_refl _⟩ rfl (fun H locs k1000024 hW hS => ?_)
    refine lv_goto (tgt := 162) hx hb dX3_makeTell_101 (by decide) ?_
    exact e_vD C hW hS hm dX3_makeTell_162
  refine q_ifc hm (fun c1000025 hm => ?_) (fun c1000025 hm => ?_)
  · refine lv_tableIn (tgt := 104) hx hb dX3_makeTell_1 (by rw [c1000025]; decide) (by rw [c1000025]; decide) (by rw [c1000025]; rfl) (by decide) ?_
    refine lv_aload_n hx hb dX3_makeTell_104 rfl (lv_at hl 0 rfl) ?_
    refine lv_aload_n hx hb dX3_makeTell_105 rfl (lv_at hl 1 rfl) ?_
    obtain ⟨dt1000027, hc1000026, hm⟩ := q_b1i hm
    refine q_callV C hW hS (As := [.ref x1]) (rest := []) (st1 := []) (c_X3_makeEcho l D al dt x0 x1 kx0 kx1 dt1000027 hc1000026) yl_X3_makeEcho vl_X3_makeEcho ml_RX3_87 (ci := 3) rfl kx0 (by decide) rfl ⟨Nat.le_of_ble_eq_true rfl, Nat.le_of_ble_eq_true rfl⟩ hl rfl (Nat.le_of_ble_eq_true rfl) dX3_makeTell_106 ⟨Nat.le_refl _, Nat.le_refl _⟩ rfl (fun H locs k1000028 hW hS => ?_)
    refine lv_goto (tgt := 162) hx hb dX3_makeTell_109 (by decide) ?_
    exact e_vD C hW hS hm dX3_makeTell_162
  refine q_ifc hm (fun c1000029 hm => ?_) (fun c1000029 hm => ?_)
  · refine lv_tableIn (tgt := 112) hx hb dX3_makeTell_1 (by rw [c1000029]; decide) (by rw [c1000029]; decide) (by rw [c1000029]; rfl) (by decide) ?_
    refine lv_aload_n hx hb dX3_makeTell_112 rfl (lv_at hl 0 rfl) ?_
    refine lv_aload_n hx hb dX3_makeTell_113 rfl (lv_at hl 1 rfl) ?_
    obtain ⟨dt1000031, hc1000030, hm⟩ := q_b1i hm
    refine q_callV C hW hS (As := [.ref x1]) (rest := []) (st1 := []) (c_X3_makeJam l D al dt x0 x1 kx0 kx1 dt1000031 hc1000030) yl_X3_makeJam vl_X3_makeJam ml_RX3_90 (ci := 3) rfl kx0 (by decide) rfl ⟨Nat.le_of_ble_eq_true rfl, Nat.le_of_ble_eq_true rfl⟩ hl rfl (Nat.le_of_ble_eq_true rfl) dX3_makeTell_114 ⟨Nat.le_refl _, Nat.le_refl _⟩ rfl (fun H locs k1000032 hW hS => ?_)
    refine lv_goto (tgt := 162) hx hb dX3_makeTell_117 (by decide) ?_
    exact e_vD C hW hS hm dX3_makeTell_162
  refine q_ifc hm (fun c1000033 hm => ?_) (fun c1000033 hm => ?_)
  · refine lv_tableIn (tgt := 120) hx hb dX3_makeTell_1 (by rw [c1000033]; decide) (by rw [c1000033]; decide) (by rw [c1000033]; rfl) (by decide) ?_
    refine lv_aload_n hx hb dX3_makeTell_120 rfl (lv_at hl 1 rfl) ?_
    refine lv_aload_n hx hb dX3_makeTell_121 rfl (lv_at hl 0 rfl) ?_
    refine lv_iconst (v := 0) hx hb dX3_makeTell_122 (by decide) ?_
    refine lv_bipush (v := 50) hx hb dX3_makeTell_123 (by decide) ?_
    obtain ⟨v1000035, dt1000036, hc1000034, hm⟩ := q_b2i hm
    refine q_callV C hW hS (As := [.int 0, .int 50]) (rest := [.ref x1]) (st1 := [.int v1000035, .ref x1]) (c_X3_number l D al dt x0 0 50 kx0 v1000035 dt1000036 hc1000034) yl_X3_number vl_X3_number ml_RX3_93 (ci := 3) rfl kx0 (by decide) rfl ⟨Nat.le_of_ble_eq_true rfl, Nat.le_of_ble_eq_true rfl⟩ hl rfl (Nat.le_of_ble_eq_true rfl) dX3_makeTell_125 ⟨Nat.le_refl _, Nat.le_refl _⟩ rfl (fun H locs k1000037 hW hS => ?_)
    refine r_putI C hW hS hm (ci := 10) kx1 ff_10_13 cl_10 fl_RX3_97 (nf_10_13) rfl dX3_makeTell_128 (fun dt1000038 H locs hm hW hS => ?_)
    refine lv_aload_n hx hb dX3_makeTell_131 rfl (lv_at hl 1 rfl) ?_
    refine lv_aload_n hx hb dX3_makeTell_132 rfl (lv_at hl 0 rfl) ?_
    refine lv_iconst (v := 0) hx hb dX3_makeTell_133 (by decide) ?_
    refine lv_sipush (v := 9999) hx hb dX3_makeTell_134 (by decide) ?_
    obtain ⟨v1000040, dt1000041, hc1000039, hm⟩ := q_b2i hm
    refine q_callV C hW hS (As := [.int 0, .int 9999]) (rest := [.ref x1]) (st1 := [.int v1000040, .ref x1]) (c_X3_number l D al dt1000038 x0 0 9999 kx0 v1000040 dt1000041 hc1000039) yl_X3_number vl_X3_number ml_RX3_93 (ci := 3) rfl kx0 (by decide) rfl ⟨Nat.le_of_ble_eq_true rfl, Nat.le_of_ble_eq_true rfl⟩ hl rfl (Nat.le_of_ble_eq_true rfl) dX3_makeTell_137 ⟨Nat.le_refl _, Nat.le_refl _⟩ rfl (fun H locs k1000042 hW hS => ?_)
    refine r_putI C hW hS hm (ci := 10) kx1 ff_10_14 cl_10 fl_RX3_100 (nf_10_14) rfl dX3_makeTell_140 (fun dt1000043 H locs hm hW hS => ?_)
    refine lv_goto (tgt := 162) hx hb dX3_makeTell_143 (by decide) ?_
    exact e_vD C hW hS hm dX3_makeTell_162
  refine q_ifc hm (fun c1000044 hm => ?_) (fun c1000044 hm => ?_)
  · refine lv_tableIn (tgt := 146) hx hb dX3_makeTell_1 (by rw [c1000044]; decide) (by rw [c1000044]; decide) (by rw [c1000044]; rfl) (by decide) ?_
    refine lv_aload_n hx hb dX3_makeTell_146 rfl (lv_at hl 1 rfl) ?_
    refine lv_aload_n hx hb dX3_makeTell_147 rfl (lv_at hl 0 rfl) ?_
    refine lv_bipush (v := 16) hx hb dX3_makeTell_148 (by decide) ?_
    refine lv_sipush (v := 512) hx hb dX3_makeTell_150 (by decide) ?_
    obtain ⟨v1000046, dt1000047, hc1000045, hm⟩ := q_b2i hm
    refine q_callV C hW hS (As := [.int 16, .int 512]) (rest := [.ref x1]) (st1 := [.int v1000046, .ref x1]) (c_X3_number l D al dt x0 16 512 kx0 v1000046 dt1000047 hc1000045) yl_X3_number vl_X3_number ml_RX3_93 (ci := 3) rfl kx0 (by decide) rfl ⟨Nat.le_of_ble_eq_true rfl, Nat.le_of_ble_eq_true rfl⟩ hl rfl (Nat.le_of_ble_eq_true rfl) dX3_makeTell_153 ⟨Nat.le_refl _, Nat.le_refl _⟩ rfl (fun H locs k1000048 hW hS => ?_)
    refine r_putI C hW hS hm (ci := 10) kx1 ff_10_12 cl_10 fl_RX3_103 (nf_10_12) rfl dX3_makeTell_156 (fun dt1000049 H locs hm hW hS => ?_)
    refine lv_goto (tgt := 162) hx hb dX3_makeTell_159 (by decide) ?_
    exact e_vD C hW hS hm dX3_makeTell_162
  have c1000001_z := lv_neT c1000001 (a := 0) rfl
  have c1000005_z := lv_neT c1000005 (a := 1) rfl
  have c1000009_z := lv_neT c1000009 (a := 2) rfl
  have c1000013_z := lv_neT c1000013 (a := 3) rfl
  have c1000017_z := lv_neT c1000017 (a := 4) rfl
  have c1000021_z := lv_neT c1000021 (a := 5) rfl
  have c1000025_z := lv_neT c1000025 (a := 6) rfl
  have c1000029_z := lv_neT c1000029 (a := 7) rfl
  have c1000033_z := lv_neT c1000033 (a := 8) rfl
  have c1000044_z := lv_neT c1000044 (a := 9) rfl
  refine lv_tableOut (tgt := 162) hx hb dX3_makeTell_1 (by omega) (by decide) ?_
  exact e_vD C hW hS hm dX3_makeTell_162
theorem dX3_make_0 : decode cX3_make 0 = .ok (.aload_n 1, 1) := by decide +kernel
theorem dX3_make_1 : decode cX3_make 1 = .ok (.invokevirtual 46, 3) := by decide +kernel
theorem dX3_make_4 : decode cX3_make 4 = .ok (.aload_n 0, 1) := by decide +kernel
theorem dX3_make_5 : decode cX3_make 5 = .ok (.iconst 0, 1) := by decide +kernel
theorem dX3_make_6 : decode cX3_make 6 = .ok (.putfield 33, 3) := by decide +kernel
theorem dX3_make_9 : decode cX3_make 9 = .ok (.aload_n 0, 1) := by decide +kernel
theorem dX3_make_10 : decode cX3_make 10 = .ok (.iconst 0, 1) := by decide +kernel
theorem dX3_make_11 : decode cX3_make 11 = .ok (.putfield 37, 3) := by decide +kernel
theorem dX3_make_14 : decode cX3_make 14 = .ok (.aload_n 0, 1) := by decide +kernel
theorem dX3_make_15 : decode cX3_make 15 = .ok (.aload_n 0, 1) := by decide +kernel
theorem dX3_make_16 : decode cX3_make 16 = .ok (.getfield 12, 3) := by decide +kernel
theorem dX3_make_19 : decode cX3_make 19 = .ok (.invokevirtual 51, 3) := by decide +kernel
theorem dX3_make_22 : decode cX3_make 22 = .ok (.putfield 40, 3) := by decide +kernel
theorem dX3_make_25 : decode cX3_make 25 = .ok (.aload_n 0, 1) := by decide +kernel
theorem dX3_make_26 : decode cX3_make 26 = .ok (.aload_n 0, 1) := by decide +kernel
theorem dX3_make_27 : decode cX3_make 27 = .ok (.getfield 12, 3) := by decide +kernel
theorem dX3_make_30 : decode cX3_make 30 = .ok (.getfield 55, 3) := by decide +kernel
theorem dX3_make_33 : decode cX3_make 33 = .ok (.putfield 43, 3) := by decide +kernel
theorem dX3_make_36 : decode cX3_make 36 = .ok (.iconst 0, 1) := by decide +kernel
theorem dX3_make_37 : decode cX3_make 37 = .ok (.istore_n 2, 1) := by decide +kernel
theorem dX3_make_38 : decode cX3_make 38 = .ok (.iload_n 2, 1) := by decide +kernel
theorem dX3_make_39 : decode cX3_make 39 = .ok (.sipush 400, 3) := by decide +kernel
theorem dX3_make_42 : decode cX3_make 42 = .ok (.if_icmp .ge 71, 3) := by decide +kernel
theorem dX3_make_45 : decode cX3_make 45 = .ok (.aload_n 0, 1) := by decide +kernel
theorem dX3_make_46 : decode cX3_make 46 = .ok (.getfield 37, 3) := by decide +kernel
theorem dX3_make_49 : decode cX3_make 49 = .ok (.aload_n 0, 1) := by decide +kernel
theorem dX3_make_50 : decode cX3_make 50 = .ok (.getfield 12, 3) := by decide +kernel
theorem dX3_make_53 : decode cX3_make 53 = .ok (.getfield 56, 3) := by decide +kernel
theorem dX3_make_56 : decode cX3_make 56 = .ok (.if_icmp .ge 57, 3) := by decide +kernel
theorem dX3_make_59 : decode cX3_make 59 = .ok (.aload_n 0, 1) := by decide +kernel
theorem dX3_make_60 : decode cX3_make 60 = .ok (.getfield 40, 3) := by decide +kernel
theorem dX3_make_63 : decode cX3_make 63 = .ok (.ifCond .ne 50, 3) := by decide +kernel
theorem dX3_make_66 : decode cX3_make 66 = .ok (.aload_n 0, 1) := by decide +kernel
theorem dX3_make_67 : decode cX3_make 67 = .ok (.getfield 12, 3) := by decide +kernel
theorem dX3_make_70 : decode cX3_make 70 = .ok (.getfield 57, 3) := by decide +kernel
theorem dX3_make_73 : decode cX3_make 73 = .ok (.aload_n 0, 1) := by decide +kernel
theorem dX3_make_74 : decode cX3_make 74 = .ok (.getfield 37, 3) := by decide +kernel
theorem dX3_make_77 : decode cX3_make 77 = .ok (.invokevirtual 60, 3) := by decide +kernel
theorem dX3_make_80 : decode cX3_make 80 = .ok (.istore_n 3, 1) := by decide +kernel
theorem dX3_make_81 : decode cX3_make 81 = .ok (.aload_n 0, 1) := by decide +kernel
theorem dX3_make_82 : decode cX3_make 82 = .ok (.dup, 1) := by decide +kernel
theorem dX3_make_83 : decode cX3_make 83 = .ok (.getfield 37, 3) := by decide +kernel
theorem dX3_make_86 : decode cX3_make 86 = .ok (.iconst 1, 1) := by decide +kernel
theorem dX3_make_87 : decode cX3_make 87 = .ok (.iadd, 1) := by decide +kernel
theorem dX3_make_88 : decode cX3_make 88 = .ok (.putfield 37, 3) := by decide +kernel
theorem dX3_make_91 : decode cX3_make 91 = .ok (.aload_n 0, 1) := by decide +kernel
theorem dX3_make_92 : decode cX3_make 92 = .ok (.aload_n 1, 1) := by decide +kernel
theorem dX3_make_93 : decode cX3_make 93 = .ok (.iload_n 3, 1) := by decide +kernel
theorem dX3_make_94 : decode cX3_make 94 = .ok (.invokevirtual 64, 3) := by decide +kernel
theorem dX3_make_97 : decode cX3_make 97 = .ok (.aload_n 0, 1) := by decide +kernel
theorem dX3_make_98 : decode cX3_make 98 = .ok (.dup, 1) := by decide +kernel
theorem dX3_make_99 : decode cX3_make 99 = .ok (.getfield 37, 3) := by decide +kernel
theorem dX3_make_102 : decode cX3_make 102 = .ok (.iconst 1, 1) := by decide +kernel
theorem dX3_make_103 : decode cX3_make 103 = .ok (.iadd, 1) := by decide +kernel
theorem dX3_make_104 : decode cX3_make 104 = .ok (.putfield 37, 3) := by decide +kernel
theorem dX3_make_107 : decode cX3_make 107 = .ok (.iinc 2 1, 3) := by decide +kernel
theorem dX3_make_110 : decode cX3_make 110 = .ok (.goto (-72), 3) := by decide +kernel
theorem dX3_make_113 : decode cX3_make 113 = .ok (.aload_n 0, 1) := by decide +kernel
theorem dX3_make_114 : decode cX3_make 114 = .ok (.getfield 40, 3) := by decide +kernel
theorem dX3_make_117 : decode cX3_make 117 = .ok (.ireturn, 1) := by decide +kernel
set_option maxRecDepth 100000 in
theorem c_X3_make (l : Launch) (D : q_D) (al : q_Al) (dt : q_Dt) (x0 : Nat) (x1 : Option Nat) (kx0 : al.1 x0 = 4) (kx1 : ∀ b, x1 = some b → al.1 b = 11) (r0 : Int32) (dt0 : q_Dt) (hm : X3_make al dt x0 x1 = some (r0, dt0)) : q_Mt l yX3_make cX3_make 4 (some FieldType.int) 6 147 D al [.ref x0, va_rf x1] dt 0 (some (.int r0)) dt0 := by
  refine q_Mt.of (by decide) (by simp [lg_sl, q_cat, q_catR, q_catI, q_catL]) ?_
  intro p e s m args below meth c ls C hargs hW hl
  have hx := C.1
  have hb := C.2.1
  have hown := C.2.2.2.2.2.1
  have hts := C.2.2.2.2.2.2.1
  have hS : va_S (q_A al) s.heap s.heap [] := va_S.rf
  have hl : lv_has ls 4 [(0, .ref x0), (1, va_rf x1)] := by simpa [lv_args, q_cat, q_catR, q_catI, q_catL] using hl
  unfold X3_make at hm
  have hB113 : ∀ (x0_113 : Nat) (kx0_113 : al.1 x0_113 = 4) (dt : q_Dt) (H : Heap) (locs : List Loc) (ls : Array Slot) (hm : X3_make_b113 al x0_113 dt = some (r0, dt0)) (hW : q_W D al dt H) (hS : va_S (q_A al) s.heap H locs) (hl : lv_has ls 4 [(0, .ref x0_113)]), W p l e { frames := 6, cells := 0, slots := 0, locals := 147 } s m args below meth c H locs 0 0 (MQ below (q_Q (some (.int r0)) (fun H => q_W D al dt0 H ∧ q_Rk al 0 (some (.int r0))) (q_A al)) args s 0 0 (q_A al)) (F0 m 113 ls []) := by
    intro x0_113 kx0_113 dt H locs ls hm hW hS hl
    unfold X3_make_b113 at hm
    refine lv_aload_n hx hb dX3_make_113 rfl (lv_at hl 0 rfl) ?_
    refine r_getI C hW (ci := 3) kx0_113 ff_3_6 cl_3 fl_RX3_40 dX3_make_114 ?_
    exact e_iD C hW hS hm dX3_make_117
  have hB38 : ∀ (x0_38 : Nat) (x1_38 : Nat) (kx0_38 : al.1 x0_38 = 4) (kx1_38 : al.1 x1_38 = 11) (n_38 : Nat) (x2_38 : Int32) (dt : q_Dt) (H : Heap) (locs : List Loc) (ls : Array Slot) (hm : X3_make_b38 al x0_38 x1_38 n_38 x2_38 dt = some (r0, dt0)) (hW : q_W D al dt H) (hS : va_S (q_A al) s.heap H locs) (hl : lv_has ls 4 [(0, .ref x0_38), (1, .ref x1_38), (2, .int x2_38)]), W p l e { frames := 6, cells := 0, slots := 0, locals := 147 } s m args below meth c H locs 0 0 (MQ below (q_Q (some (.int r0)) (fun H => q_W D al dt0 H ∧ q_Rk al 0 (some (.int r0))) (q_A al)) args s 0 0 (q_A al)) (F0 m 38 ls []) := by
    intro x0_38 x1_38 kx0_38 kx1_38
    intro n_38
    induction n_38 with
    | zero => intro x2_38 dt H locs ls hm hW hS hl; cases hm
    | succ n_38 ih38 =>
      intro x2_38 dt H locs ls hm hW hS hl
      rw [X3_make_b38] at hm
      refine lv_iload_n hx hb dX3_make_38 rfl (lv_at hl 2 rfl) ?_
      refine lv_sipush (v := 400) hx hb dX3_make_39 (by decide) ?_
      refine q_ifc hm (fun c38001 hm => ?_) (fun c38001 hm => ?_)
      · refine lv_icmp_ge (tgt := 113) hx hb dX3_make_42 (by decide) (fun _ => ?_) (fun h => absurd c38001 h)
        exact hB113 x0_38 kx0_38 dt _ _ _ hm hW hS (lv_sub hl [0] rfl)
      refine lv_icmp_ge (tgt := 113) hx hb dX3_make_42 (by decide) (fun h => absurd h c38001) (fun _ => ?_)
      refine lv_aload_n hx hb dX3_make_45 rfl (lv_at hl 0 rfl) ?_
      refine r_getI C hW (ci := 3) kx0_38 ff_3_5 cl_3 fl_RX3_37 dX3_make_46 ?_
      refine lv_aload_n hx hb dX3_make_49 rfl (lv_at hl 0 rfl) ?_
      refine r_getF C hW (ci := 3) kx0_38 ff_3_0 cl_3 fl_RX3_12 dX3_make_50 (fun k38002 => ?_)
      refine r_getI C hW (ci := 9) k38002 ff_9_7 cl_9 fl_RX3_56 dX3_make_53 ?_
      refine q_ifc hm (fun c38003 hm => ?_) (fun c38003 hm => ?_)
      · refine lv_icmp_ge (tgt := 113) hx hb dX3_make_56 (by decide) (fun _ => ?_) (fun h => absurd c38003 h)
        exact hB113 x0_38 kx0_38 dt _ _ _ hm hW hS (lv_sub hl [0] rfl)
      refine lv_icmp_ge (tgt := 113) hx hb dX3_make_56 (by decide) (fun h => absurd h c38003) (fun _ => ?_)
      refine lv_aload_n hx hb dX3_make_59 rfl (lv_at hl 0 rfl) ?_
      refine r_getI C hW (ci := 3) kx0_38 ff_3_6 cl_3 fl_RX3_40 dX3_make_60 ?_
      refine q_ifc hm (fun c38004 hm => ?_) (fun c38004 hm => ?_)
      · refine lv_if_ne (tgt := 113) hx hb dX3_make_63 (by decide) (fun h => absurd c38004 h) (fun _ => ?_)
        refine lv_aload_n hx hb dX3_make_66 rfl (lv_at hl 0 rfl) ?_
        refine r_getF C hW (ci := 3) kx0_38 ff_3_0 cl_3 fl_RX3_12 dX3_make_67 (fun k38005 => ?_)
        refine r_getF C hW (ci := 9) k38005 ff_9_3 cl_9 fl_RX3_57 dX3_make_70 (fun k38006 => ?_)
        refine lv_aload_n hx hb dX3_make_73 rfl (lv_at hl 0 rfl) ?_
        refine r_getI C hW (ci := 3) kx0_38 ff_3_5 cl_3 fl_RX3_37 dX3_make_74 ?_
        obtain ⟨v38008, hc38007, hm⟩ := q_b1i hm
        refine q_callV C hW hS (As := [.int (dt.1 x0_38 5)]) (rest := []) (st1 := [.int v38008]) (c_X5_small l D al dt (al.2.2 (al.2.2 x0_38 0) 3) (dt.1 x0_38 5) k38006 v38008 hc38007) yl_X5_small vl_X5_small ml_RX3_60 (ci := 5) rfl k38006 (by decide) rfl ⟨Nat.le_of_ble_eq_true rfl, Nat.le_of_ble_eq_true rfl⟩ hl rfl (Nat.le_of_ble_eq_true rfl) dX3_make_77 ⟨Nat.le_refl _, Nat.le_refl _⟩ rfl (fun H locs k38009 hW hS => ?_)
        refine lv_istore_n (i := 3) (lv' := [(3, .int v38008), (0, .ref x0_38), (1, .ref x1_38), (2, .int x2_38)]) hx hb dX3_make_80 rfl hl (by decide) rfl (fun ls hl => ?_)
        refine lv_aload_n hx hb dX3_make_81 rfl (lv_at hl 1 rfl) ?_
        refine lv_dup hx hb dX3_make_82 rfl ?_
        refine r_getI C hW (ci := 3) kx0_38 ff_3_5 cl_3 fl_RX3_37 dX3_make_83 ?_
        refine lv_iconst (v := 1) hx hb dX3_make_86 (by decide) ?_
        refine lv_iadd hx hb dX3_make_87 ?_
        refine r_putI C hW hS hm (ci := 3) kx0_38 ff_3_5 cl_3 fl_RX3_37 (nf_3_5) rfl dX3_make_88 (fun dt38010 H locs hm hW hS => ?_)
        refine lv_aload_n hx hb dX3_make_91 rfl (lv_at hl 1 rfl) ?_
        refine lv_aload_n hx hb dX3_make_92 rfl (lv_at hl 2 rfl) ?_
        refine lv_iload_n hx hb dX3_make_93 rfl (lv_at hl 0 rfl) ?_
        obtain ⟨dt38012, hc38011, hm⟩ := q_b1i hm
        refine q_callV C hW hS (As := [.ref x1_38, .int v38008]) (rest := []) (st1 := []) (c_X3_makeTell l D al dt38010 x0_38 x1_38 v38008 kx0_38 kx1_38 dt38012 hc38011) yl_X3_makeTell vl_X3_makeTell ml_RX3_64 (ci := 3) rfl kx0_38 (by decide) rfl ⟨Nat.le_of_ble_eq_true rfl, Nat.le_of_ble_eq_true rfl⟩ hl rfl (Nat.le_of_ble_eq_true rfl) dX3_make_94 ⟨Nat.le_refl _, Nat.le_refl _⟩ rfl (fun H locs k38013 hW hS => ?_)
        refine lv_aload_n hx hb dX3_make_97 rfl (lv_at hl 1 rfl) ?_
        refine lv_dup hx hb dX3_make_98 rfl ?_
        refine r_getI C hW (ci := 3) kx0_38 ff_3_5 cl_3 fl_RX3_37 dX3_make_99 ?_
        refine lv_iconst (v := 1) hx hb dX3_make_102 (by decide) ?_
        refine lv_iadd hx hb dX3_make_103 ?_
        refine r_putI C hW hS hm (ci := 3) kx0_38 ff_3_5 cl_3 fl_RX3_37 (nf_3_5) rfl dX3_make_104 (fun dt38014 H locs hm hW hS => ?_)
        refine lv_iinc (v := (x2_38 + 1)) (lv' := [(2, .int (x2_38 + 1)), (3, .int v38008), (0, .ref x0_38), (1, .ref x1_38)]) hx hb dX3_make_107 hl (k := 3) rfl rfl (by decide) rfl (fun ls hl => ?_)
        refine lv_goto (tgt := 38) hx hb dX3_make_110 (by decide) ?_
        exact ih38 (x2_38 + 1) dt38014 _ _ _ hm hW hS (lv_sub hl [2, 3, 0] rfl)
      refine lv_if_ne (tgt := 113) hx hb dX3_make_63 (by decide) (fun _ => ?_) (fun h => absurd h c38004)
      exact hB113 x0_38 kx0_38 dt _ _ _ hm hW hS (lv_sub hl [0] rfl)
  refine q_aloadQ_n C dX3_make_0 rfl (lv_at hl 1 rfl) ?_
  obtain ⟨b1000001, e1000002, hq1000003⟩ := q_mi hm
  subst e1000002
  have hm := hq1000003
  have k1000004 := kx1 b1000001 rfl
  obtain ⟨dt1000006, hc1000005, hm⟩ := q_b1i hm
  refine q_callV C hW hS (As := []) (rest := []) (st1 := []) (c_X10_clear l D al dt b1000001 k1000004 dt1000006 hc1000005) yl_X10_clear vl_X10_clear ml_RX3_46 (ci := 10) rfl k1000004 (by decide) rfl ⟨Nat.le_of_ble_eq_true rfl, Nat.le_of_ble_eq_true rfl⟩ hl rfl (Nat.le_of_ble_eq_true rfl) dX3_make_1 ⟨Nat.le_refl _, Nat.le_refl _⟩ rfl (fun H locs k1000007 hW hS => ?_)
  refine lv_aload_n hx hb dX3_make_4 rfl (lv_at hl 0 rfl) ?_
  refine lv_iconst (v := 0) hx hb dX3_make_5 (by decide) ?_
  refine r_putI C hW hS hm (ci := 3) kx0 ff_3_4 cl_3 fl_RX3_33 (nf_3_4) rfl dX3_make_6 (fun dt1000008 H locs hm hW hS => ?_)
  refine lv_aload_n hx hb dX3_make_9 rfl (lv_at hl 0 rfl) ?_
  refine lv_iconst (v := 0) hx hb dX3_make_10 (by decide) ?_
  refine r_putI C hW hS hm (ci := 3) kx0 ff_3_5 cl_3 fl_RX3_37 (nf_3_5) rfl dX3_make_11 (fun dt1000009 H locs hm hW hS => ?_)
  refine lv_aload_n hx hb dX3_make_14 rfl (lv_at hl 0 rfl) ?_
  refine lv_aload_n hx hb dX3_make_15 rfl (lv_at hl 0 rfl) ?_
  refine r_getF C hW (ci := 3) kx0 ff_3_0 cl_3 fl_RX3_12 dX3_make_16 (fun k1000010 => ?_)
  obtain ⟨v1000012, dt1000013, hc1000011, hm⟩ := q_b2i hm
  refine q_callV C hW hS (As := []) (rest := [.ref x0]) (st1 := [.int v1000012, .ref x0]) (c_X9_take l D al dt1000009 (al.2.2 x0 0) k1000010 v1000012 dt1000013 hc1000011) yl_X9_take vl_X9_take ml_RX3_51 (ci := 9) rfl k1000010 (by decide) rfl ⟨Nat.le_of_ble_eq_true rfl, Nat.le_of_ble_eq_true rfl⟩ hl rfl (Nat.le_of_ble_eq_true rfl) dX3_make_19 ⟨Nat.le_refl _, Nat.le_refl _⟩ rfl (fun H locs k1000014 hW hS => ?_)
  refine r_putI C hW hS hm (ci := 3) kx0 ff_3_6 cl_3 fl_RX3_40 (nf_3_6) rfl dX3_make_22 (fun dt1000015 H locs hm hW hS => ?_)
  refine lv_aload_n hx hb dX3_make_25 rfl (lv_at hl 0 rfl) ?_
  refine lv_aload_n hx hb dX3_make_26 rfl (lv_at hl 0 rfl) ?_
  refine r_getF C hW (ci := 3) kx0 ff_3_0 cl_3 fl_RX3_12 dX3_make_27 (fun k1000016 => ?_)
  refine r_getI C hW (ci := 9) k1000016 ff_9_9 cl_9 fl_RX3_55 dX3_make_30 ?_
  refine r_putI C hW hS hm (ci := 3) kx0 ff_3_7 cl_3 fl_RX3_43 (nf_3_7) rfl dX3_make_33 (fun dt1000017 H locs hm hW hS => ?_)
  refine lv_iconst (v := 0) hx hb dX3_make_36 (by decide) ?_
  refine lv_istore_n (i := 2) (lv' := [(2, .int 0), (0, .ref x0), (1, .ref b1000001)]) hx hb dX3_make_37 rfl hl (by decide) rfl (fun ls hl => ?_)
  exact hB38 x0 b1000001 kx0 k1000004 q_FU 0 dt1000017 _ _ _ hm hW hS (lv_sub hl [1, 2, 0] rfl)
theorem dX7_length_0 : decode cX7_length 0 = .ok (.aload_n 0, 1) := by decide +kernel
theorem dX7_length_1 : decode cX7_length 1 = .ok (.getfield 23, 3) := by decide +kernel
theorem dX7_length_4 : decode cX7_length 4 = .ok (.ifnonnull 7, 3) := by decide +kernel
theorem dX7_length_7 : decode cX7_length 7 = .ok (.iconst 1, 1) := by decide +kernel
theorem dX7_length_8 : decode cX7_length 8 = .ok (.goto 10, 3) := by decide +kernel
theorem dX7_length_11 : decode cX7_length 11 = .ok (.aload_n 0, 1) := by decide +kernel
theorem dX7_length_12 : decode cX7_length 12 = .ok (.getfield 23, 3) := by decide +kernel
theorem dX7_length_15 : decode cX7_length 15 = .ok (.getfield 50, 3) := by decide +kernel
theorem dX7_length_18 : decode cX7_length 18 = .ok (.ireturn, 1) := by decide +kernel
set_option maxRecDepth 100000 in
theorem c_X7_length (l : Launch) (D : q_D) (al : q_Al) (dt : q_Dt) (x0 : Nat) (kx0 : al.1 x0 = 8) (r0 : Int32) (hm : X7_length al dt x0 = some r0) : q_Mt l yX7_length cX7_length 1 (some FieldType.int) 0 0 D al [.ref x0] dt 0 (some (.int r0)) dt := by
  refine q_Mt.of (by decide) (Nat.le_of_ble_eq_true rfl) ?_
  intro p e s m args below meth c ls C hargs hW hl
  have hx := C.1
  have hb := C.2.1
  have hown := C.2.2.2.2.2.1
  have hts := C.2.2.2.2.2.2.1
  have hS : va_S (q_A al) s.heap s.heap [] := va_S.rf
  have hl : lv_has ls 1 [(0, .ref x0)] := hl
  unfold X7_length at hm
  refine lv_aload_n hx hb dX7_length_0 rfl (lv_at hl 0 rfl) ?_
  refine r_getQ C hW hm (ci := 7) kx0 ff_7_2 cl_7 fl_RX7_23 dX7_length_1 (fun o1000001 eo1000001 k1000002 hm => ?_)
  refine q_ifnonnull C hm (tgt := 11) dX7_length_4 (by decide) (fun e1000005 hq1000006 => ?_) (fun b1000003 e1000005 hq1000006 => ?_)
  · subst e1000005
    have hm := hq1000006
    refine lv_iconst (v := 1) hx hb dX7_length_7 (by decide) ?_
    refine lv_goto (tgt := 18) hx hb dX7_length_8 (by decide) ?_
    exact e_i C hW hS hm dX7_length_18
  subst e1000005
  have hm := hq1000006
  have k1000004 := k1000002 b1000003 rfl
  refine lv_aload_n hx hb dX7_length_11 rfl (lv_at hl 0 rfl) ?_
  refine r_getQ C hW hm (ci := 7) kx0 ff_7_2 cl_7 fl_RX7_23 dX7_length_12 (fun o1000007 eo1000007 k1000008 hm => ?_)
  obtain ⟨b1000009, e1000010, hq1000011⟩ := q_mi hm
  subst e1000010
  have hm := hq1000011
  have k1000012 := k1000008 b1000009 rfl
  refine r_getI C hW (ci := 0) k1000012 ff_0_1 cl_0 fl_RX7_50 dX7_length_15 ?_
  exact e_i C hW hS hm dX7_length_18
theorem dX11_quotient_0 : decode cX11_quotient 0 = .ok (.lload_n 2, 1) := by decide +kernel
theorem dX11_quotient_1 : decode cX11_quotient 1 = .ok (.lconst 1, 1) := by decide +kernel
theorem dX11_quotient_2 : decode cX11_quotient 2 = .ok (.lcmp, 1) := by decide +kernel
theorem dX11_quotient_3 : decode cX11_quotient 3 = .ok (.ifCond .ge 7, 3) := by decide +kernel
theorem dX11_quotient_6 : decode cX11_quotient 6 = .ok (.lconst 0, 1) := by decide +kernel
theorem dX11_quotient_7 : decode cX11_quotient 7 = .ok (.goto 6, 3) := by decide +kernel
theorem dX11_quotient_10 : decode cX11_quotient 10 = .ok (.lload_n 0, 1) := by decide +kernel
theorem dX11_quotient_11 : decode cX11_quotient 11 = .ok (.lload_n 2, 1) := by decide +kernel
theorem dX11_quotient_12 : decode cX11_quotient 12 = .ok (.ldiv, 1) := by decide +kernel
theorem dX11_quotient_13 : decode cX11_quotient 13 = .ok (.lreturn, 1) := by decide +kernel
set_option maxRecDepth 100000 in
theorem c_X11_quotient (l : Launch) (D : q_D) (al : q_Al) (dt : q_Dt) (x0 : Int64) (x2 : Int64) (r0 : Int64) (hm : X11_quotient x0 x2 = some r0) : q_Mt l yX11_quotient cX11_quotient 4 (some FieldType.long) 0 0 D al [.long x0, .long x2] dt 0 (some (.long r0)) dt := by
  refine q_Mt.of (by decide) (Nat.le_of_ble_eq_true rfl) ?_
  intro p e s m args below meth c ls C hargs hW hl
  have hx := C.1
  have hb := C.2.1
  have hown := C.2.2.2.2.2.1
  have hts := C.2.2.2.2.2.2.1
  have hS : va_S (q_A al) s.heap s.heap [] := va_S.rf
  have hl : lv_has ls 4 [(0, .long x0), (2, .long x2)] := hl
  unfold X11_quotient at hm
  refine lv_lload_n hx hb dX11_quotient_0 rfl (lv_at hl 1 rfl) ?_
  refine lv_lconst (v := 1) hx hb dX11_quotient_1 rfl ?_
  refine W.lcmp hx hb dX11_quotient_2 ?_
  refine q_ifc hm (fun c1000001 hm => ?_) (fun c1000001 hm => ?_)
  · refine lv_if_ge (tgt := 10) hx hb dX11_quotient_3 (by decide) (fun _ => ?_) (fun h => absurd (q_cmp_ge.mpr c1000001) h)
    refine lv_lload_n hx hb dX11_quotient_10 rfl (lv_at hl 0 rfl) ?_
    refine lv_lload_n hx hb dX11_quotient_11 rfl (lv_at hl 1 rfl) ?_
    obtain ⟨c1000002, hm⟩ := q_ini hm
    refine lv_ldiv hx hb dX11_quotient_12 c1000002 ?_
    exact e_l C hW hS hm dX11_quotient_13
  refine lv_if_ge (tgt := 10) hx hb dX11_quotient_3 (by decide) (fun h => absurd (q_cmp_ge.mp h) c1000001) (fun _ => ?_)
  refine lv_lconst (v := 0) hx hb dX11_quotient_6 rfl ?_
  refine lv_goto (tgt := 13) hx hb dX11_quotient_7 (by decide) ?_
  exact e_l C hW hS hm dX11_quotient_13
theorem dX7_delayAt_0 : decode cX7_delayAt 0 = .ok (.aload_n 0, 1) := by decide +kernel
theorem dX7_delayAt_1 : decode cX7_delayAt 1 = .ok (.getfield 34, 3) := by decide +kernel
theorem dX7_delayAt_4 : decode cX7_delayAt 4 = .ok (.iload_n 1, 1) := by decide +kernel
theorem dX7_delayAt_5 : decode cX7_delayAt 5 = .ok (.i2l, 1) := by decide +kernel
theorem dX7_delayAt_6 : decode cX7_delayAt 6 = .ok (.aload_n 0, 1) := by decide +kernel
theorem dX7_delayAt_7 : decode cX7_delayAt 7 = .ok (.getfield 43, 3) := by decide +kernel
theorem dX7_delayAt_10 : decode cX7_delayAt 10 = .ok (.i2l, 1) := by decide +kernel
theorem dX7_delayAt_11 : decode cX7_delayAt 11 = .ok (.aload_n 0, 1) := by decide +kernel
theorem dX7_delayAt_12 : decode cX7_delayAt 12 = .ok (.invokevirtual 55, 3) := by decide +kernel
theorem dX7_delayAt_15 : decode cX7_delayAt 15 = .ok (.i2l, 1) := by decide +kernel
theorem dX7_delayAt_16 : decode cX7_delayAt 16 = .ok (.lmul, 1) := by decide +kernel
theorem dX7_delayAt_17 : decode cX7_delayAt 17 = .ok (.invokestatic 58, 3) := by decide +kernel
theorem dX7_delayAt_20 : decode cX7_delayAt 20 = .ok (.l2i, 1) := by decide +kernel
theorem dX7_delayAt_21 : decode cX7_delayAt 21 = .ok (.iadd, 1) := by decide +kernel
theorem dX7_delayAt_22 : decode cX7_delayAt 22 = .ok (.ireturn, 1) := by decide +kernel
set_option maxRecDepth 100000 in
theorem c_X7_delayAt (l : Launch) (D : q_D) (al : q_Al) (dt : q_Dt) (x0 : Nat) (x1 : Int32) (kx0 : al.1 x0 = 8) (r0 : Int32) (hm : X7_delayAt al dt x0 x1 = some r0) : q_Mt l yX7_delayAt cX7_delayAt 2 (some FieldType.int) 1 23 D al [.ref x0, .int x1] dt 0 (some (.int r0)) dt := by
  refine q_Mt.of (by decide) (Nat.le_of_ble_eq_true rfl) ?_
  intro p e s m args below meth c ls C hargs hW hl
  have hx := C.1
  have hb := C.2.1
  have hown := C.2.2.2.2.2.1
  have hts := C.2.2.2.2.2.2.1
  have hS : va_S (q_A al) s.heap s.heap [] := va_S.rf
  have hl : lv_has ls 2 [(0, .ref x0), (1, .int x1)] := hl
  unfold X7_delayAt at hm
  refine lv_aload_n hx hb dX7_delayAt_0 rfl (lv_at hl 0 rfl) ?_
  refine r_getI C hW (ci := 7) kx0 ff_7_5 cl_7 fl_RX7_34 dX7_delayAt_1 ?_
  refine lv_iload_n hx hb dX7_delayAt_4 rfl (lv_at hl 1 rfl) ?_
  refine lv_i2l (v := (Int32.toInt64 x1)) hx hb dX7_delayAt_5 rfl ?_
  refine lv_aload_n hx hb dX7_delayAt_6 rfl (lv_at hl 0 rfl) ?_
  refine r_getI C hW (ci := 7) kx0 ff_7_8 cl_7 fl_RX7_43 dX7_delayAt_7 ?_
  refine lv_i2l (v := (Int32.toInt64 (dt.1 x0 8))) hx hb dX7_delayAt_10 rfl ?_
  refine lv_aload_n hx hb dX7_delayAt_11 rfl (lv_at hl 0 rfl) ?_
  obtain ⟨v1000002, hc1000001, hm⟩ := q_b1i hm
  refine q_callV C hW hS (As := []) (rest := [.long (Int32.toInt64 (dt.1 x0 8)), .long (Int32.toInt64 x1), .int (dt.1 x0 5)]) (st1 := [.int v1000002, .long (Int32.toInt64 (dt.1 x0 8)), .long (Int32.toInt64 x1), .int (dt.1 x0 5)]) (c_X7_length l D al dt x0 kx0 v1000002 hc1000001) yl_X7_length vl_X7_length ml_RX7_55 (ci := 7) rfl kx0 (by decide) rfl ⟨Nat.le_of_ble_eq_true rfl, Nat.le_of_ble_eq_true rfl⟩ hl rfl (Nat.le_of_ble_eq_true rfl) dX7_delayAt_12 ⟨Nat.le_refl _, Nat.le_refl _⟩ rfl (fun H locs k1000003 hW hS => ?_)
  refine lv_i2l (v := (Int32.toInt64 v1000002)) hx hb dX7_delayAt_15 rfl ?_
  refine lv_lmul hx hb dX7_delayAt_16 ?_
  obtain ⟨v1000005, hc1000004, hm⟩ := q_b1i hm
  refine q_callS C hW hS (As := [.long (Int32.toInt64 x1), .long ((Int32.toInt64 (dt.1 x0 8)) * (Int32.toInt64 v1000002))]) (rest := [.int (dt.1 x0 5)]) (st1 := [.long v1000005, .int (dt.1 x0 5)]) (c_X11_quotient l D al dt (Int32.toInt64 x1) ((Int32.toInt64 (dt.1 x0 8)) * (Int32.toInt64 v1000002)) v1000005 hc1000004) yl_X11_quotient sl_X11_quotient ml_RX7_58 rfl ⟨Nat.le_of_ble_eq_true rfl, Nat.le_of_ble_eq_true rfl⟩ hl rfl (Nat.le_of_ble_eq_true rfl) dX7_delayAt_17 ⟨Nat.le_refl _, Nat.le_refl _⟩ rfl (fun H locs k1000006 hW hS => ?_)
  refine lv_l2i (v := (Int64.toInt32 v1000005)) hx hb dX7_delayAt_20 rfl ?_
  refine lv_iadd hx hb dX7_delayAt_21 ?_
  exact e_i C hW hS hm dX7_delayAt_22
theorem dX7_periodAt_0 : decode cX7_periodAt 0 = .ok (.iload_n 1, 1) := by decide +kernel
theorem dX7_periodAt_1 : decode cX7_periodAt 1 = .ok (.aload_n 0, 1) := by decide +kernel
theorem dX7_periodAt_2 : decode cX7_periodAt 2 = .ok (.iload_n 1, 1) := by decide +kernel
theorem dX7_periodAt_3 : decode cX7_periodAt 3 = .ok (.invokevirtual 62, 3) := by decide +kernel
theorem dX7_periodAt_6 : decode cX7_periodAt 6 = .ok (.isub, 1) := by decide +kernel
theorem dX7_periodAt_7 : decode cX7_periodAt 7 = .ok (.istore_n 2, 1) := by decide +kernel
theorem dX7_periodAt_8 : decode cX7_periodAt 8 = .ok (.iload_n 2, 1) := by decide +kernel
theorem dX7_periodAt_9 : decode cX7_periodAt 9 = .ok (.ifCond .ge 7, 3) := by decide +kernel
theorem dX7_periodAt_12 : decode cX7_periodAt 12 = .ok (.iconst (-1), 1) := by decide +kernel
theorem dX7_periodAt_13 : decode cX7_periodAt 13 = .ok (.goto 14, 3) := by decide +kernel
theorem dX7_periodAt_16 : decode cX7_periodAt 16 = .ok (.iload_n 2, 1) := by decide +kernel
theorem dX7_periodAt_17 : decode cX7_periodAt 17 = .ok (.i2l, 1) := by decide +kernel
theorem dX7_periodAt_18 : decode cX7_periodAt 18 = .ok (.aload_n 0, 1) := by decide +kernel
theorem dX7_periodAt_19 : decode cX7_periodAt 19 = .ok (.invokevirtual 55, 3) := by decide +kernel
theorem dX7_periodAt_22 : decode cX7_periodAt 22 = .ok (.i2l, 1) := by decide +kernel
theorem dX7_periodAt_23 : decode cX7_periodAt 23 = .ok (.invokestatic 58, 3) := by decide +kernel
theorem dX7_periodAt_26 : decode cX7_periodAt 26 = .ok (.l2i, 1) := by decide +kernel
theorem dX7_periodAt_27 : decode cX7_periodAt 27 = .ok (.ireturn, 1) := by decide +kernel
set_option maxRecDepth 100000 in
theorem c_X7_periodAt (l : Launch) (D : q_D) (al : q_Al) (dt : q_Dt) (x0 : Nat) (x1 : Int32) (kx0 : al.1 x0 = 8) (r0 : Int32) (hm : X7_periodAt al dt x0 x1 = some r0) : q_Mt l yX7_periodAt cX7_periodAt 3 (some FieldType.int) 2 44 D al [.ref x0, .int x1] dt 0 (some (.int r0)) dt := by
  refine q_Mt.of (by decide) (Nat.le_of_ble_eq_true rfl) ?_
  intro p e s m args below meth c ls C hargs hW hl
  have hx := C.1
  have hb := C.2.1
  have hown := C.2.2.2.2.2.1
  have hts := C.2.2.2.2.2.2.1
  have hS : va_S (q_A al) s.heap s.heap [] := va_S.rf
  have hl : lv_has ls 3 [(0, .ref x0), (1, .int x1)] := hl
  unfold X7_periodAt at hm
  refine lv_iload_n hx hb dX7_periodAt_0 rfl (lv_at hl 1 rfl) ?_
  refine lv_aload_n hx hb dX7_periodAt_1 rfl (lv_at hl 0 rfl) ?_
  refine lv_iload_n hx hb dX7_periodAt_2 rfl (lv_at hl 1 rfl) ?_
  obtain ⟨v1000002, hc1000001, hm⟩ := q_b1i hm
  refine q_callV C hW hS (As := [.int x1]) (rest := [.int x1]) (st1 := [.int v1000002, .int x1]) (c_X7_delayAt l D al dt x0 x1 kx0 v1000002 hc1000001) yl_X7_delayAt vl_X7_delayAt ml_RX7_62 (ci := 7) rfl kx0 (by decide) rfl ⟨Nat.le_of_ble_eq_true rfl, Nat.le_of_ble_eq_true rfl⟩ hl rfl (Nat.le_of_ble_eq_true rfl) dX7_periodAt_3 ⟨Nat.le_refl _, Nat.le_refl _⟩ rfl (fun H locs k1000003 hW hS => ?_)
  refine lv_isub hx hb dX7_periodAt_6 ?_
  refine lv_istore_n (i := 2) (lv' := [(2, .int (x1 - v1000002)), (0, .ref x0), (1, .int x1)]) hx hb dX7_periodAt_7 rfl hl (by decide) rfl (fun ls hl => ?_)
  refine lv_iload_n hx hb dX7_periodAt_8 rfl (lv_at hl 0 rfl) ?_
  refine q_ifc hm (fun c1000004 hm => ?_) (fun c1000004 hm => ?_)
  · refine lv_if_ge (tgt := 16) hx hb dX7_periodAt_9 (by decide) (fun _ => ?_) (fun h => absurd c1000004 h)
    refine lv_iload_n hx hb dX7_periodAt_16 rfl (lv_at hl 0 rfl) ?_
    refine lv_i2l (v := (Int32.toInt64 (x1 - v1000002))) hx hb dX7_periodAt_17 rfl ?_
    refine lv_aload_n hx hb dX7_periodAt_18 rfl (lv_at hl 1 rfl) ?_
    obtain ⟨v1000006, hc1000005, hm⟩ := q_b1i hm
    refine q_callV C hW hS (As := []) (rest := [.long (Int32.toInt64 (x1 - v1000002))]) (st1 := [.int v1000006, .long (Int32.toInt64 (x1 - v1000002))]) (c_X7_length l D al dt x0 kx0 v1000006 hc1000005) yl_X7_length vl_X7_length ml_RX7_55 (ci := 7) rfl kx0 (by decide) rfl ⟨Nat.le_of_ble_eq_true rfl, Nat.le_of_ble_eq_true rfl⟩ hl rfl (Nat.le_of_ble_eq_true rfl) dX7_periodAt_19 ⟨Nat.le_refl _, Nat.le_refl _⟩ rfl (fun H locs k1000007 hW hS => ?_)
    refine lv_i2l (v := (Int32.toInt64 v1000006)) hx hb dX7_periodAt_22 rfl ?_
    obtain ⟨v1000009, hc1000008, hm⟩ := q_b1i hm
    refine q_callS C hW hS (As := [.long (Int32.toInt64 (x1 - v1000002)), .long (Int32.toInt64 v1000006)]) (rest := []) (st1 := [.long v1000009]) (c_X11_quotient l D al dt (Int32.toInt64 (x1 - v1000002)) (Int32.toInt64 v1000006) v1000009 hc1000008) yl_X11_quotient sl_X11_quotient ml_RX7_58 rfl ⟨Nat.le_of_ble_eq_true rfl, Nat.le_of_ble_eq_true rfl⟩ hl rfl (Nat.le_of_ble_eq_true rfl) dX7_periodAt_23 ⟨Nat.le_refl _, Nat.le_refl _⟩ rfl (fun H locs k1000010 hW hS => ?_)
    refine lv_l2i (v := (Int64.toInt32 v1000009)) hx hb dX7_periodAt_26 rfl ?_
    exact e_i C hW hS hm dX7_periodAt_27
  refine lv_if_ge (tgt := 16) hx hb dX7_periodAt_9 (by decide) (fun h => absurd h c1000004) (fun _ => ?_)
  refine lv_iconst (v := (-1)) hx hb dX7_periodAt_12 (by decide) ?_
  refine lv_goto (tgt := 27) hx hb dX7_periodAt_13 (by decide) ?_
  exact e_i C hW hS hm dX7_periodAt_27
theorem dX11_turnAt_0 : decode cX11_turnAt 0 = .ok (.iload_n 0, 1) := by decide +kernel
theorem dX11_turnAt_1 : decode cX11_turnAt 1 = .ok (.iload_n 1, 1) := by decide +kernel
theorem dX11_turnAt_2 : decode cX11_turnAt 2 = .ok (.iconst 3, 1) := by decide +kernel
theorem dX11_turnAt_3 : decode cX11_turnAt 3 = .ok (.ishr, 1) := by decide +kernel
theorem dX11_turnAt_4 : decode cX11_turnAt 4 = .ok (.imul, 1) := by decide +kernel
theorem dX11_turnAt_5 : decode cX11_turnAt 5 = .ok (.iconst 3, 1) := by decide +kernel
theorem dX11_turnAt_6 : decode cX11_turnAt 6 = .ok (.iand, 1) := by decide +kernel
theorem dX11_turnAt_7 : decode cX11_turnAt 7 = .ok (.ireturn, 1) := by decide +kernel
set_option maxRecDepth 100000 in
theorem c_X11_turnAt (l : Launch) (D : q_D) (al : q_Al) (dt : q_Dt) (x0 : Int32) (x1 : Int32) (r0 : Int32) (hm : X11_turnAt x0 x1 = some r0) : q_Mt l yX11_turnAt cX11_turnAt 2 (some FieldType.int) 0 0 D al [.int x0, .int x1] dt 0 (some (.int r0)) dt := by
  refine q_Mt.of (by decide) (Nat.le_of_ble_eq_true rfl) ?_
  intro p e s m args below meth c ls C hargs hW hl
  have hx := C.1
  have hb := C.2.1
  have hown := C.2.2.2.2.2.1
  have hts := C.2.2.2.2.2.2.1
  have hS : va_S (q_A al) s.heap s.heap [] := va_S.rf
  have hl : lv_has ls 2 [(0, .int x0), (1, .int x1)] := hl
  unfold X11_turnAt at hm
  refine lv_iload_n hx hb dX11_turnAt_0 rfl (lv_at hl 0 rfl) ?_
  refine lv_iload_n hx hb dX11_turnAt_1 rfl (lv_at hl 1 rfl) ?_
  refine lv_iconst (v := 3) hx hb dX11_turnAt_2 (by decide) ?_
  refine lv_ishr hx hb dX11_turnAt_3 ?_
  refine lv_imul hx hb dX11_turnAt_4 ?_
  refine lv_iconst (v := 3) hx hb dX11_turnAt_5 (by decide) ?_
  refine lv_iand hx hb dX11_turnAt_6 ?_
  exact e_i C hW hS hm dX11_turnAt_7
theorem dX7_axisAt_0 : decode cX7_axisAt 0 = .ok (.aload_n 0, 1) := by decide +kernel
theorem dX7_axisAt_1 : decode cX7_axisAt 1 = .ok (.getfield 37, 3) := by decide +kernel
theorem dX7_axisAt_4 : decode cX7_axisAt 4 = .ok (.iload_n 1, 1) := by decide +kernel
theorem dX7_axisAt_5 : decode cX7_axisAt 5 = .ok (.invokestatic 69, 3) := by decide +kernel
theorem dX7_axisAt_8 : decode cX7_axisAt 8 = .ok (.iconst 1, 1) := by decide +kernel
theorem dX7_axisAt_9 : decode cX7_axisAt 9 = .ok (.iand, 1) := by decide +kernel
theorem dX7_axisAt_10 : decode cX7_axisAt 10 = .ok (.ireturn, 1) := by decide +kernel
set_option maxRecDepth 100000 in
theorem c_X7_axisAt (l : Launch) (D : q_D) (al : q_Al) (dt : q_Dt) (x0 : Nat) (x1 : Int32) (kx0 : al.1 x0 = 8) (r0 : Int32) (hm : X7_axisAt al dt x0 x1 = some r0) : q_Mt l yX7_axisAt cX7_axisAt 2 (some FieldType.int) 1 21 D al [.ref x0, .int x1] dt 0 (some (.int r0)) dt := by
  refine q_Mt.of (by decide) (Nat.le_of_ble_eq_true rfl) ?_
  intro p e s m args below meth c ls C hargs hW hl
  have hx := C.1
  have hb := C.2.1
  have hown := C.2.2.2.2.2.1
  have hts := C.2.2.2.2.2.2.1
  have hS : va_S (q_A al) s.heap s.heap [] := va_S.rf
  have hl : lv_has ls 2 [(0, .ref x0), (1, .int x1)] := hl
  unfold X7_axisAt at hm
  refine lv_aload_n hx hb dX7_axisAt_0 rfl (lv_at hl 0 rfl) ?_
  refine r_getI C hW (ci := 7) kx0 ff_7_6 cl_7 fl_RX7_37 dX7_axisAt_1 ?_
  refine lv_iload_n hx hb dX7_axisAt_4 rfl (lv_at hl 1 rfl) ?_
  obtain ⟨v1000002, hc1000001, hm⟩ := q_b1i hm
  refine q_callS C hW hS (As := [.int (dt.1 x0 6), .int x1]) (rest := []) (st1 := [.int v1000002]) (c_X11_turnAt l D al dt (dt.1 x0 6) x1 v1000002 hc1000001) yl_X11_turnAt sl_X11_turnAt ml_RX7_69 rfl ⟨Nat.le_of_ble_eq_true rfl, Nat.le_of_ble_eq_true rfl⟩ hl rfl (Nat.le_of_ble_eq_true rfl) dX7_axisAt_5 ⟨Nat.le_refl _, Nat.le_refl _⟩ rfl (fun H locs k1000003 hW hS => ?_)
  refine lv_iconst (v := 1) hx hb dX7_axisAt_8 (by decide) ?_
  refine lv_iand hx hb dX7_axisAt_9 ?_
  exact e_i C hW hS hm dX7_axisAt_10
theorem dX8_value_0 : decode cX8_value 0 = .ok (.iload_n 1, 1) := by decide +kernel
theorem dX8_value_1 : decode cX8_value 1 = .ok (.aload_n 0, 1) := by decide +kernel
theorem dX8_value_2 : decode cX8_value 2 = .ok (.getfield 23, 3) := by decide +kernel
theorem dX8_value_5 : decode cX8_value 5 = .ok (.if_icmp .lt 5, 3) := by decide +kernel
theorem dX8_value_8 : decode cX8_value 8 = .ok (.lconst 0, 1) := by decide +kernel
theorem dX8_value_9 : decode cX8_value 9 = .ok (.lreturn, 1) := by decide +kernel
theorem dX8_value_10 : decode cX8_value 10 = .ok (.iload_n 2, 1) := by decide +kernel
theorem dX8_value_11 : decode cX8_value 11 = .ok (.ifCond .ne 14, 3) := by decide +kernel
theorem dX8_value_14 : decode cX8_value 14 = .ok (.aload_n 0, 1) := by decide +kernel
theorem dX8_value_15 : decode cX8_value 15 = .ok (.getfield 14, 3) := by decide +kernel
theorem dX8_value_18 : decode cX8_value 18 = .ok (.iload_n 1, 1) := by decide +kernel
theorem dX8_value_19 : decode cX8_value 19 = .ok (.invokevirtual 27, 3) := by decide +kernel
theorem dX8_value_22 : decode cX8_value 22 = .ok (.goto 11, 3) := by decide +kernel
theorem dX8_value_25 : decode cX8_value 25 = .ok (.aload_n 0, 1) := by decide +kernel
theorem dX8_value_26 : decode cX8_value 26 = .ok (.getfield 20, 3) := by decide +kernel
theorem dX8_value_29 : decode cX8_value 29 = .ok (.iload_n 1, 1) := by decide +kernel
theorem dX8_value_30 : decode cX8_value 30 = .ok (.invokevirtual 27, 3) := by decide +kernel
theorem dX8_value_33 : decode cX8_value 33 = .ok (.lreturn, 1) := by decide +kernel
set_option maxRecDepth 100000 in
theorem c_X8_value (l : Launch) (D : q_D) (al : q_Al) (dt : q_Dt) (x0 : Nat) (x1 : Int32) (x2 : Int32) (kx0 : al.1 x0 = 9) (r0 : Int64) (hm : X8_value al dt x0 x1 x2 = some r0) : q_Mt l yX8_value cX8_value 3 (some FieldType.long) 1 21 D al [.ref x0, .int x1, .int x2] dt 0 (some (.long r0)) dt := by
  refine q_Mt.of (by decide) (Nat.le_of_ble_eq_true rfl) ?_
  intro p e s m args below meth c ls C hargs hW hl
  have hx := C.1
  have hb := C.2.1
  have hown := C.2.2.2.2.2.1
  have hts := C.2.2.2.2.2.2.1
  have hS : va_S (q_A al) s.heap s.heap [] := va_S.rf
  have hl : lv_has ls 3 [(0, .ref x0), (1, .int x1), (2, .int x2)] := hl
  unfold X8_value at hm
  refine lv_iload_n hx hb dX8_value_0 rfl (lv_at hl 1 rfl) ?_
  refine lv_aload_n hx hb dX8_value_1 rfl (lv_at hl 0 rfl) ?_
  refine r_getI C hW (ci := 8) kx0 ff_8_2 cl_8 fl_RX8_23 dX8_value_2 ?_
  refine q_ifc hm (fun c1000001 hm => ?_) (fun c1000001 hm => ?_)
  · refine lv_icmp_lt (tgt := 10) hx hb dX8_value_5 (by decide) (fun _ => ?_) (fun h => absurd c1000001 h)
    refine lv_iload_n hx hb dX8_value_10 rfl (lv_at hl 2 rfl) ?_
    refine q_ifc hm (fun c1000002 hm => ?_) (fun c1000002 hm => ?_)
    · refine lv_if_ne (tgt := 25) hx hb dX8_value_11 (by decide) (fun h => absurd c1000002 h) (fun _ => ?_)
      refine lv_aload_n hx hb dX8_value_14 rfl (lv_at hl 0 rfl) ?_
      refine r_getF C hW (ci := 8) kx0 ff_8_0 cl_8 fl_RX8_14 dX8_value_15 (fun k1000003 => ?_)
      refine lv_iload_n hx hb dX8_value_18 rfl (lv_at hl 1 rfl) ?_
      obtain ⟨v1000005, hc1000004, hm⟩ := q_b1i hm
      refine q_callV C hW hS (As := [.int x1]) (rest := []) (st1 := [.long v1000005]) (c_X5_at l D al dt (al.2.2 x0 0) x1 k1000003 v1000005 hc1000004) yl_X5_at vl_X5_at ml_RX8_27 (ci := 5) rfl k1000003 (by decide) rfl ⟨Nat.le_of_ble_eq_true rfl, Nat.le_of_ble_eq_true rfl⟩ hl rfl (Nat.le_of_ble_eq_true rfl) dX8_value_19 ⟨Nat.le_refl _, Nat.le_refl _⟩ rfl (fun H locs k1000006 hW hS => ?_)
      refine lv_goto (tgt := 33) hx hb dX8_value_22 (by decide) ?_
      exact e_l C hW hS hm dX8_value_33
    refine lv_if_ne (tgt := 25) hx hb dX8_value_11 (by decide) (fun _ => ?_) (fun h => absurd h c1000002)
    refine lv_aload_n hx hb dX8_value_25 rfl (lv_at hl 0 rfl) ?_
    refine r_getF C hW (ci := 8) kx0 ff_8_1 cl_8 fl_RX8_20 dX8_value_26 (fun k1000007 => ?_)
    refine lv_iload_n hx hb dX8_value_29 rfl (lv_at hl 1 rfl) ?_
    obtain ⟨v1000009, hc1000008, hm⟩ := q_b1i hm
    refine q_callV C hW hS (As := [.int x1]) (rest := []) (st1 := [.long v1000009]) (c_X5_at l D al dt (al.2.2 x0 1) x1 k1000007 v1000009 hc1000008) yl_X5_at vl_X5_at ml_RX8_27 (ci := 5) rfl k1000007 (by decide) rfl ⟨Nat.le_of_ble_eq_true rfl, Nat.le_of_ble_eq_true rfl⟩ hl rfl (Nat.le_of_ble_eq_true rfl) dX8_value_30 ⟨Nat.le_refl _, Nat.le_refl _⟩ rfl (fun H locs k1000010 hW hS => ?_)
    exact e_l C hW hS hm dX8_value_33
  refine lv_icmp_lt (tgt := 10) hx hb dX8_value_5 (by decide) (fun h => absurd h c1000001) (fun _ => ?_)
  refine lv_lconst (v := 0) hx hb dX8_value_8 rfl ?_
  exact e_l C hW hS hm dX8_value_9
theorem dX7_signAt_0 : decode cX7_signAt 0 = .ok (.iload_n 1, 1) := by decide +kernel
theorem dX7_signAt_1 : decode cX7_signAt 1 = .ok (.aload_n 0, 1) := by decide +kernel
theorem dX7_signAt_2 : decode cX7_signAt 2 = .ok (.iload_n 1, 1) := by decide +kernel
theorem dX7_signAt_3 : decode cX7_signAt 3 = .ok (.invokevirtual 62, 3) := by decide +kernel
theorem dX7_signAt_6 : decode cX7_signAt 6 = .ok (.isub, 1) := by decide +kernel
theorem dX7_signAt_7 : decode cX7_signAt 7 = .ok (.istore_n 2, 1) := by decide +kernel
theorem dX7_signAt_8 : decode cX7_signAt 8 = .ok (.iload_n 2, 1) := by decide +kernel
theorem dX7_signAt_9 : decode cX7_signAt 9 = .ok (.ifCond .lt 10, 3) := by decide +kernel
theorem dX7_signAt_12 : decode cX7_signAt 12 = .ok (.aload_n 0, 1) := by decide +kernel
theorem dX7_signAt_13 : decode cX7_signAt 13 = .ok (.getfield 23, 3) := by decide +kernel
theorem dX7_signAt_16 : decode cX7_signAt 16 = .ok (.ifnonnull 5, 3) := by decide +kernel
theorem dX7_signAt_19 : decode cX7_signAt 19 = .ok (.iconst 0, 1) := by decide +kernel
theorem dX7_signAt_20 : decode cX7_signAt 20 = .ok (.ireturn, 1) := by decide +kernel
theorem dX7_signAt_21 : decode cX7_signAt 21 = .ok (.aload_n 0, 1) := by decide +kernel
theorem dX7_signAt_22 : decode cX7_signAt 22 = .ok (.getfield 23, 3) := by decide +kernel
theorem dX7_signAt_25 : decode cX7_signAt 25 = .ok (.iload_n 2, 1) := by decide +kernel
theorem dX7_signAt_26 : decode cX7_signAt 26 = .ok (.invokevirtual 73, 3) := by decide +kernel
theorem dX7_signAt_29 : decode cX7_signAt 29 = .ok (.istore_n 3, 1) := by decide +kernel
theorem dX7_signAt_30 : decode cX7_signAt 30 = .ok (.aload_n 0, 1) := by decide +kernel
theorem dX7_signAt_31 : decode cX7_signAt 31 = .ok (.getfield 37, 3) := by decide +kernel
theorem dX7_signAt_34 : decode cX7_signAt 34 = .ok (.iload_n 1, 1) := by decide +kernel
theorem dX7_signAt_35 : decode cX7_signAt 35 = .ok (.invokestatic 69, 3) := by decide +kernel
theorem dX7_signAt_38 : decode cX7_signAt 38 = .ok (.iconst 1, 1) := by decide +kernel
theorem dX7_signAt_39 : decode cX7_signAt 39 = .ok (.if_icmp .le 8, 3) := by decide +kernel
theorem dX7_signAt_42 : decode cX7_signAt 42 = .ok (.iload_n 3, 1) := by decide +kernel
theorem dX7_signAt_43 : decode cX7_signAt 43 = .ok (.ineg, 1) := by decide +kernel
theorem dX7_signAt_44 : decode cX7_signAt 44 = .ok (.goto 4, 3) := by decide +kernel
theorem dX7_signAt_47 : decode cX7_signAt 47 = .ok (.iload_n 3, 1) := by decide +kernel
theorem dX7_signAt_48 : decode cX7_signAt 48 = .ok (.ireturn, 1) := by decide +kernel
set_option maxRecDepth 100000 in
theorem c_X7_signAt (l : Launch) (D : q_D) (al : q_Al) (dt : q_Dt) (x0 : Nat) (x1 : Int32) (kx0 : al.1 x0 = 8) (r0 : Int32) (hm : X7_signAt al dt x0 x1 = some r0) : q_Mt l yX7_signAt cX7_signAt 4 (some FieldType.int) 2 46 D al [.ref x0, .int x1] dt 0 (some (.int r0)) dt := by
  refine q_Mt.of (by decide) (Nat.le_of_ble_eq_true rfl) ?_
  intro p e s m args below meth c ls C hargs hW hl
  have hx := C.1
  have hb := C.2.1
  have hown := C.2.2.2.2.2.1
  have hts := C.2.2.2.2.2.2.1
  have hS : va_S (q_A al) s.heap s.heap [] := va_S.rf
  have hl : lv_has ls 4 [(0, .ref x0), (1, .int x1)] := hl
  unfold X7_signAt at hm
  refine lv_iload_n hx hb dX7_signAt_0 rfl (lv_at hl 1 rfl) ?_
  refine lv_aload_n hx hb dX7_signAt_1 rfl (lv_at hl 0 rfl) ?_
  refine lv_iload_n hx hb dX7_signAt_2 rfl (lv_at hl 1 rfl) ?_
  obtain ⟨v1000002, hc1000001, hm⟩ := q_b1i hm
  refine q_callV C hW hS (As := [.int x1]) (rest := [.int x1]) (st1 := [.int v1000002, .int x1]) (c_X7_delayAt l D al dt x0 x1 kx0 v1000002 hc1000001) yl_X7_delayAt vl_X7_delayAt ml_RX7_62 (ci := 7) rfl kx0 (by decide) rfl ⟨Nat.le_of_ble_eq_true rfl, Nat.le_of_ble_eq_true rfl⟩ hl rfl (Nat.le_of_ble_eq_true rfl) dX7_signAt_3 ⟨Nat.le_refl _, Nat.le_refl _⟩ rfl (fun H locs k1000003 hW hS => ?_)
  refine lv_isub hx hb dX7_signAt_6 ?_
  refine lv_istore_n (i := 2) (lv' := [(2, .int (x1 - v1000002)), (0, .ref x0), (1, .int x1)]) hx hb dX7_signAt_7 rfl hl (by decide) rfl (fun ls hl => ?_)
  refine lv_iload_n hx hb dX7_signAt_8 rfl (lv_at hl 0 rfl) ?_
  refine q_ifc hm (fun c1000004 hm => ?_) (fun c1000004 hm => ?_)
  · refine lv_if_lt (tgt := 19) hx hb dX7_signAt_9 (by decide) (fun _ => ?_) (fun h => absurd c1000004 h)
    refine lv_iconst (v := 0) hx hb dX7_signAt_19 (by decide) ?_
    exact e_i C hW hS hm dX7_signAt_20
  refine lv_if_lt (tgt := 19) hx hb dX7_signAt_9 (by decide) (fun h => absurd h c1000004) (fun _ => ?_)
  refine lv_aload_n hx hb dX7_signAt_12 rfl (lv_at hl 1 rfl) ?_
  refine r_getQ C hW hm (ci := 7) kx0 ff_7_2 cl_7 fl_RX7_23 dX7_signAt_13 (fun o1000005 eo1000005 k1000006 hm => ?_)
  refine q_ifnonnull C hm (tgt := 21) dX7_signAt_16 (by decide) (fun e1000009 hq1000010 => ?_) (fun b1000007 e1000009 hq1000010 => ?_)
  · subst e1000009
    have hm := hq1000010
    refine lv_iconst (v := 0) hx hb dX7_signAt_19 (by decide) ?_
    exact e_i C hW hS hm dX7_signAt_20
  subst e1000009
  have hm := hq1000010
  have k1000008 := k1000006 b1000007 rfl
  refine lv_aload_n hx hb dX7_signAt_21 rfl (lv_at hl 1 rfl) ?_
  refine r_getQ C hW hm (ci := 7) kx0 ff_7_2 cl_7 fl_RX7_23 dX7_signAt_22 (fun o1000011 eo1000011 k1000012 hm => ?_)
  refine lv_iload_n hx hb dX7_signAt_25 rfl (lv_at hl 0 rfl) ?_
  obtain ⟨b1000013, e1000014, hq1000015⟩ := q_mi hm
  subst e1000014
  have hm := hq1000015
  have k1000016 := k1000012 b1000013 rfl
  obtain ⟨v1000018, hc1000017, hm⟩ := q_b1i hm
  refine q_callV C hW hS (As := [.int (x1 - v1000002)]) (rest := []) (st1 := [.int v1000018]) (c_X0_chipRoundAt l D al dt b1000013 (x1 - v1000002) k1000016 v1000018 hc1000017) yl_X0_chipRoundAt vl_X0_chipRoundAt ml_RX7_73 (ci := 0) rfl k1000016 (by decide) rfl ⟨Nat.le_of_ble_eq_true rfl, Nat.le_of_ble_eq_true rfl⟩ hl rfl (Nat.le_of_ble_eq_true rfl) dX7_signAt_26 ⟨Nat.le_refl _, Nat.le_refl _⟩ rfl (fun H locs k1000019 hW hS => ?_)
  refine lv_istore_n (i := 3) (lv' := [(3, .int v1000018), (2, .int (x1 - v1000002)), (0, .ref x0), (1, .int x1)]) hx hb dX7_signAt_29 rfl hl (by decide) rfl (fun ls hl => ?_)
  refine lv_aload_n hx hb dX7_signAt_30 rfl (lv_at hl 2 rfl) ?_
  refine r_getI C hW (ci := 7) kx0 ff_7_6 cl_7 fl_RX7_37 dX7_signAt_31 ?_
  refine lv_iload_n hx hb dX7_signAt_34 rfl (lv_at hl 3 rfl) ?_
  obtain ⟨v1000021, hc1000020, hm⟩ := q_b1i hm
  refine q_callS C hW hS (As := [.int (dt.1 x0 6), .int x1]) (rest := []) (st1 := [.int v1000021]) (c_X11_turnAt l D al dt (dt.1 x0 6) x1 v1000021 hc1000020) yl_X11_turnAt sl_X11_turnAt ml_RX7_69 rfl ⟨Nat.le_of_ble_eq_true rfl, Nat.le_of_ble_eq_true rfl⟩ hl rfl (Nat.le_of_ble_eq_true rfl) dX7_signAt_35 ⟨Nat.le_refl _, Nat.le_refl _⟩ rfl (fun H locs k1000022 hW hS => ?_)
  refine lv_iconst (v := 1) hx hb dX7_signAt_38 (by decide) ?_
  refine q_ifc hm (fun c1000023 hm => ?_) (fun c1000023 hm => ?_)
  · refine lv_icmp_le (tgt := 47) hx hb dX7_signAt_39 (by decide) (fun _ => ?_) (fun h => absurd c1000023 h)
    refine lv_iload_n hx hb dX7_signAt_47 rfl (lv_at hl 0 rfl) ?_
    exact e_i C hW hS hm dX7_signAt_48
  refine lv_icmp_le (tgt := 47) hx hb dX7_signAt_39 (by decide) (fun h => absurd h c1000023) (fun _ => ?_)
  refine lv_iload_n hx hb dX7_signAt_42 rfl (lv_at hl 0 rfl) ?_
  refine lv_ineg hx hb dX7_signAt_43 ?_
  refine lv_goto (tgt := 48) hx hb dX7_signAt_44 (by decide) ?_
  exact e_i C hW hS hm dX7_signAt_48
theorem dX4_gather_0 : decode cX4_gather 0 = .ok (.aload_n 0, 1) := by decide +kernel
theorem dX4_gather_1 : decode cX4_gather 1 = .ok (.getfield 14, 3) := by decide +kernel
theorem dX4_gather_4 : decode cX4_gather 4 = .ok (.invokevirtual 41, 3) := by decide +kernel
theorem dX4_gather_7 : decode cX4_gather 7 = .ok (.iconst 0, 1) := by decide +kernel
theorem dX4_gather_8 : decode cX4_gather 8 = .ok (.istore_n 3, 1) := by decide +kernel
theorem dX4_gather_9 : decode cX4_gather 9 = .ok (.iload_n 3, 1) := by decide +kernel
theorem dX4_gather_10 : decode cX4_gather 10 = .ok (.aload_n 1, 1) := by decide +kernel
theorem dX4_gather_11 : decode cX4_gather 11 = .ok (.getfield 44, 3) := by decide +kernel
theorem dX4_gather_14 : decode cX4_gather 14 = .ok (.if_icmp .ge 38, 3) := by decide +kernel
theorem dX4_gather_17 : decode cX4_gather 17 = .ok (.aload_n 0, 1) := by decide +kernel
theorem dX4_gather_18 : decode cX4_gather 18 = .ok (.getfield 14, 3) := by decide +kernel
theorem dX4_gather_21 : decode cX4_gather 21 = .ok (.aload_n 2, 1) := by decide +kernel
theorem dX4_gather_22 : decode cX4_gather 22 = .ok (.iload_n 3, 1) := by decide +kernel
theorem dX4_gather_23 : decode cX4_gather 23 = .ok (.invokevirtual 47, 3) := by decide +kernel
theorem dX4_gather_26 : decode cX4_gather 26 = .ok (.aload_n 1, 1) := by decide +kernel
theorem dX4_gather_27 : decode cX4_gather 27 = .ok (.iload_n 3, 1) := by decide +kernel
theorem dX4_gather_28 : decode cX4_gather 28 = .ok (.aload_n 2, 1) := by decide +kernel
theorem dX4_gather_29 : decode cX4_gather 29 = .ok (.iload_n 3, 1) := by decide +kernel
theorem dX4_gather_30 : decode cX4_gather 30 = .ok (.invokevirtual 53, 3) := by decide +kernel
theorem dX4_gather_33 : decode cX4_gather 33 = .ok (.invokevirtual 56, 3) := by decide +kernel
theorem dX4_gather_36 : decode cX4_gather 36 = .ok (.aload_n 2, 1) := by decide +kernel
theorem dX4_gather_37 : decode cX4_gather 37 = .ok (.iload_n 3, 1) := by decide +kernel
theorem dX4_gather_38 : decode cX4_gather 38 = .ok (.invokevirtual 60, 3) := by decide +kernel
theorem dX4_gather_41 : decode cX4_gather 41 = .ok (.i2l, 1) := by decide +kernel
theorem dX4_gather_42 : decode cX4_gather 42 = .ok (.lmul, 1) := by decide +kernel
theorem dX4_gather_43 : decode cX4_gather 43 = .ok (.invokevirtual 63, 3) := by decide +kernel
theorem dX4_gather_46 : decode cX4_gather 46 = .ok (.iinc 3 1, 3) := by decide +kernel
theorem dX4_gather_49 : decode cX4_gather 49 = .ok (.goto (-40), 3) := by decide +kernel
theorem dX4_gather_52 : decode cX4_gather 52 = .ok (.return_, 1) := by decide +kernel
set_option maxRecDepth 100000 in
theorem c_X4_gather (l : Launch) (D : q_D) (al : q_Al) (dt : q_Dt) (x0 : Nat) (x1 : Nat) (x2 : Nat) (kx0 : al.1 x0 = 5) (kx1 : al.1 x1 = 9) (kx2 : al.1 x2 = 8) (dt0 : q_Dt) (hm : X4_gather al dt x0 x1 x2 = some dt0) : q_Mt l yX4_gather cX4_gather 4 (none) 3 69 D al [.ref x0, .ref x1, .ref x2] dt 0 none dt0 := by
  refine q_Mt.of (by decide) (Nat.le_of_ble_eq_true rfl) ?_
  intro p e s m args below meth c ls C hargs hW hl
  have hx := C.1
  have hb := C.2.1
  have hown := C.2.2.2.2.2.1
  have hts := C.2.2.2.2.2.2.1
  have hS : va_S (q_A al) s.heap s.heap [] := va_S.rf
  have hl : lv_has ls 4 [(0, .ref x0), (1, .ref x1), (2, .ref x2)] := hl
  unfold X4_gather at hm
  have hB9 : ∀ (x0_9 : Nat) (x1_9 : Nat) (x2_9 : Nat) (kx0_9 : al.1 x0_9 = 5) (kx1_9 : al.1 x1_9 = 9) (kx2_9 : al.1 x2_9 = 8) (n_9 : Nat) (x3_9 : Int32) (dt : q_Dt) (H : Heap) (locs : List Loc) (ls : Array Slot) (hm : X4_gather_b9 al x0_9 x1_9 x2_9 n_9 x3_9 dt = some dt0) (hW : q_W D al dt H) (hS : va_S (q_A al) s.heap H locs) (hl : lv_has ls 4 [(0, .ref x0_9), (1, .ref x1_9), (2, .ref x2_9), (3, .int x3_9)]), W p l e { frames := 3, cells := 0, slots := 0, locals := 69 } s m args below meth c H locs 0 0 (MQ below (q_Q none (fun H => q_W D al dt0 H ∧ q_Rk al 0 none) (q_A al)) args s 0 0 (q_A al)) (F0 m 9 ls []) := by
    intro x0_9 x1_9 x2_9 kx0_9 kx1_9 kx2_9
    intro n_9
    induction n_9 with
    | zero => intro x3_9 dt H locs ls hm hW hS hl; cases hm
    | succ n_9 ih9 =>
      intro x3_9 dt H locs ls hm hW hS hl
      rw [X4_gather_b9] at hm
      refine lv_iload_n hx hb dX4_gather_9 rfl (lv_at hl 3 rfl) ?_
      refine lv_aload_n hx hb dX4_gather_10 rfl (lv_at hl 1 rfl) ?_
      refine r_getI C hW (ci := 8) kx1_9 ff_8_2 cl_8 fl_RX4_44 dX4_gather_11 ?_
      refine q_ifc hm (fun c9001 hm => ?_) (fun c9001 hm => ?_)
      · refine lv_icmp_ge (tgt := 52) hx hb dX4_gather_14 (by decide) (fun _ => ?_) (fun h => absurd c9001 h)
        exact e_vD C hW hS hm dX4_gather_52
      refine lv_icmp_ge (tgt := 52) hx hb dX4_gather_14 (by decide) (fun h => absurd h c9001) (fun _ => ?_)
      refine lv_aload_n hx hb dX4_gather_17 rfl (lv_at hl 0 rfl) ?_
      refine r_getF C hW (ci := 4) kx0_9 ff_4_0 cl_4 fl_RX4_14 dX4_gather_18 (fun k9002 => ?_)
      refine lv_aload_n hx hb dX4_gather_21 rfl (lv_at hl 2 rfl) ?_
      refine lv_iload_n hx hb dX4_gather_22 rfl (lv_at hl 3 rfl) ?_
      obtain ⟨v9004, hc9003, hm⟩ := q_b1i hm
      refine q_callV C hW hS (As := [.int x3_9]) (rest := [.ref (al.2.2 x0_9 0)]) (st1 := [.int v9004, .ref (al.2.2 x0_9 0)]) (c_X7_periodAt l D al dt x2_9 x3_9 kx2_9 v9004 hc9003) yl_X7_periodAt vl_X7_periodAt ml_RX4_47 (ci := 7) rfl kx2_9 (by decide) rfl ⟨Nat.le_of_ble_eq_true rfl, Nat.le_of_ble_eq_true rfl⟩ hl rfl (Nat.le_of_ble_eq_true rfl) dX4_gather_23 ⟨Nat.le_refl _, Nat.le_refl _⟩ rfl (fun H locs k9005 hW hS => ?_)
      refine lv_aload_n hx hb dX4_gather_26 rfl (lv_at hl 1 rfl) ?_
      refine lv_iload_n hx hb dX4_gather_27 rfl (lv_at hl 3 rfl) ?_
      refine lv_aload_n hx hb dX4_gather_28 rfl (lv_at hl 2 rfl) ?_
      refine lv_iload_n hx hb dX4_gather_29 rfl (lv_at hl 3 rfl) ?_
      obtain ⟨v9007, hc9006, hm⟩ := q_b1i hm
      refine q_callV C hW hS (As := [.int x3_9]) (rest := [.int x3_9, .ref x1_9, .int v9004, .ref (al.2.2 x0_9 0)]) (st1 := [.int v9007, .int x3_9, .ref x1_9, .int v9004, .ref (al.2.2 x0_9 0)]) (c_X7_axisAt l D al dt x2_9 x3_9 kx2_9 v9007 hc9006) yl_X7_axisAt vl_X7_axisAt ml_RX4_53 (ci := 7) rfl kx2_9 (by decide) rfl ⟨Nat.le_of_ble_eq_true rfl, Nat.le_of_ble_eq_true rfl⟩ hl rfl (Nat.le_of_ble_eq_true rfl) dX4_gather_30 ⟨Nat.le_refl _, Nat.le_refl _⟩ rfl (fun H locs k9008 hW hS => ?_)
      obtain ⟨v9010, hc9009, hm⟩ := q_b1i hm
      refine q_callV C hW hS (As := [.int x3_9, .int v9007]) (rest := [.int v9004, .ref (al.2.2 x0_9 0)]) (st1 := [.long v9010, .int v9004, .ref (al.2.2 x0_9 0)]) (c_X8_value l D al dt x1_9 x3_9 v9007 kx1_9 v9010 hc9009) yl_X8_value vl_X8_value ml_RX4_56 (ci := 8) rfl kx1_9 (by decide) rfl ⟨Nat.le_of_ble_eq_true rfl, Nat.le_of_ble_eq_true rfl⟩ hl rfl (Nat.le_of_ble_eq_true rfl) dX4_gather_33 ⟨Nat.le_refl _, Nat.le_refl _⟩ rfl (fun H locs k9011 hW hS => ?_)
      refine lv_aload_n hx hb dX4_gather_36 rfl (lv_at hl 2 rfl) ?_
      refine lv_iload_n hx hb dX4_gather_37 rfl (lv_at hl 3 rfl) ?_
      obtain ⟨v9013, hc9012, hm⟩ := q_b1i hm
      refine q_callV C hW hS (As := [.int x3_9]) (rest := [.long v9010, .int v9004, .ref (al.2.2 x0_9 0)]) (st1 := [.int v9013, .long v9010, .int v9004, .ref (al.2.2 x0_9 0)]) (c_X7_signAt l D al dt x2_9 x3_9 kx2_9 v9013 hc9012) yl_X7_signAt vl_X7_signAt ml_RX4_60 (ci := 7) rfl kx2_9 (by decide) rfl ⟨Nat.le_of_ble_eq_true rfl, Nat.le_of_ble_eq_true rfl⟩ hl rfl (Nat.le_of_ble_eq_true rfl) dX4_gather_38 ⟨Nat.le_refl _, Nat.le_refl _⟩ rfl (fun H locs k9014 hW hS => ?_)
      refine lv_i2l (v := (Int32.toInt64 v9013)) hx hb dX4_gather_41 rfl ?_
      refine lv_lmul hx hb dX4_gather_42 ?_
      obtain ⟨dt9016, hc9015, hm⟩ := q_b1i hm
      refine q_callV C hW hS (As := [.int v9004, .long (v9010 * (Int32.toInt64 v9013))]) (rest := []) (st1 := []) (c_X5_increase l D al dt (al.2.2 x0_9 0) v9004 (v9010 * (Int32.toInt64 v9013)) k9002 dt9016 hc9015) yl_X5_increase vl_X5_increase ml_RX4_63 (ci := 5) rfl k9002 (by decide) rfl ⟨Nat.le_of_ble_eq_true rfl, Nat.le_of_ble_eq_true rfl⟩ hl rfl (Nat.le_of_ble_eq_true rfl) dX4_gather_43 ⟨Nat.le_refl _, Nat.le_refl _⟩ rfl (fun H locs k9017 hW hS => ?_)
      refine lv_iinc (v := (x3_9 + 1)) (lv' := [(3, .int (x3_9 + 1)), (0, .ref x0_9), (1, .ref x1_9), (2, .ref x2_9)]) hx hb dX4_gather_46 hl (k := 3) rfl rfl (by decide) rfl (fun ls hl => ?_)
      refine lv_goto (tgt := 9) hx hb dX4_gather_49 (by decide) ?_
      exact ih9 (x3_9 + 1) dt9016 _ _ _ hm hW hS (lv_sub hl [1, 2, 3, 0] rfl)
  refine lv_aload_n hx hb dX4_gather_0 rfl (lv_at hl 0 rfl) ?_
  refine r_getF C hW (ci := 4) kx0 ff_4_0 cl_4 fl_RX4_14 dX4_gather_1 (fun k1000001 => ?_)
  obtain ⟨dt1000003, hc1000002, hm⟩ := q_b1i hm
  refine q_callV C hW hS (As := []) (rest := []) (st1 := []) (c_X5_clear l D al dt (al.2.2 x0 0) k1000001 dt1000003 hc1000002) yl_X5_clear vl_X5_clear ml_RX4_41 (ci := 5) rfl k1000001 (by decide) rfl ⟨Nat.le_of_ble_eq_true rfl, Nat.le_of_ble_eq_true rfl⟩ hl rfl (Nat.le_of_ble_eq_true rfl) dX4_gather_4 ⟨Nat.le_refl _, Nat.le_refl _⟩ rfl (fun H locs k1000004 hW hS => ?_)
  refine lv_iconst (v := 0) hx hb dX4_gather_7 (by decide) ?_
  refine lv_istore_n (i := 3) (lv' := [(3, .int 0), (0, .ref x0), (1, .ref x1), (2, .ref x2)]) hx hb dX4_gather_8 rfl hl (by decide) rfl (fun ls hl => ?_)
  exact hB9 x0 x1 x2 kx0 kx1 kx2 q_FU 0 dt1000003 _ _ _ hm hW hS (lv_sub hl [1, 2, 3, 0] rfl)
theorem dX4_bitRead_0 : decode cX4_bitRead 0 = .ok (.aload_n 0, 1) := by decide +kernel
theorem dX4_bitRead_1 : decode cX4_bitRead 1 = .ok (.getfield 14, 3) := by decide +kernel
theorem dX4_bitRead_4 : decode cX4_bitRead 4 = .ok (.iload_n 1, 1) := by decide +kernel
theorem dX4_bitRead_5 : decode cX4_bitRead 5 = .ok (.invokevirtual 67, 3) := by decide +kernel
theorem dX4_bitRead_8 : decode cX4_bitRead 8 = .ok (.lconst 0, 1) := by decide +kernel
theorem dX4_bitRead_9 : decode cX4_bitRead 9 = .ok (.lcmp, 1) := by decide +kernel
theorem dX4_bitRead_10 : decode cX4_bitRead 10 = .ok (.ifCond .ge 7, 3) := by decide +kernel
theorem dX4_bitRead_13 : decode cX4_bitRead 13 = .ok (.iconst 1, 1) := by decide +kernel
theorem dX4_bitRead_14 : decode cX4_bitRead 14 = .ok (.goto 4, 3) := by decide +kernel
theorem dX4_bitRead_17 : decode cX4_bitRead 17 = .ok (.iconst 0, 1) := by decide +kernel
theorem dX4_bitRead_18 : decode cX4_bitRead 18 = .ok (.ireturn, 1) := by decide +kernel
set_option maxRecDepth 100000 in
theorem c_X4_bitRead (l : Launch) (D : q_D) (al : q_Al) (dt : q_Dt) (x0 : Nat) (x1 : Int32) (kx0 : al.1 x0 = 5) (r0 : Int32) (hm : X4_bitRead al dt x0 x1 = some r0) : q_Mt l yX4_bitRead cX4_bitRead 2 (some FieldType.int) 1 21 D al [.ref x0, .int x1] dt 0 (some (.int r0)) dt := by
  refine q_Mt.of (by decide) (Nat.le_of_ble_eq_true rfl) ?_
  intro p e s m args below meth c ls C hargs hW hl
  have hx := C.1
  have hb := C.2.1
  have hown := C.2.2.2.2.2.1
  have hts := C.2.2.2.2.2.2.1
  have hS : va_S (q_A al) s.heap s.heap [] := va_S.rf
  have hl : lv_has ls 2 [(0, .ref x0), (1, .int x1)] := hl
  unfold X4_bitRead at hm
  refine lv_aload_n hx hb dX4_bitRead_0 rfl (lv_at hl 0 rfl) ?_
  refine r_getF C hW (ci := 4) kx0 ff_4_0 cl_4 fl_RX4_14 dX4_bitRead_1 (fun k1000001 => ?_)
  refine lv_iload_n hx hb dX4_bitRead_4 rfl (lv_at hl 1 rfl) ?_
  obtain ⟨v1000003, hc1000002, hm⟩ := q_b1i hm
  refine q_callV C hW hS (As := [.int x1]) (rest := []) (st1 := [.long v1000003]) (c_X5_at l D al dt (al.2.2 x0 0) x1 k1000001 v1000003 hc1000002) yl_X5_at vl_X5_at ml_RX4_67 (ci := 5) rfl k1000001 (by decide) rfl ⟨Nat.le_of_ble_eq_true rfl, Nat.le_of_ble_eq_true rfl⟩ hl rfl (Nat.le_of_ble_eq_true rfl) dX4_bitRead_5 ⟨Nat.le_refl _, Nat.le_refl _⟩ rfl (fun H locs k1000004 hW hS => ?_)
  refine lv_lconst (v := 0) hx hb dX4_bitRead_8 rfl ?_
  refine W.lcmp hx hb dX4_bitRead_9 ?_
  refine q_ifc hm (fun c1000005 hm => ?_) (fun c1000005 hm => ?_)
  · refine lv_if_ge (tgt := 17) hx hb dX4_bitRead_10 (by decide) (fun _ => ?_) (fun h => absurd (q_cmp_ge.mpr c1000005) h)
    refine lv_iconst (v := 0) hx hb dX4_bitRead_17 (by decide) ?_
    exact e_i C hW hS hm dX4_bitRead_18
  refine lv_if_ge (tgt := 17) hx hb dX4_bitRead_10 (by decide) (fun h => absurd (q_cmp_ge.mp h) c1000005) (fun _ => ?_)
  refine lv_iconst (v := 1) hx hb dX4_bitRead_13 (by decide) ?_
  refine lv_goto (tgt := 18) hx hb dX4_bitRead_14 (by decide) ?_
  exact e_i C hW hS hm dX4_bitRead_18
theorem dX7_bitSent_0 : decode cX7_bitSent 0 = .ok (.aload_n 0, 1) := by decide +kernel
theorem dX7_bitSent_1 : decode cX7_bitSent 1 = .ok (.getfield 40, 3) := by decide +kernel
theorem dX7_bitSent_4 : decode cX7_bitSent 4 = .ok (.iload_n 1, 1) := by decide +kernel
theorem dX7_bitSent_5 : decode cX7_bitSent 5 = .ok (.i2l, 1) := by decide +kernel
theorem dX7_bitSent_6 : decode cX7_bitSent 6 = .ok (.ldc2_w 76, 3) := by decide +kernel
theorem dX7_bitSent_9 : decode cX7_bitSent 9 = .ok (.invokestatic 78, 3) := by decide +kernel
theorem dX7_bitSent_12 : decode cX7_bitSent 12 = .ok (.l2i, 1) := by decide +kernel
theorem dX7_bitSent_13 : decode cX7_bitSent 13 = .ok (.ishr, 1) := by decide +kernel
theorem dX7_bitSent_14 : decode cX7_bitSent 14 = .ok (.iconst 1, 1) := by decide +kernel
theorem dX7_bitSent_15 : decode cX7_bitSent 15 = .ok (.iand, 1) := by decide +kernel
theorem dX7_bitSent_16 : decode cX7_bitSent 16 = .ok (.ireturn, 1) := by decide +kernel
set_option maxRecDepth 100000 in
theorem c_X7_bitSent (l : Launch) (D : q_D) (al : q_Al) (dt : q_Dt) (x0 : Nat) (x1 : Int32) (kx0 : al.1 x0 = 8) (r0 : Int32) (hm : X7_bitSent al dt x0 x1 = some r0) : q_Mt l yX7_bitSent cX7_bitSent 2 (some FieldType.int) 1 25 D al [.ref x0, .int x1] dt 0 (some (.int r0)) dt := by
  refine q_Mt.of (by decide) (Nat.le_of_ble_eq_true rfl) ?_
  intro p e s m args below meth c ls C hargs hW hl
  have hx := C.1
  have hb := C.2.1
  have hown := C.2.2.2.2.2.1
  have hts := C.2.2.2.2.2.2.1
  have hS : va_S (q_A al) s.heap s.heap [] := va_S.rf
  have hl : lv_has ls 2 [(0, .ref x0), (1, .int x1)] := hl
  unfold X7_bitSent at hm
  refine lv_aload_n hx hb dX7_bitSent_0 rfl (lv_at hl 0 rfl) ?_
  refine r_getI C hW (ci := 7) kx0 ff_7_7 cl_7 fl_RX7_40 dX7_bitSent_1 ?_
  refine lv_iload_n hx hb dX7_bitSent_4 rfl (lv_at hl 1 rfl) ?_
  refine lv_i2l (v := (Int32.toInt64 x1)) hx hb dX7_bitSent_5 rfl ?_
  refine lv_ldc2 (own := RX7) (v := 14) hx hb hown (hts _ wc_RX7_76) dX7_bitSent_6 ?_
  obtain ⟨v1000002, hc1000001, hm⟩ := q_b1i hm
  refine q_callS C hW hS (As := [.long (Int32.toInt64 x1), .long 14]) (rest := [.int (dt.1 x0 7)]) (st1 := [.long v1000002, .int (dt.1 x0 7)]) (c_X11_remainder l D al dt (Int32.toInt64 x1) 14 v1000002 hc1000001) yl_X11_remainder sl_X11_remainder ml_RX7_78 rfl ⟨Nat.le_of_ble_eq_true rfl, Nat.le_of_ble_eq_true rfl⟩ hl rfl (Nat.le_of_ble_eq_true rfl) dX7_bitSent_9 ⟨Nat.le_refl _, Nat.le_refl _⟩ rfl (fun H locs k1000003 hW hS => ?_)
  refine lv_l2i (v := (Int64.toInt32 v1000002)) hx hb dX7_bitSent_12 rfl ?_
  refine lv_ishr hx hb dX7_bitSent_13 ?_
  refine lv_iconst (v := 1) hx hb dX7_bitSent_14 (by decide) ?_
  refine lv_iand hx hb dX7_bitSent_15 ?_
  exact e_i C hW hS hm dX7_bitSent_16
theorem dX4_wrongBit_0 : decode cX4_wrongBit 0 = .ok (.aload_n 0, 1) := by decide +kernel
theorem dX4_wrongBit_1 : decode cX4_wrongBit 1 = .ok (.iload_n 2, 1) := by decide +kernel
theorem dX4_wrongBit_2 : decode cX4_wrongBit 2 = .ok (.invokevirtual 71, 3) := by decide +kernel
theorem dX4_wrongBit_5 : decode cX4_wrongBit 5 = .ok (.aload_n 1, 1) := by decide +kernel
theorem dX4_wrongBit_6 : decode cX4_wrongBit 6 = .ok (.iload_n 2, 1) := by decide +kernel
theorem dX4_wrongBit_7 : decode cX4_wrongBit 7 = .ok (.invokevirtual 74, 3) := by decide +kernel
theorem dX4_wrongBit_10 : decode cX4_wrongBit 10 = .ok (.if_icmp .ne 7, 3) := by decide +kernel
theorem dX4_wrongBit_13 : decode cX4_wrongBit 13 = .ok (.iconst 0, 1) := by decide +kernel
theorem dX4_wrongBit_14 : decode cX4_wrongBit 14 = .ok (.goto 4, 3) := by decide +kernel
theorem dX4_wrongBit_17 : decode cX4_wrongBit 17 = .ok (.iconst 1, 1) := by decide +kernel
theorem dX4_wrongBit_18 : decode cX4_wrongBit 18 = .ok (.ireturn, 1) := by decide +kernel
set_option maxRecDepth 100000 in
theorem c_X4_wrongBit (l : Launch) (D : q_D) (al : q_Al) (dt : q_Dt) (x0 : Nat) (x1 : Nat) (x2 : Int32) (kx0 : al.1 x0 = 5) (kx1 : al.1 x1 = 8) (r0 : Int32) (hm : X4_wrongBit al dt x0 x1 x2 = some r0) : q_Mt l yX4_wrongBit cX4_wrongBit 3 (some FieldType.int) 2 46 D al [.ref x0, .ref x1, .int x2] dt 0 (some (.int r0)) dt := by
  refine q_Mt.of (by decide) (Nat.le_of_ble_eq_true rfl) ?_
  intro p e s m args below meth c ls C hargs hW hl
  have hx := C.1
  have hb := C.2.1
  have hown := C.2.2.2.2.2.1
  have hts := C.2.2.2.2.2.2.1
  have hS : va_S (q_A al) s.heap s.heap [] := va_S.rf
  have hl : lv_has ls 3 [(0, .ref x0), (1, .ref x1), (2, .int x2)] := hl
  unfold X4_wrongBit at hm
  refine lv_aload_n hx hb dX4_wrongBit_0 rfl (lv_at hl 0 rfl) ?_
  refine lv_iload_n hx hb dX4_wrongBit_1 rfl (lv_at hl 2 rfl) ?_
  obtain ⟨v1000002, hc1000001, hm⟩ := q_b1i hm
  refine q_callV C hW hS (As := [.int x2]) (rest := []) (st1 := [.int v1000002]) (c_X4_bitRead l D al dt x0 x2 kx0 v1000002 hc1000001) yl_X4_bitRead vl_X4_bitRead ml_RX4_71 (ci := 4) rfl kx0 (by decide) rfl ⟨Nat.le_of_ble_eq_true rfl, Nat.le_of_ble_eq_true rfl⟩ hl rfl (Nat.le_of_ble_eq_true rfl) dX4_wrongBit_2 ⟨Nat.le_refl _, Nat.le_refl _⟩ rfl (fun H locs k1000003 hW hS => ?_)
  refine lv_aload_n hx hb dX4_wrongBit_5 rfl (lv_at hl 1 rfl) ?_
  refine lv_iload_n hx hb dX4_wrongBit_6 rfl (lv_at hl 2 rfl) ?_
  obtain ⟨v1000005, hc1000004, hm⟩ := q_b1i hm
  refine q_callV C hW hS (As := [.int x2]) (rest := [.int v1000002]) (st1 := [.int v1000005, .int v1000002]) (c_X7_bitSent l D al dt x1 x2 kx1 v1000005 hc1000004) yl_X7_bitSent vl_X7_bitSent ml_RX4_74 (ci := 7) rfl kx1 (by decide) rfl ⟨Nat.le_of_ble_eq_true rfl, Nat.le_of_ble_eq_true rfl⟩ hl rfl (Nat.le_of_ble_eq_true rfl) dX4_wrongBit_7 ⟨Nat.le_refl _, Nat.le_refl _⟩ rfl (fun H locs k1000006 hW hS => ?_)
  refine q_ifc hm (fun c1000007 hm => ?_) (fun c1000007 hm => ?_)
  · refine lv_icmp_ne (tgt := 17) hx hb dX4_wrongBit_10 (by decide) (fun h => absurd c1000007 h) (fun _ => ?_)
    refine lv_iconst (v := 0) hx hb dX4_wrongBit_13 (by decide) ?_
    refine lv_goto (tgt := 18) hx hb dX4_wrongBit_14 (by decide) ?_
    exact e_i C hW hS hm dX4_wrongBit_18
  refine lv_icmp_ne (tgt := 17) hx hb dX4_wrongBit_10 (by decide) (fun _ => ?_) (fun h => absurd h c1000007)
  refine lv_iconst (v := 1) hx hb dX4_wrongBit_17 (by decide) ?_
  exact e_i C hW hS hm dX4_wrongBit_18
theorem dX4_wrongBits_0 : decode cX4_wrongBits 0 = .ok (.iconst 0, 1) := by decide +kernel
theorem dX4_wrongBits_1 : decode cX4_wrongBits 1 = .ok (.istore_n 3, 1) := by decide +kernel
theorem dX4_wrongBits_2 : decode cX4_wrongBits 2 = .ok (.iconst 0, 1) := by decide +kernel
theorem dX4_wrongBits_3 : decode cX4_wrongBits 3 = .ok (.istore 4, 2) := by decide +kernel
theorem dX4_wrongBits_5 : decode cX4_wrongBits 5 = .ok (.iload 4, 2) := by decide +kernel
theorem dX4_wrongBits_7 : decode cX4_wrongBits 7 = .ok (.iload_n 2, 1) := by decide +kernel
theorem dX4_wrongBits_8 : decode cX4_wrongBits 8 = .ok (.if_icmp .ge 19, 3) := by decide +kernel
theorem dX4_wrongBits_11 : decode cX4_wrongBits 11 = .ok (.iload_n 3, 1) := by decide +kernel
theorem dX4_wrongBits_12 : decode cX4_wrongBits 12 = .ok (.aload_n 0, 1) := by decide +kernel
theorem dX4_wrongBits_13 : decode cX4_wrongBits 13 = .ok (.aload_n 1, 1) := by decide +kernel
theorem dX4_wrongBits_14 : decode cX4_wrongBits 14 = .ok (.iload 4, 2) := by decide +kernel
theorem dX4_wrongBits_16 : decode cX4_wrongBits 16 = .ok (.invokevirtual 77, 3) := by decide +kernel
theorem dX4_wrongBits_19 : decode cX4_wrongBits 19 = .ok (.iadd, 1) := by decide +kernel
theorem dX4_wrongBits_20 : decode cX4_wrongBits 20 = .ok (.istore_n 3, 1) := by decide +kernel
theorem dX4_wrongBits_21 : decode cX4_wrongBits 21 = .ok (.iinc 4 1, 3) := by decide +kernel
theorem dX4_wrongBits_24 : decode cX4_wrongBits 24 = .ok (.goto (-19), 3) := by decide +kernel
theorem dX4_wrongBits_27 : decode cX4_wrongBits 27 = .ok (.iload_n 3, 1) := by decide +kernel
theorem dX4_wrongBits_28 : decode cX4_wrongBits 28 = .ok (.ireturn, 1) := by decide +kernel
set_option maxRecDepth 100000 in
theorem c_X4_wrongBits (l : Launch) (D : q_D) (al : q_Al) (dt : q_Dt) (x0 : Nat) (x1 : Nat) (x2 : Int32) (kx0 : al.1 x0 = 5) (kx1 : al.1 x1 = 8) (r0 : Int32) (hm : X4_wrongBits al dt x0 x1 x2 = some r0) : q_Mt l yX4_wrongBits cX4_wrongBits 5 (some FieldType.int) 3 68 D al [.ref x0, .ref x1, .int x2] dt 0 (some (.int r0)) dt := by
  refine q_Mt.of (by decide) (Nat.le_of_ble_eq_true rfl) ?_
  intro p e s m args below meth c ls C hargs hW hl
  have hx := C.1
  have hb := C.2.1
  have hown := C.2.2.2.2.2.1
  have hts := C.2.2.2.2.2.2.1
  have hS : va_S (q_A al) s.heap s.heap [] := va_S.rf
  have hl : lv_has ls 5 [(0, .ref x0), (1, .ref x1), (2, .int x2)] := hl
  unfold X4_wrongBits at hm
  have hB5 : ∀ (x0_5 : Nat) (x1_5 : Nat) (x2_5 : Int32) (kx0_5 : al.1 x0_5 = 5) (kx1_5 : al.1 x1_5 = 8) (n_5 : Nat) (x3_5 : Int32) (x4_5 : Int32) (H : Heap) (locs : List Loc) (ls : Array Slot) (hm : X4_wrongBits_b5 al dt x0_5 x1_5 x2_5 n_5 x3_5 x4_5 = some r0) (hW : q_W D al dt H) (hS : va_S (q_A al) s.heap H locs) (hl : lv_has ls 5 [(0, .ref x0_5), (1, .ref x1_5), (2, .int x2_5), (3, .int x3_5), (4, .int x4_5)]), W p l e { frames := 3, cells := 0, slots := 0, locals := 68 } s m args below meth c H locs 0 0 (MQ below (q_Q (some (.int r0)) (fun H => q_W D al dt H ∧ q_Rk al 0 (some (.int r0))) (q_A al)) args s 0 0 (q_A al)) (F0 m 5 ls []) := by
    intro x0_5 x1_5 x2_5 kx0_5 kx1_5
    intro n_5
    induction n_5 with
    | zero => intro x3_5 x4_5 H locs ls hm hW hS hl; cases hm
    | succ n_5 ih5 =>
      intro x3_5 x4_5 H locs ls hm hW hS hl
      rw [X4_wrongBits_b5] at hm
      refine lv_iload hx hb dX4_wrongBits_5 (lv_at hl 4 rfl) ?_
      refine lv_iload_n hx hb dX4_wrongBits_7 rfl (lv_at hl 2 rfl) ?_
      refine q_ifc hm (fun c5001 hm => ?_) (fun c5001 hm => ?_)
      · refine lv_icmp_ge (tgt := 27) hx hb dX4_wrongBits_8 (by decide) (fun _ => ?_) (fun h => absurd c5001 h)
        refine lv_iload_n hx hb dX4_wrongBits_27 rfl (lv_at hl 3 rfl) ?_
        exact e_i C hW hS hm dX4_wrongBits_28
      refine lv_icmp_ge (tgt := 27) hx hb dX4_wrongBits_8 (by decide) (fun h => absurd h c5001) (fun _ => ?_)
      refine lv_iload_n hx hb dX4_wrongBits_11 rfl (lv_at hl 3 rfl) ?_
      refine lv_aload_n hx hb dX4_wrongBits_12 rfl (lv_at hl 0 rfl) ?_
      refine lv_aload_n hx hb dX4_wrongBits_13 rfl (lv_at hl 1 rfl) ?_
      refine lv_iload hx hb dX4_wrongBits_14 (lv_at hl 4 rfl) ?_
      obtain ⟨v5003, hc5002, hm⟩ := q_b1i hm
      refine q_callV C hW hS (As := [.ref x1_5, .int x4_5]) (rest := [.int x3_5]) (st1 := [.int v5003, .int x3_5]) (c_X4_wrongBit l D al dt x0_5 x1_5 x4_5 kx0_5 kx1_5 v5003 hc5002) yl_X4_wrongBit vl_X4_wrongBit ml_RX4_77 (ci := 4) rfl kx0_5 (by decide) rfl ⟨Nat.le_of_ble_eq_true rfl, Nat.le_of_ble_eq_true rfl⟩ hl rfl (Nat.le_of_ble_eq_true rfl) dX4_wrongBits_16 ⟨Nat.le_refl _, Nat.le_refl _⟩ rfl (fun H locs k5004 hW hS => ?_)
      refine lv_iadd hx hb dX4_wrongBits_19 ?_
      refine lv_istore_n (i := 3) (lv' := [(3, .int (x3_5 + v5003)), (0, .ref x0_5), (1, .ref x1_5), (2, .int x2_5), (4, .int x4_5)]) hx hb dX4_wrongBits_20 rfl hl (by decide) rfl (fun ls hl => ?_)
      refine lv_iinc (v := (x4_5 + 1)) (lv' := [(4, .int (x4_5 + 1)), (3, .int (x3_5 + v5003)), (0, .ref x0_5), (1, .ref x1_5), (2, .int x2_5)]) hx hb dX4_wrongBits_21 hl (k := 4) rfl rfl (by decide) rfl (fun ls hl => ?_)
      refine lv_goto (tgt := 5) hx hb dX4_wrongBits_24 (by decide) ?_
      exact ih5 (x3_5 + v5003) (x4_5 + 1) _ _ _ hm hW hS (lv_sub hl [2, 3, 4, 1, 0] rfl)
  refine lv_iconst (v := 0) hx hb dX4_wrongBits_0 (by decide) ?_
  refine lv_istore_n (i := 3) (lv' := [(3, .int 0), (0, .ref x0), (1, .ref x1), (2, .int x2)]) hx hb dX4_wrongBits_1 rfl hl (by decide) rfl (fun ls hl => ?_)
  refine lv_iconst (v := 0) hx hb dX4_wrongBits_2 (by decide) ?_
  refine lv_istore (i := 4) (lv' := [(4, .int 0), (3, .int 0), (0, .ref x0), (1, .ref x1), (2, .int x2)]) hx hb dX4_wrongBits_3 hl (by decide) rfl (fun ls hl => ?_)
  exact hB5 x0 x1 x2 kx0 kx1 q_FU 0 0 _ _ _ hm hW hS (lv_sub hl [2, 3, 4, 1, 0] rfl)
theorem dX4_joinedValue_0 : decode cX4_joinedValue 0 = .ok (.aload_n 1, 1) := by decide +kernel
theorem dX4_joinedValue_1 : decode cX4_joinedValue 1 = .ok (.iload_n 2, 1) := by decide +kernel
theorem dX4_joinedValue_2 : decode cX4_joinedValue 2 = .ok (.invokevirtual 53, 3) := by decide +kernel
theorem dX4_joinedValue_5 : decode cX4_joinedValue 5 = .ok (.istore_n 3, 1) := by decide +kernel
theorem dX4_joinedValue_6 : decode cX4_joinedValue 6 = .ok (.aload_n 0, 1) := by decide +kernel
theorem dX4_joinedValue_7 : decode cX4_joinedValue 7 = .ok (.iload_n 2, 1) := by decide +kernel
theorem dX4_joinedValue_8 : decode cX4_joinedValue 8 = .ok (.iload_n 3, 1) := by decide +kernel
theorem dX4_joinedValue_9 : decode cX4_joinedValue 9 = .ok (.invokevirtual 56, 3) := by decide +kernel
theorem dX4_joinedValue_12 : decode cX4_joinedValue 12 = .ok (.aload_n 1, 1) := by decide +kernel
theorem dX4_joinedValue_13 : decode cX4_joinedValue 13 = .ok (.getfield 85, 3) := by decide +kernel
theorem dX4_joinedValue_16 : decode cX4_joinedValue 16 = .ok (.i2l, 1) := by decide +kernel
theorem dX4_joinedValue_17 : decode cX4_joinedValue 17 = .ok (.lmul, 1) := by decide +kernel
theorem dX4_joinedValue_18 : decode cX4_joinedValue 18 = .ok (.lstore 4, 2) := by decide +kernel
theorem dX4_joinedValue_20 : decode cX4_joinedValue 20 = .ok (.iconst 0, 1) := by decide +kernel
theorem dX4_joinedValue_21 : decode cX4_joinedValue 21 = .ok (.istore 6, 2) := by decide +kernel
theorem dX4_joinedValue_23 : decode cX4_joinedValue 23 = .ok (.iload 6, 2) := by decide +kernel
theorem dX4_joinedValue_25 : decode cX4_joinedValue 25 = .ok (.aload_n 1, 1) := by decide +kernel
theorem dX4_joinedValue_26 : decode cX4_joinedValue 26 = .ok (.getfield 88, 3) := by decide +kernel
theorem dX4_joinedValue_29 : decode cX4_joinedValue 29 = .ok (.if_icmp .ge 40, 3) := by decide +kernel
theorem dX4_joinedValue_32 : decode cX4_joinedValue 32 = .ok (.lload 4, 2) := by decide +kernel
theorem dX4_joinedValue_34 : decode cX4_joinedValue 34 = .ok (.aload_n 0, 1) := by decide +kernel
theorem dX4_joinedValue_35 : decode cX4_joinedValue 35 = .ok (.iload_n 2, 1) := by decide +kernel
theorem dX4_joinedValue_36 : decode cX4_joinedValue 36 = .ok (.aload_n 1, 1) := by decide +kernel
theorem dX4_joinedValue_37 : decode cX4_joinedValue 37 = .ok (.getfield 91, 3) := by decide +kernel
theorem dX4_joinedValue_40 : decode cX4_joinedValue 40 = .ok (.iload 6, 2) := by decide +kernel
theorem dX4_joinedValue_42 : decode cX4_joinedValue 42 = .ok (.invokevirtual 94, 3) := by decide +kernel
theorem dX4_joinedValue_45 : decode cX4_joinedValue 45 = .ok (.iadd, 1) := by decide +kernel
theorem dX4_joinedValue_46 : decode cX4_joinedValue 46 = .ok (.iload_n 3, 1) := by decide +kernel
theorem dX4_joinedValue_47 : decode cX4_joinedValue 47 = .ok (.invokevirtual 56, 3) := by decide +kernel
theorem dX4_joinedValue_50 : decode cX4_joinedValue 50 = .ok (.aload_n 1, 1) := by decide +kernel
theorem dX4_joinedValue_51 : decode cX4_joinedValue 51 = .ok (.getfield 97, 3) := by decide +kernel
theorem dX4_joinedValue_54 : decode cX4_joinedValue 54 = .ok (.iload 6, 2) := by decide +kernel
theorem dX4_joinedValue_56 : decode cX4_joinedValue 56 = .ok (.invokevirtual 67, 3) := by decide +kernel
theorem dX4_joinedValue_59 : decode cX4_joinedValue 59 = .ok (.lmul, 1) := by decide +kernel
theorem dX4_joinedValue_60 : decode cX4_joinedValue 60 = .ok (.ladd, 1) := by decide +kernel
theorem dX4_joinedValue_61 : decode cX4_joinedValue 61 = .ok (.lstore 4, 2) := by decide +kernel
theorem dX4_joinedValue_63 : decode cX4_joinedValue 63 = .ok (.iinc 6 1, 3) := by decide +kernel
theorem dX4_joinedValue_66 : decode cX4_joinedValue 66 = .ok (.goto (-43), 3) := by decide +kernel
theorem dX4_joinedValue_69 : decode cX4_joinedValue 69 = .ok (.lload 4, 2) := by decide +kernel
theorem dX4_joinedValue_71 : decode cX4_joinedValue 71 = .ok (.lreturn, 1) := by decide +kernel
set_option maxRecDepth 100000 in
theorem c_X4_joinedValue (l : Launch) (D : q_D) (al : q_Al) (dt : q_Dt) (x0 : Nat) (x1 : Nat) (x2 : Int32) (kx0 : al.1 x0 = 9) (kx1 : al.1 x1 = 8) (r0 : Int64) (hm : X4_joinedValue al dt x0 x1 x2 = some r0) : q_Mt l yX4_joinedValue cX4_joinedValue 7 (some FieldType.long) 2 43 D al [.ref x0, .ref x1, .int x2] dt 0 (some (.long r0)) dt := by
  refine q_Mt.of (by decide) (Nat.le_of_ble_eq_true rfl) ?_
  intro p e s m args below meth c ls C hargs hW hl
  have hx := C.1
  have hb := C.2.1
  have hown := C.2.2.2.2.2.1
  have hts := C.2.2.2.2.2.2.1
  have hS : va_S (q_A al) s.heap s.heap [] := va_S.rf
  have hl : lv_has ls 7 [(0, .ref x0), (1, .ref x1), (2, .int x2)] := hl
  unfold X4_joinedValue at hm
  have hB23 : ∀ (x0_23 : Nat) (x1_23 : Nat) (x2_23 : Int32) (x3_23 : Int32) (kx0_23 : al.1 x0_23 = 9) (kx1_23 : al.1 x1_23 = 8) (n_23 : Nat) (x4_23 : Int64) (x6_23 : Int32) (H : Heap) (locs : List Loc) (ls : Array Slot) (hm : X4_joinedValue_b23 al dt x0_23 x1_23 x2_23 x3_23 n_23 x4_23 x6_23 = some r0) (hW : q_W D al dt H) (hS : va_S (q_A al) s.heap H locs) (hl : lv_has ls 7 [(0, .ref x0_23), (1, .ref x1_23), (2, .int x2_23), (3, .int x3_23), (4, .long x4_23), (6, .int x6_23)]), W p l e { frames := 2, cells := 0, slots := 0, locals := 43 } s m args below meth c H locs 0 0 (MQ below (q_Q (some (.long r0)) (fun H => q_W D al dt H ∧ q_Rk al 0 (some (.long r0))) (q_A al)) args s 0 0 (q_A al)) (F0 m 23 ls []) := by
    intro x0_23 x1_23 x2_23 x3_23 kx0_23 kx1_23
    intro n_23
    induction n_23 with
    | zero => intro x4_23 x6_23 H locs ls hm hW hS hl; cases hm
    | succ n_23 ih23 =>
      intro x4_23 x6_23 H locs ls hm hW hS hl
      rw [X4_joinedValue_b23] at hm
      refine lv_iload hx hb dX4_joinedValue_23 (lv_at hl 5 rfl) ?_
      refine lv_aload_n hx hb dX4_joinedValue_25 rfl (lv_at hl 1 rfl) ?_
      refine r_getI C hW (ci := 7) kx1_23 ff_7_3 cl_7 fl_RX4_88 dX4_joinedValue_26 ?_
      refine q_ifc hm (fun c23001 hm => ?_) (fun c23001 hm => ?_)
      · refine lv_icmp_ge (tgt := 69) hx hb dX4_joinedValue_29 (by decide) (fun _ => ?_) (fun h => absurd c23001 h)
        refine lv_lload hx hb dX4_joinedValue_69 (lv_at hl 4 rfl) ?_
        exact e_l C hW hS hm dX4_joinedValue_71
      refine lv_icmp_ge (tgt := 69) hx hb dX4_joinedValue_29 (by decide) (fun h => absurd h c23001) (fun _ => ?_)
      refine lv_lload hx hb dX4_joinedValue_32 (lv_at hl 4 rfl) ?_
      refine lv_aload_n hx hb dX4_joinedValue_34 rfl (lv_at hl 0 rfl) ?_
      refine lv_iload_n hx hb dX4_joinedValue_35 rfl (lv_at hl 2 rfl) ?_
      refine lv_aload_n hx hb dX4_joinedValue_36 rfl (lv_at hl 1 rfl) ?_
      refine r_getF C hW (ci := 7) kx1_23 ff_7_0 cl_7 fl_RX4_91 dX4_joinedValue_37 (fun k23002 => ?_)
      refine lv_iload hx hb dX4_joinedValue_40 (lv_at hl 5 rfl) ?_
      obtain ⟨v23004, hc23003, hm⟩ := q_b1i hm
      refine q_callV C hW hS (As := [.int x6_23]) (rest := [.int x2_23, .ref x0_23, .long x4_23]) (st1 := [.int v23004, .int x2_23, .ref x0_23, .long x4_23]) (c_X5_small l D al dt (al.2.2 x1_23 0) x6_23 k23002 v23004 hc23003) yl_X5_small vl_X5_small ml_RX4_94 (ci := 5) rfl k23002 (by decide) rfl ⟨Nat.le_of_ble_eq_true rfl, Nat.le_of_ble_eq_true rfl⟩ hl rfl (Nat.le_of_ble_eq_true rfl) dX4_joinedValue_42 ⟨Nat.le_refl _, Nat.le_refl _⟩ rfl (fun H locs k23005 hW hS => ?_)
      refine lv_iadd hx hb dX4_joinedValue_45 ?_
      refine lv_iload_n hx hb dX4_joinedValue_46 rfl (lv_at hl 3 rfl) ?_
      obtain ⟨v23007, hc23006, hm⟩ := q_b1i hm
      refine q_callV C hW hS (As := [.int (x2_23 + v23004), .int x3_23]) (rest := [.long x4_23]) (st1 := [.long v23007, .long x4_23]) (c_X8_value l D al dt x0_23 (x2_23 + v23004) x3_23 kx0_23 v23007 hc23006) yl_X8_value vl_X8_value ml_RX4_56 (ci := 8) rfl kx0_23 (by decide) rfl ⟨Nat.le_of_ble_eq_true rfl, Nat.le_of_ble_eq_true rfl⟩ hl rfl (Nat.le_of_ble_eq_true rfl) dX4_joinedValue_47 ⟨Nat.le_refl _, Nat.le_refl _⟩ rfl (fun H locs k23008 hW hS => ?_)
      refine lv_aload_n hx hb dX4_joinedValue_50 rfl (lv_at hl 1 rfl) ?_
      refine r_getF C hW (ci := 7) kx1_23 ff_7_1 cl_7 fl_RX4_97 dX4_joinedValue_51 (fun k23009 => ?_)
      refine lv_iload hx hb dX4_joinedValue_54 (lv_at hl 5 rfl) ?_
      obtain ⟨v23011, hc23010, hm⟩ := q_b1i hm
      refine q_callV C hW hS (As := [.int x6_23]) (rest := [.long v23007, .long x4_23]) (st1 := [.long v23011, .long v23007, .long x4_23]) (c_X5_at l D al dt (al.2.2 x1_23 1) x6_23 k23009 v23011 hc23010) yl_X5_at vl_X5_at ml_RX4_67 (ci := 5) rfl k23009 (by decide) rfl ⟨Nat.le_of_ble_eq_true rfl, Nat.le_of_ble_eq_true rfl⟩ hl rfl (Nat.le_of_ble_eq_true rfl) dX4_joinedValue_56 ⟨Nat.le_refl _, Nat.le_refl _⟩ rfl (fun H locs k23012 hW hS => ?_)
      refine lv_lmul hx hb dX4_joinedValue_59 ?_
      refine lv_ladd hx hb dX4_joinedValue_60 ?_
      refine lv_lstore (i := 4) (lv' := [(4, .long (x4_23 + (v23007 * v23011))), (0, .ref x0_23), (1, .ref x1_23), (2, .int x2_23), (3, .int x3_23), (6, .int x6_23)]) hx hb dX4_joinedValue_61 hl (by decide) rfl (fun ls hl => ?_)
      refine lv_iinc (v := (x6_23 + 1)) (lv' := [(6, .int (x6_23 + 1)), (4, .long (x4_23 + (v23007 * v23011))), (0, .ref x0_23), (1, .ref x1_23), (2, .int x2_23), (3, .int x3_23)]) hx hb dX4_joinedValue_63 hl (k := 5) rfl rfl (by decide) rfl (fun ls hl => ?_)
      refine lv_goto (tgt := 23) hx hb dX4_joinedValue_66 (by decide) ?_
      exact ih23 (x4_23 + (v23007 * v23011)) (x6_23 + 1) _ _ _ hm hW hS (lv_sub hl [2, 3, 4, 5, 1, 0] rfl)
  refine lv_aload_n hx hb dX4_joinedValue_0 rfl (lv_at hl 1 rfl) ?_
  refine lv_iload_n hx hb dX4_joinedValue_1 rfl (lv_at hl 2 rfl) ?_
  obtain ⟨v1000002, hc1000001, hm⟩ := q_b1i hm
  refine q_callV C hW hS (As := [.int x2]) (rest := []) (st1 := [.int v1000002]) (c_X7_axisAt l D al dt x1 x2 kx1 v1000002 hc1000001) yl_X7_axisAt vl_X7_axisAt ml_RX4_53 (ci := 7) rfl kx1 (by decide) rfl ⟨Nat.le_of_ble_eq_true rfl, Nat.le_of_ble_eq_true rfl⟩ hl rfl (Nat.le_of_ble_eq_true rfl) dX4_joinedValue_2 ⟨Nat.le_refl _, Nat.le_refl _⟩ rfl (fun H locs k1000003 hW hS => ?_)
  refine lv_istore_n (i := 3) (lv' := [(3, .int v1000002), (0, .ref x0), (1, .ref x1), (2, .int x2)]) hx hb dX4_joinedValue_5 rfl hl (by decide) rfl (fun ls hl => ?_)
  refine lv_aload_n hx hb dX4_joinedValue_6 rfl (lv_at hl 1 rfl) ?_
  refine lv_iload_n hx hb dX4_joinedValue_7 rfl (lv_at hl 3 rfl) ?_
  refine lv_iload_n hx hb dX4_joinedValue_8 rfl (lv_at hl 0 rfl) ?_
  obtain ⟨v1000005, hc1000004, hm⟩ := q_b1i hm
  refine q_callV C hW hS (As := [.int x2, .int v1000002]) (rest := []) (st1 := [.long v1000005]) (c_X8_value l D al dt x0 x2 v1000002 kx0 v1000005 hc1000004) yl_X8_value vl_X8_value ml_RX4_56 (ci := 8) rfl kx0 (by decide) rfl ⟨Nat.le_of_ble_eq_true rfl, Nat.le_of_ble_eq_true rfl⟩ hl rfl (Nat.le_of_ble_eq_true rfl) dX4_joinedValue_9 ⟨Nat.le_refl _, Nat.le_refl _⟩ rfl (fun H locs k1000006 hW hS => ?_)
  refine lv_aload_n hx hb dX4_joinedValue_12 rfl (lv_at hl 2 rfl) ?_
  refine r_getI C hW (ci := 7) kx1 ff_7_4 cl_7 fl_RX4_85 dX4_joinedValue_13 ?_
  refine lv_i2l (v := (Int32.toInt64 (dt.1 x1 4))) hx hb dX4_joinedValue_16 rfl ?_
  refine lv_lmul hx hb dX4_joinedValue_17 ?_
  refine lv_lstore (i := 4) (lv' := [(4, .long (v1000005 * (Int32.toInt64 (dt.1 x1 4)))), (3, .int v1000002), (0, .ref x0), (1, .ref x1), (2, .int x2)]) hx hb dX4_joinedValue_18 hl (by decide) rfl (fun ls hl => ?_)
  refine lv_iconst (v := 0) hx hb dX4_joinedValue_20 (by decide) ?_
  refine lv_istore (i := 6) (lv' := [(6, .int 0), (4, .long (v1000005 * (Int32.toInt64 (dt.1 x1 4)))), (3, .int v1000002), (0, .ref x0), (1, .ref x1), (2, .int x2)]) hx hb dX4_joinedValue_21 hl (by decide) rfl (fun ls hl => ?_)
  exact hB23 x0 x1 x2 v1000002 kx0 kx1 q_FU (v1000005 * (Int32.toInt64 (dt.1 x1 4))) 0 _ _ _ hm hW hS (lv_sub hl [3, 4, 5, 2, 1, 0] rfl)
