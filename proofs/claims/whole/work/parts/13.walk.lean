theorem dX3_refuse_0 : decode cX3_refuse 0 = .ok (.aload_n 0, 1) := by decide +kernel
theorem dX3_refuse_1 : decode cX3_refuse 1 = .ok (.getfield 40, 3) := by decide +kernel
theorem dX3_refuse_4 : decode cX3_refuse 4 = .ok (.ifCond .ne 13, 3) := by decide +kernel
theorem dX3_refuse_7 : decode cX3_refuse 7 = .ok (.aload_n 0, 1) := by decide +kernel
theorem dX3_refuse_8 : decode cX3_refuse 8 = .ok (.iload_n 1, 1) := by decide +kernel
theorem dX3_refuse_9 : decode cX3_refuse 9 = .ok (.putfield 40, 3) := by decide +kernel
theorem dX3_refuse_12 : decode cX3_refuse 12 = .ok (.aload_n 0, 1) := by decide +kernel
theorem dX3_refuse_13 : decode cX3_refuse 13 = .ok (.iload_n 2, 1) := by decide +kernel
theorem dX3_refuse_14 : decode cX3_refuse 14 = .ok (.putfield 43, 3) := by decide +kernel
theorem dX3_refuse_17 : decode cX3_refuse 17 = .ok (.return_, 1) := by decide +kernel
set_option maxRecDepth 100000 in
theorem c_X3_refuse (l : Launch) (D : q_D) (al : q_Al) (dt : q_Dt) (x0 : Nat) (x1 : Int32) (x2 : Int32) (kx0 : al.1 x0 = 4) (dt0 : q_Dt) (hm : X3_refuse al dt x0 x1 x2 = some dt0) : q_Mt l yX3_refuse cX3_refuse 3 (none) 0 0 D al [.ref x0, .int x1, .int x2] dt 0 none dt0 := by
  refine q_Mt.of (by decide) (Nat.le_of_ble_eq_true rfl) ?_
  intro p e s m args below meth c ls C hargs hW hl
  have hx := C.1
  have hb := C.2.1
  have hown := C.2.2.2.2.2.1
  have hts := C.2.2.2.2.2.2.1
  have hS : va_S (q_A al) s.heap s.heap [] := va_S.rf
  have hl : lv_has ls 3 [(0, .ref x0), (1, .int x1), (2, .int x2)] := hl
  unfold X3_refuse at hm
  refine lv_aload_n hx hb dX3_refuse_0 rfl (lv_at hl 0 rfl) ?_
  refine r_getI C hW (ci := 3) kx0 ff_3_6 cl_3 fl_RX3_40 dX3_refuse_1 ?_
  refine q_ifc hm (fun c1000001 hm => ?_) (fun c1000001 hm => ?_)
  · refine lv_if_ne (tgt := 17) hx hb dX3_refuse_4 (by decide) (fun h => absurd c1000001 h) (fun _ => ?_)
    refine lv_aload_n hx hb dX3_refuse_7 rfl (lv_at hl 0 rfl) ?_
    refine lv_iload_n hx hb dX3_refuse_8 rfl (lv_at hl 1 rfl) ?_
    refine r_putI C hW hS hm (ci := 3) kx0 ff_3_6 cl_3 fl_RX3_40 (nf_3_6) rfl dX3_refuse_9 (fun dt1000002 H locs hm hW hS => ?_)
    refine lv_aload_n hx hb dX3_refuse_12 rfl (lv_at hl 0 rfl) ?_
    refine lv_iload_n hx hb dX3_refuse_13 rfl (lv_at hl 2 rfl) ?_
    refine r_putI C hW hS hm (ci := 3) kx0 ff_3_7 cl_3 fl_RX3_43 (nf_3_7) rfl dX3_refuse_14 (fun dt1000003 H locs hm hW hS => ?_)
    exact e_vD C hW hS hm dX3_refuse_17
  refine lv_if_ne (tgt := 17) hx hb dX3_refuse_4 (by decide) (fun _ => ?_) (fun h => absurd h c1000001)
  exact e_vD C hW hS hm dX3_refuse_17
theorem dX3_newName_0 : decode cX3_newName 0 = .ok (.aload_n 0, 1) := by decide +kernel
theorem dX3_newName_1 : decode cX3_newName 1 = .ok (.getfield 12, 3) := by decide +kernel
theorem dX3_newName_4 : decode cX3_newName 4 = .ok (.getfield 57, 3) := by decide +kernel
theorem dX3_newName_7 : decode cX3_newName 7 = .ok (.aload_n 0, 1) := by decide +kernel
theorem dX3_newName_8 : decode cX3_newName 8 = .ok (.getfield 37, 3) := by decide +kernel
theorem dX3_newName_11 : decode cX3_newName 11 = .ok (.invokevirtual 106, 3) := by decide +kernel
theorem dX3_newName_14 : decode cX3_newName 14 = .ok (.lstore_n 3, 1) := by decide +kernel
theorem dX3_newName_15 : decode cX3_newName 15 = .ok (.aload_n 0, 1) := by decide +kernel
theorem dX3_newName_16 : decode cX3_newName 16 = .ok (.lload_n 3, 1) := by decide +kernel
theorem dX3_newName_17 : decode cX3_newName 17 = .ok (.invokevirtual 116, 3) := by decide +kernel
theorem dX3_newName_20 : decode cX3_newName 20 = .ok (.iconst (-1), 1) := by decide +kernel
theorem dX3_newName_21 : decode cX3_newName 21 = .ok (.if_icmp .eq 22, 3) := by decide +kernel
theorem dX3_newName_24 : decode cX3_newName 24 = .ok (.aload_n 0, 1) := by decide +kernel
theorem dX3_newName_25 : decode cX3_newName 25 = .ok (.iconst 3, 1) := by decide +kernel
theorem dX3_newName_26 : decode cX3_newName 26 = .ok (.aload_n 0, 1) := by decide +kernel
theorem dX3_newName_27 : decode cX3_newName 27 = .ok (.getfield 12, 3) := by decide +kernel
theorem dX3_newName_30 : decode cX3_newName 30 = .ok (.getfield 109, 3) := by decide +kernel
theorem dX3_newName_33 : decode cX3_newName 33 = .ok (.aload_n 0, 1) := by decide +kernel
theorem dX3_newName_34 : decode cX3_newName 34 = .ok (.getfield 37, 3) := by decide +kernel
theorem dX3_newName_37 : decode cX3_newName 37 = .ok (.invokevirtual 60, 3) := by decide +kernel
theorem dX3_newName_40 : decode cX3_newName 40 = .ok (.invokevirtual 112, 3) := by decide +kernel
theorem dX3_newName_43 : decode cX3_newName 43 = .ok (.aload_n 0, 1) := by decide +kernel
theorem dX3_newName_44 : decode cX3_newName 44 = .ok (.getfield 23, 3) := by decide +kernel
theorem dX3_newName_47 : decode cX3_newName 47 = .ok (.aload_n 0, 1) := by decide +kernel
theorem dX3_newName_48 : decode cX3_newName 48 = .ok (.getfield 33, 3) := by decide +kernel
theorem dX3_newName_51 : decode cX3_newName 51 = .ok (.lload_n 3, 1) := by decide +kernel
theorem dX3_newName_52 : decode cX3_newName 52 = .ok (.invokevirtual 120, 3) := by decide +kernel
theorem dX3_newName_55 : decode cX3_newName 55 = .ok (.aload_n 0, 1) := by decide +kernel
theorem dX3_newName_56 : decode cX3_newName 56 = .ok (.getfield 27, 3) := by decide +kernel
theorem dX3_newName_59 : decode cX3_newName 59 = .ok (.aload_n 0, 1) := by decide +kernel
theorem dX3_newName_60 : decode cX3_newName 60 = .ok (.getfield 33, 3) := by decide +kernel
theorem dX3_newName_63 : decode cX3_newName 63 = .ok (.iload_n 1, 1) := by decide +kernel
theorem dX3_newName_64 : decode cX3_newName 64 = .ok (.i2l, 1) := by decide +kernel
theorem dX3_newName_65 : decode cX3_newName 65 = .ok (.invokevirtual 120, 3) := by decide +kernel
theorem dX3_newName_68 : decode cX3_newName 68 = .ok (.aload_n 0, 1) := by decide +kernel
theorem dX3_newName_69 : decode cX3_newName 69 = .ok (.getfield 30, 3) := by decide +kernel
theorem dX3_newName_72 : decode cX3_newName 72 = .ok (.aload_n 0, 1) := by decide +kernel
theorem dX3_newName_73 : decode cX3_newName 73 = .ok (.getfield 33, 3) := by decide +kernel
theorem dX3_newName_76 : decode cX3_newName 76 = .ok (.iload_n 2, 1) := by decide +kernel
theorem dX3_newName_77 : decode cX3_newName 77 = .ok (.i2l, 1) := by decide +kernel
theorem dX3_newName_78 : decode cX3_newName 78 = .ok (.invokevirtual 120, 3) := by decide +kernel
theorem dX3_newName_81 : decode cX3_newName 81 = .ok (.aload_n 0, 1) := by decide +kernel
theorem dX3_newName_82 : decode cX3_newName 82 = .ok (.dup, 1) := by decide +kernel
theorem dX3_newName_83 : decode cX3_newName 83 = .ok (.getfield 33, 3) := by decide +kernel
theorem dX3_newName_86 : decode cX3_newName 86 = .ok (.iconst 1, 1) := by decide +kernel
theorem dX3_newName_87 : decode cX3_newName 87 = .ok (.iadd, 1) := by decide +kernel
theorem dX3_newName_88 : decode cX3_newName 88 = .ok (.putfield 33, 3) := by decide +kernel
theorem dX3_newName_91 : decode cX3_newName 91 = .ok (.aload_n 0, 1) := by decide +kernel
theorem dX3_newName_92 : decode cX3_newName 92 = .ok (.dup, 1) := by decide +kernel
theorem dX3_newName_93 : decode cX3_newName 93 = .ok (.getfield 37, 3) := by decide +kernel
theorem dX3_newName_96 : decode cX3_newName 96 = .ok (.iconst 1, 1) := by decide +kernel
theorem dX3_newName_97 : decode cX3_newName 97 = .ok (.iadd, 1) := by decide +kernel
theorem dX3_newName_98 : decode cX3_newName 98 = .ok (.putfield 37, 3) := by decide +kernel
theorem dX3_newName_101 : decode cX3_newName 101 = .ok (.return_, 1) := by decide +kernel
set_option maxRecDepth 100000 in
theorem c_X3_newName (l : Launch) (D : q_D) (al : q_Al) (dt : q_Dt) (x0 : Nat) (x1 : Int32) (x2 : Int32) (kx0 : al.1 x0 = 4) (dt0 : q_Dt) (hm : X3_newName al dt x0 x1 x2 = some dt0) : q_Mt l yX3_newName cX3_newName 5 (none) 2 44 D al [.ref x0, .int x1, .int x2] dt 0 none dt0 := by
  refine q_Mt.of (by decide) (Nat.le_of_ble_eq_true rfl) ?_
  intro p e s m args below meth c ls C hargs hW hl
  have hx := C.1
  have hb := C.2.1
  have hown := C.2.2.2.2.2.1
  have hts := C.2.2.2.2.2.2.1
  have hS : va_S (q_A al) s.heap s.heap [] := va_S.rf
  have hl : lv_has ls 5 [(0, .ref x0), (1, .int x1), (2, .int x2)] := hl
  unfold X3_newName at hm
  have hB43 : ∀ (x0_43 : Nat) (x1_43 : Int32) (x2_43 : Int32) (x3_43 : Int64) (kx0_43 : al.1 x0_43 = 4) (dt : q_Dt) (H : Heap) (locs : List Loc) (ls : Array Slot) (hm : X3_newName_b43 al x0_43 x1_43 x2_43 x3_43 dt = some dt0) (hW : q_W D al dt H) (hS : va_S (q_A al) s.heap H locs) (hl : lv_has ls 5 [(0, .ref x0_43), (1, .int x1_43), (2, .int x2_43), (3, .long x3_43)]), W p l e { frames := 2, cells := 0, slots := 0, locals := 44 } s m args below meth c H locs 0 0 (MQ below (q_Q none (fun H => q_W D al dt0 H ∧ q_Rk al 0 none) (q_A al)) args s 0 0 (q_A al)) (F0 m 43 ls []) := by
    intro x0_43 x1_43 x2_43 x3_43 kx0_43 dt H locs ls hm hW hS hl
    unfold X3_newName_b43 at hm
    refine lv_aload_n hx hb dX3_newName_43 rfl (lv_at hl 0 rfl) ?_
    refine r_getF C hW (ci := 3) kx0_43 ff_3_1 cl_3 fl_RX3_23 dX3_newName_44 (fun k43001 => ?_)
    refine lv_aload_n hx hb dX3_newName_47 rfl (lv_at hl 0 rfl) ?_
    refine r_getI C hW (ci := 3) kx0_43 ff_3_4 cl_3 fl_RX3_33 dX3_newName_48 ?_
    refine lv_lload_n hx hb dX3_newName_51 rfl (lv_at hl 3 rfl) ?_
    obtain ⟨dt43003, hc43002, hm⟩ := q_b1i hm
    refine q_callV C hW hS (As := [.int (dt.1 x0_43 4), .long x3_43]) (rest := []) (st1 := []) (c_X5_put l D al dt (al.2.2 x0_43 1) (dt.1 x0_43 4) x3_43 k43001 dt43003 hc43002) yl_X5_put vl_X5_put ml_RX3_120 (ci := 5) rfl k43001 (by decide) rfl ⟨Nat.le_of_ble_eq_true rfl, Nat.le_of_ble_eq_true rfl⟩ hl rfl (Nat.le_of_ble_eq_true rfl) dX3_newName_52 ⟨Nat.le_refl _, Nat.le_refl _⟩ rfl (fun H locs k43004 hW hS => ?_)
    refine lv_aload_n hx hb dX3_newName_55 rfl (lv_at hl 0 rfl) ?_
    refine r_getF C hW (ci := 3) kx0_43 ff_3_2 cl_3 fl_RX3_27 dX3_newName_56 (fun k43005 => ?_)
    refine lv_aload_n hx hb dX3_newName_59 rfl (lv_at hl 0 rfl) ?_
    refine r_getI C hW (ci := 3) kx0_43 ff_3_4 cl_3 fl_RX3_33 dX3_newName_60 ?_
    refine lv_iload_n hx hb dX3_newName_63 rfl (lv_at hl 1 rfl) ?_
    refine lv_i2l (v := (Int32.toInt64 x1_43)) hx hb dX3_newName_64 rfl ?_
    obtain ⟨dt43007, hc43006, hm⟩ := q_b1i hm
    refine q_callV C hW hS (As := [.int (dt43003.1 x0_43 4), .long (Int32.toInt64 x1_43)]) (rest := []) (st1 := []) (c_X5_put l D al dt43003 (al.2.2 x0_43 2) (dt43003.1 x0_43 4) (Int32.toInt64 x1_43) k43005 dt43007 hc43006) yl_X5_put vl_X5_put ml_RX3_120 (ci := 5) rfl k43005 (by decide) rfl ⟨Nat.le_of_ble_eq_true rfl, Nat.le_of_ble_eq_true rfl⟩ hl rfl (Nat.le_of_ble_eq_true rfl) dX3_newName_65 ⟨Nat.le_refl _, Nat.le_refl _⟩ rfl (fun H locs k43008 hW hS => ?_)
    refine lv_aload_n hx hb dX3_newName_68 rfl (lv_at hl 0 rfl) ?_
    refine r_getF C hW (ci := 3) kx0_43 ff_3_3 cl_3 fl_RX3_30 dX3_newName_69 (fun k43009 => ?_)
    refine lv_aload_n hx hb dX3_newName_72 rfl (lv_at hl 0 rfl) ?_
    refine r_getI C hW (ci := 3) kx0_43 ff_3_4 cl_3 fl_RX3_33 dX3_newName_73 ?_
    refine lv_iload_n hx hb dX3_newName_76 rfl (lv_at hl 2 rfl) ?_
    refine lv_i2l (v := (Int32.toInt64 x2_43)) hx hb dX3_newName_77 rfl ?_
    obtain ⟨dt43011, hc43010, hm⟩ := q_b1i hm
    refine q_callV C hW hS (As := [.int (dt43007.1 x0_43 4), .long (Int32.toInt64 x2_43)]) (rest := []) (st1 := []) (c_X5_put l D al dt43007 (al.2.2 x0_43 3) (dt43007.1 x0_43 4) (Int32.toInt64 x2_43) k43009 dt43011 hc43010) yl_X5_put vl_X5_put ml_RX3_120 (ci := 5) rfl k43009 (by decide) rfl ⟨Nat.le_of_ble_eq_true rfl, Nat.le_of_ble_eq_true rfl⟩ hl rfl (Nat.le_of_ble_eq_true rfl) dX3_newName_78 ⟨Nat.le_refl _, Nat.le_refl _⟩ rfl (fun H locs k43012 hW hS => ?_)
    refine lv_aload_n hx hb dX3_newName_81 rfl (lv_at hl 0 rfl) ?_
    refine lv_dup hx hb dX3_newName_82 rfl ?_
    refine r_getI C hW (ci := 3) kx0_43 ff_3_4 cl_3 fl_RX3_33 dX3_newName_83 ?_
    refine lv_iconst (v := 1) hx hb dX3_newName_86 (by decide) ?_
    refine lv_iadd hx hb dX3_newName_87 ?_
    refine r_putI C hW hS hm (ci := 3) kx0_43 ff_3_4 cl_3 fl_RX3_33 (nf_3_4) rfl dX3_newName_88 (fun dt43013 H locs hm hW hS => ?_)
    refine lv_aload_n hx hb dX3_newName_91 rfl (lv_at hl 0 rfl) ?_
    refine lv_dup hx hb dX3_newName_92 rfl ?_
    refine r_getI C hW (ci := 3) kx0_43 ff_3_5 cl_3 fl_RX3_37 dX3_newName_93 ?_
    refine lv_iconst (v := 1) hx hb dX3_newName_96 (by decide) ?_
    refine lv_iadd hx hb dX3_newName_97 ?_
    refine r_putI C hW hS hm (ci := 3) kx0_43 ff_3_5 cl_3 fl_RX3_37 (nf_3_5) rfl dX3_newName_98 (fun dt43014 H locs hm hW hS => ?_)
    exact e_vD C hW hS hm dX3_newName_101
  refine lv_aload_n hx hb dX3_newName_0 rfl (lv_at hl 0 rfl) ?_
  refine r_getF C hW (ci := 3) kx0 ff_3_0 cl_3 fl_RX3_12 dX3_newName_1 (fun k1000001 => ?_)
  refine r_getF C hW (ci := 9) k1000001 ff_9_3 cl_9 fl_RX3_57 dX3_newName_4 (fun k1000002 => ?_)
  refine lv_aload_n hx hb dX3_newName_7 rfl (lv_at hl 0 rfl) ?_
  refine r_getI C hW (ci := 3) kx0 ff_3_5 cl_3 fl_RX3_37 dX3_newName_8 ?_
  obtain ⟨v1000004, hc1000003, hm⟩ := q_b1i hm
  refine q_callV C hW hS (As := [.int (dt.1 x0 5)]) (rest := []) (st1 := [.long v1000004]) (c_X5_at l D al dt (al.2.2 (al.2.2 x0 0) 3) (dt.1 x0 5) k1000002 v1000004 hc1000003) yl_X5_at vl_X5_at ml_RX3_106 (ci := 5) rfl k1000002 (by decide) rfl ⟨Nat.le_of_ble_eq_true rfl, Nat.le_of_ble_eq_true rfl⟩ hl rfl (Nat.le_of_ble_eq_true rfl) dX3_newName_11 ⟨Nat.le_refl _, Nat.le_refl _⟩ rfl (fun H locs k1000005 hW hS => ?_)
  refine lv_lstore_n (i := 3) (lv' := [(3, .long v1000004), (0, .ref x0), (1, .int x1), (2, .int x2)]) hx hb dX3_newName_14 rfl hl (by decide) rfl (fun ls hl => ?_)
  refine lv_aload_n hx hb dX3_newName_15 rfl (lv_at hl 1 rfl) ?_
  refine lv_lload_n hx hb dX3_newName_16 rfl (lv_at hl 0 rfl) ?_
  obtain ⟨v1000007, hc1000006, hm⟩ := q_b1i hm
  refine q_callV C hW hS (As := [.long v1000004]) (rest := []) (st1 := [.int v1000007]) (c_X3_nameIndex l D al dt x0 v1000004 kx0 v1000007 hc1000006) yl_X3_nameIndex vl_X3_nameIndex ml_RX3_116 (ci := 3) rfl kx0 (by decide) rfl ⟨Nat.le_of_ble_eq_true rfl, Nat.le_of_ble_eq_true rfl⟩ hl rfl (Nat.le_of_ble_eq_true rfl) dX3_newName_17 ⟨Nat.le_refl _, Nat.le_refl _⟩ rfl (fun H locs k1000008 hW hS => ?_)
  refine lv_iconst (v := (-1)) hx hb dX3_newName_20 (by decide) ?_
  refine q_ifc hm (fun c1000009 hm => ?_) (fun c1000009 hm => ?_)
  · refine lv_icmp_eq (tgt := 43) hx hb dX3_newName_21 (by decide) (fun _ => ?_) (fun h => absurd c1000009 h)
    exact hB43 x0 x1 x2 v1000004 kx0 dt _ _ _ hm hW hS (lv_sub hl [1, 2, 3, 0] rfl)
  refine lv_icmp_eq (tgt := 43) hx hb dX3_newName_21 (by decide) (fun h => absurd h c1000009) (fun _ => ?_)
  refine lv_aload_n hx hb dX3_newName_24 rfl (lv_at hl 1 rfl) ?_
  refine lv_iconst (v := 3) hx hb dX3_newName_25 (by decide) ?_
  refine lv_aload_n hx hb dX3_newName_26 rfl (lv_at hl 1 rfl) ?_
  refine r_getF C hW (ci := 3) kx0 ff_3_0 cl_3 fl_RX3_12 dX3_newName_27 (fun k1000010 => ?_)
  refine r_getF C hW (ci := 9) k1000010 ff_9_2 cl_9 fl_RX3_109 dX3_newName_30 (fun k1000011 => ?_)
  refine lv_aload_n hx hb dX3_newName_33 rfl (lv_at hl 1 rfl) ?_
  refine r_getI C hW (ci := 3) kx0 ff_3_5 cl_3 fl_RX3_37 dX3_newName_34 ?_
  obtain ⟨v1000013, hc1000012, hm⟩ := q_b1i hm
  refine q_callV C hW hS (As := [.int (dt.1 x0 5)]) (rest := [.int 3, .ref x0]) (st1 := [.int v1000013, .int 3, .ref x0]) (c_X5_small l D al dt (al.2.2 (al.2.2 x0 0) 2) (dt.1 x0 5) k1000011 v1000013 hc1000012) yl_X5_small vl_X5_small ml_RX3_60 (ci := 5) rfl k1000011 (by decide) rfl ⟨Nat.le_of_ble_eq_true rfl, Nat.le_of_ble_eq_true rfl⟩ hl rfl (Nat.le_of_ble_eq_true rfl) dX3_newName_37 ⟨Nat.le_refl _, Nat.le_refl _⟩ rfl (fun H locs k1000014 hW hS => ?_)
  obtain ⟨dt1000016, hc1000015, hm⟩ := q_b1i hm
  refine q_callV C hW hS (As := [.int 3, .int v1000013]) (rest := []) (st1 := []) (c_X3_refuse l D al dt x0 3 v1000013 kx0 dt1000016 hc1000015) yl_X3_refuse vl_X3_refuse ml_RX3_112 (ci := 3) rfl kx0 (by decide) rfl ⟨Nat.le_of_ble_eq_true rfl, Nat.le_of_ble_eq_true rfl⟩ hl rfl (Nat.le_of_ble_eq_true rfl) dX3_newName_40 ⟨Nat.le_refl _, Nat.le_refl _⟩ rfl (fun H locs k1000017 hW hS => ?_)
  exact hB43 x0 x1 x2 v1000004 kx0 dt1000016 _ _ _ hm hW hS (lv_sub hl [1, 2, 3, 0] rfl)
theorem dX3_number_0 : decode cX3_number 0 = .ok (.aload_n 0, 1) := by decide +kernel
theorem dX3_number_1 : decode cX3_number 1 = .ok (.getfield 12, 3) := by decide +kernel
theorem dX3_number_4 : decode cX3_number 4 = .ok (.getfield 57, 3) := by decide +kernel
theorem dX3_number_7 : decode cX3_number 7 = .ok (.aload_n 0, 1) := by decide +kernel
theorem dX3_number_8 : decode cX3_number 8 = .ok (.getfield 37, 3) := by decide +kernel
theorem dX3_number_11 : decode cX3_number 11 = .ok (.invokevirtual 106, 3) := by decide +kernel
theorem dX3_number_14 : decode cX3_number 14 = .ok (.lstore_n 3, 1) := by decide +kernel
theorem dX3_number_15 : decode cX3_number 15 = .ok (.lload_n 3, 1) := by decide +kernel
theorem dX3_number_16 : decode cX3_number 16 = .ok (.iload_n 1, 1) := by decide +kernel
theorem dX3_number_17 : decode cX3_number 17 = .ok (.i2l, 1) := by decide +kernel
theorem dX3_number_18 : decode cX3_number 18 = .ok (.lcmp, 1) := by decide +kernel
theorem dX3_number_19 : decode cX3_number 19 = .ok (.ifCond .lt 10, 3) := by decide +kernel
theorem dX3_number_22 : decode cX3_number 22 = .ok (.lload_n 3, 1) := by decide +kernel
theorem dX3_number_23 : decode cX3_number 23 = .ok (.iload_n 2, 1) := by decide +kernel
theorem dX3_number_24 : decode cX3_number 24 = .ok (.i2l, 1) := by decide +kernel
theorem dX3_number_25 : decode cX3_number 25 = .ok (.lcmp, 1) := by decide +kernel
theorem dX3_number_26 : decode cX3_number 26 = .ok (.ifCond .le 25, 3) := by decide +kernel
theorem dX3_number_29 : decode cX3_number 29 = .ok (.aload_n 0, 1) := by decide +kernel
theorem dX3_number_30 : decode cX3_number 30 = .ok (.iconst 5, 1) := by decide +kernel
theorem dX3_number_31 : decode cX3_number 31 = .ok (.aload_n 0, 1) := by decide +kernel
theorem dX3_number_32 : decode cX3_number 32 = .ok (.getfield 12, 3) := by decide +kernel
theorem dX3_number_35 : decode cX3_number 35 = .ok (.getfield 109, 3) := by decide +kernel
theorem dX3_number_38 : decode cX3_number 38 = .ok (.aload_n 0, 1) := by decide +kernel
theorem dX3_number_39 : decode cX3_number 39 = .ok (.getfield 37, 3) := by decide +kernel
theorem dX3_number_42 : decode cX3_number 42 = .ok (.invokevirtual 60, 3) := by decide +kernel
theorem dX3_number_45 : decode cX3_number 45 = .ok (.invokevirtual 112, 3) := by decide +kernel
theorem dX3_number_48 : decode cX3_number 48 = .ok (.iload_n 1, 1) := by decide +kernel
theorem dX3_number_49 : decode cX3_number 49 = .ok (.i2l, 1) := by decide +kernel
theorem dX3_number_50 : decode cX3_number 50 = .ok (.lstore_n 3, 1) := by decide +kernel
theorem dX3_number_51 : decode cX3_number 51 = .ok (.aload_n 0, 1) := by decide +kernel
theorem dX3_number_52 : decode cX3_number 52 = .ok (.dup, 1) := by decide +kernel
theorem dX3_number_53 : decode cX3_number 53 = .ok (.getfield 37, 3) := by decide +kernel
theorem dX3_number_56 : decode cX3_number 56 = .ok (.iconst 1, 1) := by decide +kernel
theorem dX3_number_57 : decode cX3_number 57 = .ok (.iadd, 1) := by decide +kernel
theorem dX3_number_58 : decode cX3_number 58 = .ok (.putfield 37, 3) := by decide +kernel
theorem dX3_number_61 : decode cX3_number 61 = .ok (.lload_n 3, 1) := by decide +kernel
theorem dX3_number_62 : decode cX3_number 62 = .ok (.l2i, 1) := by decide +kernel
theorem dX3_number_63 : decode cX3_number 63 = .ok (.ireturn, 1) := by decide +kernel
set_option maxRecDepth 100000 in
theorem c_X3_number (l : Launch) (D : q_D) (al : q_Al) (dt : q_Dt) (x0 : Nat) (x1 : Int32) (x2 : Int32) (kx0 : al.1 x0 = 4) (r0 : Int32) (dt0 : q_Dt) (hm : X3_number al dt x0 x1 x2 = some (r0, dt0)) : q_Mt l yX3_number cX3_number 5 (some FieldType.int) 1 22 D al [.ref x0, .int x1, .int x2] dt 0 (some (.int r0)) dt0 := by
  refine q_Mt.of (by decide) (Nat.le_of_ble_eq_true rfl) ?_
  intro p e s m args below meth c ls C hargs hW hl
  have hx := C.1
  have hb := C.2.1
  have hown := C.2.2.2.2.2.1
  have hts := C.2.2.2.2.2.2.1
  have hS : va_S (q_A al) s.heap s.heap [] := va_S.rf
  have hl : lv_has ls 5 [(0, .ref x0), (1, .int x1), (2, .int x2)] := hl
  unfold X3_number at hm
  have hB51 : ∀ (x0_51 : Nat) (x3_51 : Int64) (kx0_51 : al.1 x0_51 = 4) (dt : q_Dt) (H : Heap) (locs : List Loc) (ls : Array Slot) (hm : X3_number_b51 al x0_51 x3_51 dt = some (r0, dt0)) (hW : q_W D al dt H) (hS : va_S (q_A al) s.heap H locs) (hl : lv_has ls 5 [(0, .ref x0_51), (3, .long x3_51)]), W p l e { frames := 1, cells := 0, slots := 0, locals := 22 } s m args below meth c H locs 0 0 (MQ below (q_Q (some (.int r0)) (fun H => q_W D al dt0 H ∧ q_Rk al 0 (some (.int r0))) (q_A al)) args s 0 0 (q_A al)) (F0 m 51 ls []) := by
    intro x0_51 x3_51 kx0_51 dt H locs ls hm hW hS hl
    unfold X3_number_b51 at hm
    refine lv_aload_n hx hb dX3_number_51 rfl (lv_at hl 0 rfl) ?_
    refine lv_dup hx hb dX3_number_52 rfl ?_
    refine r_getI C hW (ci := 3) kx0_51 ff_3_5 cl_3 fl_RX3_37 dX3_number_53 ?_
    refine lv_iconst (v := 1) hx hb dX3_number_56 (by decide) ?_
    refine lv_iadd hx hb dX3_number_57 ?_
    refine r_putI C hW hS hm (ci := 3) kx0_51 ff_3_5 cl_3 fl_RX3_37 (nf_3_5) rfl dX3_number_58 (fun dt51001 H locs hm hW hS => ?_)
    refine lv_lload_n hx hb dX3_number_61 rfl (lv_at hl 1 rfl) ?_
    refine lv_l2i (v := (Int64.toInt32 x3_51)) hx hb dX3_number_62 rfl ?_
    exact e_iD C hW hS hm dX3_number_63
  have hB29 : ∀ (x0_29 : Nat) (x1_29 : Int32) (kx0_29 : al.1 x0_29 = 4) (dt : q_Dt) (H : Heap) (locs : List Loc) (ls : Array Slot) (hm : X3_number_b29 al x0_29 x1_29 dt = some (r0, dt0)) (hW : q_W D al dt H) (hS : va_S (q_A al) s.heap H locs) (hl : lv_has ls 5 [(0, .ref x0_29), (1, .int x1_29)]), W p l e { frames := 1, cells := 0, slots := 0, locals := 22 } s m args below meth c H locs 0 0 (MQ below (q_Q (some (.int r0)) (fun H => q_W D al dt0 H ∧ q_Rk al 0 (some (.int r0))) (q_A al)) args s 0 0 (q_A al)) (F0 m 29 ls []) := by
    intro x0_29 x1_29 kx0_29 dt H locs ls hm hW hS hl
    unfold X3_number_b29 at hm
    refine lv_aload_n hx hb dX3_number_29 rfl (lv_at hl 0 rfl) ?_
    refine lv_iconst (v := 5) hx hb dX3_number_30 (by decide) ?_
    refine lv_aload_n hx hb dX3_number_31 rfl (lv_at hl 0 rfl) ?_
    refine r_getF C hW (ci := 3) kx0_29 ff_3_0 cl_3 fl_RX3_12 dX3_number_32 (fun k29001 => ?_)
    refine r_getF C hW (ci := 9) k29001 ff_9_2 cl_9 fl_RX3_109 dX3_number_35 (fun k29002 => ?_)
    refine lv_aload_n hx hb dX3_number_38 rfl (lv_at hl 0 rfl) ?_
    refine r_getI C hW (ci := 3) kx0_29 ff_3_5 cl_3 fl_RX3_37 dX3_number_39 ?_
    obtain ⟨v29004, hc29003, hm⟩ := q_b1i hm
    refine q_callV C hW hS (As := [.int (dt.1 x0_29 5)]) (rest := [.int 5, .ref x0_29]) (st1 := [.int v29004, .int 5, .ref x0_29]) (c_X5_small l D al dt (al.2.2 (al.2.2 x0_29 0) 2) (dt.1 x0_29 5) k29002 v29004 hc29003) yl_X5_small vl_X5_small ml_RX3_60 (ci := 5) rfl k29002 (by decide) rfl ⟨Nat.le_of_ble_eq_true rfl, Nat.le_of_ble_eq_true rfl⟩ hl rfl (Nat.le_of_ble_eq_true rfl) dX3_number_42 ⟨Nat.le_refl _, Nat.le_refl _⟩ rfl (fun H locs k29005 hW hS => ?_)
    obtain ⟨dt29007, hc29006, hm⟩ := q_b1i hm
    refine q_callV C hW hS (As := [.int 5, .int v29004]) (rest := []) (st1 := []) (c_X3_refuse l D al dt x0_29 5 v29004 kx0_29 dt29007 hc29006) yl_X3_refuse vl_X3_refuse ml_RX3_112 (ci := 3) rfl kx0_29 (by decide) rfl ⟨Nat.le_of_ble_eq_true rfl, Nat.le_of_ble_eq_true rfl⟩ hl rfl (Nat.le_of_ble_eq_true rfl) dX3_number_45 ⟨Nat.le_refl _, Nat.le_refl _⟩ rfl (fun H locs k29008 hW hS => ?_)
    refine lv_iload_n hx hb dX3_number_48 rfl (lv_at hl 1 rfl) ?_
    refine lv_i2l (v := (Int32.toInt64 x1_29)) hx hb dX3_number_49 rfl ?_
    refine lv_lstore_n (i := 3) (lv' := [(3, .long (Int32.toInt64 x1_29)), (0, .ref x0_29), (1, .int x1_29)]) hx hb dX3_number_50 rfl hl (by decide) rfl (fun ls hl => ?_)
    exact hB51 x0_29 (Int32.toInt64 x1_29) kx0_29 dt29007 _ _ _ hm hW hS (lv_sub hl [1, 0] rfl)
  refine lv_aload_n hx hb dX3_number_0 rfl (lv_at hl 0 rfl) ?_
  refine r_getF C hW (ci := 3) kx0 ff_3_0 cl_3 fl_RX3_12 dX3_number_1 (fun k1000001 => ?_)
  refine r_getF C hW (ci := 9) k1000001 ff_9_3 cl_9 fl_RX3_57 dX3_number_4 (fun k1000002 => ?_)
  refine lv_aload_n hx hb dX3_number_7 rfl (lv_at hl 0 rfl) ?_
  refine r_getI C hW (ci := 3) kx0 ff_3_5 cl_3 fl_RX3_37 dX3_number_8 ?_
  obtain ⟨v1000004, hc1000003, hm⟩ := q_b1i hm
  refine q_callV C hW hS (As := [.int (dt.1 x0 5)]) (rest := []) (st1 := [.long v1000004]) (c_X5_at l D al dt (al.2.2 (al.2.2 x0 0) 3) (dt.1 x0 5) k1000002 v1000004 hc1000003) yl_X5_at vl_X5_at ml_RX3_106 (ci := 5) rfl k1000002 (by decide) rfl ⟨Nat.le_of_ble_eq_true rfl, Nat.le_of_ble_eq_true rfl⟩ hl rfl (Nat.le_of_ble_eq_true rfl) dX3_number_11 ⟨Nat.le_refl _, Nat.le_refl _⟩ rfl (fun H locs k1000005 hW hS => ?_)
  refine lv_lstore_n (i := 3) (lv' := [(3, .long v1000004), (0, .ref x0), (1, .int x1), (2, .int x2)]) hx hb dX3_number_14 rfl hl (by decide) rfl (fun ls hl => ?_)
  refine lv_lload_n hx hb dX3_number_15 rfl (lv_at hl 0 rfl) ?_
  refine lv_iload_n hx hb dX3_number_16 rfl (lv_at hl 2 rfl) ?_
  refine lv_i2l (v := (Int32.toInt64 x1)) hx hb dX3_number_17 rfl ?_
  refine W.lcmp hx hb dX3_number_18 ?_
  refine q_ifc hm (fun c1000006 hm => ?_) (fun c1000006 hm => ?_)
  · refine lv_if_lt (tgt := 29) hx hb dX3_number_19 (by decide) (fun _ => ?_) (fun h => absurd (q_cmp_lt.mpr c1000006) h)
    exact hB29 x0 x1 kx0 dt _ _ _ hm hW hS (lv_sub hl [1, 2] rfl)
  refine lv_if_lt (tgt := 29) hx hb dX3_number_19 (by decide) (fun h => absurd (q_cmp_lt.mp h) c1000006) (fun _ => ?_)
  refine lv_lload_n hx hb dX3_number_22 rfl (lv_at hl 0 rfl) ?_
  refine lv_iload_n hx hb dX3_number_23 rfl (lv_at hl 3 rfl) ?_
  refine lv_i2l (v := (Int32.toInt64 x2)) hx hb dX3_number_24 rfl ?_
  refine W.lcmp hx hb dX3_number_25 ?_
  refine q_ifc hm (fun c1000007 hm => ?_) (fun c1000007 hm => ?_)
  · refine lv_if_le (tgt := 51) hx hb dX3_number_26 (by decide) (fun _ => ?_) (fun h => absurd (q_cmp_le.mpr c1000007) h)
    exact hB51 x0 v1000004 kx0 dt _ _ _ hm hW hS (lv_sub hl [1, 0] rfl)
  refine lv_if_le (tgt := 51) hx hb dX3_number_26 (by decide) (fun h => absurd (q_cmp_le.mp h) c1000007) (fun _ => ?_)
  exact hB29 x0 x1 kx0 dt _ _ _ hm hW hS (lv_sub hl [1, 2] rfl)
theorem dX10_nextCode_0 : decode cX10_nextCode 0 = .ok (.aload_n 0, 1) := by decide +kernel
theorem dX10_nextCode_1 : decode cX10_nextCode 1 = .ok (.dup, 1) := by decide +kernel
theorem dX10_nextCode_2 : decode cX10_nextCode 2 = .ok (.getfield 47, 3) := by decide +kernel
theorem dX10_nextCode_5 : decode cX10_nextCode 5 = .ok (.iconst 1, 1) := by decide +kernel
theorem dX10_nextCode_6 : decode cX10_nextCode 6 = .ok (.iadd, 1) := by decide +kernel
theorem dX10_nextCode_7 : decode cX10_nextCode 7 = .ok (.putfield 47, 3) := by decide +kernel
theorem dX10_nextCode_10 : decode cX10_nextCode 10 = .ok (.aload_n 0, 1) := by decide +kernel
theorem dX10_nextCode_11 : decode cX10_nextCode 11 = .ok (.aload_n 0, 1) := by decide +kernel
theorem dX10_nextCode_12 : decode cX10_nextCode 12 = .ok (.getfield 47, 3) := by decide +kernel
theorem dX10_nextCode_15 : decode cX10_nextCode 15 = .ok (.iconst 1, 1) := by decide +kernel
theorem dX10_nextCode_16 : decode cX10_nextCode 16 = .ok (.isub, 1) := by decide +kernel
theorem dX10_nextCode_17 : decode cX10_nextCode 17 = .ok (.invokevirtual 75, 3) := by decide +kernel
theorem dX10_nextCode_20 : decode cX10_nextCode 20 = .ok (.areturn, 1) := by decide +kernel
set_option maxRecDepth 100000 in
theorem c_X10_nextCode (l : Launch) (D : q_D) (al : q_Al) (dt : q_Dt) (x0 : Nat) (kx0 : al.1 x0 = 11) (r0 : Option Nat) (dt0 : q_Dt) (hm : X10_nextCode al dt x0 = some (r0, dt0)) : q_Mt l yX10_nextCode cX10_nextCode 1 (some (FieldType.object "SpreadRows$Code")) 1 21 D al [.ref x0] dt 1 (some (va_rf r0)) dt0 := by
  refine q_Mt.of (by decide) (Nat.le_of_ble_eq_true rfl) ?_
  intro p e s m args below meth c ls C hargs hW hl
  have hx := C.1
  have hb := C.2.1
  have hown := C.2.2.2.2.2.1
  have hts := C.2.2.2.2.2.2.1
  have hS : va_S (q_A al) s.heap s.heap [] := va_S.rf
  have hl : lv_has ls 1 [(0, .ref x0)] := hl
  unfold X10_nextCode at hm
  refine lv_aload_n hx hb dX10_nextCode_0 rfl (lv_at hl 0 rfl) ?_
  refine lv_dup hx hb dX10_nextCode_1 rfl ?_
  refine r_getI C hW (ci := 10) kx0 ff_10_7 cl_10 fl_RX10_47 dX10_nextCode_2 ?_
  refine lv_iconst (v := 1) hx hb dX10_nextCode_5 (by decide) ?_
  refine lv_iadd hx hb dX10_nextCode_6 ?_
  refine r_putI C hW hS hm (ci := 10) kx0 ff_10_7 cl_10 fl_RX10_47 (nf_10_7) rfl dX10_nextCode_7 (fun dt1000001 H locs hm hW hS => ?_)
  refine lv_aload_n hx hb dX10_nextCode_10 rfl (lv_at hl 0 rfl) ?_
  refine lv_aload_n hx hb dX10_nextCode_11 rfl (lv_at hl 0 rfl) ?_
  refine r_getI C hW (ci := 10) kx0 ff_10_7 cl_10 fl_RX10_47 dX10_nextCode_12 ?_
  refine lv_iconst (v := 1) hx hb dX10_nextCode_15 (by decide) ?_
  refine lv_isub hx hb dX10_nextCode_16 ?_
  obtain ⟨v1000003, hc1000002, hm⟩ := q_b1i hm
  refine q_callV C hW hS (As := [.int ((dt1000001.1 x0 7) - 1)]) (rest := []) (st1 := [va_rf v1000003]) (c_X10_codeAt l D al dt1000001 x0 ((dt1000001.1 x0 7) - 1) kx0 v1000003 hc1000002) yl_X10_codeAt vl_X10_codeAt ml_RX10_75 (ci := 10) rfl kx0 (by decide) rfl ⟨Nat.le_of_ble_eq_true rfl, Nat.le_of_ble_eq_true rfl⟩ hl rfl (Nat.le_of_ble_eq_true rfl) dX10_nextCode_17 ⟨Nat.le_refl _, Nat.le_refl _⟩ rfl (fun H locs k1000004 hW hS => ?_)
  have k1000004 := q_rk k1000004 (by decide)
  exact e_aD C hW hS (v := v1000003) hm (Or.inr k1000004) dX10_nextCode_20
theorem dX3_makeRegister_0 : decode cX3_makeRegister 0 = .ok (.aload_n 0, 1) := by decide +kernel
theorem dX3_makeRegister_1 : decode cX3_makeRegister 1 = .ok (.iconst 0, 1) := by decide +kernel
theorem dX3_makeRegister_2 : decode cX3_makeRegister 2 = .ok (.aload_n 1, 1) := by decide +kernel
theorem dX3_makeRegister_3 : decode cX3_makeRegister 3 = .ok (.getfield 131, 3) := by decide +kernel
theorem dX3_makeRegister_6 : decode cX3_makeRegister 6 = .ok (.invokevirtual 134, 3) := by decide +kernel
theorem dX3_makeRegister_9 : decode cX3_makeRegister 9 = .ok (.aload_n 0, 1) := by decide +kernel
theorem dX3_makeRegister_10 : decode cX3_makeRegister 10 = .ok (.iconst 2, 1) := by decide +kernel
theorem dX3_makeRegister_11 : decode cX3_makeRegister 11 = .ok (.bipush 7, 2) := by decide +kernel
theorem dX3_makeRegister_13 : decode cX3_makeRegister 13 = .ok (.invokevirtual 93, 3) := by decide +kernel
theorem dX3_makeRegister_16 : decode cX3_makeRegister 16 = .ok (.istore_n 2, 1) := by decide +kernel
theorem dX3_makeRegister_17 : decode cX3_makeRegister 17 = .ok (.aload_n 0, 1) := by decide +kernel
theorem dX3_makeRegister_18 : decode cX3_makeRegister 18 = .ok (.iconst 1, 1) := by decide +kernel
theorem dX3_makeRegister_19 : decode cX3_makeRegister 19 = .ok (.iconst 1, 1) := by decide +kernel
theorem dX3_makeRegister_20 : decode cX3_makeRegister 20 = .ok (.iload_n 2, 1) := by decide +kernel
theorem dX3_makeRegister_21 : decode cX3_makeRegister 21 = .ok (.ishl, 1) := by decide +kernel
theorem dX3_makeRegister_22 : decode cX3_makeRegister 22 = .ok (.iconst 1, 1) := by decide +kernel
theorem dX3_makeRegister_23 : decode cX3_makeRegister 23 = .ok (.isub, 1) := by decide +kernel
theorem dX3_makeRegister_24 : decode cX3_makeRegister 24 = .ok (.invokevirtual 93, 3) := by decide +kernel
theorem dX3_makeRegister_27 : decode cX3_makeRegister 27 = .ok (.istore_n 3, 1) := by decide +kernel
theorem dX3_makeRegister_28 : decode cX3_makeRegister 28 = .ok (.aload_n 0, 1) := by decide +kernel
theorem dX3_makeRegister_29 : decode cX3_makeRegister 29 = .ok (.iconst 1, 1) := by decide +kernel
theorem dX3_makeRegister_30 : decode cX3_makeRegister 30 = .ok (.iconst 1, 1) := by decide +kernel
theorem dX3_makeRegister_31 : decode cX3_makeRegister 31 = .ok (.iload_n 2, 1) := by decide +kernel
theorem dX3_makeRegister_32 : decode cX3_makeRegister 32 = .ok (.ishl, 1) := by decide +kernel
theorem dX3_makeRegister_33 : decode cX3_makeRegister 33 = .ok (.iconst 1, 1) := by decide +kernel
theorem dX3_makeRegister_34 : decode cX3_makeRegister 34 = .ok (.isub, 1) := by decide +kernel
theorem dX3_makeRegister_35 : decode cX3_makeRegister 35 = .ok (.invokevirtual 93, 3) := by decide +kernel
theorem dX3_makeRegister_38 : decode cX3_makeRegister 38 = .ok (.istore 4, 2) := by decide +kernel
theorem dX3_makeRegister_40 : decode cX3_makeRegister 40 = .ok (.aload_n 1, 1) := by decide +kernel
theorem dX3_makeRegister_41 : decode cX3_makeRegister 41 = .ok (.invokevirtual 137, 3) := by decide +kernel
theorem dX3_makeRegister_44 : decode cX3_makeRegister 44 = .ok (.astore 5, 2) := by decide +kernel
theorem dX3_makeRegister_46 : decode cX3_makeRegister 46 = .ok (.aload 5, 2) := by decide +kernel
theorem dX3_makeRegister_48 : decode cX3_makeRegister 48 = .ok (.ifnull 12, 3) := by decide +kernel
theorem dX3_makeRegister_51 : decode cX3_makeRegister 51 = .ok (.aload 5, 2) := by decide +kernel
theorem dX3_makeRegister_53 : decode cX3_makeRegister 53 = .ok (.iload_n 2, 1) := by decide +kernel
theorem dX3_makeRegister_54 : decode cX3_makeRegister 54 = .ok (.iload_n 3, 1) := by decide +kernel
theorem dX3_makeRegister_55 : decode cX3_makeRegister 55 = .ok (.iload 4, 2) := by decide +kernel
theorem dX3_makeRegister_57 : decode cX3_makeRegister 57 = .ok (.invokevirtual 141, 3) := by decide +kernel
theorem dX3_makeRegister_60 : decode cX3_makeRegister 60 = .ok (.return_, 1) := by decide +kernel
set_option maxRecDepth 100000 in
theorem c_X3_makeRegister (l : Launch) (D : q_D) (al : q_Al) (dt : q_Dt) (x0 : Nat) (x1 : Nat) (kx0 : al.1 x0 = 4) (kx1 : al.1 x1 = 11) (dt0 : q_Dt) (hm : X3_makeRegister al dt x0 x1 = some dt0) : q_Mt l yX3_makeRegister cX3_makeRegister 6 (none) 3 70 D al [.ref x0, .ref x1] dt 0 none dt0 := by
  refine q_Mt.of (by decide) (Nat.le_of_ble_eq_true rfl) ?_
  intro p e s m args below meth c ls C hargs hW hl
  have hx := C.1
  have hb := C.2.1
  have hown := C.2.2.2.2.2.1
  have hts := C.2.2.2.2.2.2.1
  have hS : va_S (q_A al) s.heap s.heap [] := va_S.rf
  have hl : lv_has ls 6 [(0, .ref x0), (1, .ref x1)] := hl
  unfold X3_makeRegister at hm
  refine lv_aload_n hx hb dX3_makeRegister_0 rfl (lv_at hl 0 rfl) ?_
  refine lv_iconst (v := 0) hx hb dX3_makeRegister_1 (by decide) ?_
  refine lv_aload_n hx hb dX3_makeRegister_2 rfl (lv_at hl 1 rfl) ?_
  refine r_getI C hW (ci := 10) kx1 ff_10_7 cl_10 fl_RX3_131 dX3_makeRegister_3 ?_
  obtain ⟨dt1000002, hc1000001, hm⟩ := q_b1i hm
  refine q_callV C hW hS (As := [.int 0, .int (dt.1 x1 7)]) (rest := []) (st1 := []) (c_X3_newName l D al dt x0 0 (dt.1 x1 7) kx0 dt1000002 hc1000001) yl_X3_newName vl_X3_newName ml_RX3_134 (ci := 3) rfl kx0 (by decide) rfl ⟨Nat.le_of_ble_eq_true rfl, Nat.le_of_ble_eq_true rfl⟩ hl rfl (Nat.le_of_ble_eq_true rfl) dX3_makeRegister_6 ⟨Nat.le_refl _, Nat.le_refl _⟩ rfl (fun H locs k1000003 hW hS => ?_)
  refine lv_aload_n hx hb dX3_makeRegister_9 rfl (lv_at hl 0 rfl) ?_
  refine lv_iconst (v := 2) hx hb dX3_makeRegister_10 (by decide) ?_
  refine lv_bipush (v := 7) hx hb dX3_makeRegister_11 (by decide) ?_
  obtain ⟨v1000005, dt1000006, hc1000004, hm⟩ := q_b2i hm
  refine q_callV C hW hS (As := [.int 2, .int 7]) (rest := []) (st1 := [.int v1000005]) (c_X3_number l D al dt1000002 x0 2 7 kx0 v1000005 dt1000006 hc1000004) yl_X3_number vl_X3_number ml_RX3_93 (ci := 3) rfl kx0 (by decide) rfl ⟨Nat.le_of_ble_eq_true rfl, Nat.le_of_ble_eq_true rfl⟩ hl rfl (Nat.le_of_ble_eq_true rfl) dX3_makeRegister_13 ⟨Nat.le_refl _, Nat.le_refl _⟩ rfl (fun H locs k1000007 hW hS => ?_)
  refine lv_istore_n (i := 2) (lv' := [(2, .int v1000005), (0, .ref x0), (1, .ref x1)]) hx hb dX3_makeRegister_16 rfl hl (by decide) rfl (fun ls hl => ?_)
  refine lv_aload_n hx hb dX3_makeRegister_17 rfl (lv_at hl 1 rfl) ?_
  refine lv_iconst (v := 1) hx hb dX3_makeRegister_18 (by decide) ?_
  refine lv_iconst (v := 1) hx hb dX3_makeRegister_19 (by decide) ?_
  refine lv_iload_n hx hb dX3_makeRegister_20 rfl (lv_at hl 0 rfl) ?_
  refine lv_ishl hx hb dX3_makeRegister_21 ?_
  refine lv_iconst (v := 1) hx hb dX3_makeRegister_22 (by decide) ?_
  refine lv_isub hx hb dX3_makeRegister_23 ?_
  obtain ⟨v1000009, dt1000010, hc1000008, hm⟩ := q_b2i hm
  refine q_callV C hW hS (As := [.int 1, .int ((1 <<< (v1000005 &&& 31)) - 1)]) (rest := []) (st1 := [.int v1000009]) (c_X3_number l D al dt1000006 x0 1 ((1 <<< (v1000005 &&& 31)) - 1) kx0 v1000009 dt1000010 hc1000008) yl_X3_number vl_X3_number ml_RX3_93 (ci := 3) rfl kx0 (by decide) rfl ⟨Nat.le_of_ble_eq_true rfl, Nat.le_of_ble_eq_true rfl⟩ hl rfl (Nat.le_of_ble_eq_true rfl) dX3_makeRegister_24 ⟨Nat.le_refl _, Nat.le_refl _⟩ rfl (fun H locs k1000011 hW hS => ?_)
  refine lv_istore_n (i := 3) (lv' := [(3, .int v1000009), (2, .int v1000005), (0, .ref x0), (1, .ref x1)]) hx hb dX3_makeRegister_27 rfl hl (by decide) rfl (fun ls hl => ?_)
  refine lv_aload_n hx hb dX3_makeRegister_28 rfl (lv_at hl 2 rfl) ?_
  refine lv_iconst (v := 1) hx hb dX3_makeRegister_29 (by decide) ?_
  refine lv_iconst (v := 1) hx hb dX3_makeRegister_30 (by decide) ?_
  refine lv_iload_n hx hb dX3_makeRegister_31 rfl (lv_at hl 1 rfl) ?_
  refine lv_ishl hx hb dX3_makeRegister_32 ?_
  refine lv_iconst (v := 1) hx hb dX3_makeRegister_33 (by decide) ?_
  refine lv_isub hx hb dX3_makeRegister_34 ?_
  obtain ⟨v1000013, dt1000014, hc1000012, hm⟩ := q_b2i hm
  refine q_callV C hW hS (As := [.int 1, .int ((1 <<< (v1000005 &&& 31)) - 1)]) (rest := []) (st1 := [.int v1000013]) (c_X3_number l D al dt1000010 x0 1 ((1 <<< (v1000005 &&& 31)) - 1) kx0 v1000013 dt1000014 hc1000012) yl_X3_number vl_X3_number ml_RX3_93 (ci := 3) rfl kx0 (by decide) rfl ⟨Nat.le_of_ble_eq_true rfl, Nat.le_of_ble_eq_true rfl⟩ hl rfl (Nat.le_of_ble_eq_true rfl) dX3_makeRegister_35 ⟨Nat.le_refl _, Nat.le_refl _⟩ rfl (fun H locs k1000015 hW hS => ?_)
  refine lv_istore (i := 4) (lv' := [(4, .int v1000013), (3, .int v1000009), (2, .int v1000005), (0, .ref x0), (1, .ref x1)]) hx hb dX3_makeRegister_38 hl (by decide) rfl (fun ls hl => ?_)
  refine lv_aload_n hx hb dX3_makeRegister_40 rfl (lv_at hl 4 rfl) ?_
  obtain ⟨v1000017, dt1000018, hc1000016, hm⟩ := q_b2i hm
  refine q_callV C hW hS (As := []) (rest := []) (st1 := [va_rf v1000017]) (c_X10_nextCode l D al dt1000014 x1 kx1 v1000017 dt1000018 hc1000016) yl_X10_nextCode vl_X10_nextCode ml_RX3_137 (ci := 10) rfl kx1 (by decide) rfl ⟨Nat.le_of_ble_eq_true rfl, Nat.le_of_ble_eq_true rfl⟩ hl rfl (Nat.le_of_ble_eq_true rfl) dX3_makeRegister_41 ⟨Nat.le_refl _, Nat.le_refl _⟩ rfl (fun H locs k1000019 hW hS => ?_)
  have k1000019 := q_rk k1000019 (by decide)
  refine q_astoreQ (i := 5) (lv' := [(5, va_rf v1000017), (4, .int v1000013), (3, .int v1000009), (2, .int v1000005), (0, .ref x0), (1, .ref x1)]) C dX3_makeRegister_44 hl (by decide) rfl (fun ls hl => ?_)
  refine q_aloadQ C dX3_makeRegister_46 (lv_at hl 0 rfl) ?_
  refine q_ifnull C hm (tgt := 60) dX3_makeRegister_48 (by decide) (fun e1000022 hq1000023 => ?_) (fun b1000020 e1000022 hq1000023 => ?_)
  · subst e1000022
    have hm := hq1000023
    exact e_vD C hW hS hm dX3_makeRegister_60
  subst e1000022
  have hm := hq1000023
  have k1000021 := k1000019 b1000020 rfl
  refine lv_aload hx hb dX3_makeRegister_51 (lv_at hl 0 rfl) ?_
  refine lv_iload_n hx hb dX3_makeRegister_53 rfl (lv_at hl 3 rfl) ?_
  refine lv_iload_n hx hb dX3_makeRegister_54 rfl (lv_at hl 2 rfl) ?_
  refine lv_iload hx hb dX3_makeRegister_55 (lv_at hl 1 rfl) ?_
  obtain ⟨dt1000025, hc1000024, hm⟩ := q_b1i hm
  refine q_callV C hW hS (As := [.int v1000005, .int v1000009, .int v1000013]) (rest := []) (st1 := []) (c_X0_layRegister l D al dt1000018 b1000020 v1000005 v1000009 v1000013 k1000021 dt1000025 hc1000024) yl_X0_layRegister vl_X0_layRegister ml_RX3_141 (ci := 0) rfl k1000021 (by decide) rfl ⟨Nat.le_of_ble_eq_true rfl, Nat.le_of_ble_eq_true rfl⟩ hl rfl (Nat.le_of_ble_eq_true rfl) dX3_makeRegister_57 ⟨Nat.le_refl _, Nat.le_refl _⟩ rfl (fun H locs k1000026 hW hS => ?_)
  exact e_vD C hW hS hm dX3_makeRegister_60
theorem dX3_makeWalsh_0 : decode cX3_makeWalsh 0 = .ok (.aload_n 0, 1) := by decide +kernel
theorem dX3_makeWalsh_1 : decode cX3_makeWalsh 1 = .ok (.iconst 0, 1) := by decide +kernel
theorem dX3_makeWalsh_2 : decode cX3_makeWalsh 2 = .ok (.aload_n 1, 1) := by decide +kernel
theorem dX3_makeWalsh_3 : decode cX3_makeWalsh 3 = .ok (.getfield 131, 3) := by decide +kernel
theorem dX3_makeWalsh_6 : decode cX3_makeWalsh 6 = .ok (.invokevirtual 134, 3) := by decide +kernel
theorem dX3_makeWalsh_9 : decode cX3_makeWalsh 9 = .ok (.aload_n 0, 1) := by decide +kernel
theorem dX3_makeWalsh_10 : decode cX3_makeWalsh 10 = .ok (.iconst 1, 1) := by decide +kernel
theorem dX3_makeWalsh_11 : decode cX3_makeWalsh 11 = .ok (.bipush 6, 2) := by decide +kernel
theorem dX3_makeWalsh_13 : decode cX3_makeWalsh 13 = .ok (.invokevirtual 93, 3) := by decide +kernel
theorem dX3_makeWalsh_16 : decode cX3_makeWalsh 16 = .ok (.istore_n 2, 1) := by decide +kernel
theorem dX3_makeWalsh_17 : decode cX3_makeWalsh 17 = .ok (.aload_n 0, 1) := by decide +kernel
theorem dX3_makeWalsh_18 : decode cX3_makeWalsh 18 = .ok (.iconst 0, 1) := by decide +kernel
theorem dX3_makeWalsh_19 : decode cX3_makeWalsh 19 = .ok (.iconst 1, 1) := by decide +kernel
theorem dX3_makeWalsh_20 : decode cX3_makeWalsh 20 = .ok (.iload_n 2, 1) := by decide +kernel
theorem dX3_makeWalsh_21 : decode cX3_makeWalsh 21 = .ok (.ishl, 1) := by decide +kernel
theorem dX3_makeWalsh_22 : decode cX3_makeWalsh 22 = .ok (.iconst 1, 1) := by decide +kernel
theorem dX3_makeWalsh_23 : decode cX3_makeWalsh 23 = .ok (.isub, 1) := by decide +kernel
theorem dX3_makeWalsh_24 : decode cX3_makeWalsh 24 = .ok (.invokevirtual 93, 3) := by decide +kernel
theorem dX3_makeWalsh_27 : decode cX3_makeWalsh 27 = .ok (.istore_n 3, 1) := by decide +kernel
theorem dX3_makeWalsh_28 : decode cX3_makeWalsh 28 = .ok (.aload_n 1, 1) := by decide +kernel
theorem dX3_makeWalsh_29 : decode cX3_makeWalsh 29 = .ok (.invokevirtual 137, 3) := by decide +kernel
theorem dX3_makeWalsh_32 : decode cX3_makeWalsh 32 = .ok (.astore 4, 2) := by decide +kernel
theorem dX3_makeWalsh_34 : decode cX3_makeWalsh 34 = .ok (.aload 4, 2) := by decide +kernel
theorem dX3_makeWalsh_36 : decode cX3_makeWalsh 36 = .ok (.ifnull 10, 3) := by decide +kernel
theorem dX3_makeWalsh_39 : decode cX3_makeWalsh 39 = .ok (.aload 4, 2) := by decide +kernel
theorem dX3_makeWalsh_41 : decode cX3_makeWalsh 41 = .ok (.iload_n 2, 1) := by decide +kernel
theorem dX3_makeWalsh_42 : decode cX3_makeWalsh 42 = .ok (.iload_n 3, 1) := by decide +kernel
theorem dX3_makeWalsh_43 : decode cX3_makeWalsh 43 = .ok (.invokevirtual 147, 3) := by decide +kernel
theorem dX3_makeWalsh_46 : decode cX3_makeWalsh 46 = .ok (.return_, 1) := by decide +kernel
set_option maxRecDepth 100000 in
theorem c_X3_makeWalsh (l : Launch) (D : q_D) (al : q_Al) (dt : q_Dt) (x0 : Nat) (x1 : Nat) (kx0 : al.1 x0 = 4) (kx1 : al.1 x1 = 11) (dt0 : q_Dt) (hm : X3_makeWalsh al dt x0 x1 = some dt0) : q_Mt l yX3_makeWalsh cX3_makeWalsh 5 (none) 3 68 D al [.ref x0, .ref x1] dt 0 none dt0 := by
  refine q_Mt.of (by decide) (Nat.le_of_ble_eq_true rfl) ?_
  intro p e s m args below meth c ls C hargs hW hl
  have hx := C.1
  have hb := C.2.1
  have hown := C.2.2.2.2.2.1
  have hts := C.2.2.2.2.2.2.1
  have hS : va_S (q_A al) s.heap s.heap [] := va_S.rf
  have hl : lv_has ls 5 [(0, .ref x0), (1, .ref x1)] := hl
  unfold X3_makeWalsh at hm
  refine lv_aload_n hx hb dX3_makeWalsh_0 rfl (lv_at hl 0 rfl) ?_
  refine lv_iconst (v := 0) hx hb dX3_makeWalsh_1 (by decide) ?_
  refine lv_aload_n hx hb dX3_makeWalsh_2 rfl (lv_at hl 1 rfl) ?_
  refine r_getI C hW (ci := 10) kx1 ff_10_7 cl_10 fl_RX3_131 dX3_makeWalsh_3 ?_
  obtain ⟨dt1000002, hc1000001, hm⟩ := q_b1i hm
  refine q_callV C hW hS (As := [.int 0, .int (dt.1 x1 7)]) (rest := []) (st1 := []) (c_X3_newName l D al dt x0 0 (dt.1 x1 7) kx0 dt1000002 hc1000001) yl_X3_newName vl_X3_newName ml_RX3_134 (ci := 3) rfl kx0 (by decide) rfl ⟨Nat.le_of_ble_eq_true rfl, Nat.le_of_ble_eq_true rfl⟩ hl rfl (Nat.le_of_ble_eq_true rfl) dX3_makeWalsh_6 ⟨Nat.le_refl _, Nat.le_refl _⟩ rfl (fun H locs k1000003 hW hS => ?_)
  refine lv_aload_n hx hb dX3_makeWalsh_9 rfl (lv_at hl 0 rfl) ?_
  refine lv_iconst (v := 1) hx hb dX3_makeWalsh_10 (by decide) ?_
  refine lv_bipush (v := 6) hx hb dX3_makeWalsh_11 (by decide) ?_
  obtain ⟨v1000005, dt1000006, hc1000004, hm⟩ := q_b2i hm
  refine q_callV C hW hS (As := [.int 1, .int 6]) (rest := []) (st1 := [.int v1000005]) (c_X3_number l D al dt1000002 x0 1 6 kx0 v1000005 dt1000006 hc1000004) yl_X3_number vl_X3_number ml_RX3_93 (ci := 3) rfl kx0 (by decide) rfl ⟨Nat.le_of_ble_eq_true rfl, Nat.le_of_ble_eq_true rfl⟩ hl rfl (Nat.le_of_ble_eq_true rfl) dX3_makeWalsh_13 ⟨Nat.le_refl _, Nat.le_refl _⟩ rfl (fun H locs k1000007 hW hS => ?_)
  refine lv_istore_n (i := 2) (lv' := [(2, .int v1000005), (0, .ref x0), (1, .ref x1)]) hx hb dX3_makeWalsh_16 rfl hl (by decide) rfl (fun ls hl => ?_)
  refine lv_aload_n hx hb dX3_makeWalsh_17 rfl (lv_at hl 1 rfl) ?_
  refine lv_iconst (v := 0) hx hb dX3_makeWalsh_18 (by decide) ?_
  refine lv_iconst (v := 1) hx hb dX3_makeWalsh_19 (by decide) ?_
  refine lv_iload_n hx hb dX3_makeWalsh_20 rfl (lv_at hl 0 rfl) ?_
  refine lv_ishl hx hb dX3_makeWalsh_21 ?_
  refine lv_iconst (v := 1) hx hb dX3_makeWalsh_22 (by decide) ?_
  refine lv_isub hx hb dX3_makeWalsh_23 ?_
  obtain ⟨v1000009, dt1000010, hc1000008, hm⟩ := q_b2i hm
  refine q_callV C hW hS (As := [.int 0, .int ((1 <<< (v1000005 &&& 31)) - 1)]) (rest := []) (st1 := [.int v1000009]) (c_X3_number l D al dt1000006 x0 0 ((1 <<< (v1000005 &&& 31)) - 1) kx0 v1000009 dt1000010 hc1000008) yl_X3_number vl_X3_number ml_RX3_93 (ci := 3) rfl kx0 (by decide) rfl ⟨Nat.le_of_ble_eq_true rfl, Nat.le_of_ble_eq_true rfl⟩ hl rfl (Nat.le_of_ble_eq_true rfl) dX3_makeWalsh_24 ⟨Nat.le_refl _, Nat.le_refl _⟩ rfl (fun H locs k1000011 hW hS => ?_)
  refine lv_istore_n (i := 3) (lv' := [(3, .int v1000009), (2, .int v1000005), (0, .ref x0), (1, .ref x1)]) hx hb dX3_makeWalsh_27 rfl hl (by decide) rfl (fun ls hl => ?_)
  refine lv_aload_n hx hb dX3_makeWalsh_28 rfl (lv_at hl 3 rfl) ?_
  obtain ⟨v1000013, dt1000014, hc1000012, hm⟩ := q_b2i hm
  refine q_callV C hW hS (As := []) (rest := []) (st1 := [va_rf v1000013]) (c_X10_nextCode l D al dt1000010 x1 kx1 v1000013 dt1000014 hc1000012) yl_X10_nextCode vl_X10_nextCode ml_RX3_137 (ci := 10) rfl kx1 (by decide) rfl ⟨Nat.le_of_ble_eq_true rfl, Nat.le_of_ble_eq_true rfl⟩ hl rfl (Nat.le_of_ble_eq_true rfl) dX3_makeWalsh_29 ⟨Nat.le_refl _, Nat.le_refl _⟩ rfl (fun H locs k1000015 hW hS => ?_)
  have k1000015 := q_rk k1000015 (by decide)
  refine q_astoreQ (i := 4) (lv' := [(4, va_rf v1000013), (3, .int v1000009), (2, .int v1000005), (0, .ref x0), (1, .ref x1)]) C dX3_makeWalsh_32 hl (by decide) rfl (fun ls hl => ?_)
  refine q_aloadQ C dX3_makeWalsh_34 (lv_at hl 0 rfl) ?_
  refine q_ifnull C hm (tgt := 46) dX3_makeWalsh_36 (by decide) (fun e1000018 hq1000019 => ?_) (fun b1000016 e1000018 hq1000019 => ?_)
  · subst e1000018
    have hm := hq1000019
    exact e_vD C hW hS hm dX3_makeWalsh_46
  subst e1000018
  have hm := hq1000019
  have k1000017 := k1000015 b1000016 rfl
  refine lv_aload hx hb dX3_makeWalsh_39 (lv_at hl 0 rfl) ?_
  refine lv_iload_n hx hb dX3_makeWalsh_41 rfl (lv_at hl 2 rfl) ?_
  refine lv_iload_n hx hb dX3_makeWalsh_42 rfl (lv_at hl 1 rfl) ?_
  obtain ⟨dt1000021, hc1000020, hm⟩ := q_b1i hm
  refine q_callV C hW hS (As := [.int v1000005, .int v1000009]) (rest := []) (st1 := []) (c_X0_layWalsh l D al dt1000014 b1000016 v1000005 v1000009 k1000017 dt1000021 hc1000020) yl_X0_layWalsh vl_X0_layWalsh ml_RX3_147 (ci := 0) rfl k1000017 (by decide) rfl ⟨Nat.le_of_ble_eq_true rfl, Nat.le_of_ble_eq_true rfl⟩ hl rfl (Nat.le_of_ble_eq_true rfl) dX3_makeWalsh_43 ⟨Nat.le_refl _, Nat.le_refl _⟩ rfl (fun H locs k1000022 hW hS => ?_)
  exact e_vD C hW hS hm dX3_makeWalsh_46
theorem dX3_makeBits_0 : decode cX3_makeBits 0 = .ok (.aload_n 0, 1) := by decide +kernel
theorem dX3_makeBits_1 : decode cX3_makeBits 1 = .ok (.iconst 0, 1) := by decide +kernel
theorem dX3_makeBits_2 : decode cX3_makeBits 2 = .ok (.aload_n 1, 1) := by decide +kernel
theorem dX3_makeBits_3 : decode cX3_makeBits 3 = .ok (.getfield 131, 3) := by decide +kernel
theorem dX3_makeBits_6 : decode cX3_makeBits 6 = .ok (.invokevirtual 134, 3) := by decide +kernel
theorem dX3_makeBits_9 : decode cX3_makeBits 9 = .ok (.aload_n 0, 1) := by decide +kernel
theorem dX3_makeBits_10 : decode cX3_makeBits 10 = .ok (.iconst 1, 1) := by decide +kernel
theorem dX3_makeBits_11 : decode cX3_makeBits 11 = .ok (.bipush 13, 2) := by decide +kernel
theorem dX3_makeBits_13 : decode cX3_makeBits 13 = .ok (.invokevirtual 93, 3) := by decide +kernel
theorem dX3_makeBits_16 : decode cX3_makeBits 16 = .ok (.istore_n 2, 1) := by decide +kernel
theorem dX3_makeBits_17 : decode cX3_makeBits 17 = .ok (.aload_n 0, 1) := by decide +kernel
theorem dX3_makeBits_18 : decode cX3_makeBits 18 = .ok (.iconst 0, 1) := by decide +kernel
theorem dX3_makeBits_19 : decode cX3_makeBits 19 = .ok (.iconst 1, 1) := by decide +kernel
theorem dX3_makeBits_20 : decode cX3_makeBits 20 = .ok (.iload_n 2, 1) := by decide +kernel
theorem dX3_makeBits_21 : decode cX3_makeBits 21 = .ok (.ishl, 1) := by decide +kernel
theorem dX3_makeBits_22 : decode cX3_makeBits 22 = .ok (.iconst 1, 1) := by decide +kernel
theorem dX3_makeBits_23 : decode cX3_makeBits 23 = .ok (.isub, 1) := by decide +kernel
theorem dX3_makeBits_24 : decode cX3_makeBits 24 = .ok (.invokevirtual 93, 3) := by decide +kernel
theorem dX3_makeBits_27 : decode cX3_makeBits 27 = .ok (.istore_n 3, 1) := by decide +kernel
theorem dX3_makeBits_28 : decode cX3_makeBits 28 = .ok (.aload_n 1, 1) := by decide +kernel
theorem dX3_makeBits_29 : decode cX3_makeBits 29 = .ok (.invokevirtual 137, 3) := by decide +kernel
theorem dX3_makeBits_32 : decode cX3_makeBits 32 = .ok (.astore 4, 2) := by decide +kernel
theorem dX3_makeBits_34 : decode cX3_makeBits 34 = .ok (.aload 4, 2) := by decide +kernel
theorem dX3_makeBits_36 : decode cX3_makeBits 36 = .ok (.ifnull 10, 3) := by decide +kernel
theorem dX3_makeBits_39 : decode cX3_makeBits 39 = .ok (.aload 4, 2) := by decide +kernel
theorem dX3_makeBits_41 : decode cX3_makeBits 41 = .ok (.iload_n 2, 1) := by decide +kernel
theorem dX3_makeBits_42 : decode cX3_makeBits 42 = .ok (.iload_n 3, 1) := by decide +kernel
theorem dX3_makeBits_43 : decode cX3_makeBits 43 = .ok (.invokevirtual 150, 3) := by decide +kernel
theorem dX3_makeBits_46 : decode cX3_makeBits 46 = .ok (.return_, 1) := by decide +kernel
set_option maxRecDepth 100000 in
theorem c_X3_makeBits (l : Launch) (D : q_D) (al : q_Al) (dt : q_Dt) (x0 : Nat) (x1 : Nat) (kx0 : al.1 x0 = 4) (kx1 : al.1 x1 = 11) (dt0 : q_Dt) (hm : X3_makeBits al dt x0 x1 = some dt0) : q_Mt l yX3_makeBits cX3_makeBits 5 (none) 3 68 D al [.ref x0, .ref x1] dt 0 none dt0 := by
  refine q_Mt.of (by decide) (Nat.le_of_ble_eq_true rfl) ?_
  intro p e s m args below meth c ls C hargs hW hl
  have hx := C.1
  have hb := C.2.1
  have hown := C.2.2.2.2.2.1
  have hts := C.2.2.2.2.2.2.1
  have hS : va_S (q_A al) s.heap s.heap [] := va_S.rf
  have hl : lv_has ls 5 [(0, .ref x0), (1, .ref x1)] := hl
  unfold X3_makeBits at hm
  refine lv_aload_n hx hb dX3_makeBits_0 rfl (lv_at hl 0 rfl) ?_
  refine lv_iconst (v := 0) hx hb dX3_makeBits_1 (by decide) ?_
  refine lv_aload_n hx hb dX3_makeBits_2 rfl (lv_at hl 1 rfl) ?_
  refine r_getI C hW (ci := 10) kx1 ff_10_7 cl_10 fl_RX3_131 dX3_makeBits_3 ?_
  obtain ⟨dt1000002, hc1000001, hm⟩ := q_b1i hm
  refine q_callV C hW hS (As := [.int 0, .int (dt.1 x1 7)]) (rest := []) (st1 := []) (c_X3_newName l D al dt x0 0 (dt.1 x1 7) kx0 dt1000002 hc1000001) yl_X3_newName vl_X3_newName ml_RX3_134 (ci := 3) rfl kx0 (by decide) rfl ⟨Nat.le_of_ble_eq_true rfl, Nat.le_of_ble_eq_true rfl⟩ hl rfl (Nat.le_of_ble_eq_true rfl) dX3_makeBits_6 ⟨Nat.le_refl _, Nat.le_refl _⟩ rfl (fun H locs k1000003 hW hS => ?_)
  refine lv_aload_n hx hb dX3_makeBits_9 rfl (lv_at hl 0 rfl) ?_
  refine lv_iconst (v := 1) hx hb dX3_makeBits_10 (by decide) ?_
  refine lv_bipush (v := 13) hx hb dX3_makeBits_11 (by decide) ?_
  obtain ⟨v1000005, dt1000006, hc1000004, hm⟩ := q_b2i hm
  refine q_callV C hW hS (As := [.int 1, .int 13]) (rest := []) (st1 := [.int v1000005]) (c_X3_number l D al dt1000002 x0 1 13 kx0 v1000005 dt1000006 hc1000004) yl_X3_number vl_X3_number ml_RX3_93 (ci := 3) rfl kx0 (by decide) rfl ⟨Nat.le_of_ble_eq_true rfl, Nat.le_of_ble_eq_true rfl⟩ hl rfl (Nat.le_of_ble_eq_true rfl) dX3_makeBits_13 ⟨Nat.le_refl _, Nat.le_refl _⟩ rfl (fun H locs k1000007 hW hS => ?_)
  refine lv_istore_n (i := 2) (lv' := [(2, .int v1000005), (0, .ref x0), (1, .ref x1)]) hx hb dX3_makeBits_16 rfl hl (by decide) rfl (fun ls hl => ?_)
  refine lv_aload_n hx hb dX3_makeBits_17 rfl (lv_at hl 1 rfl) ?_
  refine lv_iconst (v := 0) hx hb dX3_makeBits_18 (by decide) ?_
  refine lv_iconst (v := 1) hx hb dX3_makeBits_19 (by decide) ?_
  refine lv_iload_n hx hb dX3_makeBits_20 rfl (lv_at hl 0 rfl) ?_
  refine lv_ishl hx hb dX3_makeBits_21 ?_
  refine lv_iconst (v := 1) hx hb dX3_makeBits_22 (by decide) ?_
  refine lv_isub hx hb dX3_makeBits_23 ?_
  obtain ⟨v1000009, dt1000010, hc1000008, hm⟩ := q_b2i hm
  refine q_callV C hW hS (As := [.int 0, .int ((1 <<< (v1000005 &&& 31)) - 1)]) (rest := []) (st1 := [.int v1000009]) (c_X3_number l D al dt1000006 x0 0 ((1 <<< (v1000005 &&& 31)) - 1) kx0 v1000009 dt1000010 hc1000008) yl_X3_number vl_X3_number ml_RX3_93 (ci := 3) rfl kx0 (by decide) rfl ⟨Nat.le_of_ble_eq_true rfl, Nat.le_of_ble_eq_true rfl⟩ hl rfl (Nat.le_of_ble_eq_true rfl) dX3_makeBits_24 ⟨Nat.le_refl _, Nat.le_refl _⟩ rfl (fun H locs k1000011 hW hS => ?_)
  refine lv_istore_n (i := 3) (lv' := [(3, .int v1000009), (2, .int v1000005), (0, .ref x0), (1, .ref x1)]) hx hb dX3_makeBits_27 rfl hl (by decide) rfl (fun ls hl => ?_)
  refine lv_aload_n hx hb dX3_makeBits_28 rfl (lv_at hl 3 rfl) ?_
  obtain ⟨v1000013, dt1000014, hc1000012, hm⟩ := q_b2i hm
  refine q_callV C hW hS (As := []) (rest := []) (st1 := [va_rf v1000013]) (c_X10_nextCode l D al dt1000010 x1 kx1 v1000013 dt1000014 hc1000012) yl_X10_nextCode vl_X10_nextCode ml_RX3_137 (ci := 10) rfl kx1 (by decide) rfl ⟨Nat.le_of_ble_eq_true rfl, Nat.le_of_ble_eq_true rfl⟩ hl rfl (Nat.le_of_ble_eq_true rfl) dX3_makeBits_29 ⟨Nat.le_refl _, Nat.le_refl _⟩ rfl (fun H locs k1000015 hW hS => ?_)
  have k1000015 := q_rk k1000015 (by decide)
  refine q_astoreQ (i := 4) (lv' := [(4, va_rf v1000013), (3, .int v1000009), (2, .int v1000005), (0, .ref x0), (1, .ref x1)]) C dX3_makeBits_32 hl (by decide) rfl (fun ls hl => ?_)
  refine q_aloadQ C dX3_makeBits_34 (lv_at hl 0 rfl) ?_
  refine q_ifnull C hm (tgt := 46) dX3_makeBits_36 (by decide) (fun e1000018 hq1000019 => ?_) (fun b1000016 e1000018 hq1000019 => ?_)
  · subst e1000018
    have hm := hq1000019
    exact e_vD C hW hS hm dX3_makeBits_46
  subst e1000018
  have hm := hq1000019
  have k1000017 := k1000015 b1000016 rfl
  refine lv_aload hx hb dX3_makeBits_39 (lv_at hl 0 rfl) ?_
  refine lv_iload_n hx hb dX3_makeBits_41 rfl (lv_at hl 2 rfl) ?_
  refine lv_iload_n hx hb dX3_makeBits_42 rfl (lv_at hl 1 rfl) ?_
  obtain ⟨dt1000021, hc1000020, hm⟩ := q_b1i hm
  refine q_callV C hW hS (As := [.int v1000005, .int v1000009]) (rest := []) (st1 := []) (c_X0_layBits l D al dt1000014 b1000016 v1000005 v1000009 k1000017 dt1000021 hc1000020) yl_X0_layBits vl_X0_layBits ml_RX3_150 (ci := 0) rfl k1000017 (by decide) rfl ⟨Nat.le_of_ble_eq_true rfl, Nat.le_of_ble_eq_true rfl⟩ hl rfl (Nat.le_of_ble_eq_true rfl) dX3_makeBits_43 ⟨Nat.le_refl _, Nat.le_refl _⟩ rfl (fun H locs k1000022 hW hS => ?_)
  exact e_vD C hW hS hm dX3_makeBits_46
theorem dX3_numberNamed_0 : decode cX3_numberNamed 0 = .ok (.aload_n 0, 1) := by decide +kernel
theorem dX3_numberNamed_1 : decode cX3_numberNamed 1 = .ok (.aload_n 0, 1) := by decide +kernel
theorem dX3_numberNamed_2 : decode cX3_numberNamed 2 = .ok (.getfield 12, 3) := by decide +kernel
theorem dX3_numberNamed_5 : decode cX3_numberNamed 5 = .ok (.getfield 57, 3) := by decide +kernel
theorem dX3_numberNamed_8 : decode cX3_numberNamed 8 = .ok (.aload_n 0, 1) := by decide +kernel
theorem dX3_numberNamed_9 : decode cX3_numberNamed 9 = .ok (.getfield 37, 3) := by decide +kernel
theorem dX3_numberNamed_12 : decode cX3_numberNamed 12 = .ok (.invokevirtual 106, 3) := by decide +kernel
theorem dX3_numberNamed_15 : decode cX3_numberNamed 15 = .ok (.invokevirtual 116, 3) := by decide +kernel
theorem dX3_numberNamed_18 : decode cX3_numberNamed 18 = .ok (.istore_n 2, 1) := by decide +kernel
theorem dX3_numberNamed_19 : decode cX3_numberNamed 19 = .ok (.aload_n 0, 1) := by decide +kernel
theorem dX3_numberNamed_20 : decode cX3_numberNamed 20 = .ok (.dup, 1) := by decide +kernel
theorem dX3_numberNamed_21 : decode cX3_numberNamed 21 = .ok (.getfield 37, 3) := by decide +kernel
theorem dX3_numberNamed_24 : decode cX3_numberNamed 24 = .ok (.iconst 1, 1) := by decide +kernel
theorem dX3_numberNamed_25 : decode cX3_numberNamed 25 = .ok (.iadd, 1) := by decide +kernel
theorem dX3_numberNamed_26 : decode cX3_numberNamed 26 = .ok (.putfield 37, 3) := by decide +kernel
theorem dX3_numberNamed_29 : decode cX3_numberNamed 29 = .ok (.iload_n 2, 1) := by decide +kernel
theorem dX3_numberNamed_30 : decode cX3_numberNamed 30 = .ok (.iconst (-1), 1) := by decide +kernel
theorem dX3_numberNamed_31 : decode cX3_numberNamed 31 = .ok (.if_icmp .eq 28, 3) := by decide +kernel
theorem dX3_numberNamed_34 : decode cX3_numberNamed 34 = .ok (.aload_n 0, 1) := by decide +kernel
theorem dX3_numberNamed_35 : decode cX3_numberNamed 35 = .ok (.getfield 27, 3) := by decide +kernel
theorem dX3_numberNamed_38 : decode cX3_numberNamed 38 = .ok (.iload_n 2, 1) := by decide +kernel
theorem dX3_numberNamed_39 : decode cX3_numberNamed 39 = .ok (.invokevirtual 106, 3) := by decide +kernel
theorem dX3_numberNamed_42 : decode cX3_numberNamed 42 = .ok (.iload_n 1, 1) := by decide +kernel
theorem dX3_numberNamed_43 : decode cX3_numberNamed 43 = .ok (.i2l, 1) := by decide +kernel
theorem dX3_numberNamed_44 : decode cX3_numberNamed 44 = .ok (.lcmp, 1) := by decide +kernel
theorem dX3_numberNamed_45 : decode cX3_numberNamed 45 = .ok (.ifCond .ne 14, 3) := by decide +kernel
theorem dX3_numberNamed_48 : decode cX3_numberNamed 48 = .ok (.aload_n 0, 1) := by decide +kernel
theorem dX3_numberNamed_49 : decode cX3_numberNamed 49 = .ok (.getfield 30, 3) := by decide +kernel
theorem dX3_numberNamed_52 : decode cX3_numberNamed 52 = .ok (.iload_n 2, 1) := by decide +kernel
theorem dX3_numberNamed_53 : decode cX3_numberNamed 53 = .ok (.invokevirtual 60, 3) := by decide +kernel
theorem dX3_numberNamed_56 : decode cX3_numberNamed 56 = .ok (.goto 4, 3) := by decide +kernel
theorem dX3_numberNamed_59 : decode cX3_numberNamed 59 = .ok (.iconst (-1), 1) := by decide +kernel
theorem dX3_numberNamed_60 : decode cX3_numberNamed 60 = .ok (.ireturn, 1) := by decide +kernel
set_option maxRecDepth 100000 in
theorem c_X3_numberNamed (l : Launch) (D : q_D) (al : q_Al) (dt : q_Dt) (x0 : Nat) (x1 : Int32) (kx0 : al.1 x0 = 4) (r0 : Int32) (dt0 : q_Dt) (hm : X3_numberNamed al dt x0 x1 = some (r0, dt0)) : q_Mt l yX3_numberNamed cX3_numberNamed 3 (some FieldType.int) 2 44 D al [.ref x0, .int x1] dt 0 (some (.int r0)) dt0 := by
  refine q_Mt.of (by decide) (Nat.le_of_ble_eq_true rfl) ?_
  intro p e s m args below meth c ls C hargs hW hl
  have hx := C.1
  have hb := C.2.1
  have hown := C.2.2.2.2.2.1
  have hts := C.2.2.2.2.2.2.1
  have hS : va_S (q_A al) s.heap s.heap [] := va_S.rf
  have hl : lv_has ls 3 [(0, .ref x0), (1, .int x1)] := hl
  unfold X3_numberNamed at hm
  refine lv_aload_n hx hb dX3_numberNamed_0 rfl (lv_at hl 0 rfl) ?_
  refine lv_aload_n hx hb dX3_numberNamed_1 rfl (lv_at hl 0 rfl) ?_
  refine r_getF C hW (ci := 3) kx0 ff_3_0 cl_3 fl_RX3_12 dX3_numberNamed_2 (fun k1000001 => ?_)
  refine r_getF C hW (ci := 9) k1000001 ff_9_3 cl_9 fl_RX3_57 dX3_numberNamed_5 (fun k1000002 => ?_)
  refine lv_aload_n hx hb dX3_numberNamed_8 rfl (lv_at hl 0 rfl) ?_
  refine r_getI C hW (ci := 3) kx0 ff_3_5 cl_3 fl_RX3_37 dX3_numberNamed_9 ?_
  obtain ⟨v1000004, hc1000003, hm⟩ := q_b1i hm
  refine q_callV C hW hS (As := [.int (dt.1 x0 5)]) (rest := [.ref x0]) (st1 := [.long v1000004, .ref x0]) (c_X5_at l D al dt (al.2.2 (al.2.2 x0 0) 3) (dt.1 x0 5) k1000002 v1000004 hc1000003) yl_X5_at vl_X5_at ml_RX3_106 (ci := 5) rfl k1000002 (by decide) rfl ⟨Nat.le_of_ble_eq_true rfl, Nat.le_of_ble_eq_true rfl⟩ hl rfl (Nat.le_of_ble_eq_true rfl) dX3_numberNamed_12 ⟨Nat.le_refl _, Nat.le_refl _⟩ rfl (fun H locs k1000005 hW hS => ?_)
  obtain ⟨v1000007, hc1000006, hm⟩ := q_b1i hm
  refine q_callV C hW hS (As := [.long v1000004]) (rest := []) (st1 := [.int v1000007]) (c_X3_nameIndex l D al dt x0 v1000004 kx0 v1000007 hc1000006) yl_X3_nameIndex vl_X3_nameIndex ml_RX3_116 (ci := 3) rfl kx0 (by decide) rfl ⟨Nat.le_of_ble_eq_true rfl, Nat.le_of_ble_eq_true rfl⟩ hl rfl (Nat.le_of_ble_eq_true rfl) dX3_numberNamed_15 ⟨Nat.le_refl _, Nat.le_refl _⟩ rfl (fun H locs k1000008 hW hS => ?_)
  refine lv_istore_n (i := 2) (lv' := [(2, .int v1000007), (0, .ref x0), (1, .int x1)]) hx hb dX3_numberNamed_18 rfl hl (by decide) rfl (fun ls hl => ?_)
  refine lv_aload_n hx hb dX3_numberNamed_19 rfl (lv_at hl 1 rfl) ?_
  refine lv_dup hx hb dX3_numberNamed_20 rfl ?_
  refine r_getI C hW (ci := 3) kx0 ff_3_5 cl_3 fl_RX3_37 dX3_numberNamed_21 ?_
  refine lv_iconst (v := 1) hx hb dX3_numberNamed_24 (by decide) ?_
  refine lv_iadd hx hb dX3_numberNamed_25 ?_
  refine r_putI C hW hS hm (ci := 3) kx0 ff_3_5 cl_3 fl_RX3_37 (nf_3_5) rfl dX3_numberNamed_26 (fun dt1000009 H locs hm hW hS => ?_)
  refine lv_iload_n hx hb dX3_numberNamed_29 rfl (lv_at hl 0 rfl) ?_
  refine lv_iconst (v := (-1)) hx hb dX3_numberNamed_30 (by decide) ?_
  refine q_ifc hm (fun c1000010 hm => ?_) (fun c1000010 hm => ?_)
  · refine lv_icmp_eq (tgt := 59) hx hb dX3_numberNamed_31 (by decide) (fun _ => ?_) (fun h => absurd c1000010 h)
    refine lv_iconst (v := (-1)) hx hb dX3_numberNamed_59 (by decide) ?_
    exact e_iD C hW hS hm dX3_numberNamed_60
  refine lv_icmp_eq (tgt := 59) hx hb dX3_numberNamed_31 (by decide) (fun h => absurd h c1000010) (fun _ => ?_)
  refine lv_aload_n hx hb dX3_numberNamed_34 rfl (lv_at hl 1 rfl) ?_
  refine r_getF C hW (ci := 3) kx0 ff_3_2 cl_3 fl_RX3_27 dX3_numberNamed_35 (fun k1000011 => ?_)
  refine lv_iload_n hx hb dX3_numberNamed_38 rfl (lv_at hl 0 rfl) ?_
  obtain ⟨v1000013, hc1000012, hm⟩ := q_b1i hm
  refine q_callV C hW hS (As := [.int v1000007]) (rest := []) (st1 := [.long v1000013]) (c_X5_at l D al dt1000009 (al.2.2 x0 2) v1000007 k1000011 v1000013 hc1000012) yl_X5_at vl_X5_at ml_RX3_106 (ci := 5) rfl k1000011 (by decide) rfl ⟨Nat.le_of_ble_eq_true rfl, Nat.le_of_ble_eq_true rfl⟩ hl rfl (Nat.le_of_ble_eq_true rfl) dX3_numberNamed_39 ⟨Nat.le_refl _, Nat.le_refl _⟩ rfl (fun H locs k1000014 hW hS => ?_)
  refine lv_iload_n hx hb dX3_numberNamed_42 rfl (lv_at hl 2 rfl) ?_
  refine lv_i2l (v := (Int32.toInt64 x1)) hx hb dX3_numberNamed_43 rfl ?_
  refine W.lcmp hx hb dX3_numberNamed_44 ?_
  refine q_ifc hm (fun c1000015 hm => ?_) (fun c1000015 hm => ?_)
  · refine lv_if_ne (tgt := 59) hx hb dX3_numberNamed_45 (by decide) (fun h => absurd (q_cmp_eq.mpr c1000015) h) (fun _ => ?_)
    refine lv_aload_n hx hb dX3_numberNamed_48 rfl (lv_at hl 1 rfl) ?_
    refine r_getF C hW (ci := 3) kx0 ff_3_3 cl_3 fl_RX3_30 dX3_numberNamed_49 (fun k1000016 => ?_)
    refine lv_iload_n hx hb dX3_numberNamed_52 rfl (lv_at hl 0 rfl) ?_
    obtain ⟨v1000018, hc1000017, hm⟩ := q_b1i hm
    refine q_callV C hW hS (As := [.int v1000007]) (rest := []) (st1 := [.int v1000018]) (c_X5_small l D al dt1000009 (al.2.2 x0 3) v1000007 k1000016 v1000018 hc1000017) yl_X5_small vl_X5_small ml_RX3_60 (ci := 5) rfl k1000016 (by decide) rfl ⟨Nat.le_of_ble_eq_true rfl, Nat.le_of_ble_eq_true rfl⟩ hl rfl (Nat.le_of_ble_eq_true rfl) dX3_numberNamed_53 ⟨Nat.le_refl _, Nat.le_refl _⟩ rfl (fun H locs k1000019 hW hS => ?_)
    refine lv_goto (tgt := 60) hx hb dX3_numberNamed_56 (by decide) ?_
    exact e_iD C hW hS hm dX3_numberNamed_60
  refine lv_if_ne (tgt := 59) hx hb dX3_numberNamed_45 (by decide) (fun _ => ?_) (fun h => absurd (q_cmp_eq.mp h) c1000015)
  refine lv_iconst (v := (-1)) hx hb dX3_numberNamed_59 (by decide) ?_
  exact e_iD C hW hS hm dX3_numberNamed_60
theorem dX3_codeNamed_0 : decode cX3_codeNamed 0 = .ok (.aload_n 0, 1) := by decide +kernel
theorem dX3_codeNamed_1 : decode cX3_codeNamed 1 = .ok (.getfield 12, 3) := by decide +kernel
theorem dX3_codeNamed_4 : decode cX3_codeNamed 4 = .ok (.getfield 109, 3) := by decide +kernel
theorem dX3_codeNamed_7 : decode cX3_codeNamed 7 = .ok (.aload_n 0, 1) := by decide +kernel
theorem dX3_codeNamed_8 : decode cX3_codeNamed 8 = .ok (.getfield 37, 3) := by decide +kernel
theorem dX3_codeNamed_11 : decode cX3_codeNamed 11 = .ok (.invokevirtual 60, 3) := by decide +kernel
theorem dX3_codeNamed_14 : decode cX3_codeNamed 14 = .ok (.istore_n 2, 1) := by decide +kernel
theorem dX3_codeNamed_15 : decode cX3_codeNamed 15 = .ok (.aload_n 1, 1) := by decide +kernel
theorem dX3_codeNamed_16 : decode cX3_codeNamed 16 = .ok (.aload_n 0, 1) := by decide +kernel
theorem dX3_codeNamed_17 : decode cX3_codeNamed 17 = .ok (.iconst 0, 1) := by decide +kernel
theorem dX3_codeNamed_18 : decode cX3_codeNamed 18 = .ok (.invokevirtual 124, 3) := by decide +kernel
theorem dX3_codeNamed_21 : decode cX3_codeNamed 21 = .ok (.invokevirtual 127, 3) := by decide +kernel
theorem dX3_codeNamed_24 : decode cX3_codeNamed 24 = .ok (.astore_n 3, 1) := by decide +kernel
theorem dX3_codeNamed_25 : decode cX3_codeNamed 25 = .ok (.aload_n 3, 1) := by decide +kernel
theorem dX3_codeNamed_26 : decode cX3_codeNamed 26 = .ok (.ifnonnull 9, 3) := by decide +kernel
theorem dX3_codeNamed_29 : decode cX3_codeNamed 29 = .ok (.aload_n 0, 1) := by decide +kernel
theorem dX3_codeNamed_30 : decode cX3_codeNamed 30 = .ok (.iconst 4, 1) := by decide +kernel
theorem dX3_codeNamed_31 : decode cX3_codeNamed 31 = .ok (.iload_n 2, 1) := by decide +kernel
theorem dX3_codeNamed_32 : decode cX3_codeNamed 32 = .ok (.invokevirtual 112, 3) := by decide +kernel
theorem dX3_codeNamed_35 : decode cX3_codeNamed 35 = .ok (.aload_n 3, 1) := by decide +kernel
theorem dX3_codeNamed_36 : decode cX3_codeNamed 36 = .ok (.areturn, 1) := by decide +kernel
set_option maxRecDepth 100000 in
theorem c_X3_codeNamed (l : Launch) (D : q_D) (al : q_Al) (dt : q_Dt) (x0 : Nat) (x1 : Nat) (kx0 : al.1 x0 = 4) (kx1 : al.1 x1 = 11) (r0 : Option Nat) (dt0 : q_Dt) (hm : X3_codeNamed al dt x0 x1 = some (r0, dt0)) : q_Mt l yX3_codeNamed cX3_codeNamed 4 (some (FieldType.object "SpreadRows$Code")) 3 66 D al [.ref x0, .ref x1] dt 1 (some (va_rf r0)) dt0 := by
  refine q_Mt.of (by decide) (Nat.le_of_ble_eq_true rfl) ?_
  intro p e s m args below meth c ls C hargs hW hl
  have hx := C.1
  have hb := C.2.1
  have hown := C.2.2.2.2.2.1
  have hts := C.2.2.2.2.2.2.1
  have hS : va_S (q_A al) s.heap s.heap [] := va_S.rf
  have hl : lv_has ls 4 [(0, .ref x0), (1, .ref x1)] := hl
  unfold X3_codeNamed at hm
  have hB35 : ∀ (x3_35 : Option Nat) (kx3_35 : ∀ b, x3_35 = some b → al.1 b = 1) (dt : q_Dt) (H : Heap) (locs : List Loc) (ls : Array Slot) (hm : X3_codeNamed_b35 al x3_35 dt = some (r0, dt0)) (hW : q_W D al dt H) (hS : va_S (q_A al) s.heap H locs) (hl : lv_has ls 4 [(3, va_rf x3_35)]), W p l e { frames := 3, cells := 0, slots := 0, locals := 66 } s m args below meth c H locs 0 0 (MQ below (q_Q (some (va_rf r0)) (fun H => q_W D al dt0 H ∧ q_Rk al 1 (some (va_rf r0))) (q_A al)) args s 0 0 (q_A al)) (F0 m 35 ls []) := by
    intro x3_35 kx3_35 dt H locs ls hm hW hS hl
    unfold X3_codeNamed_b35 at hm
    refine q_aloadQ_n C dX3_codeNamed_35 rfl (lv_at hl 0 rfl) ?_
    exact e_aD C hW hS (v := x3_35) hm (Or.inr kx3_35) dX3_codeNamed_36
  refine lv_aload_n hx hb dX3_codeNamed_0 rfl (lv_at hl 0 rfl) ?_
  refine r_getF C hW (ci := 3) kx0 ff_3_0 cl_3 fl_RX3_12 dX3_codeNamed_1 (fun k1000001 => ?_)
  refine r_getF C hW (ci := 9) k1000001 ff_9_2 cl_9 fl_RX3_109 dX3_codeNamed_4 (fun k1000002 => ?_)
  refine lv_aload_n hx hb dX3_codeNamed_7 rfl (lv_at hl 0 rfl) ?_
  refine r_getI C hW (ci := 3) kx0 ff_3_5 cl_3 fl_RX3_37 dX3_codeNamed_8 ?_
  obtain ⟨v1000004, hc1000003, hm⟩ := q_b1i hm
  refine q_callV C hW hS (As := [.int (dt.1 x0 5)]) (rest := []) (st1 := [.int v1000004]) (c_X5_small l D al dt (al.2.2 (al.2.2 x0 0) 2) (dt.1 x0 5) k1000002 v1000004 hc1000003) yl_X5_small vl_X5_small ml_RX3_60 (ci := 5) rfl k1000002 (by decide) rfl ⟨Nat.le_of_ble_eq_true rfl, Nat.le_of_ble_eq_true rfl⟩ hl rfl (Nat.le_of_ble_eq_true rfl) dX3_codeNamed_11 ⟨Nat.le_refl _, Nat.le_refl _⟩ rfl (fun H locs k1000005 hW hS => ?_)
  refine lv_istore_n (i := 2) (lv' := [(2, .int v1000004), (0, .ref x0), (1, .ref x1)]) hx hb dX3_codeNamed_14 rfl hl (by decide) rfl (fun ls hl => ?_)
  refine lv_aload_n hx hb dX3_codeNamed_15 rfl (lv_at hl 2 rfl) ?_
  refine lv_aload_n hx hb dX3_codeNamed_16 rfl (lv_at hl 1 rfl) ?_
  refine lv_iconst (v := 0) hx hb dX3_codeNamed_17 (by decide) ?_
  obtain ⟨v1000007, dt1000008, hc1000006, hm⟩ := q_b2i hm
  refine q_callV C hW hS (As := [.int 0]) (rest := [.ref x1]) (st1 := [.int v1000007, .ref x1]) (c_X3_numberNamed l D al dt x0 0 kx0 v1000007 dt1000008 hc1000006) yl_X3_numberNamed vl_X3_numberNamed ml_RX3_124 (ci := 3) rfl kx0 (by decide) rfl ⟨Nat.le_of_ble_eq_true rfl, Nat.le_of_ble_eq_true rfl⟩ hl rfl (Nat.le_of_ble_eq_true rfl) dX3_codeNamed_18 ⟨Nat.le_refl _, Nat.le_refl _⟩ rfl (fun H locs k1000009 hW hS => ?_)
  obtain ⟨v1000011, hc1000010, hm⟩ := q_b1i hm
  refine q_callV C hW hS (As := [.int v1000007]) (rest := []) (st1 := [va_rf v1000011]) (c_X10_codeAt l D al dt1000008 x1 v1000007 kx1 v1000011 hc1000010) yl_X10_codeAt vl_X10_codeAt ml_RX3_127 (ci := 10) rfl kx1 (by decide) rfl ⟨Nat.le_of_ble_eq_true rfl, Nat.le_of_ble_eq_true rfl⟩ hl rfl (Nat.le_of_ble_eq_true rfl) dX3_codeNamed_21 ⟨Nat.le_refl _, Nat.le_refl _⟩ rfl (fun H locs k1000012 hW hS => ?_)
  have k1000012 := q_rk k1000012 (by decide)
  refine q_astoreQ_n (i := 3) (lv' := [(3, va_rf v1000011), (2, .int v1000004), (0, .ref x0), (1, .ref x1)]) C dX3_codeNamed_24 rfl hl (by decide) rfl (fun ls hl => ?_)
  refine q_aloadQ_n C dX3_codeNamed_25 rfl (lv_at hl 0 rfl) ?_
  refine q_ifnonnull C hm (tgt := 35) dX3_codeNamed_26 (by decide) (fun e1000015 hq1000016 => ?_) (fun b1000013 e1000015 hq1000016 => ?_)
  · subst e1000015
    have hm := hq1000016
    refine lv_aload_n hx hb dX3_codeNamed_29 rfl (lv_at hl 2 rfl) ?_
    refine lv_iconst (v := 4) hx hb dX3_codeNamed_30 (by decide) ?_
    refine lv_iload_n hx hb dX3_codeNamed_31 rfl (lv_at hl 1 rfl) ?_
    obtain ⟨dt1000018, hc1000017, hm⟩ := q_b1i hm
    refine q_callV C hW hS (As := [.int 4, .int v1000004]) (rest := []) (st1 := []) (c_X3_refuse l D al dt1000008 x0 4 v1000004 kx0 dt1000018 hc1000017) yl_X3_refuse vl_X3_refuse ml_RX3_112 (ci := 3) rfl kx0 (by decide) rfl ⟨Nat.le_of_ble_eq_true rfl, Nat.le_of_ble_eq_true rfl⟩ hl rfl (Nat.le_of_ble_eq_true rfl) dX3_codeNamed_32 ⟨Nat.le_refl _, Nat.le_refl _⟩ rfl (fun H locs k1000019 hW hS => ?_)
    exact hB35 none q_kn dt1000018 _ _ _ hm hW hS (lv_sub hl [0] rfl)
  subst e1000015
  have hm := hq1000016
  have k1000014 := k1000012 b1000013 rfl
  exact hB35 (some b1000013) (q_ks k1000014) dt1000008 _ _ _ hm hW hS (lv_sub hl [0] rfl)
theorem dX3_makeBoth_0 : decode cX3_makeBoth 0 = .ok (.aload_n 0, 1) := by decide +kernel
theorem dX3_makeBoth_1 : decode cX3_makeBoth 1 = .ok (.iconst 0, 1) := by decide +kernel
theorem dX3_makeBoth_2 : decode cX3_makeBoth 2 = .ok (.aload_n 1, 1) := by decide +kernel
theorem dX3_makeBoth_3 : decode cX3_makeBoth 3 = .ok (.getfield 131, 3) := by decide +kernel
theorem dX3_makeBoth_6 : decode cX3_makeBoth 6 = .ok (.invokevirtual 134, 3) := by decide +kernel
theorem dX3_makeBoth_9 : decode cX3_makeBoth 9 = .ok (.aload_n 0, 1) := by decide +kernel
theorem dX3_makeBoth_10 : decode cX3_makeBoth 10 = .ok (.aload_n 1, 1) := by decide +kernel
theorem dX3_makeBoth_11 : decode cX3_makeBoth 11 = .ok (.invokevirtual 153, 3) := by decide +kernel
theorem dX3_makeBoth_14 : decode cX3_makeBoth 14 = .ok (.astore_n 2, 1) := by decide +kernel
theorem dX3_makeBoth_15 : decode cX3_makeBoth 15 = .ok (.aload_n 0, 1) := by decide +kernel
theorem dX3_makeBoth_16 : decode cX3_makeBoth 16 = .ok (.getfield 12, 3) := by decide +kernel
theorem dX3_makeBoth_19 : decode cX3_makeBoth 19 = .ok (.getfield 109, 3) := by decide +kernel
theorem dX3_makeBoth_22 : decode cX3_makeBoth 22 = .ok (.aload_n 0, 1) := by decide +kernel
theorem dX3_makeBoth_23 : decode cX3_makeBoth 23 = .ok (.getfield 37, 3) := by decide +kernel
theorem dX3_makeBoth_26 : decode cX3_makeBoth 26 = .ok (.invokevirtual 60, 3) := by decide +kernel
theorem dX3_makeBoth_29 : decode cX3_makeBoth 29 = .ok (.istore_n 3, 1) := by decide +kernel
theorem dX3_makeBoth_30 : decode cX3_makeBoth 30 = .ok (.aload_n 0, 1) := by decide +kernel
theorem dX3_makeBoth_31 : decode cX3_makeBoth 31 = .ok (.aload_n 1, 1) := by decide +kernel
theorem dX3_makeBoth_32 : decode cX3_makeBoth 32 = .ok (.invokevirtual 153, 3) := by decide +kernel
theorem dX3_makeBoth_35 : decode cX3_makeBoth 35 = .ok (.astore 4, 2) := by decide +kernel
theorem dX3_makeBoth_37 : decode cX3_makeBoth 37 = .ok (.aload_n 2, 1) := by decide +kernel
theorem dX3_makeBoth_38 : decode cX3_makeBoth 38 = .ok (.ifnull 8, 3) := by decide +kernel
theorem dX3_makeBoth_41 : decode cX3_makeBoth 41 = .ok (.aload 4, 2) := by decide +kernel
theorem dX3_makeBoth_43 : decode cX3_makeBoth 43 = .ok (.ifnonnull 4, 3) := by decide +kernel
theorem dX3_makeBoth_46 : decode cX3_makeBoth 46 = .ok (.return_, 1) := by decide +kernel
theorem dX3_makeBoth_47 : decode cX3_makeBoth 47 = .ok (.aload_n 2, 1) := by decide +kernel
theorem dX3_makeBoth_48 : decode cX3_makeBoth 48 = .ok (.getfield 157, 3) := by decide +kernel
theorem dX3_makeBoth_51 : decode cX3_makeBoth 51 = .ok (.aload 4, 2) := by decide +kernel
theorem dX3_makeBoth_53 : decode cX3_makeBoth 53 = .ok (.getfield 157, 3) := by decide +kernel
theorem dX3_makeBoth_56 : decode cX3_makeBoth 56 = .ok (.if_icmp .eq 9, 3) := by decide +kernel
theorem dX3_makeBoth_59 : decode cX3_makeBoth 59 = .ok (.aload_n 0, 1) := by decide +kernel
theorem dX3_makeBoth_60 : decode cX3_makeBoth 60 = .ok (.iconst 5, 1) := by decide +kernel
theorem dX3_makeBoth_61 : decode cX3_makeBoth 61 = .ok (.iload_n 3, 1) := by decide +kernel
theorem dX3_makeBoth_62 : decode cX3_makeBoth 62 = .ok (.invokevirtual 112, 3) := by decide +kernel
theorem dX3_makeBoth_65 : decode cX3_makeBoth 65 = .ok (.aload_n 0, 1) := by decide +kernel
theorem dX3_makeBoth_66 : decode cX3_makeBoth 66 = .ok (.iconst 0, 1) := by decide +kernel
theorem dX3_makeBoth_67 : decode cX3_makeBoth 67 = .ok (.aload_n 2, 1) := by decide +kernel
theorem dX3_makeBoth_68 : decode cX3_makeBoth 68 = .ok (.getfield 157, 3) := by decide +kernel
theorem dX3_makeBoth_71 : decode cX3_makeBoth 71 = .ok (.iconst 1, 1) := by decide +kernel
theorem dX3_makeBoth_72 : decode cX3_makeBoth 72 = .ok (.isub, 1) := by decide +kernel
theorem dX3_makeBoth_73 : decode cX3_makeBoth 73 = .ok (.invokevirtual 93, 3) := by decide +kernel
theorem dX3_makeBoth_76 : decode cX3_makeBoth 76 = .ok (.istore 5, 2) := by decide +kernel
theorem dX3_makeBoth_78 : decode cX3_makeBoth 78 = .ok (.aload_n 1, 1) := by decide +kernel
theorem dX3_makeBoth_79 : decode cX3_makeBoth 79 = .ok (.invokevirtual 137, 3) := by decide +kernel
theorem dX3_makeBoth_82 : decode cX3_makeBoth 82 = .ok (.astore 6, 2) := by decide +kernel
theorem dX3_makeBoth_84 : decode cX3_makeBoth 84 = .ok (.aload 6, 2) := by decide +kernel
theorem dX3_makeBoth_86 : decode cX3_makeBoth 86 = .ok (.ifnull 13, 3) := by decide +kernel
theorem dX3_makeBoth_89 : decode cX3_makeBoth 89 = .ok (.aload 6, 2) := by decide +kernel
theorem dX3_makeBoth_91 : decode cX3_makeBoth 91 = .ok (.aload_n 2, 1) := by decide +kernel
theorem dX3_makeBoth_92 : decode cX3_makeBoth 92 = .ok (.aload 4, 2) := by decide +kernel
theorem dX3_makeBoth_94 : decode cX3_makeBoth 94 = .ok (.iload 5, 2) := by decide +kernel
theorem dX3_makeBoth_96 : decode cX3_makeBoth 96 = .ok (.invokevirtual 160, 3) := by decide +kernel
theorem dX3_makeBoth_99 : decode cX3_makeBoth 99 = .ok (.return_, 1) := by decide +kernel
set_option maxRecDepth 100000 in
theorem c_X3_makeBoth (l : Launch) (D : q_D) (al : q_Al) (dt : q_Dt) (x0 : Nat) (x1 : Nat) (kx0 : al.1 x0 = 4) (kx1 : al.1 x1 = 11) (dt0 : q_Dt) (hm : X3_makeBoth al dt x0 x1 = some dt0) : q_Mt l yX3_makeBoth cX3_makeBoth 7 (none) 4 89 D al [.ref x0, .ref x1] dt 0 none dt0 := by
  refine q_Mt.of (by decide) (Nat.le_of_ble_eq_true rfl) ?_
  intro p e s m args below meth c ls C hargs hW hl
  have hx := C.1
  have hb := C.2.1
  have hown := C.2.2.2.2.2.1
  have hts := C.2.2.2.2.2.2.1
  have hS : va_S (q_A al) s.heap s.heap [] := va_S.rf
  have hl : lv_has ls 7 [(0, .ref x0), (1, .ref x1)] := hl
  unfold X3_makeBoth at hm
  have hB65 : ∀ (x0_65 : Nat) (x1_65 : Nat) (x2_65 : Nat) (x4_65 : Nat) (kx0_65 : al.1 x0_65 = 4) (kx1_65 : al.1 x1_65 = 11) (kx2_65 : al.1 x2_65 = 1) (kx4_65 : al.1 x4_65 = 1) (dt : q_Dt) (H : Heap) (locs : List Loc) (ls : Array Slot) (hm : X3_makeBoth_b65 al x0_65 x1_65 x2_65 x4_65 dt = some dt0) (hW : q_W D al dt H) (hS : va_S (q_A al) s.heap H locs) (hl : lv_has ls 7 [(0, .ref x0_65), (1, .ref x1_65), (2, .ref x2_65), (4, .ref x4_65)]), W p l e { frames := 4, cells := 0, slots := 0, locals := 89 } s m args below meth c H locs 0 0 (MQ below (q_Q none (fun H => q_W D al dt0 H ∧ q_Rk al 0 none) (q_A al)) args s 0 0 (q_A al)) (F0 m 65 ls []) := by
    intro x0_65 x1_65 x2_65 x4_65 kx0_65 kx1_65 kx2_65 kx4_65 dt H locs ls hm hW hS hl
    unfold X3_makeBoth_b65 at hm
    refine lv_aload_n hx hb dX3_makeBoth_65 rfl (lv_at hl 0 rfl) ?_
    refine lv_iconst (v := 0) hx hb dX3_makeBoth_66 (by decide) ?_
    refine lv_aload_n hx hb dX3_makeBoth_67 rfl (lv_at hl 2 rfl) ?_
    refine r_getI C hW (ci := 0) kx2_65 ff_0_1 cl_0 fl_RX3_157 dX3_makeBoth_68 ?_
    refine lv_iconst (v := 1) hx hb dX3_makeBoth_71 (by decide) ?_
    refine lv_isub hx hb dX3_makeBoth_72 ?_
    obtain ⟨v65002, dt65003, hc65001, hm⟩ := q_b2i hm
    refine q_callV C hW hS (As := [.int 0, .int ((dt.1 x2_65 1) - 1)]) (rest := []) (st1 := [.int v65002]) (c_X3_number l D al dt x0_65 0 ((dt.1 x2_65 1) - 1) kx0_65 v65002 dt65003 hc65001) yl_X3_number vl_X3_number ml_RX3_93 (ci := 3) rfl kx0_65 (by decide) rfl ⟨Nat.le_of_ble_eq_true rfl, Nat.le_of_ble_eq_true rfl⟩ hl rfl (Nat.le_of_ble_eq_true rfl) dX3_makeBoth_73 ⟨Nat.le_refl _, Nat.le_refl _⟩ rfl (fun H locs k65004 hW hS => ?_)
    refine lv_istore (i := 5) (lv' := [(5, .int v65002), (0, .ref x0_65), (1, .ref x1_65), (2, .ref x2_65), (4, .ref x4_65)]) hx hb dX3_makeBoth_76 hl (by decide) rfl (fun ls hl => ?_)
    refine lv_aload_n hx hb dX3_makeBoth_78 rfl (lv_at hl 2 rfl) ?_
    obtain ⟨v65006, dt65007, hc65005, hm⟩ := q_b2i hm
    refine q_callV C hW hS (As := []) (rest := []) (st1 := [va_rf v65006]) (c_X10_nextCode l D al dt65003 x1_65 kx1_65 v65006 dt65007 hc65005) yl_X10_nextCode vl_X10_nextCode ml_RX3_137 (ci := 10) rfl kx1_65 (by decide) rfl ⟨Nat.le_of_ble_eq_true rfl, Nat.le_of_ble_eq_true rfl⟩ hl rfl (Nat.le_of_ble_eq_true rfl) dX3_makeBoth_79 ⟨Nat.le_refl _, Nat.le_refl _⟩ rfl (fun H locs k65008 hW hS => ?_)
    have k65008 := q_rk k65008 (by decide)
    refine q_astoreQ (i := 6) (lv' := [(6, va_rf v65006), (5, .int v65002), (0, .ref x0_65), (1, .ref x1_65), (2, .ref x2_65), (4, .ref x4_65)]) C dX3_makeBoth_82 hl (by decide) rfl (fun ls hl => ?_)
    refine q_aloadQ C dX3_makeBoth_84 (lv_at hl 0 rfl) ?_
    refine q_ifnull C hm (tgt := 99) dX3_makeBoth_86 (by decide) (fun e65011 hq65012 => ?_) (fun b65009 e65011 hq65012 => ?_)
    · subst e65011
      have hm := hq65012
      exact e_vD C hW hS hm dX3_makeBoth_99
    subst e65011
    have hm := hq65012
    have k65010 := k65008 b65009 rfl
    refine lv_aload hx hb dX3_makeBoth_89 (lv_at hl 0 rfl) ?_
    refine lv_aload_n hx hb dX3_makeBoth_91 rfl (lv_at hl 4 rfl) ?_
    refine lv_aload hx hb dX3_makeBoth_92 (lv_at hl 5 rfl) ?_
    refine lv_iload hx hb dX3_makeBoth_94 (lv_at hl 1 rfl) ?_
    obtain ⟨dt65014, hc65013, hm⟩ := q_b1i hm
    refine q_callV C hW hS (As := [.ref x2_65, .ref x4_65, .int v65002]) (rest := []) (st1 := []) (c_X0_layBoth l D al dt65007 b65009 x2_65 x4_65 v65002 k65010 kx2_65 kx4_65 dt65014 hc65013) yl_X0_layBoth vl_X0_layBoth ml_RX3_160 (ci := 0) rfl k65010 (by decide) rfl ⟨Nat.le_of_ble_eq_true rfl, Nat.le_of_ble_eq_true rfl⟩ hl rfl (Nat.le_of_ble_eq_true rfl) dX3_makeBoth_96 ⟨Nat.le_refl _, Nat.le_refl _⟩ rfl (fun H locs k65015 hW hS => ?_)
    exact e_vD C hW hS hm dX3_makeBoth_99
  refine lv_aload_n hx hb dX3_makeBoth_0 rfl (lv_at hl 0 rfl) ?_
  refine lv_iconst (v := 0) hx hb dX3_makeBoth_1 (by decide) ?_
  refine lv_aload_n hx hb dX3_makeBoth_2 rfl (lv_at hl 1 rfl) ?_
  refine r_getI C hW (ci := 10) kx1 ff_10_7 cl_10 fl_RX3_131 dX3_makeBoth_3 ?_
  obtain ⟨dt1000002, hc1000001, hm⟩ := q_b1i hm
  refine q_callV C hW hS (As := [.int 0, .int (dt.1 x1 7)]) (rest := []) (st1 := []) (c_X3_newName l D al dt x0 0 (dt.1 x1 7) kx0 dt1000002 hc1000001) yl_X3_newName vl_X3_newName ml_RX3_134 (ci := 3) rfl kx0 (by decide) rfl ⟨Nat.le_of_ble_eq_true rfl, Nat.le_of_ble_eq_true rfl⟩ hl rfl (Nat.le_of_ble_eq_true rfl) dX3_makeBoth_6 ⟨Nat.le_refl _, Nat.le_refl _⟩ rfl (fun H locs k1000003 hW hS => ?_)
  refine lv_aload_n hx hb dX3_makeBoth_9 rfl (lv_at hl 0 rfl) ?_
  refine lv_aload_n hx hb dX3_makeBoth_10 rfl (lv_at hl 1 rfl) ?_
  obtain ⟨v1000005, dt1000006, hc1000004, hm⟩ := q_b2i hm
  refine q_callV C hW hS (As := [.ref x1]) (rest := []) (st1 := [va_rf v1000005]) (c_X3_codeNamed l D al dt1000002 x0 x1 kx0 kx1 v1000005 dt1000006 hc1000004) yl_X3_codeNamed vl_X3_codeNamed ml_RX3_153 (ci := 3) rfl kx0 (by decide) rfl ⟨Nat.le_of_ble_eq_true rfl, Nat.le_of_ble_eq_true rfl⟩ hl rfl (Nat.le_of_ble_eq_true rfl) dX3_makeBoth_11 ⟨Nat.le_refl _, Nat.le_refl _⟩ rfl (fun H locs k1000007 hW hS => ?_)
  have k1000007 := q_rk k1000007 (by decide)
  refine q_astoreQ_n (i := 2) (lv' := [(2, va_rf v1000005), (0, .ref x0), (1, .ref x1)]) C dX3_makeBoth_14 rfl hl (by decide) rfl (fun ls hl => ?_)
  refine lv_aload_n hx hb dX3_makeBoth_15 rfl (lv_at hl 1 rfl) ?_
  refine r_getF C hW (ci := 3) kx0 ff_3_0 cl_3 fl_RX3_12 dX3_makeBoth_16 (fun k1000008 => ?_)
  refine r_getF C hW (ci := 9) k1000008 ff_9_2 cl_9 fl_RX3_109 dX3_makeBoth_19 (fun k1000009 => ?_)
  refine lv_aload_n hx hb dX3_makeBoth_22 rfl (lv_at hl 1 rfl) ?_
  refine r_getI C hW (ci := 3) kx0 ff_3_5 cl_3 fl_RX3_37 dX3_makeBoth_23 ?_
  obtain ⟨v1000011, hc1000010, hm⟩ := q_b1i hm
  refine q_callV C hW hS (As := [.int (dt1000006.1 x0 5)]) (rest := []) (st1 := [.int v1000011]) (c_X5_small l D al dt1000006 (al.2.2 (al.2.2 x0 0) 2) (dt1000006.1 x0 5) k1000009 v1000011 hc1000010) yl_X5_small vl_X5_small ml_RX3_60 (ci := 5) rfl k1000009 (by decide) rfl ⟨Nat.le_of_ble_eq_true rfl, Nat.le_of_ble_eq_true rfl⟩ hl rfl (Nat.le_of_ble_eq_true rfl) dX3_makeBoth_26 ⟨Nat.le_refl _, Nat.le_refl _⟩ rfl (fun H locs k1000012 hW hS => ?_)
  refine lv_istore_n (i := 3) (lv' := [(3, .int v1000011), (2, va_rf v1000005), (0, .ref x0), (1, .ref x1)]) hx hb dX3_makeBoth_29 rfl hl (by decide) (by simp [q_cat, q_catR, q_catI, q_catL] <;> rfl) (fun ls hl => ?_)
  refine lv_aload_n hx hb dX3_makeBoth_30 rfl (lv_at hl 2 rfl) ?_
  refine lv_aload_n hx hb dX3_makeBoth_31 rfl (lv_at hl 3 rfl) ?_
  obtain ⟨v1000014, dt1000015, hc1000013, hm⟩ := q_b2i hm
  refine q_callV C hW hS (As := [.ref x1]) (rest := []) (st1 := [va_rf v1000014]) (c_X3_codeNamed l D al dt1000006 x0 x1 kx0 kx1 v1000014 dt1000015 hc1000013) yl_X3_codeNamed vl_X3_codeNamed ml_RX3_153 (ci := 3) rfl kx0 (by decide) rfl ⟨Nat.le_of_ble_eq_true rfl, Nat.le_of_ble_eq_true rfl⟩ hl rfl (Nat.le_of_ble_eq_true rfl) dX3_makeBoth_32 ⟨Nat.le_refl _, Nat.le_refl _⟩ rfl (fun H locs k1000016 hW hS => ?_)
  have k1000016 := q_rk k1000016 (by decide)
  refine q_astoreQ (i := 4) (lv' := [(4, va_rf v1000014), (3, .int v1000011), (2, va_rf v1000005), (0, .ref x0), (1, .ref x1)]) C dX3_makeBoth_35 hl (by decide) rfl (fun ls hl => ?_)
  refine q_aloadQ_n C dX3_makeBoth_37 rfl (lv_at hl 2 rfl) ?_
  refine q_ifnull C hm (tgt := 46) dX3_makeBoth_38 (by decide) (fun e1000019 hq1000020 => ?_) (fun b1000017 e1000019 hq1000020 => ?_)
  · subst e1000019
    have hm := hq1000020
    exact e_vD C hW hS hm dX3_makeBoth_46
  subst e1000019
  have hm := hq1000020
  have k1000018 := k1000007 b1000017 rfl
  refine q_aloadQ C dX3_makeBoth_41 (lv_at hl 0 rfl) ?_
  refine q_ifnonnull C hm (tgt := 47) dX3_makeBoth_43 (by decide) (fun e1000023 hq1000024 => ?_) (fun b1000021 e1000023 hq1000024 => ?_)
  · subst e1000023
    have hm := hq1000024
    exact e_vD C hW hS hm dX3_makeBoth_46
  subst e1000023
  have hm := hq1000024
  have k1000022 := k1000016 b1000021 rfl
  refine lv_aload_n hx hb dX3_makeBoth_47 rfl (lv_at hl 2 rfl) ?_
  refine r_getI C hW (ci := 0) k1000018 ff_0_1 cl_0 fl_RX3_157 dX3_makeBoth_48 ?_
  refine lv_aload hx hb dX3_makeBoth_51 (lv_at hl 0 rfl) ?_
  refine r_getI C hW (ci := 0) k1000022 ff_0_1 cl_0 fl_RX3_157 dX3_makeBoth_53 ?_
  refine q_ifc hm (fun c1000025 hm => ?_) (fun c1000025 hm => ?_)
  · refine lv_icmp_eq (tgt := 65) hx hb dX3_makeBoth_56 (by decide) (fun _ => ?_) (fun h => absurd c1000025 h)
    exact hB65 x0 x1 b1000017 b1000021 kx0 kx1 k1000018 k1000022 dt1000015 _ _ _ hm hW hS (lv_sub hl [3, 4, 2, 0] rfl)
  refine lv_icmp_eq (tgt := 65) hx hb dX3_makeBoth_56 (by decide) (fun h => absurd h c1000025) (fun _ => ?_)
  refine lv_aload_n hx hb dX3_makeBoth_59 rfl (lv_at hl 3 rfl) ?_
  refine lv_iconst (v := 5) hx hb dX3_makeBoth_60 (by decide) ?_
  refine lv_iload_n hx hb dX3_makeBoth_61 rfl (lv_at hl 1 rfl) ?_
  obtain ⟨dt1000027, hc1000026, hm⟩ := q_b1i hm
  refine q_callV C hW hS (As := [.int 5, .int v1000011]) (rest := []) (st1 := []) (c_X3_refuse l D al dt1000015 x0 5 v1000011 kx0 dt1000027 hc1000026) yl_X3_refuse vl_X3_refuse ml_RX3_112 (ci := 3) rfl kx0 (by decide) rfl ⟨Nat.le_of_ble_eq_true rfl, Nat.le_of_ble_eq_true rfl⟩ hl rfl (Nat.le_of_ble_eq_true rfl) dX3_makeBoth_62 ⟨Nat.le_refl _, Nat.le_refl _⟩ rfl (fun H locs k1000028 hW hS => ?_)
  exact hB65 x0 x1 b1000017 b1000021 kx0 kx1 k1000018 k1000022 dt1000027 _ _ _ hm hW hS (lv_sub hl [3, 4, 2, 0] rfl)
theorem dX10_hopAt_0 : decode cX10_hopAt 0 = .ok (.iload_n 1, 1) := by decide +kernel
theorem dX10_hopAt_1 : decode cX10_hopAt 1 = .ok (.ifCond .lt 29, 3) := by decide +kernel
theorem dX10_hopAt_4 : decode cX10_hopAt 4 = .ok (.iload_n 1, 1) := by decide +kernel
theorem dX10_hopAt_5 : decode cX10_hopAt 5 = .ok (.aload_n 0, 1) := by decide +kernel
theorem dX10_hopAt_6 : decode cX10_hopAt 6 = .ok (.getfield 51, 3) := by decide +kernel
theorem dX10_hopAt_9 : decode cX10_hopAt 9 = .ok (.if_icmp .ge 21, 3) := by decide +kernel
theorem dX10_hopAt_12 : decode cX10_hopAt 12 = .ok (.iload_n 1, 1) := by decide +kernel
theorem dX10_hopAt_13 : decode cX10_hopAt 13 = .ok (.aload_n 0, 1) := by decide +kernel
theorem dX10_hopAt_14 : decode cX10_hopAt 14 = .ok (.getfield 19, 3) := by decide +kernel
theorem dX10_hopAt_17 : decode cX10_hopAt 17 = .ok (.arraylength, 1) := by decide +kernel
theorem dX10_hopAt_18 : decode cX10_hopAt 18 = .ok (.if_icmp .ge 12, 3) := by decide +kernel
theorem dX10_hopAt_21 : decode cX10_hopAt 21 = .ok (.aload_n 0, 1) := by decide +kernel
theorem dX10_hopAt_22 : decode cX10_hopAt 22 = .ok (.getfield 19, 3) := by decide +kernel
theorem dX10_hopAt_25 : decode cX10_hopAt 25 = .ok (.iload_n 1, 1) := by decide +kernel
theorem dX10_hopAt_26 : decode cX10_hopAt 26 = .ok (.aaload, 1) := by decide +kernel
theorem dX10_hopAt_27 : decode cX10_hopAt 27 = .ok (.goto 4, 3) := by decide +kernel
theorem dX10_hopAt_30 : decode cX10_hopAt 30 = .ok (.aconst_null, 1) := by decide +kernel
theorem dX10_hopAt_31 : decode cX10_hopAt 31 = .ok (.areturn, 1) := by decide +kernel
set_option maxRecDepth 100000 in
theorem c_X10_hopAt (l : Launch) (D : q_D) (al : q_Al) (dt : q_Dt) (x0 : Nat) (x1 : Int32) (kx0 : al.1 x0 = 11) (r0 : Option Nat) (hm : X10_hopAt al dt x0 x1 = some r0) : q_Mt l yX10_hopAt cX10_hopAt 2 (some (FieldType.object "SpreadRows$Hop")) 0 0 D al [.ref x0, .int x1] dt 2 (some (va_rf r0)) dt := by
  refine q_Mt.of (by decide) (Nat.le_of_ble_eq_true rfl) ?_
  intro p e s m args below meth c ls C hargs hW hl
  have hx := C.1
  have hb := C.2.1
  have hown := C.2.2.2.2.2.1
  have hts := C.2.2.2.2.2.2.1
  have hS : va_S (q_A al) s.heap s.heap [] := va_S.rf
  have hl : lv_has ls 2 [(0, .ref x0), (1, .int x1)] := hl
  unfold X10_hopAt at hm
  refine lv_iload_n hx hb dX10_hopAt_0 rfl (lv_at hl 1 rfl) ?_
  refine q_ifc hm (fun c1000001 hm => ?_) (fun c1000001 hm => ?_)
  · refine lv_if_lt (tgt := 30) hx hb dX10_hopAt_1 (by decide) (fun _ => ?_) (fun h => absurd c1000001 h)
    refine q_null C dX10_hopAt_30 ?_
    exact e_a C hW hS (v := none) hm (Or.inr q_kn) dX10_hopAt_31
  refine lv_if_lt (tgt := 30) hx hb dX10_hopAt_1 (by decide) (fun h => absurd h c1000001) (fun _ => ?_)
  refine lv_iload_n hx hb dX10_hopAt_4 rfl (lv_at hl 1 rfl) ?_
  refine lv_aload_n hx hb dX10_hopAt_5 rfl (lv_at hl 0 rfl) ?_
  refine r_getI C hW (ci := 10) kx0 ff_10_8 cl_10 fl_RX10_51 dX10_hopAt_6 ?_
  refine q_ifc hm (fun c1000002 hm => ?_) (fun c1000002 hm => ?_)
  · refine lv_icmp_ge (tgt := 30) hx hb dX10_hopAt_9 (by decide) (fun _ => ?_) (fun h => absurd c1000002 h)
    refine q_null C dX10_hopAt_30 ?_
    exact e_a C hW hS (v := none) hm (Or.inr q_kn) dX10_hopAt_31
  refine lv_icmp_ge (tgt := 30) hx hb dX10_hopAt_9 (by decide) (fun h => absurd h c1000002) (fun _ => ?_)
  refine lv_iload_n hx hb dX10_hopAt_12 rfl (lv_at hl 1 rfl) ?_
  refine lv_aload_n hx hb dX10_hopAt_13 rfl (lv_at hl 0 rfl) ?_
  refine r_getF C hW (ci := 10) kx0 ff_10_1 cl_10 fl_RX10_19 dX10_hopAt_14 (fun k1000003 => ?_)
  refine q_alenR C hW (ci := 1) (t0 := 5) k1000003 (by decide) rfl dX10_hopAt_17 ?_
  refine q_ifc hm (fun c1000004 hm => ?_) (fun c1000004 hm => ?_)
  · refine lv_icmp_ge (tgt := 30) hx hb dX10_hopAt_18 (by decide) (fun _ => ?_) (fun h => absurd c1000004 h)
    refine q_null C dX10_hopAt_30 ?_
    exact e_a C hW hS (v := none) hm (Or.inr q_kn) dX10_hopAt_31
  refine lv_icmp_ge (tgt := 30) hx hb dX10_hopAt_18 (by decide) (fun h => absurd h c1000004) (fun _ => ?_)
  refine lv_aload_n hx hb dX10_hopAt_21 rfl (lv_at hl 0 rfl) ?_
  refine r_getF C hW (ci := 10) kx0 ff_10_1 cl_10 fl_RX10_19 dX10_hopAt_22 (fun k1000005 => ?_)
  refine lv_iload_n hx hb dX10_hopAt_25 rfl (lv_at hl 1 rfl) ?_
  refine r_aald C hW hm (ci := 1) (t0 := 5) k1000005 (by decide) rfl dX10_hopAt_26 (fun k1000006 hm => ?_)
  refine lv_goto (tgt := 31) hx hb dX10_hopAt_27 (by decide) ?_
  exact e_a C hW hS (v := (some (al.2.2 (al.2.2 x0 1) (Int32.toNatClampNeg x1)))) hm (Or.inr (q_ks k1000006)) dX10_hopAt_31
theorem dX10_nextHop_0 : decode cX10_nextHop 0 = .ok (.aload_n 0, 1) := by decide +kernel
theorem dX10_nextHop_1 : decode cX10_nextHop 1 = .ok (.dup, 1) := by decide +kernel
theorem dX10_nextHop_2 : decode cX10_nextHop 2 = .ok (.getfield 51, 3) := by decide +kernel
theorem dX10_nextHop_5 : decode cX10_nextHop 5 = .ok (.iconst 1, 1) := by decide +kernel
theorem dX10_nextHop_6 : decode cX10_nextHop 6 = .ok (.iadd, 1) := by decide +kernel
theorem dX10_nextHop_7 : decode cX10_nextHop 7 = .ok (.putfield 51, 3) := by decide +kernel
theorem dX10_nextHop_10 : decode cX10_nextHop 10 = .ok (.aload_n 0, 1) := by decide +kernel
theorem dX10_nextHop_11 : decode cX10_nextHop 11 = .ok (.aload_n 0, 1) := by decide +kernel
theorem dX10_nextHop_12 : decode cX10_nextHop 12 = .ok (.getfield 51, 3) := by decide +kernel
theorem dX10_nextHop_15 : decode cX10_nextHop 15 = .ok (.iconst 1, 1) := by decide +kernel
theorem dX10_nextHop_16 : decode cX10_nextHop 16 = .ok (.isub, 1) := by decide +kernel
theorem dX10_nextHop_17 : decode cX10_nextHop 17 = .ok (.invokevirtual 79, 3) := by decide +kernel
theorem dX10_nextHop_20 : decode cX10_nextHop 20 = .ok (.areturn, 1) := by decide +kernel
set_option maxRecDepth 100000 in
theorem c_X10_nextHop (l : Launch) (D : q_D) (al : q_Al) (dt : q_Dt) (x0 : Nat) (kx0 : al.1 x0 = 11) (r0 : Option Nat) (dt0 : q_Dt) (hm : X10_nextHop al dt x0 = some (r0, dt0)) : q_Mt l yX10_nextHop cX10_nextHop 1 (some (FieldType.object "SpreadRows$Hop")) 1 21 D al [.ref x0] dt 2 (some (va_rf r0)) dt0 := by
  refine q_Mt.of (by decide) (Nat.le_of_ble_eq_true rfl) ?_
  intro p e s m args below meth c ls C hargs hW hl
  have hx := C.1
  have hb := C.2.1
  have hown := C.2.2.2.2.2.1
  have hts := C.2.2.2.2.2.2.1
  have hS : va_S (q_A al) s.heap s.heap [] := va_S.rf
  have hl : lv_has ls 1 [(0, .ref x0)] := hl
  unfold X10_nextHop at hm
  refine lv_aload_n hx hb dX10_nextHop_0 rfl (lv_at hl 0 rfl) ?_
  refine lv_dup hx hb dX10_nextHop_1 rfl ?_
  refine r_getI C hW (ci := 10) kx0 ff_10_8 cl_10 fl_RX10_51 dX10_nextHop_2 ?_
  refine lv_iconst (v := 1) hx hb dX10_nextHop_5 (by decide) ?_
  refine lv_iadd hx hb dX10_nextHop_6 ?_
  refine r_putI C hW hS hm (ci := 10) kx0 ff_10_8 cl_10 fl_RX10_51 (nf_10_8) rfl dX10_nextHop_7 (fun dt1000001 H locs hm hW hS => ?_)
  refine lv_aload_n hx hb dX10_nextHop_10 rfl (lv_at hl 0 rfl) ?_
  refine lv_aload_n hx hb dX10_nextHop_11 rfl (lv_at hl 0 rfl) ?_
  refine r_getI C hW (ci := 10) kx0 ff_10_8 cl_10 fl_RX10_51 dX10_nextHop_12 ?_
  refine lv_iconst (v := 1) hx hb dX10_nextHop_15 (by decide) ?_
  refine lv_isub hx hb dX10_nextHop_16 ?_
  obtain ⟨v1000003, hc1000002, hm⟩ := q_b1i hm
  refine q_callV C hW hS (As := [.int ((dt1000001.1 x0 8) - 1)]) (rest := []) (st1 := [va_rf v1000003]) (c_X10_hopAt l D al dt1000001 x0 ((dt1000001.1 x0 8) - 1) kx0 v1000003 hc1000002) yl_X10_hopAt vl_X10_hopAt ml_RX10_79 (ci := 10) rfl kx0 (by decide) rfl ⟨Nat.le_of_ble_eq_true rfl, Nat.le_of_ble_eq_true rfl⟩ hl rfl (Nat.le_of_ble_eq_true rfl) dX10_nextHop_17 ⟨Nat.le_refl _, Nat.le_refl _⟩ rfl (fun H locs k1000004 hW hS => ?_)
  have k1000004 := q_rk k1000004 (by decide)
  exact e_aD C hW hS (v := v1000003) hm (Or.inr k1000004) dX10_nextHop_20
theorem dX3_makeHop_0 : decode cX3_makeHop 0 = .ok (.aload_n 0, 1) := by decide +kernel
theorem dX3_makeHop_1 : decode cX3_makeHop 1 = .ok (.iconst 4, 1) := by decide +kernel
theorem dX3_makeHop_2 : decode cX3_makeHop 2 = .ok (.aload_n 1, 1) := by decide +kernel
theorem dX3_makeHop_3 : decode cX3_makeHop 3 = .ok (.getfield 164, 3) := by decide +kernel
theorem dX3_makeHop_6 : decode cX3_makeHop 6 = .ok (.invokevirtual 134, 3) := by decide +kernel
theorem dX3_makeHop_9 : decode cX3_makeHop 9 = .ok (.aload_n 0, 1) := by decide +kernel
theorem dX3_makeHop_10 : decode cX3_makeHop 10 = .ok (.getfield 12, 3) := by decide +kernel
theorem dX3_makeHop_13 : decode cX3_makeHop 13 = .ok (.getfield 109, 3) := by decide +kernel
theorem dX3_makeHop_16 : decode cX3_makeHop 16 = .ok (.aload_n 0, 1) := by decide +kernel
theorem dX3_makeHop_17 : decode cX3_makeHop 17 = .ok (.getfield 37, 3) := by decide +kernel
theorem dX3_makeHop_20 : decode cX3_makeHop 20 = .ok (.invokevirtual 60, 3) := by decide +kernel
theorem dX3_makeHop_23 : decode cX3_makeHop 23 = .ok (.istore_n 2, 1) := by decide +kernel
theorem dX3_makeHop_24 : decode cX3_makeHop 24 = .ok (.aload_n 0, 1) := by decide +kernel
theorem dX3_makeHop_25 : decode cX3_makeHop 25 = .ok (.iconst 2, 1) := by decide +kernel
theorem dX3_makeHop_26 : decode cX3_makeHop 26 = .ok (.bipush 31, 2) := by decide +kernel
theorem dX3_makeHop_28 : decode cX3_makeHop 28 = .ok (.invokevirtual 93, 3) := by decide +kernel
theorem dX3_makeHop_31 : decode cX3_makeHop 31 = .ok (.istore_n 3, 1) := by decide +kernel
theorem dX3_makeHop_32 : decode cX3_makeHop 32 = .ok (.ldc2_w 167, 3) := by decide +kernel
theorem dX3_makeHop_35 : decode cX3_makeHop 35 = .ok (.iload_n 3, 1) := by decide +kernel
theorem dX3_makeHop_36 : decode cX3_makeHop 36 = .ok (.lshr, 1) := by decide +kernel
theorem dX3_makeHop_37 : decode cX3_makeHop 37 = .ok (.lconst 1, 1) := by decide +kernel
theorem dX3_makeHop_38 : decode cX3_makeHop 38 = .ok (.land, 1) := by decide +kernel
theorem dX3_makeHop_39 : decode cX3_makeHop 39 = .ok (.lconst 0, 1) := by decide +kernel
theorem dX3_makeHop_40 : decode cX3_makeHop 40 = .ok (.lcmp, 1) := by decide +kernel
theorem dX3_makeHop_41 : decode cX3_makeHop 41 = .ok (.ifCond .ne 9, 3) := by decide +kernel
theorem dX3_makeHop_44 : decode cX3_makeHop 44 = .ok (.aload_n 0, 1) := by decide +kernel
theorem dX3_makeHop_45 : decode cX3_makeHop 45 = .ok (.iconst 5, 1) := by decide +kernel
theorem dX3_makeHop_46 : decode cX3_makeHop 46 = .ok (.iload_n 2, 1) := by decide +kernel
theorem dX3_makeHop_47 : decode cX3_makeHop 47 = .ok (.invokevirtual 112, 3) := by decide +kernel
theorem dX3_makeHop_50 : decode cX3_makeHop 50 = .ok (.aload_n 0, 1) := by decide +kernel
theorem dX3_makeHop_51 : decode cX3_makeHop 51 = .ok (.iconst 0, 1) := by decide +kernel
theorem dX3_makeHop_52 : decode cX3_makeHop 52 = .ok (.iload_n 3, 1) := by decide +kernel
theorem dX3_makeHop_53 : decode cX3_makeHop 53 = .ok (.iconst 1, 1) := by decide +kernel
theorem dX3_makeHop_54 : decode cX3_makeHop 54 = .ok (.isub, 1) := by decide +kernel
theorem dX3_makeHop_55 : decode cX3_makeHop 55 = .ok (.invokevirtual 93, 3) := by decide +kernel
theorem dX3_makeHop_58 : decode cX3_makeHop 58 = .ok (.istore 4, 2) := by decide +kernel
theorem dX3_makeHop_60 : decode cX3_makeHop 60 = .ok (.aload_n 0, 1) := by decide +kernel
theorem dX3_makeHop_61 : decode cX3_makeHop 61 = .ok (.iconst 0, 1) := by decide +kernel
theorem dX3_makeHop_62 : decode cX3_makeHop 62 = .ok (.iload_n 3, 1) := by decide +kernel
theorem dX3_makeHop_63 : decode cX3_makeHop 63 = .ok (.iconst 1, 1) := by decide +kernel
theorem dX3_makeHop_64 : decode cX3_makeHop 64 = .ok (.isub, 1) := by decide +kernel
theorem dX3_makeHop_65 : decode cX3_makeHop 65 = .ok (.invokevirtual 93, 3) := by decide +kernel
theorem dX3_makeHop_68 : decode cX3_makeHop 68 = .ok (.istore 5, 2) := by decide +kernel
theorem dX3_makeHop_70 : decode cX3_makeHop 70 = .ok (.aload_n 1, 1) := by decide +kernel
theorem dX3_makeHop_71 : decode cX3_makeHop 71 = .ok (.invokevirtual 169, 3) := by decide +kernel
theorem dX3_makeHop_74 : decode cX3_makeHop 74 = .ok (.astore 6, 2) := by decide +kernel
theorem dX3_makeHop_76 : decode cX3_makeHop 76 = .ok (.aload 6, 2) := by decide +kernel
theorem dX3_makeHop_78 : decode cX3_makeHop 78 = .ok (.ifnull 13, 3) := by decide +kernel
theorem dX3_makeHop_81 : decode cX3_makeHop 81 = .ok (.aload 6, 2) := by decide +kernel
theorem dX3_makeHop_83 : decode cX3_makeHop 83 = .ok (.iload_n 3, 1) := by decide +kernel
theorem dX3_makeHop_84 : decode cX3_makeHop 84 = .ok (.iload 4, 2) := by decide +kernel
theorem dX3_makeHop_86 : decode cX3_makeHop 86 = .ok (.iload 5, 2) := by decide +kernel
theorem dX3_makeHop_88 : decode cX3_makeHop 88 = .ok (.invokevirtual 173, 3) := by decide +kernel
theorem dX3_makeHop_91 : decode cX3_makeHop 91 = .ok (.return_, 1) := by decide +kernel
set_option maxRecDepth 100000 in
theorem c_X3_makeHop (l : Launch) (D : q_D) (al : q_Al) (dt : q_Dt) (x0 : Nat) (x1 : Nat) (kx0 : al.1 x0 = 4) (kx1 : al.1 x1 = 11) (dt0 : q_Dt) (hm : X3_makeHop al dt x0 x1 = some dt0) : q_Mt l yX3_makeHop cX3_makeHop 7 (none) 3 68 D al [.ref x0, .ref x1] dt 0 none dt0 := by
  refine q_Mt.of (by decide) (Nat.le_of_ble_eq_true rfl) ?_
  intro p e s m args below meth c ls C hargs hW hl
  have hx := C.1
  have hb := C.2.1
  have hown := C.2.2.2.2.2.1
  have hts := C.2.2.2.2.2.2.1
  have hS : va_S (q_A al) s.heap s.heap [] := va_S.rf
  have hl : lv_has ls 7 [(0, .ref x0), (1, .ref x1)] := hl
  unfold X3_makeHop at hm
  have hB50 : ∀ (x0_50 : Nat) (x1_50 : Nat) (x3_50 : Int32) (kx0_50 : al.1 x0_50 = 4) (kx1_50 : al.1 x1_50 = 11) (dt : q_Dt) (H : Heap) (locs : List Loc) (ls : Array Slot) (hm : X3_makeHop_b50 al x0_50 x1_50 x3_50 dt = some dt0) (hW : q_W D al dt H) (hS : va_S (q_A al) s.heap H locs) (hl : lv_has ls 7 [(0, .ref x0_50), (1, .ref x1_50), (3, .int x3_50)]), W p l e { frames := 3, cells := 0, slots := 0, locals := 68 } s m args below meth c H locs 0 0 (MQ below (q_Q none (fun H => q_W D al dt0 H ∧ q_Rk al 0 none) (q_A al)) args s 0 0 (q_A al)) (F0 m 50 ls []) := by
    intro x0_50 x1_50 x3_50 kx0_50 kx1_50 dt H locs ls hm hW hS hl
    unfold X3_makeHop_b50 at hm
    refine lv_aload_n hx hb dX3_makeHop_50 rfl (lv_at hl 0 rfl) ?_
    refine lv_iconst (v := 0) hx hb dX3_makeHop_51 (by decide) ?_
    refine lv_iload_n hx hb dX3_makeHop_52 rfl (lv_at hl 2 rfl) ?_
    refine lv_iconst (v := 1) hx hb dX3_makeHop_53 (by decide) ?_
    refine lv_isub hx hb dX3_makeHop_54 ?_
    obtain ⟨v50002, dt50003, hc50001, hm⟩ := q_b2i hm
    refine q_callV C hW hS (As := [.int 0, .int (x3_50 - 1)]) (rest := []) (st1 := [.int v50002]) (c_X3_number l D al dt x0_50 0 (x3_50 - 1) kx0_50 v50002 dt50003 hc50001) yl_X3_number vl_X3_number ml_RX3_93 (ci := 3) rfl kx0_50 (by decide) rfl ⟨Nat.le_of_ble_eq_true rfl, Nat.le_of_ble_eq_true rfl⟩ hl rfl (Nat.le_of_ble_eq_true rfl) dX3_makeHop_55 ⟨Nat.le_refl _, Nat.le_refl _⟩ rfl (fun H locs k50004 hW hS => ?_)
    refine lv_istore (i := 4) (lv' := [(4, .int v50002), (0, .ref x0_50), (1, .ref x1_50), (3, .int x3_50)]) hx hb dX3_makeHop_58 hl (by decide) rfl (fun ls hl => ?_)
    refine lv_aload_n hx hb dX3_makeHop_60 rfl (lv_at hl 1 rfl) ?_
    refine lv_iconst (v := 0) hx hb dX3_makeHop_61 (by decide) ?_
    refine lv_iload_n hx hb dX3_makeHop_62 rfl (lv_at hl 3 rfl) ?_
    refine lv_iconst (v := 1) hx hb dX3_makeHop_63 (by decide) ?_
    refine lv_isub hx hb dX3_makeHop_64 ?_
    obtain ⟨v50006, dt50007, hc50005, hm⟩ := q_b2i hm
    refine q_callV C hW hS (As := [.int 0, .int (x3_50 - 1)]) (rest := []) (st1 := [.int v50006]) (c_X3_number l D al dt50003 x0_50 0 (x3_50 - 1) kx0_50 v50006 dt50007 hc50005) yl_X3_number vl_X3_number ml_RX3_93 (ci := 3) rfl kx0_50 (by decide) rfl ⟨Nat.le_of_ble_eq_true rfl, Nat.le_of_ble_eq_true rfl⟩ hl rfl (Nat.le_of_ble_eq_true rfl) dX3_makeHop_65 ⟨Nat.le_refl _, Nat.le_refl _⟩ rfl (fun H locs k50008 hW hS => ?_)
    refine lv_istore (i := 5) (lv' := [(5, .int v50006), (4, .int v50002), (0, .ref x0_50), (1, .ref x1_50), (3, .int x3_50)]) hx hb dX3_makeHop_68 hl (by decide) rfl (fun ls hl => ?_)
    refine lv_aload_n hx hb dX3_makeHop_70 rfl (lv_at hl 3 rfl) ?_
    obtain ⟨v50010, dt50011, hc50009, hm⟩ := q_b2i hm
    refine q_callV C hW hS (As := []) (rest := []) (st1 := [va_rf v50010]) (c_X10_nextHop l D al dt50007 x1_50 kx1_50 v50010 dt50011 hc50009) yl_X10_nextHop vl_X10_nextHop ml_RX3_169 (ci := 10) rfl kx1_50 (by decide) rfl ⟨Nat.le_of_ble_eq_true rfl, Nat.le_of_ble_eq_true rfl⟩ hl rfl (Nat.le_of_ble_eq_true rfl) dX3_makeHop_71 ⟨Nat.le_refl _, Nat.le_refl _⟩ rfl (fun H locs k50012 hW hS => ?_)
    have k50012 := q_rk k50012 (by decide)
    refine q_astoreQ (i := 6) (lv' := [(6, va_rf v50010), (5, .int v50006), (4, .int v50002), (0, .ref x0_50), (1, .ref x1_50), (3, .int x3_50)]) C dX3_makeHop_74 hl (by decide) rfl (fun ls hl => ?_)
    refine q_aloadQ C dX3_makeHop_76 (lv_at hl 0 rfl) ?_
    refine q_ifnull C hm (tgt := 91) dX3_makeHop_78 (by decide) (fun e50015 hq50016 => ?_) (fun b50013 e50015 hq50016 => ?_)
    · subst e50015
      have hm := hq50016
      exact e_vD C hW hS hm dX3_makeHop_91
    subst e50015
    have hm := hq50016
    have k50014 := k50012 b50013 rfl
    refine lv_aload hx hb dX3_makeHop_81 (lv_at hl 0 rfl) ?_
    refine lv_iload_n hx hb dX3_makeHop_83 rfl (lv_at hl 5 rfl) ?_
    refine lv_iload hx hb dX3_makeHop_84 (lv_at hl 2 rfl) ?_
    refine lv_iload hx hb dX3_makeHop_86 (lv_at hl 1 rfl) ?_
    obtain ⟨dt50018, hc50017, hm⟩ := q_b1i hm
    refine q_callV C hW hS (As := [.int x3_50, .int v50002, .int v50006]) (rest := []) (st1 := []) (c_X1_lay l D al dt50011 b50013 x3_50 v50002 v50006 k50014 dt50018 hc50017) yl_X1_lay vl_X1_lay ml_RX3_173 (ci := 1) rfl k50014 (by decide) rfl ⟨Nat.le_of_ble_eq_true rfl, Nat.le_of_ble_eq_true rfl⟩ hl rfl (Nat.le_of_ble_eq_true rfl) dX3_makeHop_88 ⟨Nat.le_refl _, Nat.le_refl _⟩ rfl (fun H locs k50019 hW hS => ?_)
    exact e_vD C hW hS hm dX3_makeHop_91
  refine lv_aload_n hx hb dX3_makeHop_0 rfl (lv_at hl 0 rfl) ?_
  refine lv_iconst (v := 4) hx hb dX3_makeHop_1 (by decide) ?_
  refine lv_aload_n hx hb dX3_makeHop_2 rfl (lv_at hl 1 rfl) ?_
  refine r_getI C hW (ci := 10) kx1 ff_10_8 cl_10 fl_RX3_164 dX3_makeHop_3 ?_
  obtain ⟨dt1000002, hc1000001, hm⟩ := q_b1i hm
  refine q_callV C hW hS (As := [.int 4, .int (dt.1 x1 8)]) (rest := []) (st1 := []) (c_X3_newName l D al dt x0 4 (dt.1 x1 8) kx0 dt1000002 hc1000001) yl_X3_newName vl_X3_newName ml_RX3_134 (ci := 3) rfl kx0 (by decide) rfl ⟨Nat.le_of_ble_eq_true rfl, Nat.le_of_ble_eq_true rfl⟩ hl rfl (Nat.le_of_ble_eq_true rfl) dX3_makeHop_6 ⟨Nat.le_refl _, Nat.le_refl _⟩ rfl (fun H locs k1000003 hW hS => ?_)
  refine lv_aload_n hx hb dX3_makeHop_9 rfl (lv_at hl 0 rfl) ?_
  refine r_getF C hW (ci := 3) kx0 ff_3_0 cl_3 fl_RX3_12 dX3_makeHop_10 (fun k1000004 => ?_)
  refine r_getF C hW (ci := 9) k1000004 ff_9_2 cl_9 fl_RX3_109 dX3_makeHop_13 (fun k1000005 => ?_)
  refine lv_aload_n hx hb dX3_makeHop_16 rfl (lv_at hl 0 rfl) ?_
  refine r_getI C hW (ci := 3) kx0 ff_3_5 cl_3 fl_RX3_37 dX3_makeHop_17 ?_
  obtain ⟨v1000007, hc1000006, hm⟩ := q_b1i hm
  refine q_callV C hW hS (As := [.int (dt1000002.1 x0 5)]) (rest := []) (st1 := [.int v1000007]) (c_X5_small l D al dt1000002 (al.2.2 (al.2.2 x0 0) 2) (dt1000002.1 x0 5) k1000005 v1000007 hc1000006) yl_X5_small vl_X5_small ml_RX3_60 (ci := 5) rfl k1000005 (by decide) rfl ⟨Nat.le_of_ble_eq_true rfl, Nat.le_of_ble_eq_true rfl⟩ hl rfl (Nat.le_of_ble_eq_true rfl) dX3_makeHop_20 ⟨Nat.le_refl _, Nat.le_refl _⟩ rfl (fun H locs k1000008 hW hS => ?_)
  refine lv_istore_n (i := 2) (lv' := [(2, .int v1000007), (0, .ref x0), (1, .ref x1)]) hx hb dX3_makeHop_23 rfl hl (by decide) rfl (fun ls hl => ?_)
  refine lv_aload_n hx hb dX3_makeHop_24 rfl (lv_at hl 1 rfl) ?_
  refine lv_iconst (v := 2) hx hb dX3_makeHop_25 (by decide) ?_
  refine lv_bipush (v := 31) hx hb dX3_makeHop_26 (by decide) ?_
  obtain ⟨v1000010, dt1000011, hc1000009, hm⟩ := q_b2i hm
  refine q_callV C hW hS (As := [.int 2, .int 31]) (rest := []) (st1 := [.int v1000010]) (c_X3_number l D al dt1000002 x0 2 31 kx0 v1000010 dt1000011 hc1000009) yl_X3_number vl_X3_number ml_RX3_93 (ci := 3) rfl kx0 (by decide) rfl ⟨Nat.le_of_ble_eq_true rfl, Nat.le_of_ble_eq_true rfl⟩ hl rfl (Nat.le_of_ble_eq_true rfl) dX3_makeHop_28 ⟨Nat.le_refl _, Nat.le_refl _⟩ rfl (fun H locs k1000012 hW hS => ?_)
  refine lv_istore_n (i := 3) (lv' := [(3, .int v1000010), (2, .int v1000007), (0, .ref x0), (1, .ref x1)]) hx hb dX3_makeHop_31 rfl hl (by decide) rfl (fun ls hl => ?_)
  refine lv_ldc2 (own := RX3) (v := 2693408940) hx hb hown (hts _ wc_RX3_167) dX3_makeHop_32 ?_
  refine lv_iload_n hx hb dX3_makeHop_35 rfl (lv_at hl 0 rfl) ?_
  refine lv_lshr (v := (2693408940 >>> (Int32.toInt64 v1000010 &&& 63))) hx hb dX3_makeHop_36 rfl ?_
  refine lv_lconst (v := 1) hx hb dX3_makeHop_37 rfl ?_
  refine lv_land hx hb dX3_makeHop_38 ?_
  refine lv_lconst (v := 0) hx hb dX3_makeHop_39 rfl ?_
  refine W.lcmp hx hb dX3_makeHop_40 ?_
  refine q_ifc hm (fun c1000013 hm => ?_) (fun c1000013 hm => ?_)
  · refine lv_if_ne (tgt := 50) hx hb dX3_makeHop_41 (by decide) (fun h => absurd (q_cmp_eq.mpr c1000013) h) (fun _ => ?_)
    refine lv_aload_n hx hb dX3_makeHop_44 rfl (lv_at hl 2 rfl) ?_
    refine lv_iconst (v := 5) hx hb dX3_makeHop_45 (by decide) ?_
    refine lv_iload_n hx hb dX3_makeHop_46 rfl (lv_at hl 1 rfl) ?_
    obtain ⟨dt1000015, hc1000014, hm⟩ := q_b1i hm
    refine q_callV C hW hS (As := [.int 5, .int v1000007]) (rest := []) (st1 := []) (c_X3_refuse l D al dt1000011 x0 5 v1000007 kx0 dt1000015 hc1000014) yl_X3_refuse vl_X3_refuse ml_RX3_112 (ci := 3) rfl kx0 (by decide) rfl ⟨Nat.le_of_ble_eq_true rfl, Nat.le_of_ble_eq_true rfl⟩ hl rfl (Nat.le_of_ble_eq_true rfl) dX3_makeHop_47 ⟨Nat.le_refl _, Nat.le_refl _⟩ rfl (fun H locs k1000016 hW hS => ?_)
    exact hB50 x0 x1 v1000010 kx0 kx1 dt1000015 _ _ _ hm hW hS (lv_sub hl [2, 3, 0] rfl)
  refine lv_if_ne (tgt := 50) hx hb dX3_makeHop_41 (by decide) (fun _ => ?_) (fun h => absurd (q_cmp_eq.mp h) c1000013)
  exact hB50 x0 x1 v1000010 kx0 kx1 dt1000011 _ _ _ hm hW hS (lv_sub hl [2, 3, 0] rfl)
theorem dX10_senderAt_0 : decode cX10_senderAt 0 = .ok (.iload_n 1, 1) := by decide +kernel
theorem dX10_senderAt_1 : decode cX10_senderAt 1 = .ok (.ifCond .lt 29, 3) := by decide +kernel
theorem dX10_senderAt_4 : decode cX10_senderAt 4 = .ok (.iload_n 1, 1) := by decide +kernel
theorem dX10_senderAt_5 : decode cX10_senderAt 5 = .ok (.aload_n 0, 1) := by decide +kernel
theorem dX10_senderAt_6 : decode cX10_senderAt 6 = .ok (.getfield 54, 3) := by decide +kernel
theorem dX10_senderAt_9 : decode cX10_senderAt 9 = .ok (.if_icmp .ge 21, 3) := by decide +kernel
theorem dX10_senderAt_12 : decode cX10_senderAt 12 = .ok (.iload_n 1, 1) := by decide +kernel
theorem dX10_senderAt_13 : decode cX10_senderAt 13 = .ok (.aload_n 0, 1) := by decide +kernel
theorem dX10_senderAt_14 : decode cX10_senderAt 14 = .ok (.getfield 25, 3) := by decide +kernel
theorem dX10_senderAt_17 : decode cX10_senderAt 17 = .ok (.arraylength, 1) := by decide +kernel
theorem dX10_senderAt_18 : decode cX10_senderAt 18 = .ok (.if_icmp .ge 12, 3) := by decide +kernel
theorem dX10_senderAt_21 : decode cX10_senderAt 21 = .ok (.aload_n 0, 1) := by decide +kernel
theorem dX10_senderAt_22 : decode cX10_senderAt 22 = .ok (.getfield 25, 3) := by decide +kernel
theorem dX10_senderAt_25 : decode cX10_senderAt 25 = .ok (.iload_n 1, 1) := by decide +kernel
theorem dX10_senderAt_26 : decode cX10_senderAt 26 = .ok (.aaload, 1) := by decide +kernel
theorem dX10_senderAt_27 : decode cX10_senderAt 27 = .ok (.goto 4, 3) := by decide +kernel
theorem dX10_senderAt_30 : decode cX10_senderAt 30 = .ok (.aconst_null, 1) := by decide +kernel
theorem dX10_senderAt_31 : decode cX10_senderAt 31 = .ok (.areturn, 1) := by decide +kernel
set_option maxRecDepth 100000 in
theorem c_X10_senderAt (l : Launch) (D : q_D) (al : q_Al) (dt : q_Dt) (x0 : Nat) (x1 : Int32) (kx0 : al.1 x0 = 11) (r0 : Option Nat) (hm : X10_senderAt al dt x0 x1 = some r0) : q_Mt l yX10_senderAt cX10_senderAt 2 (some (FieldType.object "SpreadRows$Sender")) 0 0 D al [.ref x0, .int x1] dt 8 (some (va_rf r0)) dt := by
  refine q_Mt.of (by decide) (Nat.le_of_ble_eq_true rfl) ?_
  intro p e s m args below meth c ls C hargs hW hl
  have hx := C.1
  have hb := C.2.1
  have hown := C.2.2.2.2.2.1
  have hts := C.2.2.2.2.2.2.1
  have hS : va_S (q_A al) s.heap s.heap [] := va_S.rf
  have hl : lv_has ls 2 [(0, .ref x0), (1, .int x1)] := hl
  unfold X10_senderAt at hm
  refine lv_iload_n hx hb dX10_senderAt_0 rfl (lv_at hl 1 rfl) ?_
  refine q_ifc hm (fun c1000001 hm => ?_) (fun c1000001 hm => ?_)
  · refine lv_if_lt (tgt := 30) hx hb dX10_senderAt_1 (by decide) (fun _ => ?_) (fun h => absurd c1000001 h)
    refine q_null C dX10_senderAt_30 ?_
    exact e_a C hW hS (v := none) hm (Or.inr q_kn) dX10_senderAt_31
  refine lv_if_lt (tgt := 30) hx hb dX10_senderAt_1 (by decide) (fun h => absurd h c1000001) (fun _ => ?_)
  refine lv_iload_n hx hb dX10_senderAt_4 rfl (lv_at hl 1 rfl) ?_
  refine lv_aload_n hx hb dX10_senderAt_5 rfl (lv_at hl 0 rfl) ?_
  refine r_getI C hW (ci := 10) kx0 ff_10_9 cl_10 fl_RX10_54 dX10_senderAt_6 ?_
  refine q_ifc hm (fun c1000002 hm => ?_) (fun c1000002 hm => ?_)
  · refine lv_icmp_ge (tgt := 30) hx hb dX10_senderAt_9 (by decide) (fun _ => ?_) (fun h => absurd c1000002 h)
    refine q_null C dX10_senderAt_30 ?_
    exact e_a C hW hS (v := none) hm (Or.inr q_kn) dX10_senderAt_31
  refine lv_icmp_ge (tgt := 30) hx hb dX10_senderAt_9 (by decide) (fun h => absurd h c1000002) (fun _ => ?_)
  refine lv_iload_n hx hb dX10_senderAt_12 rfl (lv_at hl 1 rfl) ?_
  refine lv_aload_n hx hb dX10_senderAt_13 rfl (lv_at hl 0 rfl) ?_
  refine r_getF C hW (ci := 10) kx0 ff_10_2 cl_10 fl_RX10_25 dX10_senderAt_14 (fun k1000003 => ?_)
  refine q_alenR C hW (ci := 7) (t0 := 7) k1000003 (by decide) rfl dX10_senderAt_17 ?_
  refine q_ifc hm (fun c1000004 hm => ?_) (fun c1000004 hm => ?_)
  · refine lv_icmp_ge (tgt := 30) hx hb dX10_senderAt_18 (by decide) (fun _ => ?_) (fun h => absurd c1000004 h)
    refine q_null C dX10_senderAt_30 ?_
    exact e_a C hW hS (v := none) hm (Or.inr q_kn) dX10_senderAt_31
  refine lv_icmp_ge (tgt := 30) hx hb dX10_senderAt_18 (by decide) (fun h => absurd h c1000004) (fun _ => ?_)
  refine lv_aload_n hx hb dX10_senderAt_21 rfl (lv_at hl 0 rfl) ?_
  refine r_getF C hW (ci := 10) kx0 ff_10_2 cl_10 fl_RX10_25 dX10_senderAt_22 (fun k1000005 => ?_)
  refine lv_iload_n hx hb dX10_senderAt_25 rfl (lv_at hl 1 rfl) ?_
  refine r_aald C hW hm (ci := 7) (t0 := 7) k1000005 (by decide) rfl dX10_senderAt_26 (fun k1000006 hm => ?_)
  refine lv_goto (tgt := 31) hx hb dX10_senderAt_27 (by decide) ?_
  exact e_a C hW hS (v := (some (al.2.2 (al.2.2 x0 2) (Int32.toNatClampNeg x1)))) hm (Or.inr (q_ks k1000006)) dX10_senderAt_31
theorem dX10_nextSender_0 : decode cX10_nextSender 0 = .ok (.aload_n 0, 1) := by decide +kernel
theorem dX10_nextSender_1 : decode cX10_nextSender 1 = .ok (.dup, 1) := by decide +kernel
theorem dX10_nextSender_2 : decode cX10_nextSender 2 = .ok (.getfield 54, 3) := by decide +kernel
theorem dX10_nextSender_5 : decode cX10_nextSender 5 = .ok (.iconst 1, 1) := by decide +kernel
theorem dX10_nextSender_6 : decode cX10_nextSender 6 = .ok (.iadd, 1) := by decide +kernel
theorem dX10_nextSender_7 : decode cX10_nextSender 7 = .ok (.putfield 54, 3) := by decide +kernel
theorem dX10_nextSender_10 : decode cX10_nextSender 10 = .ok (.aload_n 0, 1) := by decide +kernel
theorem dX10_nextSender_11 : decode cX10_nextSender 11 = .ok (.aload_n 0, 1) := by decide +kernel
theorem dX10_nextSender_12 : decode cX10_nextSender 12 = .ok (.getfield 54, 3) := by decide +kernel
theorem dX10_nextSender_15 : decode cX10_nextSender 15 = .ok (.iconst 1, 1) := by decide +kernel
theorem dX10_nextSender_16 : decode cX10_nextSender 16 = .ok (.isub, 1) := by decide +kernel
theorem dX10_nextSender_17 : decode cX10_nextSender 17 = .ok (.invokevirtual 83, 3) := by decide +kernel
theorem dX10_nextSender_20 : decode cX10_nextSender 20 = .ok (.areturn, 1) := by decide +kernel
set_option maxRecDepth 100000 in
theorem c_X10_nextSender (l : Launch) (D : q_D) (al : q_Al) (dt : q_Dt) (x0 : Nat) (kx0 : al.1 x0 = 11) (r0 : Option Nat) (dt0 : q_Dt) (hm : X10_nextSender al dt x0 = some (r0, dt0)) : q_Mt l yX10_nextSender cX10_nextSender 1 (some (FieldType.object "SpreadRows$Sender")) 1 21 D al [.ref x0] dt 8 (some (va_rf r0)) dt0 := by
  refine q_Mt.of (by decide) (Nat.le_of_ble_eq_true rfl) ?_
  intro p e s m args below meth c ls C hargs hW hl
  have hx := C.1
  have hb := C.2.1
  have hown := C.2.2.2.2.2.1
  have hts := C.2.2.2.2.2.2.1
  have hS : va_S (q_A al) s.heap s.heap [] := va_S.rf
  have hl : lv_has ls 1 [(0, .ref x0)] := hl
  unfold X10_nextSender at hm
  refine lv_aload_n hx hb dX10_nextSender_0 rfl (lv_at hl 0 rfl) ?_
  refine lv_dup hx hb dX10_nextSender_1 rfl ?_
  refine r_getI C hW (ci := 10) kx0 ff_10_9 cl_10 fl_RX10_54 dX10_nextSender_2 ?_
  refine lv_iconst (v := 1) hx hb dX10_nextSender_5 (by decide) ?_
  refine lv_iadd hx hb dX10_nextSender_6 ?_
  refine r_putI C hW hS hm (ci := 10) kx0 ff_10_9 cl_10 fl_RX10_54 (nf_10_9) rfl dX10_nextSender_7 (fun dt1000001 H locs hm hW hS => ?_)
  refine lv_aload_n hx hb dX10_nextSender_10 rfl (lv_at hl 0 rfl) ?_
  refine lv_aload_n hx hb dX10_nextSender_11 rfl (lv_at hl 0 rfl) ?_
  refine r_getI C hW (ci := 10) kx0 ff_10_9 cl_10 fl_RX10_54 dX10_nextSender_12 ?_
  refine lv_iconst (v := 1) hx hb dX10_nextSender_15 (by decide) ?_
  refine lv_isub hx hb dX10_nextSender_16 ?_
  obtain ⟨v1000003, hc1000002, hm⟩ := q_b1i hm
  refine q_callV C hW hS (As := [.int ((dt1000001.1 x0 9) - 1)]) (rest := []) (st1 := [va_rf v1000003]) (c_X10_senderAt l D al dt1000001 x0 ((dt1000001.1 x0 9) - 1) kx0 v1000003 hc1000002) yl_X10_senderAt vl_X10_senderAt ml_RX10_83 (ci := 10) rfl kx0 (by decide) rfl ⟨Nat.le_of_ble_eq_true rfl, Nat.le_of_ble_eq_true rfl⟩ hl rfl (Nat.le_of_ble_eq_true rfl) dX10_nextSender_17 ⟨Nat.le_refl _, Nat.le_refl _⟩ rfl (fun H locs k1000004 hW hS => ?_)
  have k1000004 := q_rk k1000004 (by decide)
  exact e_aD C hW hS (v := v1000003) hm (Or.inr k1000004) dX10_nextSender_20
theorem dX3_makeSender_0 : decode cX3_makeSender 0 = .ok (.aload_n 0, 1) := by decide +kernel
theorem dX3_makeSender_1 : decode cX3_makeSender 1 = .ok (.iconst 5, 1) := by decide +kernel
theorem dX3_makeSender_2 : decode cX3_makeSender 2 = .ok (.aload_n 1, 1) := by decide +kernel
theorem dX3_makeSender_3 : decode cX3_makeSender 3 = .ok (.getfield 178, 3) := by decide +kernel
theorem dX3_makeSender_6 : decode cX3_makeSender 6 = .ok (.invokevirtual 134, 3) := by decide +kernel
theorem dX3_makeSender_9 : decode cX3_makeSender 9 = .ok (.aload_n 0, 1) := by decide +kernel
theorem dX3_makeSender_10 : decode cX3_makeSender 10 = .ok (.aload_n 1, 1) := by decide +kernel
theorem dX3_makeSender_11 : decode cX3_makeSender 11 = .ok (.invokevirtual 153, 3) := by decide +kernel
theorem dX3_makeSender_14 : decode cX3_makeSender 14 = .ok (.astore_n 2, 1) := by decide +kernel
theorem dX3_makeSender_15 : decode cX3_makeSender 15 = .ok (.aload_n 1, 1) := by decide +kernel
theorem dX3_makeSender_16 : decode cX3_makeSender 16 = .ok (.invokevirtual 181, 3) := by decide +kernel
theorem dX3_makeSender_19 : decode cX3_makeSender 19 = .ok (.astore_n 3, 1) := by decide +kernel
theorem dX3_makeSender_20 : decode cX3_makeSender 20 = .ok (.aload_n 2, 1) := by decide +kernel
theorem dX3_makeSender_21 : decode cX3_makeSender 21 = .ok (.ifnull 7, 3) := by decide +kernel
theorem dX3_makeSender_24 : decode cX3_makeSender 24 = .ok (.aload_n 3, 1) := by decide +kernel
theorem dX3_makeSender_25 : decode cX3_makeSender 25 = .ok (.ifnonnull 4, 3) := by decide +kernel
theorem dX3_makeSender_28 : decode cX3_makeSender 28 = .ok (.return_, 1) := by decide +kernel
theorem dX3_makeSender_29 : decode cX3_makeSender 29 = .ok (.aload_n 3, 1) := by decide +kernel
theorem dX3_makeSender_30 : decode cX3_makeSender 30 = .ok (.aload_n 2, 1) := by decide +kernel
theorem dX3_makeSender_31 : decode cX3_makeSender 31 = .ok (.putfield 185, 3) := by decide +kernel
theorem dX3_makeSender_34 : decode cX3_makeSender 34 = .ok (.aload_n 3, 1) := by decide +kernel
theorem dX3_makeSender_35 : decode cX3_makeSender 35 = .ok (.iconst 0, 1) := by decide +kernel
theorem dX3_makeSender_36 : decode cX3_makeSender 36 = .ok (.putfield 191, 3) := by decide +kernel
theorem dX3_makeSender_39 : decode cX3_makeSender 39 = .ok (.aload_n 3, 1) := by decide +kernel
theorem dX3_makeSender_40 : decode cX3_makeSender 40 = .ok (.aload_n 0, 1) := by decide +kernel
theorem dX3_makeSender_41 : decode cX3_makeSender 41 = .ok (.iconst 1, 1) := by decide +kernel
theorem dX3_makeSender_42 : decode cX3_makeSender 42 = .ok (.bipush 99, 2) := by decide +kernel
theorem dX3_makeSender_44 : decode cX3_makeSender 44 = .ok (.invokevirtual 93, 3) := by decide +kernel
theorem dX3_makeSender_47 : decode cX3_makeSender 47 = .ok (.putfield 194, 3) := by decide +kernel
theorem dX3_makeSender_50 : decode cX3_makeSender 50 = .ok (.aload_n 3, 1) := by decide +kernel
theorem dX3_makeSender_51 : decode cX3_makeSender 51 = .ok (.aload_n 0, 1) := by decide +kernel
theorem dX3_makeSender_52 : decode cX3_makeSender 52 = .ok (.iconst 0, 1) := by decide +kernel
theorem dX3_makeSender_53 : decode cX3_makeSender 53 = .ok (.aload_n 2, 1) := by decide +kernel
theorem dX3_makeSender_54 : decode cX3_makeSender 54 = .ok (.getfield 157, 3) := by decide +kernel
theorem dX3_makeSender_57 : decode cX3_makeSender 57 = .ok (.iconst 1, 1) := by decide +kernel
theorem dX3_makeSender_58 : decode cX3_makeSender 58 = .ok (.isub, 1) := by decide +kernel
theorem dX3_makeSender_59 : decode cX3_makeSender 59 = .ok (.invokevirtual 93, 3) := by decide +kernel
theorem dX3_makeSender_62 : decode cX3_makeSender 62 = .ok (.putfield 197, 3) := by decide +kernel
theorem dX3_makeSender_65 : decode cX3_makeSender 65 = .ok (.aload_n 3, 1) := by decide +kernel
theorem dX3_makeSender_66 : decode cX3_makeSender 66 = .ok (.aload_n 0, 1) := by decide +kernel
theorem dX3_makeSender_67 : decode cX3_makeSender 67 = .ok (.iconst 0, 1) := by decide +kernel
theorem dX3_makeSender_68 : decode cX3_makeSender 68 = .ok (.iconst 3, 1) := by decide +kernel
theorem dX3_makeSender_69 : decode cX3_makeSender 69 = .ok (.invokevirtual 93, 3) := by decide +kernel
theorem dX3_makeSender_72 : decode cX3_makeSender 72 = .ok (.putfield 200, 3) := by decide +kernel
theorem dX3_makeSender_75 : decode cX3_makeSender 75 = .ok (.aload_n 3, 1) := by decide +kernel
theorem dX3_makeSender_76 : decode cX3_makeSender 76 = .ok (.aload_n 0, 1) := by decide +kernel
theorem dX3_makeSender_77 : decode cX3_makeSender 77 = .ok (.iconst 0, 1) := by decide +kernel
theorem dX3_makeSender_78 : decode cX3_makeSender 78 = .ok (.sipush 9999, 3) := by decide +kernel
theorem dX3_makeSender_81 : decode cX3_makeSender 81 = .ok (.invokevirtual 93, 3) := by decide +kernel
theorem dX3_makeSender_84 : decode cX3_makeSender 84 = .ok (.putfield 203, 3) := by decide +kernel
theorem dX3_makeSender_87 : decode cX3_makeSender 87 = .ok (.aload_n 3, 1) := by decide +kernel
theorem dX3_makeSender_88 : decode cX3_makeSender 88 = .ok (.iconst 0, 1) := by decide +kernel
theorem dX3_makeSender_89 : decode cX3_makeSender 89 = .ok (.putfield 206, 3) := by decide +kernel
theorem dX3_makeSender_92 : decode cX3_makeSender 92 = .ok (.aload_n 0, 1) := by decide +kernel
theorem dX3_makeSender_93 : decode cX3_makeSender 93 = .ok (.getfield 12, 3) := by decide +kernel
theorem dX3_makeSender_96 : decode cX3_makeSender 96 = .ok (.getfield 209, 3) := by decide +kernel
theorem dX3_makeSender_99 : decode cX3_makeSender 99 = .ok (.aload_n 0, 1) := by decide +kernel
theorem dX3_makeSender_100 : decode cX3_makeSender 100 = .ok (.getfield 37, 3) := by decide +kernel
theorem dX3_makeSender_103 : decode cX3_makeSender 103 = .ok (.invokevirtual 106, 3) := by decide +kernel
theorem dX3_makeSender_106 : decode cX3_makeSender 106 = .ok (.ldc2_w 212, 3) := by decide +kernel
theorem dX3_makeSender_109 : decode cX3_makeSender 109 = .ok (.lcmp, 1) := by decide +kernel
theorem dX3_makeSender_110 : decode cX3_makeSender 110 = .ok (.ifCond .ne 24, 3) := by decide +kernel
theorem dX3_makeSender_113 : decode cX3_makeSender 113 = .ok (.aload_n 0, 1) := by decide +kernel
theorem dX3_makeSender_114 : decode cX3_makeSender 114 = .ok (.dup, 1) := by decide +kernel
theorem dX3_makeSender_115 : decode cX3_makeSender 115 = .ok (.getfield 37, 3) := by decide +kernel
theorem dX3_makeSender_118 : decode cX3_makeSender 118 = .ok (.iconst 1, 1) := by decide +kernel
theorem dX3_makeSender_119 : decode cX3_makeSender 119 = .ok (.iadd, 1) := by decide +kernel
theorem dX3_makeSender_120 : decode cX3_makeSender 120 = .ok (.putfield 37, 3) := by decide +kernel
theorem dX3_makeSender_123 : decode cX3_makeSender 123 = .ok (.aload_n 3, 1) := by decide +kernel
theorem dX3_makeSender_124 : decode cX3_makeSender 124 = .ok (.aload_n 0, 1) := by decide +kernel
theorem dX3_makeSender_125 : decode cX3_makeSender 125 = .ok (.iconst 1, 1) := by decide +kernel
theorem dX3_makeSender_126 : decode cX3_makeSender 126 = .ok (.bipush 99, 2) := by decide +kernel
theorem dX3_makeSender_128 : decode cX3_makeSender 128 = .ok (.invokevirtual 93, 3) := by decide +kernel
theorem dX3_makeSender_131 : decode cX3_makeSender 131 = .ok (.putfield 206, 3) := by decide +kernel
theorem dX3_makeSender_134 : decode cX3_makeSender 134 = .ok (.return_, 1) := by decide +kernel
set_option maxRecDepth 100000 in
theorem c_X3_makeSender (l : Launch) (D : q_D) (al : q_Al) (dt : q_Dt) (x0 : Nat) (x1 : Nat) (kx0 : al.1 x0 = 4) (kx1 : al.1 x1 = 11) (dt0 : q_Dt) (hm : X3_makeSender al dt x0 x1 = some dt0) : q_Mt l yX3_makeSender cX3_makeSender 4 (none) 4 89 D al [.ref x0, .ref x1] dt 0 none dt0 := by
  refine q_Mt.of (by decide) (Nat.le_of_ble_eq_true rfl) ?_
  intro p e s m args below meth c ls C hargs hW hl
  have hx := C.1
  have hb := C.2.1
  have hown := C.2.2.2.2.2.1
  have hts := C.2.2.2.2.2.2.1
  have hS : va_S (q_A al) s.heap s.heap [] := va_S.rf
  have hl : lv_has ls 4 [(0, .ref x0), (1, .ref x1)] := hl
  unfold X3_makeSender at hm
  refine lv_aload_n hx hb dX3_makeSender_0 rfl (lv_at hl 0 rfl) ?_
  refine lv_iconst (v := 5) hx hb dX3_makeSender_1 (by decide) ?_
  refine lv_aload_n hx hb dX3_makeSender_2 rfl (lv_at hl 1 rfl) ?_
  refine r_getI C hW (ci := 10) kx1 ff_10_9 cl_10 fl_RX3_178 dX3_makeSender_3 ?_
  obtain ⟨dt1000002, hc1000001, hm⟩ := q_b1i hm
  refine q_callV C hW hS (As := [.int 5, .int (dt.1 x1 9)]) (rest := []) (st1 := []) (c_X3_newName l D al dt x0 5 (dt.1 x1 9) kx0 dt1000002 hc1000001) yl_X3_newName vl_X3_newName ml_RX3_134 (ci := 3) rfl kx0 (by decide) rfl ⟨Nat.le_of_ble_eq_true rfl, Nat.le_of_ble_eq_true rfl⟩ hl rfl (Nat.le_of_ble_eq_true rfl) dX3_makeSender_6 ⟨Nat.le_refl _, Nat.le_refl _⟩ rfl (fun H locs k1000003 hW hS => ?_)
  refine lv_aload_n hx hb dX3_makeSender_9 rfl (lv_at hl 0 rfl) ?_
  refine lv_aload_n hx hb dX3_makeSender_10 rfl (lv_at hl 1 rfl) ?_
  obtain ⟨v1000005, dt1000006, hc1000004, hm⟩ := q_b2i hm
  refine q_callV C hW hS (As := [.ref x1]) (rest := []) (st1 := [va_rf v1000005]) (c_X3_codeNamed l D al dt1000002 x0 x1 kx0 kx1 v1000005 dt1000006 hc1000004) yl_X3_codeNamed vl_X3_codeNamed ml_RX3_153 (ci := 3) rfl kx0 (by decide) rfl ⟨Nat.le_of_ble_eq_true rfl, Nat.le_of_ble_eq_true rfl⟩ hl rfl (Nat.le_of_ble_eq_true rfl) dX3_makeSender_11 ⟨Nat.le_refl _, Nat.le_refl _⟩ rfl (fun H locs k1000007 hW hS => ?_)
  have k1000007 := q_rk k1000007 (by decide)
  refine q_astoreQ_n (i := 2) (lv' := [(2, va_rf v1000005), (0, .ref x0), (1, .ref x1)]) C dX3_makeSender_14 rfl hl (by decide) rfl (fun ls hl => ?_)
  refine lv_aload_n hx hb dX3_makeSender_15 rfl (lv_at hl 2 rfl) ?_
  obtain ⟨v1000009, dt1000010, hc1000008, hm⟩ := q_b2i hm
  refine q_callV C hW hS (As := []) (rest := []) (st1 := [va_rf v1000009]) (c_X10_nextSender l D al dt1000006 x1 kx1 v1000009 dt1000010 hc1000008) yl_X10_nextSender vl_X10_nextSender ml_RX3_181 (ci := 10) rfl kx1 (by decide) rfl ⟨Nat.le_of_ble_eq_true rfl, Nat.le_of_ble_eq_true rfl⟩ hl rfl (Nat.le_of_ble_eq_true rfl) dX3_makeSender_16 ⟨Nat.le_refl _, Nat.le_refl _⟩ rfl (fun H locs k1000011 hW hS => ?_)
  have k1000011 := q_rk k1000011 (by decide)
  refine q_astoreQ_n (i := 3) (lv' := [(3, va_rf v1000009), (2, va_rf v1000005), (0, .ref x0), (1, .ref x1)]) C dX3_makeSender_19 rfl hl (by decide) (by simp [q_cat, q_catR, q_catI, q_catL] <;> rfl) (fun ls hl => ?_)
  refine q_aloadQ_n C dX3_makeSender_20 rfl (lv_at hl 1 rfl) ?_
  refine q_ifnull C hm (tgt := 28) dX3_makeSender_21 (by decide) (fun e1000014 hq1000015 => ?_) (fun b1000012 e1000014 hq1000015 => ?_)
  · subst e1000014
    have hm := hq1000015
    exact e_vD C hW hS hm dX3_makeSender_28
  subst e1000014
  have hm := hq1000015
  have k1000013 := k1000007 b1000012 rfl
  refine q_aloadQ_n C dX3_makeSender_24 rfl (lv_at hl 0 rfl) ?_
  refine q_ifnonnull C hm (tgt := 29) dX3_makeSender_25 (by decide) (fun e1000018 hq1000019 => ?_) (fun b1000016 e1000018 hq1000019 => ?_)
  · subst e1000018
    have hm := hq1000019
    exact e_vD C hW hS hm dX3_makeSender_28
  subst e1000018
  have hm := hq1000019
  have k1000017 := k1000011 b1000016 rfl
  refine lv_aload_n hx hb dX3_makeSender_29 rfl (lv_at hl 0 rfl) ?_
  refine lv_aload_n hx hb dX3_makeSender_30 rfl (lv_at hl 1 rfl) ?_
  refine r_putQ C hW hS hm (ci := 7) k1000017 ff_7_2 k1000013 cl_7 fl_RX3_185 (nf_7_2) rfl dX3_makeSender_31 (fun dt1000020 H locs hm hW hS => ?_)
  refine lv_aload_n hx hb dX3_makeSender_34 rfl (lv_at hl 0 rfl) ?_
  refine lv_iconst (v := 0) hx hb dX3_makeSender_35 (by decide) ?_
  refine r_putI C hW hS hm (ci := 7) k1000017 ff_7_3 cl_7 fl_RX3_191 (nf_7_3) rfl dX3_makeSender_36 (fun dt1000021 H locs hm hW hS => ?_)
  refine lv_aload_n hx hb dX3_makeSender_39 rfl (lv_at hl 0 rfl) ?_
  refine lv_aload_n hx hb dX3_makeSender_40 rfl (lv_at hl 2 rfl) ?_
  refine lv_iconst (v := 1) hx hb dX3_makeSender_41 (by decide) ?_
  refine lv_bipush (v := 99) hx hb dX3_makeSender_42 (by decide) ?_
  obtain ⟨v1000023, dt1000024, hc1000022, hm⟩ := q_b2i hm
  refine q_callV C hW hS (As := [.int 1, .int 99]) (rest := [.ref b1000016]) (st1 := [.int v1000023, .ref b1000016]) (c_X3_number l D al dt1000021 x0 1 99 kx0 v1000023 dt1000024 hc1000022) yl_X3_number vl_X3_number ml_RX3_93 (ci := 3) rfl kx0 (by decide) rfl ⟨Nat.le_of_ble_eq_true rfl, Nat.le_of_ble_eq_true rfl⟩ hl rfl (Nat.le_of_ble_eq_true rfl) dX3_makeSender_44 ⟨Nat.le_refl _, Nat.le_refl _⟩ rfl (fun H locs k1000025 hW hS => ?_)
  refine r_putI C hW hS hm (ci := 7) k1000017 ff_7_4 cl_7 fl_RX3_194 (nf_7_4) rfl dX3_makeSender_47 (fun dt1000026 H locs hm hW hS => ?_)
  refine lv_aload_n hx hb dX3_makeSender_50 rfl (lv_at hl 0 rfl) ?_
  refine lv_aload_n hx hb dX3_makeSender_51 rfl (lv_at hl 2 rfl) ?_
  refine lv_iconst (v := 0) hx hb dX3_makeSender_52 (by decide) ?_
  refine lv_aload_n hx hb dX3_makeSender_53 rfl (lv_at hl 1 rfl) ?_
  refine r_getI C hW (ci := 0) k1000013 ff_0_1 cl_0 fl_RX3_157 dX3_makeSender_54 ?_
  refine lv_iconst (v := 1) hx hb dX3_makeSender_57 (by decide) ?_
  refine lv_isub hx hb dX3_makeSender_58 ?_
  obtain ⟨v1000028, dt1000029, hc1000027, hm⟩ := q_b2i hm
  refine q_callV C hW hS (As := [.int 0, .int ((dt1000026.1 b1000012 1) - 1)]) (rest := [.ref b1000016]) (st1 := [.int v1000028, .ref b1000016]) (c_X3_number l D al dt1000026 x0 0 ((dt1000026.1 b1000012 1) - 1) kx0 v1000028 dt1000029 hc1000027) yl_X3_number vl_X3_number ml_RX3_93 (ci := 3) rfl kx0 (by decide) rfl ⟨Nat.le_of_ble_eq_true rfl, Nat.le_of_ble_eq_true rfl⟩ hl rfl (Nat.le_of_ble_eq_true rfl) dX3_makeSender_59 ⟨Nat.le_refl _, Nat.le_refl _⟩ rfl (fun H locs k1000030 hW hS => ?_)
  refine r_putI C hW hS hm (ci := 7) k1000017 ff_7_5 cl_7 fl_RX3_197 (nf_7_5) rfl dX3_makeSender_62 (fun dt1000031 H locs hm hW hS => ?_)
  refine lv_aload_n hx hb dX3_makeSender_65 rfl (lv_at hl 0 rfl) ?_
  refine lv_aload_n hx hb dX3_makeSender_66 rfl (lv_at hl 2 rfl) ?_
  refine lv_iconst (v := 0) hx hb dX3_makeSender_67 (by decide) ?_
  refine lv_iconst (v := 3) hx hb dX3_makeSender_68 (by decide) ?_
  obtain ⟨v1000033, dt1000034, hc1000032, hm⟩ := q_b2i hm
  refine q_callV C hW hS (As := [.int 0, .int 3]) (rest := [.ref b1000016]) (st1 := [.int v1000033, .ref b1000016]) (c_X3_number l D al dt1000031 x0 0 3 kx0 v1000033 dt1000034 hc1000032) yl_X3_number vl_X3_number ml_RX3_93 (ci := 3) rfl kx0 (by decide) rfl ⟨Nat.le_of_ble_eq_true rfl, Nat.le_of_ble_eq_true rfl⟩ hl rfl (Nat.le_of_ble_eq_true rfl) dX3_makeSender_69 ⟨Nat.le_refl _, Nat.le_refl _⟩ rfl (fun H locs k1000035 hW hS => ?_)
  refine r_putI C hW hS hm (ci := 7) k1000017 ff_7_6 cl_7 fl_RX3_200 (nf_7_6) rfl dX3_makeSender_72 (fun dt1000036 H locs hm hW hS => ?_)
  refine lv_aload_n hx hb dX3_makeSender_75 rfl (lv_at hl 0 rfl) ?_
  refine lv_aload_n hx hb dX3_makeSender_76 rfl (lv_at hl 2 rfl) ?_
  refine lv_iconst (v := 0) hx hb dX3_makeSender_77 (by decide) ?_
  refine lv_sipush (v := 9999) hx hb dX3_makeSender_78 (by decide) ?_
  obtain ⟨v1000038, dt1000039, hc1000037, hm⟩ := q_b2i hm
  refine q_callV C hW hS (As := [.int 0, .int 9999]) (rest := [.ref b1000016]) (st1 := [.int v1000038, .ref b1000016]) (c_X3_number l D al dt1000036 x0 0 9999 kx0 v1000038 dt1000039 hc1000037) yl_X3_number vl_X3_number ml_RX3_93 (ci := 3) rfl kx0 (by decide) rfl ⟨Nat.le_of_ble_eq_true rfl, Nat.le_of_ble_eq_true rfl⟩ hl rfl (Nat.le_of_ble_eq_true rfl) dX3_makeSender_81 ⟨Nat.le_refl _, Nat.le_refl _⟩ rfl (fun H locs k1000040 hW hS => ?_)
  refine r_putI C hW hS hm (ci := 7) k1000017 ff_7_7 cl_7 fl_RX3_203 (nf_7_7) rfl dX3_makeSender_84 (fun dt1000041 H locs hm hW hS => ?_)
  refine lv_aload_n hx hb dX3_makeSender_87 rfl (lv_at hl 0 rfl) ?_
  refine lv_iconst (v := 0) hx hb dX3_makeSender_88 (by decide) ?_
  refine r_putI C hW hS hm (ci := 7) k1000017 ff_7_8 cl_7 fl_RX3_206 (nf_7_8) rfl dX3_makeSender_89 (fun dt1000042 H locs hm hW hS => ?_)
  refine lv_aload_n hx hb dX3_makeSender_92 rfl (lv_at hl 2 rfl) ?_
  refine r_getF C hW (ci := 3) kx0 ff_3_0 cl_3 fl_RX3_12 dX3_makeSender_93 (fun k1000043 => ?_)
  refine r_getF C hW (ci := 9) k1000043 ff_9_1 cl_9 fl_RX3_209 dX3_makeSender_96 (fun k1000044 => ?_)
  refine lv_aload_n hx hb dX3_makeSender_99 rfl (lv_at hl 2 rfl) ?_
  refine r_getI C hW (ci := 3) kx0 ff_3_5 cl_3 fl_RX3_37 dX3_makeSender_100 ?_
  obtain ⟨v1000046, hc1000045, hm⟩ := q_b1i hm
  refine q_callV C hW hS (As := [.int (dt1000042.1 x0 5)]) (rest := []) (st1 := [.long v1000046]) (c_X5_at l D al dt1000042 (al.2.2 (al.2.2 x0 0) 1) (dt1000042.1 x0 5) k1000044 v1000046 hc1000045) yl_X5_at vl_X5_at ml_RX3_106 (ci := 5) rfl k1000044 (by decide) rfl ⟨Nat.le_of_ble_eq_true rfl, Nat.le_of_ble_eq_true rfl⟩ hl rfl (Nat.le_of_ble_eq_true rfl) dX3_makeSender_103 ⟨Nat.le_refl _, Nat.le_refl _⟩ rfl (fun H locs k1000047 hW hS => ?_)
  refine lv_ldc2 (own := RX3) (v := 6) hx hb hown (hts _ wc_RX3_212) dX3_makeSender_106 ?_
  refine W.lcmp hx hb dX3_makeSender_109 ?_
  refine q_ifc hm (fun c1000048 hm => ?_) (fun c1000048 hm => ?_)
  · refine lv_if_ne (tgt := 134) hx hb dX3_makeSender_110 (by decide) (fun h => absurd (q_cmp_eq.mpr c1000048) h) (fun _ => ?_)
    refine lv_aload_n hx hb dX3_makeSender_113 rfl (lv_at hl 2 rfl) ?_
    refine lv_dup hx hb dX3_makeSender_114 rfl ?_
    refine r_getI C hW (ci := 3) kx0 ff_3_5 cl_3 fl_RX3_37 dX3_makeSender_115 ?_
    refine lv_iconst (v := 1) hx hb dX3_makeSender_118 (by decide) ?_
    refine lv_iadd hx hb dX3_makeSender_119 ?_
    refine r_putI C hW hS hm (ci := 3) kx0 ff_3_5 cl_3 fl_RX3_37 (nf_3_5) rfl dX3_makeSender_120 (fun dt1000049 H locs hm hW hS => ?_)
    refine lv_aload_n hx hb dX3_makeSender_123 rfl (lv_at hl 0 rfl) ?_
    refine lv_aload_n hx hb dX3_makeSender_124 rfl (lv_at hl 2 rfl) ?_
    refine lv_iconst (v := 1) hx hb dX3_makeSender_125 (by decide) ?_
    refine lv_bipush (v := 99) hx hb dX3_makeSender_126 (by decide) ?_
    obtain ⟨v1000051, dt1000052, hc1000050, hm⟩ := q_b2i hm
    refine q_callV C hW hS (As := [.int 1, .int 99]) (rest := [.ref b1000016]) (st1 := [.int v1000051, .ref b1000016]) (c_X3_number l D al dt1000049 x0 1 99 kx0 v1000051 dt1000052 hc1000050) yl_X3_number vl_X3_number ml_RX3_93 (ci := 3) rfl kx0 (by decide) rfl ⟨Nat.le_of_ble_eq_true rfl, Nat.le_of_ble_eq_true rfl⟩ hl rfl (Nat.le_of_ble_eq_true rfl) dX3_makeSender_128 ⟨Nat.le_refl _, Nat.le_refl _⟩ rfl (fun H locs k1000053 hW hS => ?_)
    refine r_putI C hW hS hm (ci := 7) k1000017 ff_7_8 cl_7 fl_RX3_206 (nf_7_8) rfl dX3_makeSender_131 (fun dt1000054 H locs hm hW hS => ?_)
    exact e_vD C hW hS hm dX3_makeSender_134
  refine lv_if_ne (tgt := 134) hx hb dX3_makeSender_110 (by decide) (fun _ => ?_) (fun h => absurd (q_cmp_eq.mp h) c1000048)
  exact e_vD C hW hS hm dX3_makeSender_134
theorem dX7_layEcho_0 : decode cX7_layEcho 0 = .ok (.aload_n 0, 1) := by decide +kernel
theorem dX7_layEcho_1 : decode cX7_layEcho 1 = .ok (.getfield 14, 3) := by decide +kernel
theorem dX7_layEcho_4 : decode cX7_layEcho 4 = .ok (.aload_n 0, 1) := by decide +kernel
theorem dX7_layEcho_5 : decode cX7_layEcho 5 = .ok (.getfield 27, 3) := by decide +kernel
theorem dX7_layEcho_8 : decode cX7_layEcho 8 = .ok (.iload_n 1, 1) := by decide +kernel
theorem dX7_layEcho_9 : decode cX7_layEcho 9 = .ok (.i2l, 1) := by decide +kernel
theorem dX7_layEcho_10 : decode cX7_layEcho 10 = .ok (.invokevirtual 46, 3) := by decide +kernel
theorem dX7_layEcho_13 : decode cX7_layEcho 13 = .ok (.aload_n 0, 1) := by decide +kernel
theorem dX7_layEcho_14 : decode cX7_layEcho 14 = .ok (.getfield 20, 3) := by decide +kernel
theorem dX7_layEcho_17 : decode cX7_layEcho 17 = .ok (.aload_n 0, 1) := by decide +kernel
theorem dX7_layEcho_18 : decode cX7_layEcho 18 = .ok (.getfield 27, 3) := by decide +kernel
theorem dX7_layEcho_21 : decode cX7_layEcho 21 = .ok (.iload_n 2, 1) := by decide +kernel
theorem dX7_layEcho_22 : decode cX7_layEcho 22 = .ok (.i2l, 1) := by decide +kernel
theorem dX7_layEcho_23 : decode cX7_layEcho 23 = .ok (.invokevirtual 46, 3) := by decide +kernel
theorem dX7_layEcho_26 : decode cX7_layEcho 26 = .ok (.aload_n 0, 1) := by decide +kernel
theorem dX7_layEcho_27 : decode cX7_layEcho 27 = .ok (.dup, 1) := by decide +kernel
theorem dX7_layEcho_28 : decode cX7_layEcho 28 = .ok (.getfield 27, 3) := by decide +kernel
theorem dX7_layEcho_31 : decode cX7_layEcho 31 = .ok (.iconst 1, 1) := by decide +kernel
theorem dX7_layEcho_32 : decode cX7_layEcho 32 = .ok (.iadd, 1) := by decide +kernel
theorem dX7_layEcho_33 : decode cX7_layEcho 33 = .ok (.putfield 27, 3) := by decide +kernel
theorem dX7_layEcho_36 : decode cX7_layEcho 36 = .ok (.return_, 1) := by decide +kernel
set_option maxRecDepth 100000 in
theorem c_X7_layEcho (l : Launch) (D : q_D) (al : q_Al) (dt : q_Dt) (x0 : Nat) (x1 : Int32) (x2 : Int32) (kx0 : al.1 x0 = 8) (dt0 : q_Dt) (hm : X7_layEcho al dt x0 x1 x2 = some dt0) : q_Mt l yX7_layEcho cX7_layEcho 3 (none) 1 23 D al [.ref x0, .int x1, .int x2] dt 0 none dt0 := by
  refine q_Mt.of (by decide) (Nat.le_of_ble_eq_true rfl) ?_
  intro p e s m args below meth c ls C hargs hW hl
  have hx := C.1
  have hb := C.2.1
  have hown := C.2.2.2.2.2.1
  have hts := C.2.2.2.2.2.2.1
  have hS : va_S (q_A al) s.heap s.heap [] := va_S.rf
  have hl : lv_has ls 3 [(0, .ref x0), (1, .int x1), (2, .int x2)] := hl
  unfold X7_layEcho at hm
  refine lv_aload_n hx hb dX7_layEcho_0 rfl (lv_at hl 0 rfl) ?_
  refine r_getF C hW (ci := 7) kx0 ff_7_0 cl_7 fl_RX7_14 dX7_layEcho_1 (fun k1000001 => ?_)
  refine lv_aload_n hx hb dX7_layEcho_4 rfl (lv_at hl 0 rfl) ?_
  refine r_getI C hW (ci := 7) kx0 ff_7_3 cl_7 fl_RX7_27 dX7_layEcho_5 ?_
  refine lv_iload_n hx hb dX7_layEcho_8 rfl (lv_at hl 1 rfl) ?_
  refine lv_i2l (v := (Int32.toInt64 x1)) hx hb dX7_layEcho_9 rfl ?_
  obtain ⟨dt1000003, hc1000002, hm⟩ := q_b1i hm
  refine q_callV C hW hS (As := [.int (dt.1 x0 3), .long (Int32.toInt64 x1)]) (rest := []) (st1 := []) (c_X5_put l D al dt (al.2.2 x0 0) (dt.1 x0 3) (Int32.toInt64 x1) k1000001 dt1000003 hc1000002) yl_X5_put vl_X5_put ml_RX7_46 (ci := 5) rfl k1000001 (by decide) rfl ⟨Nat.le_of_ble_eq_true rfl, Nat.le_of_ble_eq_true rfl⟩ hl rfl (Nat.le_of_ble_eq_true rfl) dX7_layEcho_10 ⟨Nat.le_refl _, Nat.le_refl _⟩ rfl (fun H locs k1000004 hW hS => ?_)
  refine lv_aload_n hx hb dX7_layEcho_13 rfl (lv_at hl 0 rfl) ?_
  refine r_getF C hW (ci := 7) kx0 ff_7_1 cl_7 fl_RX7_20 dX7_layEcho_14 (fun k1000005 => ?_)
  refine lv_aload_n hx hb dX7_layEcho_17 rfl (lv_at hl 0 rfl) ?_
  refine r_getI C hW (ci := 7) kx0 ff_7_3 cl_7 fl_RX7_27 dX7_layEcho_18 ?_
  refine lv_iload_n hx hb dX7_layEcho_21 rfl (lv_at hl 2 rfl) ?_
  refine lv_i2l (v := (Int32.toInt64 x2)) hx hb dX7_layEcho_22 rfl ?_
  obtain ⟨dt1000007, hc1000006, hm⟩ := q_b1i hm
  refine q_callV C hW hS (As := [.int (dt1000003.1 x0 3), .long (Int32.toInt64 x2)]) (rest := []) (st1 := []) (c_X5_put l D al dt1000003 (al.2.2 x0 1) (dt1000003.1 x0 3) (Int32.toInt64 x2) k1000005 dt1000007 hc1000006) yl_X5_put vl_X5_put ml_RX7_46 (ci := 5) rfl k1000005 (by decide) rfl ⟨Nat.le_of_ble_eq_true rfl, Nat.le_of_ble_eq_true rfl⟩ hl rfl (Nat.le_of_ble_eq_true rfl) dX7_layEcho_23 ⟨Nat.le_refl _, Nat.le_refl _⟩ rfl (fun H locs k1000008 hW hS => ?_)
  refine lv_aload_n hx hb dX7_layEcho_26 rfl (lv_at hl 0 rfl) ?_
  refine lv_dup hx hb dX7_layEcho_27 rfl ?_
  refine r_getI C hW (ci := 7) kx0 ff_7_3 cl_7 fl_RX7_27 dX7_layEcho_28 ?_
  refine lv_iconst (v := 1) hx hb dX7_layEcho_31 (by decide) ?_
  refine lv_iadd hx hb dX7_layEcho_32 ?_
  refine r_putI C hW hS hm (ci := 7) kx0 ff_7_3 cl_7 fl_RX7_27 (nf_7_3) rfl dX7_layEcho_33 (fun dt1000009 H locs hm hW hS => ?_)
  exact e_vD C hW hS hm dX7_layEcho_36
