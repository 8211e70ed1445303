theorem dX12_tellJam_0 : decode cX12_tellJam 0 = .ok (.iconst 4, 1) := by decide +kernel
theorem dX12_tellJam_1 : decode cX12_tellJam 1 = .ok (.aload_n 0, 1) := by decide +kernel
theorem dX12_tellJam_2 : decode cX12_tellJam 2 = .ok (.getfield 245, 3) := by decide +kernel
theorem dX12_tellJam_5 : decode cX12_tellJam 5 = .ok (.imul, 1) := by decide +kernel
theorem dX12_tellJam_6 : decode cX12_tellJam 6 = .ok (.aload_n 0, 1) := by decide +kernel
theorem dX12_tellJam_7 : decode cX12_tellJam 7 = .ok (.getfield 103, 3) := by decide +kernel
theorem dX12_tellJam_10 : decode cX12_tellJam 10 = .ok (.aload_n 0, 1) := by decide +kernel
theorem dX12_tellJam_11 : decode cX12_tellJam 11 = .ok (.getfield 245, 3) := by decide +kernel
theorem dX12_tellJam_14 : decode cX12_tellJam 14 = .ok (.iaload, 1) := by decide +kernel
theorem dX12_tellJam_15 : decode cX12_tellJam 15 = .ok (.iadd, 1) := by decide +kernel
theorem dX12_tellJam_16 : decode cX12_tellJam 16 = .ok (.istore_n 1, 1) := by decide +kernel
theorem dX12_tellJam_17 : decode cX12_tellJam 17 = .ok (.aload_n 0, 1) := by decide +kernel
theorem dX12_tellJam_18 : decode cX12_tellJam 18 = .ok (.getfield 106, 3) := by decide +kernel
theorem dX12_tellJam_21 : decode cX12_tellJam 21 = .ok (.iload_n 1, 1) := by decide +kernel
theorem dX12_tellJam_22 : decode cX12_tellJam 22 = .ok (.aload_n 0, 1) := by decide +kernel
theorem dX12_tellJam_23 : decode cX12_tellJam 23 = .ok (.iconst 0, 1) := by decide +kernel
theorem dX12_tellJam_24 : decode cX12_tellJam 24 = .ok (.sipush 511, 3) := by decide +kernel
theorem dX12_tellJam_27 : decode cX12_tellJam 27 = .ok (.invokevirtual 276, 3) := by decide +kernel
theorem dX12_tellJam_30 : decode cX12_tellJam 30 = .ok (.iastore, 1) := by decide +kernel
theorem dX12_tellJam_31 : decode cX12_tellJam 31 = .ok (.aload_n 0, 1) := by decide +kernel
theorem dX12_tellJam_32 : decode cX12_tellJam 32 = .ok (.getfield 286, 3) := by decide +kernel
theorem dX12_tellJam_35 : decode cX12_tellJam 35 = .ok (.istore_n 2, 1) := by decide +kernel
theorem dX12_tellJam_36 : decode cX12_tellJam 36 = .ok (.aload_n 0, 1) := by decide +kernel
theorem dX12_tellJam_37 : decode cX12_tellJam 37 = .ok (.getfield 109, 3) := by decide +kernel
theorem dX12_tellJam_40 : decode cX12_tellJam 40 = .ok (.iload_n 1, 1) := by decide +kernel
theorem dX12_tellJam_41 : decode cX12_tellJam 41 = .ok (.aload_n 0, 1) := by decide +kernel
theorem dX12_tellJam_42 : decode cX12_tellJam 42 = .ok (.iload_n 2, 1) := by decide +kernel
theorem dX12_tellJam_43 : decode cX12_tellJam 43 = .ok (.iload_n 2, 1) := by decide +kernel
theorem dX12_tellJam_44 : decode cX12_tellJam 44 = .ok (.ifCond .eq 12, 3) := by decide +kernel
theorem dX12_tellJam_47 : decode cX12_tellJam 47 = .ok (.aload_n 0, 1) := by decide +kernel
theorem dX12_tellJam_48 : decode cX12_tellJam 48 = .ok (.getfield 106, 3) := by decide +kernel
theorem dX12_tellJam_51 : decode cX12_tellJam 51 = .ok (.iload_n 1, 1) := by decide +kernel
theorem dX12_tellJam_52 : decode cX12_tellJam 52 = .ok (.iaload, 1) := by decide +kernel
theorem dX12_tellJam_53 : decode cX12_tellJam 53 = .ok (.goto 4, 3) := by decide +kernel
theorem dX12_tellJam_56 : decode cX12_tellJam 56 = .ok (.iconst 0, 1) := by decide +kernel
theorem dX12_tellJam_57 : decode cX12_tellJam 57 = .ok (.sipush 511, 3) := by decide +kernel
theorem dX12_tellJam_60 : decode cX12_tellJam 60 = .ok (.invokevirtual 294, 3) := by decide +kernel
theorem dX12_tellJam_63 : decode cX12_tellJam 63 = .ok (.iastore, 1) := by decide +kernel
theorem dX12_tellJam_64 : decode cX12_tellJam 64 = .ok (.aload_n 0, 1) := by decide +kernel
theorem dX12_tellJam_65 : decode cX12_tellJam 65 = .ok (.getfield 112, 3) := by decide +kernel
theorem dX12_tellJam_68 : decode cX12_tellJam 68 = .ok (.iload_n 1, 1) := by decide +kernel
theorem dX12_tellJam_69 : decode cX12_tellJam 69 = .ok (.aload_n 0, 1) := by decide +kernel
theorem dX12_tellJam_70 : decode cX12_tellJam 70 = .ok (.iconst 1, 1) := by decide +kernel
theorem dX12_tellJam_71 : decode cX12_tellJam 71 = .ok (.bipush 99, 2) := by decide +kernel
theorem dX12_tellJam_73 : decode cX12_tellJam 73 = .ok (.invokevirtual 276, 3) := by decide +kernel
theorem dX12_tellJam_76 : decode cX12_tellJam 76 = .ok (.iastore, 1) := by decide +kernel
theorem dX12_tellJam_77 : decode cX12_tellJam 77 = .ok (.aload_n 0, 1) := by decide +kernel
theorem dX12_tellJam_78 : decode cX12_tellJam 78 = .ok (.getfield 115, 3) := by decide +kernel
theorem dX12_tellJam_81 : decode cX12_tellJam 81 = .ok (.iload_n 1, 1) := by decide +kernel
theorem dX12_tellJam_82 : decode cX12_tellJam 82 = .ok (.aload_n 0, 1) := by decide +kernel
theorem dX12_tellJam_83 : decode cX12_tellJam 83 = .ok (.iconst 1, 1) := by decide +kernel
theorem dX12_tellJam_84 : decode cX12_tellJam 84 = .ok (.bipush 99, 2) := by decide +kernel
theorem dX12_tellJam_86 : decode cX12_tellJam 86 = .ok (.invokevirtual 276, 3) := by decide +kernel
theorem dX12_tellJam_89 : decode cX12_tellJam 89 = .ok (.iastore, 1) := by decide +kernel
theorem dX12_tellJam_90 : decode cX12_tellJam 90 = .ok (.aload_n 0, 1) := by decide +kernel
theorem dX12_tellJam_91 : decode cX12_tellJam 91 = .ok (.iconst 4, 1) := by decide +kernel
theorem dX12_tellJam_92 : decode cX12_tellJam 92 = .ok (.invokevirtual 280, 3) := by decide +kernel
theorem dX12_tellJam_95 : decode cX12_tellJam 95 = .ok (.aload_n 0, 1) := by decide +kernel
theorem dX12_tellJam_96 : decode cX12_tellJam 96 = .ok (.getfield 212, 3) := by decide +kernel
theorem dX12_tellJam_99 : decode cX12_tellJam 99 = .ok (.ifCond .ne 16, 3) := by decide +kernel
theorem dX12_tellJam_102 : decode cX12_tellJam 102 = .ok (.aload_n 0, 1) := by decide +kernel
theorem dX12_tellJam_103 : decode cX12_tellJam 103 = .ok (.getfield 103, 3) := by decide +kernel
theorem dX12_tellJam_106 : decode cX12_tellJam 106 = .ok (.aload_n 0, 1) := by decide +kernel
theorem dX12_tellJam_107 : decode cX12_tellJam 107 = .ok (.getfield 245, 3) := by decide +kernel
theorem dX12_tellJam_110 : decode cX12_tellJam 110 = .ok (.dup2, 1) := by decide +kernel
theorem dX12_tellJam_111 : decode cX12_tellJam 111 = .ok (.iaload, 1) := by decide +kernel
theorem dX12_tellJam_112 : decode cX12_tellJam 112 = .ok (.iconst 1, 1) := by decide +kernel
theorem dX12_tellJam_113 : decode cX12_tellJam 113 = .ok (.iadd, 1) := by decide +kernel
theorem dX12_tellJam_114 : decode cX12_tellJam 114 = .ok (.iastore, 1) := by decide +kernel
theorem dX12_tellJam_115 : decode cX12_tellJam 115 = .ok (.return_, 1) := by decide +kernel
set_option maxRecDepth 100000 in
theorem c_X12_tellJam (l : Launch) (D : q_D) (al : q_Al) (dt : q_Dt) (x0 : Nat) (kx0 : al.1 x0 = 13) (dt0 : q_Dt) (hm : X12_tellJam al dt x0 = some dt0) : q_Mt l yX12_tellJam cX12_tellJam 3 (none) 4 87 D al [.ref x0] dt 0 none dt0 := by
  refine q_Mt.of (by decide) (Nat.le_of_ble_eq_true rfl) ?_
  intro p e s m args below meth c ls C hargs hW hl
  have hx := C.1
  have hb := C.2.1
  have hown := C.2.2.2.2.2.1
  have hts := C.2.2.2.2.2.2.1
  have hS : va_S (q_A al) s.heap s.heap [] := va_S.rf
  have hl : lv_has ls 3 [(0, .ref x0)] := hl
  unfold X12_tellJam at hm
  have hB57 : ∀ (x0_57 : Nat) (x1_57 : Int32) (t0_57 : Nat) (t1_57 : Int32) (t2_57 : Nat) (t3_57 : Int32) (t4_57 : Int32) (kx0_57 : al.1 x0_57 = 13) (kt0_57 : al.1 t0_57 = 21) (kt2_57 : al.1 t2_57 = 13) (dt : q_Dt) (H : Heap) (locs : List Loc) (ls : Array Slot) (hm : X12_tellJam_b57 al x0_57 x1_57 t0_57 t1_57 t2_57 t3_57 t4_57 dt = some dt0) (hW : q_W D al dt H) (hS : va_S (q_A al) s.heap H locs) (hl : lv_has ls 3 [(0, .ref x0_57), (1, .int x1_57)]), W p l e { frames := 4, cells := 0, slots := 0, locals := 87 } s m args below meth c H locs 0 0 (MQ below (q_Q none (fun H => q_W D al dt0 H ∧ q_Rk al 0 none) (q_A al)) args s 0 0 (q_A al)) (F0 m 57 ls [.int t4_57, .int t3_57, .ref t2_57, .int t1_57, .ref t0_57]) := by
    intro x0_57 x1_57 t0_57 t1_57 t2_57 t3_57 t4_57 kx0_57 kt0_57 kt2_57 dt H locs ls hm hW hS hl
    unfold X12_tellJam_b57 at hm
    refine lv_sipush (v := 511) hx hb dX12_tellJam_57 (by decide) ?_
    obtain ⟨v57002, dt57003, hc57001, hm⟩ := q_b2i hm
    refine q_callV C hW hS (As := [.int t3_57, .int t4_57, .int 511]) (rest := [.int t1_57, .ref t0_57]) (st1 := [.int v57002, .int t1_57, .ref t0_57]) (c_X12_hangs l D al dt t2_57 t3_57 t4_57 511 kt2_57 v57002 dt57003 hc57001) yl_X12_hangs vl_X12_hangs ml_RX12_294 (ci := 12) rfl kt2_57 (by decide) rfl ⟨Nat.le_of_ble_eq_true rfl, Nat.le_of_ble_eq_true rfl⟩ hl rfl (Nat.le_of_ble_eq_true rfl) dX12_tellJam_60 ⟨Nat.le_refl _, Nat.le_refl _⟩ rfl (fun H locs k57004 hW hS => ?_)
    refine r_iast C hW hS hm kt0_57 dX12_tellJam_63 (fun dt57005 H locs hm hW hS => ?_)
    refine lv_aload_n hx hb dX12_tellJam_64 rfl (lv_at hl 0 rfl) ?_
    refine r_getF C hW (ci := 12) kx0_57 ff_12_45 cl_12 fl_RX12_112 dX12_tellJam_65 (fun k57006 => ?_)
    refine lv_iload_n hx hb dX12_tellJam_68 rfl (lv_at hl 1 rfl) ?_
    refine lv_aload_n hx hb dX12_tellJam_69 rfl (lv_at hl 0 rfl) ?_
    refine lv_iconst (v := 1) hx hb dX12_tellJam_70 (by decide) ?_
    refine lv_bipush (v := 99) hx hb dX12_tellJam_71 (by decide) ?_
    obtain ⟨v57008, dt57009, hc57007, hm⟩ := q_b2i hm
    refine q_callV C hW hS (As := [.int 1, .int 99]) (rest := [.int x1_57, .ref (al.2.2 x0_57 45)]) (st1 := [.int v57008, .int x1_57, .ref (al.2.2 x0_57 45)]) (c_X12_bounded l D al dt57005 x0_57 1 99 kx0_57 v57008 dt57009 hc57007) yl_X12_bounded vl_X12_bounded ml_RX12_276 (ci := 12) rfl kx0_57 (by decide) rfl ⟨Nat.le_of_ble_eq_true rfl, Nat.le_of_ble_eq_true rfl⟩ hl rfl (Nat.le_of_ble_eq_true rfl) dX12_tellJam_73 ⟨Nat.le_refl _, Nat.le_refl _⟩ rfl (fun H locs k57010 hW hS => ?_)
    refine r_iast C hW hS hm k57006 dX12_tellJam_76 (fun dt57011 H locs hm hW hS => ?_)
    refine lv_aload_n hx hb dX12_tellJam_77 rfl (lv_at hl 0 rfl) ?_
    refine r_getF C hW (ci := 12) kx0_57 ff_12_46 cl_12 fl_RX12_115 dX12_tellJam_78 (fun k57012 => ?_)
    refine lv_iload_n hx hb dX12_tellJam_81 rfl (lv_at hl 1 rfl) ?_
    refine lv_aload_n hx hb dX12_tellJam_82 rfl (lv_at hl 0 rfl) ?_
    refine lv_iconst (v := 1) hx hb dX12_tellJam_83 (by decide) ?_
    refine lv_bipush (v := 99) hx hb dX12_tellJam_84 (by decide) ?_
    obtain ⟨v57014, dt57015, hc57013, hm⟩ := q_b2i hm
    refine q_callV C hW hS (As := [.int 1, .int 99]) (rest := [.int x1_57, .ref (al.2.2 x0_57 46)]) (st1 := [.int v57014, .int x1_57, .ref (al.2.2 x0_57 46)]) (c_X12_bounded l D al dt57011 x0_57 1 99 kx0_57 v57014 dt57015 hc57013) yl_X12_bounded vl_X12_bounded ml_RX12_276 (ci := 12) rfl kx0_57 (by decide) rfl ⟨Nat.le_of_ble_eq_true rfl, Nat.le_of_ble_eq_true rfl⟩ hl rfl (Nat.le_of_ble_eq_true rfl) dX12_tellJam_86 ⟨Nat.le_refl _, Nat.le_refl _⟩ rfl (fun H locs k57016 hW hS => ?_)
    refine r_iast C hW hS hm k57012 dX12_tellJam_89 (fun dt57017 H locs hm hW hS => ?_)
    refine lv_aload_n hx hb dX12_tellJam_90 rfl (lv_at hl 0 rfl) ?_
    refine lv_iconst (v := 4) hx hb dX12_tellJam_91 (by decide) ?_
    obtain ⟨dt57019, hc57018, hm⟩ := q_b1i hm
    refine q_callV C hW hS (As := [.int 4]) (rest := []) (st1 := []) (c_X12_must l D al dt57017 x0_57 4 kx0_57 dt57019 hc57018) yl_X12_must vl_X12_must ml_RX12_280 (ci := 12) rfl kx0_57 (by decide) rfl ⟨Nat.le_of_ble_eq_true rfl, Nat.le_of_ble_eq_true rfl⟩ hl rfl (Nat.le_of_ble_eq_true rfl) dX12_tellJam_92 ⟨Nat.le_refl _, Nat.le_refl _⟩ rfl (fun H locs k57020 hW hS => ?_)
    refine lv_aload_n hx hb dX12_tellJam_95 rfl (lv_at hl 0 rfl) ?_
    refine r_getI C hW (ci := 12) kx0_57 ff_12_13 cl_12 fl_RX12_212 dX12_tellJam_96 ?_
    refine q_ifc hm (fun c57021 hm => ?_) (fun c57021 hm => ?_)
    · refine lv_if_ne (tgt := 115) hx hb dX12_tellJam_99 (by decide) (fun h => absurd c57021 h) (fun _ => ?_)
      refine lv_aload_n hx hb dX12_tellJam_102 rfl (lv_at hl 0 rfl) ?_
      refine r_getF C hW (ci := 12) kx0_57 ff_12_42 cl_12 fl_RX12_103 dX12_tellJam_103 (fun k57022 => ?_)
      refine lv_aload_n hx hb dX12_tellJam_106 rfl (lv_at hl 0 rfl) ?_
      refine r_getI C hW (ci := 12) kx0_57 ff_12_19 cl_12 fl_RX12_245 dX12_tellJam_107 ?_
      refine lv_dup2_11 hx hb dX12_tellJam_110 rfl rfl ?_
      refine r_iald C hW hm k57022 dX12_tellJam_111 (fun hm => ?_)
      refine lv_iconst (v := 1) hx hb dX12_tellJam_112 (by decide) ?_
      refine lv_iadd hx hb dX12_tellJam_113 ?_
      refine r_iast C hW hS hm k57022 dX12_tellJam_114 (fun dt57023 H locs hm hW hS => ?_)
      exact e_vD C hW hS hm dX12_tellJam_115
    refine lv_if_ne (tgt := 115) hx hb dX12_tellJam_99 (by decide) (fun _ => ?_) (fun h => absurd h c57021)
    exact e_vD C hW hS hm dX12_tellJam_115
  refine lv_iconst (v := 4) hx hb dX12_tellJam_0 (by decide) ?_
  refine lv_aload_n hx hb dX12_tellJam_1 rfl (lv_at hl 0 rfl) ?_
  refine r_getI C hW (ci := 12) kx0 ff_12_19 cl_12 fl_RX12_245 dX12_tellJam_2 ?_
  refine lv_imul hx hb dX12_tellJam_5 ?_
  refine lv_aload_n hx hb dX12_tellJam_6 rfl (lv_at hl 0 rfl) ?_
  refine r_getF C hW (ci := 12) kx0 ff_12_42 cl_12 fl_RX12_103 dX12_tellJam_7 (fun k1000001 => ?_)
  refine lv_aload_n hx hb dX12_tellJam_10 rfl (lv_at hl 0 rfl) ?_
  refine r_getI C hW (ci := 12) kx0 ff_12_19 cl_12 fl_RX12_245 dX12_tellJam_11 ?_
  refine r_iald C hW hm k1000001 dX12_tellJam_14 (fun hm => ?_)
  refine lv_iadd hx hb dX12_tellJam_15 ?_
  refine q_nmI hm (fun v1000002 ev1000002 hm => ?_)
  refine lv_istore_n (i := 1) (lv' := [(1, .int v1000002), (0, .ref x0)]) hx hb dX12_tellJam_16 rfl hl (by decide) rfl (fun ls hl => ?_)
  refine lv_aload_n hx hb dX12_tellJam_17 rfl (lv_at hl 1 rfl) ?_
  refine r_getF C hW (ci := 12) kx0 ff_12_43 cl_12 fl_RX12_106 dX12_tellJam_18 (fun k1000003 => ?_)
  refine lv_iload_n hx hb dX12_tellJam_21 rfl (lv_at hl 0 rfl) ?_
  refine lv_aload_n hx hb dX12_tellJam_22 rfl (lv_at hl 1 rfl) ?_
  refine lv_iconst (v := 0) hx hb dX12_tellJam_23 (by decide) ?_
  refine lv_sipush (v := 511) hx hb dX12_tellJam_24 (by decide) ?_
  obtain ⟨v1000005, dt1000006, hc1000004, hm⟩ := q_b2i hm
  refine q_callV C hW hS (As := [.int 0, .int 511]) (rest := [.int v1000002, .ref (al.2.2 x0 43)]) (st1 := [.int v1000005, .int v1000002, .ref (al.2.2 x0 43)]) (c_X12_bounded l D al dt x0 0 511 kx0 v1000005 dt1000006 hc1000004) yl_X12_bounded vl_X12_bounded ml_RX12_276 (ci := 12) rfl kx0 (by decide) rfl ⟨Nat.le_of_ble_eq_true rfl, Nat.le_of_ble_eq_true rfl⟩ hl rfl (Nat.le_of_ble_eq_true rfl) dX12_tellJam_27 ⟨Nat.le_refl _, Nat.le_refl _⟩ rfl (fun H locs k1000007 hW hS => ?_)
  refine r_iast C hW hS hm k1000003 dX12_tellJam_30 (fun dt1000008 H locs hm hW hS => ?_)
  refine lv_aload_n hx hb dX12_tellJam_31 rfl (lv_at hl 1 rfl) ?_
  refine r_getI C hW (ci := 12) kx0 ff_12_50 cl_12 fl_RX12_286 dX12_tellJam_32 ?_
  refine lv_istore_n (i := 2) (lv' := [(2, .int (dt1000008.1 x0 50)), (1, .int v1000002), (0, .ref x0)]) hx hb dX12_tellJam_35 rfl hl (by decide) rfl (fun ls hl => ?_)
  refine lv_aload_n hx hb dX12_tellJam_36 rfl (lv_at hl 2 rfl) ?_
  refine r_getF C hW (ci := 12) kx0 ff_12_44 cl_12 fl_RX12_109 dX12_tellJam_37 (fun k1000009 => ?_)
  refine lv_iload_n hx hb dX12_tellJam_40 rfl (lv_at hl 1 rfl) ?_
  refine lv_aload_n hx hb dX12_tellJam_41 rfl (lv_at hl 2 rfl) ?_
  refine lv_iload_n hx hb dX12_tellJam_42 rfl (lv_at hl 0 rfl) ?_
  refine lv_iload_n hx hb dX12_tellJam_43 rfl (lv_at hl 0 rfl) ?_
  refine q_ifc hm (fun c1000010 hm => ?_) (fun c1000010 hm => ?_)
  · refine lv_if_eq (tgt := 56) hx hb dX12_tellJam_44 (by decide) (fun _ => ?_) (fun h => absurd c1000010 h)
    refine lv_iconst (v := 0) hx hb dX12_tellJam_56 (by decide) ?_
    exact hB57 x0 v1000002 (al.2.2 x0 44) v1000002 x0 (dt1000008.1 x0 50) 0 kx0 k1000009 kx0 dt1000008 _ _ _ hm hW hS (lv_sub hl [2, 1] rfl)
  refine lv_if_eq (tgt := 56) hx hb dX12_tellJam_44 (by decide) (fun h => absurd h c1000010) (fun _ => ?_)
  refine lv_aload_n hx hb dX12_tellJam_47 rfl (lv_at hl 2 rfl) ?_
  refine r_getF C hW (ci := 12) kx0 ff_12_43 cl_12 fl_RX12_106 dX12_tellJam_48 (fun k1000011 => ?_)
  refine lv_iload_n hx hb dX12_tellJam_51 rfl (lv_at hl 1 rfl) ?_
  refine r_iald C hW hm k1000011 dX12_tellJam_52 (fun hm => ?_)
  refine lv_goto (tgt := 57) hx hb dX12_tellJam_53 (by decide) ?_
  exact hB57 x0 v1000002 (al.2.2 x0 44) v1000002 x0 (dt1000008.1 x0 50) (dt1000008.1 (al.2.2 x0 43) (Int32.toNatClampNeg v1000002)) kx0 k1000009 kx0 dt1000008 _ _ _ hm hW hS (lv_sub hl [2, 1] rfl)
theorem dX12_tell_0 : decode cX12_tell 0 = .ok (.aload_n 0, 1) := by decide +kernel
theorem dX12_tell_1 : decode cX12_tell 1 = .ok (.getfield 20, 3) := by decide +kernel
theorem dX12_tell_4 : decode cX12_tell 4 = .ok (.aload_n 0, 1) := by decide +kernel
theorem dX12_tell_5 : decode cX12_tell 5 = .ok (.getfield 215, 3) := by decide +kernel
theorem dX12_tell_8 : decode cX12_tell 8 = .ok (.iaload, 1) := by decide +kernel
theorem dX12_tell_9 : decode cX12_tell 9 = .ok (.istore_n 1, 1) := by decide +kernel
theorem dX12_tell_10 : decode cX12_tell 10 = .ok (.iload_n 1, 1) := by decide +kernel
theorem dX12_tell_11 : decode cX12_tell 11 = .ok (.tableswitch 277 20 29 #[53, 53, 53, 53, 83, 112, 141, 170, 198, 247], 53) := by decide +kernel
theorem dX12_tell_64 : decode cX12_tell 64 = .ok (.aload_n 0, 1) := by decide +kernel
theorem dX12_tell_65 : decode cX12_tell 65 = .ok (.aload_n 0, 1) := by decide +kernel
theorem dX12_tell_66 : decode cX12_tell 66 = .ok (.getfield 49, 3) := by decide +kernel
theorem dX12_tell_69 : decode cX12_tell 69 = .ok (.aload_n 0, 1) := by decide +kernel
theorem dX12_tell_70 : decode cX12_tell 70 = .ok (.getfield 245, 3) := by decide +kernel
theorem dX12_tell_73 : decode cX12_tell 73 = .ok (.iaload, 1) := by decide +kernel
theorem dX12_tell_74 : decode cX12_tell 74 = .ok (.bipush 8, 2) := by decide +kernel
theorem dX12_tell_76 : decode cX12_tell 76 = .ok (.invokevirtual 257, 3) := by decide +kernel
theorem dX12_tell_79 : decode cX12_tell 79 = .ok (.aload_n 0, 1) := by decide +kernel
theorem dX12_tell_80 : decode cX12_tell 80 = .ok (.getfield 212, 3) := by decide +kernel
theorem dX12_tell_83 : decode cX12_tell 83 = .ok (.ifCond .ne 210, 3) := by decide +kernel
theorem dX12_tell_86 : decode cX12_tell 86 = .ok (.aload_n 0, 1) := by decide +kernel
theorem dX12_tell_87 : decode cX12_tell 87 = .ok (.iload_n 1, 1) := by decide +kernel
theorem dX12_tell_88 : decode cX12_tell 88 = .ok (.invokevirtual 261, 3) := by decide +kernel
theorem dX12_tell_91 : decode cX12_tell 91 = .ok (.goto 202, 3) := by decide +kernel
theorem dX12_tell_94 : decode cX12_tell 94 = .ok (.aload_n 0, 1) := by decide +kernel
theorem dX12_tell_95 : decode cX12_tell 95 = .ok (.aload_n 0, 1) := by decide +kernel
theorem dX12_tell_96 : decode cX12_tell 96 = .ok (.getfield 58, 3) := by decide +kernel
theorem dX12_tell_99 : decode cX12_tell 99 = .ok (.aload_n 0, 1) := by decide +kernel
theorem dX12_tell_100 : decode cX12_tell 100 = .ok (.getfield 245, 3) := by decide +kernel
theorem dX12_tell_103 : decode cX12_tell 103 = .ok (.iaload, 1) := by decide +kernel
theorem dX12_tell_104 : decode cX12_tell 104 = .ok (.bipush 6, 2) := by decide +kernel
theorem dX12_tell_106 : decode cX12_tell 106 = .ok (.invokevirtual 257, 3) := by decide +kernel
theorem dX12_tell_109 : decode cX12_tell 109 = .ok (.aload_n 0, 1) := by decide +kernel
theorem dX12_tell_110 : decode cX12_tell 110 = .ok (.getfield 212, 3) := by decide +kernel
theorem dX12_tell_113 : decode cX12_tell 113 = .ok (.ifCond .ne 180, 3) := by decide +kernel
theorem dX12_tell_116 : decode cX12_tell 116 = .ok (.aload_n 0, 1) := by decide +kernel
theorem dX12_tell_117 : decode cX12_tell 117 = .ok (.invokevirtual 264, 3) := by decide +kernel
theorem dX12_tell_120 : decode cX12_tell 120 = .ok (.goto 173, 3) := by decide +kernel
theorem dX12_tell_123 : decode cX12_tell 123 = .ok (.aload_n 0, 1) := by decide +kernel
theorem dX12_tell_124 : decode cX12_tell 124 = .ok (.aload_n 0, 1) := by decide +kernel
theorem dX12_tell_125 : decode cX12_tell 125 = .ok (.getfield 70, 3) := by decide +kernel
theorem dX12_tell_128 : decode cX12_tell 128 = .ok (.aload_n 0, 1) := by decide +kernel
theorem dX12_tell_129 : decode cX12_tell 129 = .ok (.getfield 245, 3) := by decide +kernel
theorem dX12_tell_132 : decode cX12_tell 132 = .ok (.iaload, 1) := by decide +kernel
theorem dX12_tell_133 : decode cX12_tell 133 = .ok (.bipush 6, 2) := by decide +kernel
theorem dX12_tell_135 : decode cX12_tell 135 = .ok (.invokevirtual 257, 3) := by decide +kernel
theorem dX12_tell_138 : decode cX12_tell 138 = .ok (.aload_n 0, 1) := by decide +kernel
theorem dX12_tell_139 : decode cX12_tell 139 = .ok (.getfield 212, 3) := by decide +kernel
theorem dX12_tell_142 : decode cX12_tell 142 = .ok (.ifCond .ne 151, 3) := by decide +kernel
theorem dX12_tell_145 : decode cX12_tell 145 = .ok (.aload_n 0, 1) := by decide +kernel
theorem dX12_tell_146 : decode cX12_tell 146 = .ok (.invokevirtual 267, 3) := by decide +kernel
theorem dX12_tell_149 : decode cX12_tell 149 = .ok (.goto 144, 3) := by decide +kernel
theorem dX12_tell_152 : decode cX12_tell 152 = .ok (.aload_n 0, 1) := by decide +kernel
theorem dX12_tell_153 : decode cX12_tell 153 = .ok (.aload_n 0, 1) := by decide +kernel
theorem dX12_tell_154 : decode cX12_tell 154 = .ok (.getfield 91, 3) := by decide +kernel
theorem dX12_tell_157 : decode cX12_tell 157 = .ok (.aload_n 0, 1) := by decide +kernel
theorem dX12_tell_158 : decode cX12_tell 158 = .ok (.getfield 245, 3) := by decide +kernel
theorem dX12_tell_161 : decode cX12_tell 161 = .ok (.iaload, 1) := by decide +kernel
theorem dX12_tell_162 : decode cX12_tell 162 = .ok (.bipush 6, 2) := by decide +kernel
theorem dX12_tell_164 : decode cX12_tell 164 = .ok (.invokevirtual 257, 3) := by decide +kernel
theorem dX12_tell_167 : decode cX12_tell 167 = .ok (.aload_n 0, 1) := by decide +kernel
theorem dX12_tell_168 : decode cX12_tell 168 = .ok (.getfield 212, 3) := by decide +kernel
theorem dX12_tell_171 : decode cX12_tell 171 = .ok (.ifCond .ne 122, 3) := by decide +kernel
theorem dX12_tell_174 : decode cX12_tell 174 = .ok (.aload_n 0, 1) := by decide +kernel
theorem dX12_tell_175 : decode cX12_tell 175 = .ok (.invokevirtual 270, 3) := by decide +kernel
theorem dX12_tell_178 : decode cX12_tell 178 = .ok (.goto 115, 3) := by decide +kernel
theorem dX12_tell_181 : decode cX12_tell 181 = .ok (.aload_n 0, 1) := by decide +kernel
theorem dX12_tell_182 : decode cX12_tell 182 = .ok (.aload_n 0, 1) := by decide +kernel
theorem dX12_tell_183 : decode cX12_tell 183 = .ok (.getfield 103, 3) := by decide +kernel
theorem dX12_tell_186 : decode cX12_tell 186 = .ok (.aload_n 0, 1) := by decide +kernel
theorem dX12_tell_187 : decode cX12_tell 187 = .ok (.getfield 245, 3) := by decide +kernel
theorem dX12_tell_190 : decode cX12_tell 190 = .ok (.iaload, 1) := by decide +kernel
theorem dX12_tell_191 : decode cX12_tell 191 = .ok (.iconst 4, 1) := by decide +kernel
theorem dX12_tell_192 : decode cX12_tell 192 = .ok (.invokevirtual 257, 3) := by decide +kernel
theorem dX12_tell_195 : decode cX12_tell 195 = .ok (.aload_n 0, 1) := by decide +kernel
theorem dX12_tell_196 : decode cX12_tell 196 = .ok (.getfield 212, 3) := by decide +kernel
theorem dX12_tell_199 : decode cX12_tell 199 = .ok (.ifCond .ne 94, 3) := by decide +kernel
theorem dX12_tell_202 : decode cX12_tell 202 = .ok (.aload_n 0, 1) := by decide +kernel
theorem dX12_tell_203 : decode cX12_tell 203 = .ok (.invokevirtual 273, 3) := by decide +kernel
theorem dX12_tell_206 : decode cX12_tell 206 = .ok (.goto 87, 3) := by decide +kernel
theorem dX12_tell_209 : decode cX12_tell 209 = .ok (.aload_n 0, 1) := by decide +kernel
theorem dX12_tell_210 : decode cX12_tell 210 = .ok (.invokevirtual 233, 3) := by decide +kernel
theorem dX12_tell_213 : decode cX12_tell 213 = .ok (.aload_n 0, 1) := by decide +kernel
theorem dX12_tell_214 : decode cX12_tell 214 = .ok (.iconst 0, 1) := by decide +kernel
theorem dX12_tell_215 : decode cX12_tell 215 = .ok (.bipush 50, 2) := by decide +kernel
theorem dX12_tell_217 : decode cX12_tell 217 = .ok (.invokevirtual 276, 3) := by decide +kernel
theorem dX12_tell_220 : decode cX12_tell 220 = .ok (.istore_n 2, 1) := by decide +kernel
theorem dX12_tell_221 : decode cX12_tell 221 = .ok (.aload_n 0, 1) := by decide +kernel
theorem dX12_tell_222 : decode cX12_tell 222 = .ok (.iconst 0, 1) := by decide +kernel
theorem dX12_tell_223 : decode cX12_tell 223 = .ok (.sipush 9999, 3) := by decide +kernel
theorem dX12_tell_226 : decode cX12_tell 226 = .ok (.invokevirtual 276, 3) := by decide +kernel
theorem dX12_tell_229 : decode cX12_tell 229 = .ok (.istore_n 3, 1) := by decide +kernel
theorem dX12_tell_230 : decode cX12_tell 230 = .ok (.aload_n 0, 1) := by decide +kernel
theorem dX12_tell_231 : decode cX12_tell 231 = .ok (.iconst 4, 1) := by decide +kernel
theorem dX12_tell_232 : decode cX12_tell 232 = .ok (.invokevirtual 280, 3) := by decide +kernel
theorem dX12_tell_235 : decode cX12_tell 235 = .ok (.aload_n 0, 1) := by decide +kernel
theorem dX12_tell_236 : decode cX12_tell 236 = .ok (.getfield 118, 3) := by decide +kernel
theorem dX12_tell_239 : decode cX12_tell 239 = .ok (.aload_n 0, 1) := by decide +kernel
theorem dX12_tell_240 : decode cX12_tell 240 = .ok (.getfield 245, 3) := by decide +kernel
theorem dX12_tell_243 : decode cX12_tell 243 = .ok (.iload_n 2, 1) := by decide +kernel
theorem dX12_tell_244 : decode cX12_tell 244 = .ok (.iastore, 1) := by decide +kernel
theorem dX12_tell_245 : decode cX12_tell 245 = .ok (.aload_n 0, 1) := by decide +kernel
theorem dX12_tell_246 : decode cX12_tell 246 = .ok (.getfield 121, 3) := by decide +kernel
theorem dX12_tell_249 : decode cX12_tell 249 = .ok (.aload_n 0, 1) := by decide +kernel
theorem dX12_tell_250 : decode cX12_tell 250 = .ok (.getfield 245, 3) := by decide +kernel
theorem dX12_tell_253 : decode cX12_tell 253 = .ok (.iload_n 3, 1) := by decide +kernel
theorem dX12_tell_254 : decode cX12_tell 254 = .ok (.iastore, 1) := by decide +kernel
theorem dX12_tell_255 : decode cX12_tell 255 = .ok (.goto 38, 3) := by decide +kernel
theorem dX12_tell_258 : decode cX12_tell 258 = .ok (.aload_n 0, 1) := by decide +kernel
theorem dX12_tell_259 : decode cX12_tell 259 = .ok (.invokevirtual 233, 3) := by decide +kernel
theorem dX12_tell_262 : decode cX12_tell 262 = .ok (.aload_n 0, 1) := by decide +kernel
theorem dX12_tell_263 : decode cX12_tell 263 = .ok (.getfield 124, 3) := by decide +kernel
theorem dX12_tell_266 : decode cX12_tell 266 = .ok (.aload_n 0, 1) := by decide +kernel
theorem dX12_tell_267 : decode cX12_tell 267 = .ok (.getfield 245, 3) := by decide +kernel
theorem dX12_tell_270 : decode cX12_tell 270 = .ok (.aload_n 0, 1) := by decide +kernel
theorem dX12_tell_271 : decode cX12_tell 271 = .ok (.bipush 16, 2) := by decide +kernel
theorem dX12_tell_273 : decode cX12_tell 273 = .ok (.sipush 512, 3) := by decide +kernel
theorem dX12_tell_276 : decode cX12_tell 276 = .ok (.invokevirtual 276, 3) := by decide +kernel
theorem dX12_tell_279 : decode cX12_tell 279 = .ok (.iastore, 1) := by decide +kernel
theorem dX12_tell_280 : decode cX12_tell 280 = .ok (.aload_n 0, 1) := by decide +kernel
theorem dX12_tell_281 : decode cX12_tell 281 = .ok (.iconst 4, 1) := by decide +kernel
theorem dX12_tell_282 : decode cX12_tell 282 = .ok (.invokevirtual 280, 3) := by decide +kernel
theorem dX12_tell_285 : decode cX12_tell 285 = .ok (.goto 8, 3) := by decide +kernel
theorem dX12_tell_288 : decode cX12_tell 288 = .ok (.aload_n 0, 1) := by decide +kernel
theorem dX12_tell_289 : decode cX12_tell 289 = .ok (.iconst 1, 1) := by decide +kernel
theorem dX12_tell_290 : decode cX12_tell 290 = .ok (.invokevirtual 227, 3) := by decide +kernel
theorem dX12_tell_293 : decode cX12_tell 293 = .ok (.return_, 1) := by decide +kernel
set_option maxRecDepth 100000 in
theorem c_X12_tell (l : Launch) (D : q_D) (al : q_Al) (dt : q_Dt) (x0 : Nat) (kx0 : al.1 x0 = 13) (dt0 : q_Dt) (hm : X12_tell al dt x0 = some dt0) : q_Mt l yX12_tell cX12_tell 4 (none) 6 144 D al [.ref x0] dt 0 none dt0 := by
  refine q_Mt.of (by decide) (Nat.le_of_ble_eq_true rfl) ?_
  intro p e s m args below meth c ls C hargs hW hl
  have hx := C.1
  have hb := C.2.1
  have hown := C.2.2.2.2.2.1
  have hts := C.2.2.2.2.2.2.1
  have hS : va_S (q_A al) s.heap s.heap [] := va_S.rf
  have hl : lv_has ls 4 [(0, .ref x0)] := hl
  unfold X12_tell at hm
  have hB64 : ∀ (x0_64 : Nat) (x1_64 : Int32) (kx0_64 : al.1 x0_64 = 13) (dt : q_Dt) (H : Heap) (locs : List Loc) (ls : Array Slot) (hm : X12_tell_b64 al x0_64 x1_64 dt = some dt0) (hW : q_W D al dt H) (hS : va_S (q_A al) s.heap H locs) (hl : lv_has ls 4 [(0, .ref x0_64), (1, .int x1_64)]), W p l e { frames := 6, cells := 0, slots := 0, locals := 144 } s m args below meth c H locs 0 0 (MQ below (q_Q none (fun H => q_W D al dt0 H ∧ q_Rk al 0 none) (q_A al)) args s 0 0 (q_A al)) (F0 m 64 ls []) := by
    intro x0_64 x1_64 kx0_64 dt H locs ls hm hW hS hl
    unfold X12_tell_b64 at hm
    refine lv_aload_n hx hb dX12_tell_64 rfl (lv_at hl 0 rfl) ?_
    refine lv_aload_n hx hb dX12_tell_65 rfl (lv_at hl 0 rfl) ?_
    refine r_getF C hW (ci := 12) kx0_64 ff_12_24 cl_12 fl_RX12_49 dX12_tell_66 (fun k64001 => ?_)
    refine lv_aload_n hx hb dX12_tell_69 rfl (lv_at hl 0 rfl) ?_
    refine r_getI C hW (ci := 12) kx0_64 ff_12_19 cl_12 fl_RX12_245 dX12_tell_70 ?_
    refine r_iald C hW hm k64001 dX12_tell_73 (fun hm => ?_)
    refine lv_bipush (v := 8) hx hb dX12_tell_74 (by decide) ?_
    obtain ⟨dt64003, hc64002, hm⟩ := q_b1i hm
    refine q_callV C hW hS (As := [.int (dt.1 (al.2.2 x0_64 24) (Int32.toNatClampNeg (dt.1 x0_64 19))), .int 8]) (rest := []) (st1 := []) (c_X12_room l D al dt x0_64 (dt.1 (al.2.2 x0_64 24) (Int32.toNatClampNeg (dt.1 x0_64 19))) 8 kx0_64 dt64003 hc64002) yl_X12_room vl_X12_room ml_RX12_257 (ci := 12) rfl kx0_64 (by decide) rfl ⟨Nat.le_of_ble_eq_true rfl, Nat.le_of_ble_eq_true rfl⟩ hl rfl (Nat.le_of_ble_eq_true rfl) dX12_tell_76 ⟨Nat.le_refl _, Nat.le_refl _⟩ rfl (fun H locs k64004 hW hS => ?_)
    refine lv_aload_n hx hb dX12_tell_79 rfl (lv_at hl 0 rfl) ?_
    refine r_getI C hW (ci := 12) kx0_64 ff_12_13 cl_12 fl_RX12_212 dX12_tell_80 ?_
    refine q_ifc hm (fun c64005 hm => ?_) (fun c64005 hm => ?_)
    · refine lv_if_ne (tgt := 293) hx hb dX12_tell_83 (by decide) (fun h => absurd c64005 h) (fun _ => ?_)
      refine lv_aload_n hx hb dX12_tell_86 rfl (lv_at hl 0 rfl) ?_
      refine lv_iload_n hx hb dX12_tell_87 rfl (lv_at hl 1 rfl) ?_
      obtain ⟨dt64007, hc64006, hm⟩ := q_b1i hm
      refine q_callV C hW hS (As := [.int x1_64]) (rest := []) (st1 := []) (c_X12_tellCode l D al dt64003 x0_64 x1_64 kx0_64 dt64007 hc64006) yl_X12_tellCode vl_X12_tellCode ml_RX12_261 (ci := 12) rfl kx0_64 (by decide) rfl ⟨Nat.le_of_ble_eq_true rfl, Nat.le_of_ble_eq_true rfl⟩ hl rfl (Nat.le_of_ble_eq_true rfl) dX12_tell_88 ⟨Nat.le_refl _, Nat.le_refl _⟩ rfl (fun H locs k64008 hW hS => ?_)
      refine lv_goto (tgt := 293) hx hb dX12_tell_91 (by decide) ?_
      exact e_vD C hW hS hm dX12_tell_293
    refine lv_if_ne (tgt := 293) hx hb dX12_tell_83 (by decide) (fun _ => ?_) (fun h => absurd h c64005)
    exact e_vD C hW hS hm dX12_tell_293
  refine lv_aload_n hx hb dX12_tell_0 rfl (lv_at hl 0 rfl) ?_
  refine r_getF C hW (ci := 12) kx0 ff_12_5 cl_12 fl_RX12_20 dX12_tell_1 (fun k1000001 => ?_)
  refine lv_aload_n hx hb dX12_tell_4 rfl (lv_at hl 0 rfl) ?_
  refine r_getI C hW (ci := 12) kx0 ff_12_11 cl_12 fl_RX12_215 dX12_tell_5 ?_
  refine r_iald C hW hm k1000001 dX12_tell_8 (fun hm => ?_)
  refine q_nmI hm (fun v1000002 ev1000002 hm => ?_)
  refine lv_istore_n (i := 1) (lv' := [(1, .int v1000002), (0, .ref x0)]) hx hb dX12_tell_9 rfl hl (by decide) rfl (fun ls hl => ?_)
  refine lv_iload_n hx hb dX12_tell_10 rfl (lv_at hl 0 rfl) ?_
  refine q_ifc hm (fun c1000003 hm => ?_) (fun c1000003 hm => ?_)
  · refine lv_tableIn (tgt := 64) hx hb dX12_tell_11 (by rw [c1000003]; decide) (by rw [c1000003]; decide) (by rw [c1000003]; rfl) (by decide) ?_
    exact hB64 x0 v1000002 kx0 dt _ _ _ hm hW hS (lv_sub hl [1, 0] rfl)
  refine q_ifc hm (fun c1000004 hm => ?_) (fun c1000004 hm => ?_)
  · refine lv_tableIn (tgt := 64) hx hb dX12_tell_11 (by rw [c1000004]; decide) (by rw [c1000004]; decide) (by rw [c1000004]; rfl) (by decide) ?_
    exact hB64 x0 v1000002 kx0 dt _ _ _ hm hW hS (lv_sub hl [1, 0] rfl)
  refine q_ifc hm (fun c1000005 hm => ?_) (fun c1000005 hm => ?_)
  · refine lv_tableIn (tgt := 64) hx hb dX12_tell_11 (by rw [c1000005]; decide) (by rw [c1000005]; decide) (by rw [c1000005]; rfl) (by decide) ?_
    exact hB64 x0 v1000002 kx0 dt _ _ _ hm hW hS (lv_sub hl [1, 0] rfl)
  refine q_ifc hm (fun c1000006 hm => ?_) (fun c1000006 hm => ?_)
  · refine lv_tableIn (tgt := 64) hx hb dX12_tell_11 (by rw [c1000006]; decide) (by rw [c1000006]; decide) (by rw [c1000006]; rfl) (by decide) ?_
    exact hB64 x0 v1000002 kx0 dt _ _ _ hm hW hS (lv_sub hl [1, 0] rfl)
  refine q_ifc hm (fun c1000007 hm => ?_) (fun c1000007 hm => ?_)
  · refine lv_tableIn (tgt := 94) hx hb dX12_tell_11 (by rw [c1000007]; decide) (by rw [c1000007]; decide) (by rw [c1000007]; rfl) (by decide) ?_
    refine lv_aload_n hx hb dX12_tell_94 rfl (lv_at hl 1 rfl) ?_
    refine lv_aload_n hx hb dX12_tell_95 rfl (lv_at hl 1 rfl) ?_
    refine r_getF C hW (ci := 12) kx0 ff_12_27 cl_12 fl_RX12_58 dX12_tell_96 (fun k1000008 => ?_)
    refine lv_aload_n hx hb dX12_tell_99 rfl (lv_at hl 1 rfl) ?_
    refine r_getI C hW (ci := 12) kx0 ff_12_19 cl_12 fl_RX12_245 dX12_tell_100 ?_
    refine r_iald C hW hm k1000008 dX12_tell_103 (fun hm => ?_)
    refine lv_bipush (v := 6) hx hb dX12_tell_104 (by decide) ?_
    obtain ⟨dt1000010, hc1000009, hm⟩ := q_b1i hm
    refine q_callV C hW hS (As := [.int (dt.1 (al.2.2 x0 27) (Int32.toNatClampNeg (dt.1 x0 19))), .int 6]) (rest := []) (st1 := []) (c_X12_room l D al dt x0 (dt.1 (al.2.2 x0 27) (Int32.toNatClampNeg (dt.1 x0 19))) 6 kx0 dt1000010 hc1000009) yl_X12_room vl_X12_room ml_RX12_257 (ci := 12) rfl kx0 (by decide) rfl ⟨Nat.le_of_ble_eq_true rfl, Nat.le_of_ble_eq_true rfl⟩ hl rfl (Nat.le_of_ble_eq_true rfl) dX12_tell_106 ⟨Nat.le_refl _, Nat.le_refl _⟩ rfl (fun H locs k1000011 hW hS => ?_)
    refine lv_aload_n hx hb dX12_tell_109 rfl (lv_at hl 1 rfl) ?_
    refine r_getI C hW (ci := 12) kx0 ff_12_13 cl_12 fl_RX12_212 dX12_tell_110 ?_
    refine q_ifc hm (fun c1000012 hm => ?_) (fun c1000012 hm => ?_)
    · refine lv_if_ne (tgt := 293) hx hb dX12_tell_113 (by decide) (fun h => absurd c1000012 h) (fun _ => ?_)
      refine lv_aload_n hx hb dX12_tell_116 rfl (lv_at hl 1 rfl) ?_
      obtain ⟨dt1000014, hc1000013, hm⟩ := q_b1i hm
      refine q_callV C hW hS (As := []) (rest := []) (st1 := []) (c_X12_tellHop l D al dt1000010 x0 kx0 dt1000014 hc1000013) yl_X12_tellHop vl_X12_tellHop ml_RX12_264 (ci := 12) rfl kx0 (by decide) rfl ⟨Nat.le_of_ble_eq_true rfl, Nat.le_of_ble_eq_true rfl⟩ hl rfl (Nat.le_of_ble_eq_true rfl) dX12_tell_117 ⟨Nat.le_refl _, Nat.le_refl _⟩ rfl (fun H locs k1000015 hW hS => ?_)
      refine lv_goto (tgt := 293) hx hb dX12_tell_120 (by decide) ?_
      exact e_vD C hW hS hm dX12_tell_293
    refine lv_if_ne (tgt := 293) hx hb dX12_tell_113 (by decide) (fun _ => ?_) (fun h => absurd h c1000012)
    exact e_vD C hW hS hm dX12_tell_293
  refine q_ifc hm (fun c1000016 hm => ?_) (fun c1000016 hm => ?_)
  · refine lv_tableIn (tgt := 123) hx hb dX12_tell_11 (by rw [c1000016]; decide) (by rw [c1000016]; decide) (by rw [c1000016]; rfl) (by decide) ?_
    refine lv_aload_n hx hb dX12_tell_123 rfl (lv_at hl 1 rfl) ?_
    refine lv_aload_n hx hb dX12_tell_124 rfl (lv_at hl 1 rfl) ?_
    refine r_getF C hW (ci := 12) kx0 ff_12_31 cl_12 fl_RX12_70 dX12_tell_125 (fun k1000017 => ?_)
    refine lv_aload_n hx hb dX12_tell_128 rfl (lv_at hl 1 rfl) ?_
    refine r_getI C hW (ci := 12) kx0 ff_12_19 cl_12 fl_RX12_245 dX12_tell_129 ?_
    refine r_iald C hW hm k1000017 dX12_tell_132 (fun hm => ?_)
    refine lv_bipush (v := 6) hx hb dX12_tell_133 (by decide) ?_
    obtain ⟨dt1000019, hc1000018, hm⟩ := q_b1i hm
    refine q_callV C hW hS (As := [.int (dt.1 (al.2.2 x0 31) (Int32.toNatClampNeg (dt.1 x0 19))), .int 6]) (rest := []) (st1 := []) (c_X12_room l D al dt x0 (dt.1 (al.2.2 x0 31) (Int32.toNatClampNeg (dt.1 x0 19))) 6 kx0 dt1000019 hc1000018) yl_X12_room vl_X12_room ml_RX12_257 (ci := 12) rfl kx0 (by decide) rfl ⟨Nat.le_of_ble_eq_true rfl, Nat.le_of_ble_eq_true rfl⟩ hl rfl (Nat.le_of_ble_eq_true rfl) dX12_tell_135 ⟨Nat.le_refl _, Nat.le_refl _⟩ rfl (fun H locs k1000020 hW hS => ?_)
    refine lv_aload_n hx hb dX12_tell_138 rfl (lv_at hl 1 rfl) ?_
    refine r_getI C hW (ci := 12) kx0 ff_12_13 cl_12 fl_RX12_212 dX12_tell_139 ?_
    refine q_ifc hm (fun c1000021 hm => ?_) (fun c1000021 hm => ?_)
    · refine lv_if_ne (tgt := 293) hx hb dX12_tell_142 (by decide) (fun h => absurd c1000021 h) (fun _ => ?_)
      refine lv_aload_n hx hb dX12_tell_145 rfl (lv_at hl 1 rfl) ?_
      obtain ⟨dt1000023, hc1000022, hm⟩ := q_b1i hm
      refine q_callV C hW hS (As := []) (rest := []) (st1 := []) (c_X12_tellSend l D al dt1000019 x0 kx0 dt1000023 hc1000022) yl_X12_tellSend vl_X12_tellSend ml_RX12_267 (ci := 12) rfl kx0 (by decide) rfl ⟨Nat.le_of_ble_eq_true rfl, Nat.le_of_ble_eq_true rfl⟩ hl rfl (Nat.le_of_ble_eq_true rfl) dX12_tell_146 ⟨Nat.le_refl _, Nat.le_refl _⟩ rfl (fun H locs k1000024 hW hS => ?_)
      refine lv_goto (tgt := 293) hx hb dX12_tell_149 (by decide) ?_
      exact e_vD C hW hS hm dX12_tell_293
    refine lv_if_ne (tgt := 293) hx hb dX12_tell_142 (by decide) (fun _ => ?_) (fun h => absurd h c1000021)
    exact e_vD C hW hS hm dX12_tell_293
  refine q_ifc hm (fun c1000025 hm => ?_) (fun c1000025 hm => ?_)
  · refine lv_tableIn (tgt := 152) hx hb dX12_tell_11 (by rw [c1000025]; decide) (by rw [c1000025]; decide) (by rw [c1000025]; rfl) (by decide) ?_
    refine lv_aload_n hx hb dX12_tell_152 rfl (lv_at hl 1 rfl) ?_
    refine lv_aload_n hx hb dX12_tell_153 rfl (lv_at hl 1 rfl) ?_
    refine r_getF C hW (ci := 12) kx0 ff_12_38 cl_12 fl_RX12_91 dX12_tell_154 (fun k1000026 => ?_)
    refine lv_aload_n hx hb dX12_tell_157 rfl (lv_at hl 1 rfl) ?_
    refine r_getI C hW (ci := 12) kx0 ff_12_19 cl_12 fl_RX12_245 dX12_tell_158 ?_
    refine r_iald C hW hm k1000026 dX12_tell_161 (fun hm => ?_)
    refine lv_bipush (v := 6) hx hb dX12_tell_162 (by decide) ?_
    obtain ⟨dt1000028, hc1000027, hm⟩ := q_b1i hm
    refine q_callV C hW hS (As := [.int (dt.1 (al.2.2 x0 38) (Int32.toNatClampNeg (dt.1 x0 19))), .int 6]) (rest := []) (st1 := []) (c_X12_room l D al dt x0 (dt.1 (al.2.2 x0 38) (Int32.toNatClampNeg (dt.1 x0 19))) 6 kx0 dt1000028 hc1000027) yl_X12_room vl_X12_room ml_RX12_257 (ci := 12) rfl kx0 (by decide) rfl ⟨Nat.le_of_ble_eq_true rfl, Nat.le_of_ble_eq_true rfl⟩ hl rfl (Nat.le_of_ble_eq_true rfl) dX12_tell_164 ⟨Nat.le_refl _, Nat.le_refl _⟩ rfl (fun H locs k1000029 hW hS => ?_)
    refine lv_aload_n hx hb dX12_tell_167 rfl (lv_at hl 1 rfl) ?_
    refine r_getI C hW (ci := 12) kx0 ff_12_13 cl_12 fl_RX12_212 dX12_tell_168 ?_
    refine q_ifc hm (fun c1000030 hm => ?_) (fun c1000030 hm => ?_)
    · refine lv_if_ne (tgt := 293) hx hb dX12_tell_171 (by decide) (fun h => absurd c1000030 h) (fun _ => ?_)
      refine lv_aload_n hx hb dX12_tell_174 rfl (lv_at hl 1 rfl) ?_
      obtain ⟨dt1000032, hc1000031, hm⟩ := q_b1i hm
      refine q_callV C hW hS (As := []) (rest := []) (st1 := []) (c_X12_tellEcho l D al dt1000028 x0 kx0 dt1000032 hc1000031) yl_X12_tellEcho vl_X12_tellEcho ml_RX12_270 (ci := 12) rfl kx0 (by decide) rfl ⟨Nat.le_of_ble_eq_true rfl, Nat.le_of_ble_eq_true rfl⟩ hl rfl (Nat.le_of_ble_eq_true rfl) dX12_tell_175 ⟨Nat.le_refl _, Nat.le_refl _⟩ rfl (fun H locs k1000033 hW hS => ?_)
      refine lv_goto (tgt := 293) hx hb dX12_tell_178 (by decide) ?_
      exact e_vD C hW hS hm dX12_tell_293
    refine lv_if_ne (tgt := 293) hx hb dX12_tell_171 (by decide) (fun _ => ?_) (fun h => absurd h c1000030)
    exact e_vD C hW hS hm dX12_tell_293
  refine q_ifc hm (fun c1000034 hm => ?_) (fun c1000034 hm => ?_)
  · refine lv_tableIn (tgt := 181) hx hb dX12_tell_11 (by rw [c1000034]; decide) (by rw [c1000034]; decide) (by rw [c1000034]; rfl) (by decide) ?_
    refine lv_aload_n hx hb dX12_tell_181 rfl (lv_at hl 1 rfl) ?_
    refine lv_aload_n hx hb dX12_tell_182 rfl (lv_at hl 1 rfl) ?_
    refine r_getF C hW (ci := 12) kx0 ff_12_42 cl_12 fl_RX12_103 dX12_tell_183 (fun k1000035 => ?_)
    refine lv_aload_n hx hb dX12_tell_186 rfl (lv_at hl 1 rfl) ?_
    refine r_getI C hW (ci := 12) kx0 ff_12_19 cl_12 fl_RX12_245 dX12_tell_187 ?_
    refine r_iald C hW hm k1000035 dX12_tell_190 (fun hm => ?_)
    refine lv_iconst (v := 4) hx hb dX12_tell_191 (by decide) ?_
    obtain ⟨dt1000037, hc1000036, hm⟩ := q_b1i hm
    refine q_callV C hW hS (As := [.int (dt.1 (al.2.2 x0 42) (Int32.toNatClampNeg (dt.1 x0 19))), .int 4]) (rest := []) (st1 := []) (c_X12_room l D al dt x0 (dt.1 (al.2.2 x0 42) (Int32.toNatClampNeg (dt.1 x0 19))) 4 kx0 dt1000037 hc1000036) yl_X12_room vl_X12_room ml_RX12_257 (ci := 12) rfl kx0 (by decide) rfl ⟨Nat.le_of_ble_eq_true rfl, Nat.le_of_ble_eq_true rfl⟩ hl rfl (Nat.le_of_ble_eq_true rfl) dX12_tell_192 ⟨Nat.le_refl _, Nat.le_refl _⟩ rfl (fun H locs k1000038 hW hS => ?_)
    refine lv_aload_n hx hb dX12_tell_195 rfl (lv_at hl 1 rfl) ?_
    refine r_getI C hW (ci := 12) kx0 ff_12_13 cl_12 fl_RX12_212 dX12_tell_196 ?_
    refine q_ifc hm (fun c1000039 hm => ?_) (fun c1000039 hm => ?_)
    · refine lv_if_ne (tgt := 293) hx hb dX12_tell_199 (by decide) (fun h => absurd c1000039 h) (fun _ => ?_)
      refine lv_aload_n hx hb dX12_tell_202 rfl (lv_at hl 1 rfl) ?_
      obtain ⟨dt1000041, hc1000040, hm⟩ := q_b1i hm
      refine q_callV C hW hS (As := []) (rest := []) (st1 := []) (c_X12_tellJam l D al dt1000037 x0 kx0 dt1000041 hc1000040) yl_X12_tellJam vl_X12_tellJam ml_RX12_273 (ci := 12) rfl kx0 (by decide) rfl ⟨Nat.le_of_ble_eq_true rfl, Nat.le_of_ble_eq_true rfl⟩ hl rfl (Nat.le_of_ble_eq_true rfl) dX12_tell_203 ⟨Nat.le_refl _, Nat.le_refl _⟩ rfl (fun H locs k1000042 hW hS => ?_)
      refine lv_goto (tgt := 293) hx hb dX12_tell_206 (by decide) ?_
      exact e_vD C hW hS hm dX12_tell_293
    refine lv_if_ne (tgt := 293) hx hb dX12_tell_199 (by decide) (fun _ => ?_) (fun h => absurd h c1000039)
    exact e_vD C hW hS hm dX12_tell_293
  refine q_ifc hm (fun c1000043 hm => ?_) (fun c1000043 hm => ?_)
  · refine lv_tableIn (tgt := 209) hx hb dX12_tell_11 (by rw [c1000043]; decide) (by rw [c1000043]; decide) (by rw [c1000043]; rfl) (by decide) ?_
    refine lv_aload_n hx hb dX12_tell_209 rfl (lv_at hl 1 rfl) ?_
    obtain ⟨dt1000045, hc1000044, hm⟩ := q_b1i hm
    refine q_callV C hW hS (As := []) (rest := []) (st1 := []) (c_X12_goesOn l D al dt x0 kx0 dt1000045 hc1000044) yl_X12_goesOn vl_X12_goesOn ml_RX12_233 (ci := 12) rfl kx0 (by decide) rfl ⟨Nat.le_of_ble_eq_true rfl, Nat.le_of_ble_eq_true rfl⟩ hl rfl (Nat.le_of_ble_eq_true rfl) dX12_tell_210 ⟨Nat.le_refl _, Nat.le_refl _⟩ rfl (fun H locs k1000046 hW hS => ?_)
    refine lv_aload_n hx hb dX12_tell_213 rfl (lv_at hl 1 rfl) ?_
    refine lv_iconst (v := 0) hx hb dX12_tell_214 (by decide) ?_
    refine lv_bipush (v := 50) hx hb dX12_tell_215 (by decide) ?_
    obtain ⟨v1000048, dt1000049, hc1000047, hm⟩ := q_b2i hm
    refine q_callV C hW hS (As := [.int 0, .int 50]) (rest := []) (st1 := [.int v1000048]) (c_X12_bounded l D al dt1000045 x0 0 50 kx0 v1000048 dt1000049 hc1000047) yl_X12_bounded vl_X12_bounded ml_RX12_276 (ci := 12) rfl kx0 (by decide) rfl ⟨Nat.le_of_ble_eq_true rfl, Nat.le_of_ble_eq_true rfl⟩ hl rfl (Nat.le_of_ble_eq_true rfl) dX12_tell_217 ⟨Nat.le_refl _, Nat.le_refl _⟩ rfl (fun H locs k1000050 hW hS => ?_)
    refine lv_istore_n (i := 2) (lv' := [(2, .int v1000048), (1, .int v1000002), (0, .ref x0)]) hx hb dX12_tell_220 rfl hl (by decide) rfl (fun ls hl => ?_)
    refine lv_aload_n hx hb dX12_tell_221 rfl (lv_at hl 2 rfl) ?_
    refine lv_iconst (v := 0) hx hb dX12_tell_222 (by decide) ?_
    refine lv_sipush (v := 9999) hx hb dX12_tell_223 (by decide) ?_
    obtain ⟨v1000052, dt1000053, hc1000051, hm⟩ := q_b2i hm
    refine q_callV C hW hS (As := [.int 0, .int 9999]) (rest := []) (st1 := [.int v1000052]) (c_X12_bounded l D al dt1000049 x0 0 9999 kx0 v1000052 dt1000053 hc1000051) yl_X12_bounded vl_X12_bounded ml_RX12_276 (ci := 12) rfl kx0 (by decide) rfl ⟨Nat.le_of_ble_eq_true rfl, Nat.le_of_ble_eq_true rfl⟩ hl rfl (Nat.le_of_ble_eq_true rfl) dX12_tell_226 ⟨Nat.le_refl _, Nat.le_refl _⟩ rfl (fun H locs k1000054 hW hS => ?_)
    refine lv_istore_n (i := 3) (lv' := [(3, .int v1000052), (2, .int v1000048), (1, .int v1000002), (0, .ref x0)]) hx hb dX12_tell_229 rfl hl (by decide) rfl (fun ls hl => ?_)
    refine lv_aload_n hx hb dX12_tell_230 rfl (lv_at hl 3 rfl) ?_
    refine lv_iconst (v := 4) hx hb dX12_tell_231 (by decide) ?_
    obtain ⟨dt1000056, hc1000055, hm⟩ := q_b1i hm
    refine q_callV C hW hS (As := [.int 4]) (rest := []) (st1 := []) (c_X12_must l D al dt1000053 x0 4 kx0 dt1000056 hc1000055) yl_X12_must vl_X12_must ml_RX12_280 (ci := 12) rfl kx0 (by decide) rfl ⟨Nat.le_of_ble_eq_true rfl, Nat.le_of_ble_eq_true rfl⟩ hl rfl (Nat.le_of_ble_eq_true rfl) dX12_tell_232 ⟨Nat.le_refl _, Nat.le_refl _⟩ rfl (fun H locs k1000057 hW hS => ?_)
    refine lv_aload_n hx hb dX12_tell_235 rfl (lv_at hl 3 rfl) ?_
    refine r_getF C hW (ci := 12) kx0 ff_12_47 cl_12 fl_RX12_118 dX12_tell_236 (fun k1000058 => ?_)
    refine lv_aload_n hx hb dX12_tell_239 rfl (lv_at hl 3 rfl) ?_
    refine r_getI C hW (ci := 12) kx0 ff_12_19 cl_12 fl_RX12_245 dX12_tell_240 ?_
    refine lv_iload_n hx hb dX12_tell_243 rfl (lv_at hl 1 rfl) ?_
    refine r_iast C hW hS hm k1000058 dX12_tell_244 (fun dt1000059 H locs hm hW hS => ?_)
    refine lv_aload_n hx hb dX12_tell_245 rfl (lv_at hl 3 rfl) ?_
    refine r_getF C hW (ci := 12) kx0 ff_12_48 cl_12 fl_RX12_121 dX12_tell_246 (fun k1000060 => ?_)
    refine lv_aload_n hx hb dX12_tell_249 rfl (lv_at hl 3 rfl) ?_
    refine r_getI C hW (ci := 12) kx0 ff_12_19 cl_12 fl_RX12_245 dX12_tell_250 ?_
    refine lv_iload_n hx hb dX12_tell_253 rfl (lv_at hl 0 rfl) ?_
    refine r_iast C hW hS hm k1000060 dX12_tell_254 (fun dt1000061 H locs hm hW hS => ?_)
    refine lv_goto (tgt := 293) hx hb dX12_tell_255 (by decide) ?_
    exact e_vD C hW hS hm dX12_tell_293
  refine q_ifc hm (fun c1000062 hm => ?_) (fun c1000062 hm => ?_)
  · refine lv_tableIn (tgt := 258) hx hb dX12_tell_11 (by rw [c1000062]; decide) (by rw [c1000062]; decide) (by rw [c1000062]; rfl) (by decide) ?_
    refine lv_aload_n hx hb dX12_tell_258 rfl (lv_at hl 1 rfl) ?_
    obtain ⟨dt1000064, hc1000063, hm⟩ := q_b1i hm
    refine q_callV C hW hS (As := []) (rest := []) (st1 := []) (c_X12_goesOn l D al dt x0 kx0 dt1000064 hc1000063) yl_X12_goesOn vl_X12_goesOn ml_RX12_233 (ci := 12) rfl kx0 (by decide) rfl ⟨Nat.le_of_ble_eq_true rfl, Nat.le_of_ble_eq_true rfl⟩ hl rfl (Nat.le_of_ble_eq_true rfl) dX12_tell_259 ⟨Nat.le_refl _, Nat.le_refl _⟩ rfl (fun H locs k1000065 hW hS => ?_)
    refine lv_aload_n hx hb dX12_tell_262 rfl (lv_at hl 1 rfl) ?_
    refine r_getF C hW (ci := 12) kx0 ff_12_49 cl_12 fl_RX12_124 dX12_tell_263 (fun k1000066 => ?_)
    refine lv_aload_n hx hb dX12_tell_266 rfl (lv_at hl 1 rfl) ?_
    refine r_getI C hW (ci := 12) kx0 ff_12_19 cl_12 fl_RX12_245 dX12_tell_267 ?_
    refine lv_aload_n hx hb dX12_tell_270 rfl (lv_at hl 1 rfl) ?_
    refine lv_bipush (v := 16) hx hb dX12_tell_271 (by decide) ?_
    refine lv_sipush (v := 512) hx hb dX12_tell_273 (by decide) ?_
    obtain ⟨v1000068, dt1000069, hc1000067, hm⟩ := q_b2i hm
    refine q_callV C hW hS (As := [.int 16, .int 512]) (rest := [.int (dt1000064.1 x0 19), .ref (al.2.2 x0 49)]) (st1 := [.int v1000068, .int (dt1000064.1 x0 19), .ref (al.2.2 x0 49)]) (c_X12_bounded l D al dt1000064 x0 16 512 kx0 v1000068 dt1000069 hc1000067) yl_X12_bounded vl_X12_bounded ml_RX12_276 (ci := 12) rfl kx0 (by decide) rfl ⟨Nat.le_of_ble_eq_true rfl, Nat.le_of_ble_eq_true rfl⟩ hl rfl (Nat.le_of_ble_eq_true rfl) dX12_tell_276 ⟨Nat.le_refl _, Nat.le_refl _⟩ rfl (fun H locs k1000070 hW hS => ?_)
    refine r_iast C hW hS hm k1000066 dX12_tell_279 (fun dt1000071 H locs hm hW hS => ?_)
    refine lv_aload_n hx hb dX12_tell_280 rfl (lv_at hl 1 rfl) ?_
    refine lv_iconst (v := 4) hx hb dX12_tell_281 (by decide) ?_
    obtain ⟨dt1000073, hc1000072, hm⟩ := q_b1i hm
    refine q_callV C hW hS (As := [.int 4]) (rest := []) (st1 := []) (c_X12_must l D al dt1000071 x0 4 kx0 dt1000073 hc1000072) yl_X12_must vl_X12_must ml_RX12_280 (ci := 12) rfl kx0 (by decide) rfl ⟨Nat.le_of_ble_eq_true rfl, Nat.le_of_ble_eq_true rfl⟩ hl rfl (Nat.le_of_ble_eq_true rfl) dX12_tell_282 ⟨Nat.le_refl _, Nat.le_refl _⟩ rfl (fun H locs k1000074 hW hS => ?_)
    refine lv_goto (tgt := 293) hx hb dX12_tell_285 (by decide) ?_
    exact e_vD C hW hS hm dX12_tell_293
  have c1000003_z := lv_neT c1000003 (a := 20) rfl
  have c1000004_z := lv_neT c1000004 (a := 21) rfl
  have c1000005_z := lv_neT c1000005 (a := 22) rfl
  have c1000006_z := lv_neT c1000006 (a := 23) rfl
  have c1000007_z := lv_neT c1000007 (a := 24) rfl
  have c1000016_z := lv_neT c1000016 (a := 25) rfl
  have c1000025_z := lv_neT c1000025 (a := 26) rfl
  have c1000034_z := lv_neT c1000034 (a := 27) rfl
  have c1000043_z := lv_neT c1000043 (a := 28) rfl
  have c1000062_z := lv_neT c1000062 (a := 29) rfl
  refine lv_tableOut (tgt := 288) hx hb dX12_tell_11 (by omega) (by decide) ?_
  refine lv_aload_n hx hb dX12_tell_288 rfl (lv_at hl 1 rfl) ?_
  refine lv_iconst (v := 1) hx hb dX12_tell_289 (by decide) ?_
  obtain ⟨dt1000076, hc1000075, hm⟩ := q_b1i hm
  refine q_callV C hW hS (As := [.int 1]) (rest := []) (st1 := []) (c_X12_fail l D al dt x0 1 kx0 dt1000076 hc1000075) yl_X12_fail vl_X12_fail ml_RX12_227 (ci := 12) rfl kx0 (by decide) rfl ⟨Nat.le_of_ble_eq_true rfl, Nat.le_of_ble_eq_true rfl⟩ hl rfl (Nat.le_of_ble_eq_true rfl) dX12_tell_290 ⟨Nat.le_refl _, Nat.le_refl _⟩ rfl (fun H locs k1000077 hW hS => ?_)
  exact e_vD C hW hS hm dX12_tell_293
theorem dX12_dataBit_0 : decode cX12_dataBit 0 = .ok (.aload_n 0, 1) := by decide +kernel
theorem dX12_dataBit_1 : decode cX12_dataBit 1 = .ok (.getfield 85, 3) := by decide +kernel
theorem dX12_dataBit_4 : decode cX12_dataBit 4 = .ok (.bipush 6, 2) := by decide +kernel
theorem dX12_dataBit_6 : decode cX12_dataBit 6 = .ok (.aload_n 0, 1) := by decide +kernel
theorem dX12_dataBit_7 : decode cX12_dataBit 7 = .ok (.getfield 242, 3) := by decide +kernel
theorem dX12_dataBit_10 : decode cX12_dataBit 10 = .ok (.imul, 1) := by decide +kernel
theorem dX12_dataBit_11 : decode cX12_dataBit 11 = .ok (.iload_n 1, 1) := by decide +kernel
theorem dX12_dataBit_12 : decode cX12_dataBit 12 = .ok (.iadd, 1) := by decide +kernel
theorem dX12_dataBit_13 : decode cX12_dataBit 13 = .ok (.iaload, 1) := by decide +kernel
theorem dX12_dataBit_14 : decode cX12_dataBit 14 = .ok (.iload_n 2, 1) := by decide +kernel
theorem dX12_dataBit_15 : decode cX12_dataBit 15 = .ok (.bipush 14, 2) := by decide +kernel
theorem dX12_dataBit_17 : decode cX12_dataBit 17 = .ok (.irem, 1) := by decide +kernel
theorem dX12_dataBit_18 : decode cX12_dataBit 18 = .ok (.ishr, 1) := by decide +kernel
theorem dX12_dataBit_19 : decode cX12_dataBit 19 = .ok (.iconst 1, 1) := by decide +kernel
theorem dX12_dataBit_20 : decode cX12_dataBit 20 = .ok (.iand, 1) := by decide +kernel
theorem dX12_dataBit_21 : decode cX12_dataBit 21 = .ok (.ireturn, 1) := by decide +kernel
set_option maxRecDepth 100000 in
theorem c_X12_dataBit (l : Launch) (D : q_D) (al : q_Al) (dt : q_Dt) (x0 : Nat) (x1 : Int32) (x2 : Int32) (kx0 : al.1 x0 = 13) (r0 : Int32) (hm : X12_dataBit al dt x0 x1 x2 = some r0) : q_Mt l yX12_dataBit cX12_dataBit 3 (some FieldType.int) 0 0 D al [.ref x0, .int x1, .int x2] dt 0 (some (.int r0)) dt := by
  refine q_Mt.of (by decide) (Nat.le_of_ble_eq_true rfl) ?_
  intro p e s m args below meth c ls C hargs hW hl
  have hx := C.1
  have hb := C.2.1
  have hown := C.2.2.2.2.2.1
  have hts := C.2.2.2.2.2.2.1
  have hS : va_S (q_A al) s.heap s.heap [] := va_S.rf
  have hl : lv_has ls 3 [(0, .ref x0), (1, .int x1), (2, .int x2)] := hl
  unfold X12_dataBit at hm
  refine lv_aload_n hx hb dX12_dataBit_0 rfl (lv_at hl 0 rfl) ?_
  refine r_getF C hW (ci := 12) kx0 ff_12_36 cl_12 fl_RX12_85 dX12_dataBit_1 (fun k1000001 => ?_)
  refine lv_bipush (v := 6) hx hb dX12_dataBit_4 (by decide) ?_
  refine lv_aload_n hx hb dX12_dataBit_6 rfl (lv_at hl 0 rfl) ?_
  refine r_getI C hW (ci := 12) kx0 ff_12_18 cl_12 fl_RX12_242 dX12_dataBit_7 ?_
  refine lv_imul hx hb dX12_dataBit_10 ?_
  refine lv_iload_n hx hb dX12_dataBit_11 rfl (lv_at hl 1 rfl) ?_
  refine lv_iadd hx hb dX12_dataBit_12 ?_
  refine r_iald C hW hm k1000001 dX12_dataBit_13 (fun hm => ?_)
  refine lv_iload_n hx hb dX12_dataBit_14 rfl (lv_at hl 2 rfl) ?_
  refine lv_bipush (v := 14) hx hb dX12_dataBit_15 (by decide) ?_
  refine lv_irem hx hb dX12_dataBit_17 (by decide) ?_
  refine lv_ishr hx hb dX12_dataBit_18 ?_
  refine lv_iconst (v := 1) hx hb dX12_dataBit_19 (by decide) ?_
  refine lv_iand hx hb dX12_dataBit_20 ?_
  exact e_i C hW hS hm dX12_dataBit_21
theorem dX12_laysData_0 : decode cX12_laysData 0 = .ok (.iconst 0, 1) := by decide +kernel
theorem dX12_laysData_1 : decode cX12_laysData 1 = .ok (.istore_n 2, 1) := by decide +kernel
theorem dX12_laysData_2 : decode cX12_laysData 2 = .ok (.iload_n 2, 1) := by decide +kernel
theorem dX12_laysData_3 : decode cX12_laysData 3 = .ok (.sipush 512, 3) := by decide +kernel
theorem dX12_laysData_6 : decode cX12_laysData 6 = .ok (.if_icmp .ge 28, 3) := by decide +kernel
theorem dX12_laysData_9 : decode cX12_laysData 9 = .ok (.aload_n 0, 1) := by decide +kernel
theorem dX12_laysData_10 : decode cX12_laysData 10 = .ok (.getfield 127, 3) := by decide +kernel
theorem dX12_laysData_13 : decode cX12_laysData 13 = .ok (.sipush 512, 3) := by decide +kernel
theorem dX12_laysData_16 : decode cX12_laysData 16 = .ok (.iload_n 1, 1) := by decide +kernel
theorem dX12_laysData_17 : decode cX12_laysData 17 = .ok (.imul, 1) := by decide +kernel
theorem dX12_laysData_18 : decode cX12_laysData 18 = .ok (.iload_n 2, 1) := by decide +kernel
theorem dX12_laysData_19 : decode cX12_laysData 19 = .ok (.iadd, 1) := by decide +kernel
theorem dX12_laysData_20 : decode cX12_laysData 20 = .ok (.aload_n 0, 1) := by decide +kernel
theorem dX12_laysData_21 : decode cX12_laysData 21 = .ok (.iload_n 1, 1) := by decide +kernel
theorem dX12_laysData_22 : decode cX12_laysData 22 = .ok (.iload_n 2, 1) := by decide +kernel
theorem dX12_laysData_23 : decode cX12_laysData 23 = .ok (.invokevirtual 339, 3) := by decide +kernel
theorem dX12_laysData_26 : decode cX12_laysData 26 = .ok (.i2b, 1) := by decide +kernel
theorem dX12_laysData_27 : decode cX12_laysData 27 = .ok (.bastore, 1) := by decide +kernel
theorem dX12_laysData_28 : decode cX12_laysData 28 = .ok (.iinc 2 1, 3) := by decide +kernel
theorem dX12_laysData_31 : decode cX12_laysData 31 = .ok (.goto (-29), 3) := by decide +kernel
theorem dX12_laysData_34 : decode cX12_laysData 34 = .ok (.return_, 1) := by decide +kernel
set_option maxRecDepth 100000 in
theorem c_X12_laysData (l : Launch) (D : q_D) (al : q_Al) (dt : q_Dt) (x0 : Nat) (x1 : Int32) (kx0 : al.1 x0 = 13) (dt0 : q_Dt) (hm : X12_laysData al dt x0 x1 = some dt0) : q_Mt l yX12_laysData cX12_laysData 3 (none) 1 22 D al [.ref x0, .int x1] dt 0 none dt0 := by
  refine q_Mt.of (by decide) (Nat.le_of_ble_eq_true rfl) ?_
  intro p e s m args below meth c ls C hargs hW hl
  have hx := C.1
  have hb := C.2.1
  have hown := C.2.2.2.2.2.1
  have hts := C.2.2.2.2.2.2.1
  have hS : va_S (q_A al) s.heap s.heap [] := va_S.rf
  have hl : lv_has ls 3 [(0, .ref x0), (1, .int x1)] := hl
  unfold X12_laysData at hm
  have hB2 : ∀ (x0_2 : Nat) (x1_2 : Int32) (kx0_2 : al.1 x0_2 = 13) (n_2 : Nat) (x2_2 : Int32) (dt : q_Dt) (H : Heap) (locs : List Loc) (ls : Array Slot) (hm : X12_laysData_b2 al x0_2 x1_2 n_2 x2_2 dt = some dt0) (hW : q_W D al dt H) (hS : va_S (q_A al) s.heap H locs) (hl : lv_has ls 3 [(0, .ref x0_2), (1, .int x1_2), (2, .int x2_2)]), W p l e { frames := 1, cells := 0, slots := 0, locals := 22 } s m args below meth c H locs 0 0 (MQ below (q_Q none (fun H => q_W D al dt0 H ∧ q_Rk al 0 none) (q_A al)) args s 0 0 (q_A al)) (F0 m 2 ls []) := by
    intro x0_2 x1_2 kx0_2
    intro n_2
    induction n_2 with
    | zero => intro x2_2 dt H locs ls hm hW hS hl; cases hm
    | succ n_2 ih2 =>
      intro x2_2 dt H locs ls hm hW hS hl
      rw [X12_laysData_b2] at hm
      refine lv_iload_n hx hb dX12_laysData_2 rfl (lv_at hl 2 rfl) ?_
      refine lv_sipush (v := 512) hx hb dX12_laysData_3 (by decide) ?_
      refine q_ifc hm (fun c2001 hm => ?_) (fun c2001 hm => ?_)
      · refine lv_icmp_ge (tgt := 34) hx hb dX12_laysData_6 (by decide) (fun _ => ?_) (fun h => absurd c2001 h)
        exact e_vD C hW hS hm dX12_laysData_34
      refine lv_icmp_ge (tgt := 34) hx hb dX12_laysData_6 (by decide) (fun h => absurd h c2001) (fun _ => ?_)
      refine lv_aload_n hx hb dX12_laysData_9 rfl (lv_at hl 0 rfl) ?_
      refine r_getF C hW (ci := 12) kx0_2 ff_12_51 cl_12 fl_RX12_127 dX12_laysData_10 (fun k2002 => ?_)
      refine lv_sipush (v := 512) hx hb dX12_laysData_13 (by decide) ?_
      refine lv_iload_n hx hb dX12_laysData_16 rfl (lv_at hl 1 rfl) ?_
      refine lv_imul hx hb dX12_laysData_17 ?_
      refine lv_iload_n hx hb dX12_laysData_18 rfl (lv_at hl 2 rfl) ?_
      refine lv_iadd hx hb dX12_laysData_19 ?_
      refine lv_aload_n hx hb dX12_laysData_20 rfl (lv_at hl 0 rfl) ?_
      refine lv_iload_n hx hb dX12_laysData_21 rfl (lv_at hl 1 rfl) ?_
      refine lv_iload_n hx hb dX12_laysData_22 rfl (lv_at hl 2 rfl) ?_
      obtain ⟨v2004, hc2003, hm⟩ := q_b1i hm
      refine q_callV C hW hS (As := [.int x1_2, .int x2_2]) (rest := [.int ((512 * x1_2) + x2_2), .ref (al.2.2 x0_2 51)]) (st1 := [.int v2004, .int ((512 * x1_2) + x2_2), .ref (al.2.2 x0_2 51)]) (c_X12_dataBit l D al dt x0_2 x1_2 x2_2 kx0_2 v2004 hc2003) yl_X12_dataBit vl_X12_dataBit ml_RX12_339 (ci := 12) rfl kx0_2 (by decide) rfl ⟨Nat.le_of_ble_eq_true rfl, Nat.le_of_ble_eq_true rfl⟩ hl rfl (Nat.le_of_ble_eq_true rfl) dX12_laysData_23 ⟨Nat.le_refl _, Nat.le_refl _⟩ rfl (fun H locs k2005 hW hS => ?_)
      refine lv_i2b (v := (Int8.toInt32 (Int32.toInt8 v2004))) hx hb dX12_laysData_26 rfl ?_
      refine r_bast C hW hS hm k2002 dX12_laysData_27 (fun dt2006 H locs hm hW hS => ?_)
      refine lv_iinc (v := (x2_2 + 1)) (lv' := [(2, .int (x2_2 + 1)), (0, .ref x0_2), (1, .int x1_2)]) hx hb dX12_laysData_28 hl (k := 2) rfl rfl (by decide) rfl (fun ls hl => ?_)
      refine lv_goto (tgt := 2) hx hb dX12_laysData_31 (by decide) ?_
      exact ih2 (x2_2 + 1) dt2006 _ _ _ hm hW hS (lv_sub hl [1, 2, 0] rfl)
  refine lv_iconst (v := 0) hx hb dX12_laysData_0 (by decide) ?_
  refine lv_istore_n (i := 2) (lv' := [(2, .int 0), (0, .ref x0), (1, .int x1)]) hx hb dX12_laysData_1 rfl hl (by decide) rfl (fun ls hl => ?_)
  exact hB2 x0 x1 kx0 q_FU 0 dt _ _ _ hm hW hS (lv_sub hl [1, 2, 0] rfl)
theorem dX12_n_0 : decode cX12_n 0 = .ok (.aload_n 0, 1) := by decide +kernel
theorem dX12_n_1 : decode cX12_n 1 = .ok (.getfield 124, 3) := by decide +kernel
theorem dX12_n_4 : decode cX12_n 4 = .ok (.aload_n 0, 1) := by decide +kernel
theorem dX12_n_5 : decode cX12_n 5 = .ok (.getfield 242, 3) := by decide +kernel
theorem dX12_n_8 : decode cX12_n 8 = .ok (.iaload, 1) := by decide +kernel
theorem dX12_n_9 : decode cX12_n 9 = .ok (.ireturn, 1) := by decide +kernel
set_option maxRecDepth 100000 in
theorem c_X12_n (l : Launch) (D : q_D) (al : q_Al) (dt : q_Dt) (x0 : Nat) (kx0 : al.1 x0 = 13) (r0 : Int32) (hm : X12_n al dt x0 = some r0) : q_Mt l yX12_n cX12_n 1 (some FieldType.int) 0 0 D al [.ref x0] dt 0 (some (.int r0)) dt := by
  refine q_Mt.of (by decide) (Nat.le_of_ble_eq_true rfl) ?_
  intro p e s m args below meth c ls C hargs hW hl
  have hx := C.1
  have hb := C.2.1
  have hown := C.2.2.2.2.2.1
  have hts := C.2.2.2.2.2.2.1
  have hS : va_S (q_A al) s.heap s.heap [] := va_S.rf
  have hl : lv_has ls 1 [(0, .ref x0)] := hl
  unfold X12_n at hm
  refine lv_aload_n hx hb dX12_n_0 rfl (lv_at hl 0 rfl) ?_
  refine r_getF C hW (ci := 12) kx0 ff_12_49 cl_12 fl_RX12_124 dX12_n_1 (fun k1000001 => ?_)
  refine lv_aload_n hx hb dX12_n_4 rfl (lv_at hl 0 rfl) ?_
  refine r_getI C hW (ci := 12) kx0 ff_12_18 cl_12 fl_RX12_242 dX12_n_5 ?_
  refine r_iald C hW hm k1000001 dX12_n_8 (fun hm => ?_)
  exact e_i C hW hS hm dX12_n_9
theorem dX12_codeOf_0 : decode cX12_codeOf 0 = .ok (.aload_n 0, 1) := by decide +kernel
theorem dX12_codeOf_1 : decode cX12_codeOf 1 = .ok (.getfield 73, 3) := by decide +kernel
theorem dX12_codeOf_4 : decode cX12_codeOf 4 = .ok (.bipush 6, 2) := by decide +kernel
theorem dX12_codeOf_6 : decode cX12_codeOf 6 = .ok (.aload_n 0, 1) := by decide +kernel
theorem dX12_codeOf_7 : decode cX12_codeOf 7 = .ok (.getfield 242, 3) := by decide +kernel
theorem dX12_codeOf_10 : decode cX12_codeOf 10 = .ok (.imul, 1) := by decide +kernel
theorem dX12_codeOf_11 : decode cX12_codeOf 11 = .ok (.iload_n 1, 1) := by decide +kernel
theorem dX12_codeOf_12 : decode cX12_codeOf 12 = .ok (.iadd, 1) := by decide +kernel
theorem dX12_codeOf_13 : decode cX12_codeOf 13 = .ok (.iaload, 1) := by decide +kernel
theorem dX12_codeOf_14 : decode cX12_codeOf 14 = .ok (.ireturn, 1) := by decide +kernel
set_option maxRecDepth 100000 in
theorem c_X12_codeOf (l : Launch) (D : q_D) (al : q_Al) (dt : q_Dt) (x0 : Nat) (x1 : Int32) (kx0 : al.1 x0 = 13) (r0 : Int32) (hm : X12_codeOf al dt x0 x1 = some r0) : q_Mt l yX12_codeOf cX12_codeOf 2 (some FieldType.int) 0 0 D al [.ref x0, .int x1] dt 0 (some (.int r0)) dt := by
  refine q_Mt.of (by decide) (Nat.le_of_ble_eq_true rfl) ?_
  intro p e s m args below meth c ls C hargs hW hl
  have hx := C.1
  have hb := C.2.1
  have hown := C.2.2.2.2.2.1
  have hts := C.2.2.2.2.2.2.1
  have hS : va_S (q_A al) s.heap s.heap [] := va_S.rf
  have hl : lv_has ls 2 [(0, .ref x0), (1, .int x1)] := hl
  unfold X12_codeOf at hm
  refine lv_aload_n hx hb dX12_codeOf_0 rfl (lv_at hl 0 rfl) ?_
  refine r_getF C hW (ci := 12) kx0 ff_12_32 cl_12 fl_RX12_73 dX12_codeOf_1 (fun k1000001 => ?_)
  refine lv_bipush (v := 6) hx hb dX12_codeOf_4 (by decide) ?_
  refine lv_aload_n hx hb dX12_codeOf_6 rfl (lv_at hl 0 rfl) ?_
  refine r_getI C hW (ci := 12) kx0 ff_12_18 cl_12 fl_RX12_242 dX12_codeOf_7 ?_
  refine lv_imul hx hb dX12_codeOf_10 ?_
  refine lv_iload_n hx hb dX12_codeOf_11 rfl (lv_at hl 1 rfl) ?_
  refine lv_iadd hx hb dX12_codeOf_12 ?_
  refine r_iald C hW hm k1000001 dX12_codeOf_13 (fun hm => ?_)
  exact e_i C hW hS hm dX12_codeOf_14
theorem dX12_long0_0 : decode cX12_long0 0 = .ok (.aload_n 0, 1) := by decide +kernel
theorem dX12_long0_1 : decode cX12_long0 1 = .ok (.getfield 52, 3) := by decide +kernel
theorem dX12_long0_4 : decode cX12_long0 4 = .ok (.bipush 8, 2) := by decide +kernel
theorem dX12_long0_6 : decode cX12_long0 6 = .ok (.aload_n 0, 1) := by decide +kernel
theorem dX12_long0_7 : decode cX12_long0 7 = .ok (.getfield 242, 3) := by decide +kernel
theorem dX12_long0_10 : decode cX12_long0 10 = .ok (.imul, 1) := by decide +kernel
theorem dX12_long0_11 : decode cX12_long0 11 = .ok (.iload_n 1, 1) := by decide +kernel
theorem dX12_long0_12 : decode cX12_long0 12 = .ok (.iadd, 1) := by decide +kernel
theorem dX12_long0_13 : decode cX12_long0 13 = .ok (.iaload, 1) := by decide +kernel
theorem dX12_long0_14 : decode cX12_long0 14 = .ok (.ireturn, 1) := by decide +kernel
set_option maxRecDepth 100000 in
theorem c_X12_long0 (l : Launch) (D : q_D) (al : q_Al) (dt : q_Dt) (x0 : Nat) (x1 : Int32) (kx0 : al.1 x0 = 13) (r0 : Int32) (hm : X12_long0 al dt x0 x1 = some r0) : q_Mt l yX12_long0 cX12_long0 2 (some FieldType.int) 0 0 D al [.ref x0, .int x1] dt 0 (some (.int r0)) dt := by
  refine q_Mt.of (by decide) (Nat.le_of_ble_eq_true rfl) ?_
  intro p e s m args below meth c ls C hargs hW hl
  have hx := C.1
  have hb := C.2.1
  have hown := C.2.2.2.2.2.1
  have hts := C.2.2.2.2.2.2.1
  have hS : va_S (q_A al) s.heap s.heap [] := va_S.rf
  have hl : lv_has ls 2 [(0, .ref x0), (1, .int x1)] := hl
  unfold X12_long0 at hm
  refine lv_aload_n hx hb dX12_long0_0 rfl (lv_at hl 0 rfl) ?_
  refine r_getF C hW (ci := 12) kx0 ff_12_25 cl_12 fl_RX12_52 dX12_long0_1 (fun k1000001 => ?_)
  refine lv_bipush (v := 8) hx hb dX12_long0_4 (by decide) ?_
  refine lv_aload_n hx hb dX12_long0_6 rfl (lv_at hl 0 rfl) ?_
  refine r_getI C hW (ci := 12) kx0 ff_12_18 cl_12 fl_RX12_242 dX12_long0_7 ?_
  refine lv_imul hx hb dX12_long0_10 ?_
  refine lv_iload_n hx hb dX12_long0_11 rfl (lv_at hl 1 rfl) ?_
  refine lv_iadd hx hb dX12_long0_12 ?_
  refine r_iald C hW hm k1000001 dX12_long0_13 (fun hm => ?_)
  exact e_i C hW hS hm dX12_long0_14
theorem dX12_delayAt_0 : decode cX12_delayAt 0 = .ok (.aload_n 0, 1) := by decide +kernel
theorem dX12_delayAt_1 : decode cX12_delayAt 1 = .ok (.getfield 79, 3) := by decide +kernel
theorem dX12_delayAt_4 : decode cX12_delayAt 4 = .ok (.bipush 6, 2) := by decide +kernel
theorem dX12_delayAt_6 : decode cX12_delayAt 6 = .ok (.aload_n 0, 1) := by decide +kernel
theorem dX12_delayAt_7 : decode cX12_delayAt 7 = .ok (.getfield 242, 3) := by decide +kernel
theorem dX12_delayAt_10 : decode cX12_delayAt 10 = .ok (.imul, 1) := by decide +kernel
theorem dX12_delayAt_11 : decode cX12_delayAt 11 = .ok (.iload_n 1, 1) := by decide +kernel
theorem dX12_delayAt_12 : decode cX12_delayAt 12 = .ok (.iadd, 1) := by decide +kernel
theorem dX12_delayAt_13 : decode cX12_delayAt 13 = .ok (.iaload, 1) := by decide +kernel
theorem dX12_delayAt_14 : decode cX12_delayAt 14 = .ok (.istore_n 3, 1) := by decide +kernel
theorem dX12_delayAt_15 : decode cX12_delayAt 15 = .ok (.aload_n 0, 1) := by decide +kernel
theorem dX12_delayAt_16 : decode cX12_delayAt 16 = .ok (.getfield 88, 3) := by decide +kernel
theorem dX12_delayAt_19 : decode cX12_delayAt 19 = .ok (.bipush 6, 2) := by decide +kernel
theorem dX12_delayAt_21 : decode cX12_delayAt 21 = .ok (.aload_n 0, 1) := by decide +kernel
theorem dX12_delayAt_22 : decode cX12_delayAt 22 = .ok (.getfield 242, 3) := by decide +kernel
theorem dX12_delayAt_25 : decode cX12_delayAt 25 = .ok (.imul, 1) := by decide +kernel
theorem dX12_delayAt_26 : decode cX12_delayAt 26 = .ok (.iload_n 1, 1) := by decide +kernel
theorem dX12_delayAt_27 : decode cX12_delayAt 27 = .ok (.iadd, 1) := by decide +kernel
theorem dX12_delayAt_28 : decode cX12_delayAt 28 = .ok (.iaload, 1) := by decide +kernel
theorem dX12_delayAt_29 : decode cX12_delayAt 29 = .ok (.istore 4, 2) := by decide +kernel
theorem dX12_delayAt_31 : decode cX12_delayAt 31 = .ok (.iload 4, 2) := by decide +kernel
theorem dX12_delayAt_33 : decode cX12_delayAt 33 = .ok (.ifCond .ne 7, 3) := by decide +kernel
theorem dX12_delayAt_36 : decode cX12_delayAt 36 = .ok (.iload_n 3, 1) := by decide +kernel
theorem dX12_delayAt_37 : decode cX12_delayAt 37 = .ok (.goto 19, 3) := by decide +kernel
theorem dX12_delayAt_40 : decode cX12_delayAt 40 = .ok (.iload_n 3, 1) := by decide +kernel
theorem dX12_delayAt_41 : decode cX12_delayAt 41 = .ok (.iload_n 2, 1) := by decide +kernel
theorem dX12_delayAt_42 : decode cX12_delayAt 42 = .ok (.iload 4, 2) := by decide +kernel
theorem dX12_delayAt_44 : decode cX12_delayAt 44 = .ok (.aload_n 0, 1) := by decide +kernel
theorem dX12_delayAt_45 : decode cX12_delayAt 45 = .ok (.aload_n 0, 1) := by decide +kernel
theorem dX12_delayAt_46 : decode cX12_delayAt 46 = .ok (.iload_n 1, 1) := by decide +kernel
theorem dX12_delayAt_47 : decode cX12_delayAt 47 = .ok (.invokevirtual 324, 3) := by decide +kernel
theorem dX12_delayAt_50 : decode cX12_delayAt 50 = .ok (.invokevirtual 327, 3) := by decide +kernel
theorem dX12_delayAt_53 : decode cX12_delayAt 53 = .ok (.imul, 1) := by decide +kernel
theorem dX12_delayAt_54 : decode cX12_delayAt 54 = .ok (.idiv, 1) := by decide +kernel
theorem dX12_delayAt_55 : decode cX12_delayAt 55 = .ok (.iadd, 1) := by decide +kernel
theorem dX12_delayAt_56 : decode cX12_delayAt 56 = .ok (.ireturn, 1) := by decide +kernel
set_option maxRecDepth 100000 in
theorem c_X12_delayAt (l : Launch) (D : q_D) (al : q_Al) (dt : q_Dt) (x0 : Nat) (x1 : Int32) (x2 : Int32) (kx0 : al.1 x0 = 13) (r0 : Int32) (hm : X12_delayAt al dt x0 x1 x2 = some r0) : q_Mt l yX12_delayAt cX12_delayAt 5 (some FieldType.int) 1 21 D al [.ref x0, .int x1, .int x2] dt 0 (some (.int r0)) dt := by
  refine q_Mt.of (by decide) (Nat.le_of_ble_eq_true rfl) ?_
  intro p e s m args below meth c ls C hargs hW hl
  have hx := C.1
  have hb := C.2.1
  have hown := C.2.2.2.2.2.1
  have hts := C.2.2.2.2.2.2.1
  have hS : va_S (q_A al) s.heap s.heap [] := va_S.rf
  have hl : lv_has ls 5 [(0, .ref x0), (1, .int x1), (2, .int x2)] := hl
  unfold X12_delayAt at hm
  refine lv_aload_n hx hb dX12_delayAt_0 rfl (lv_at hl 0 rfl) ?_
  refine r_getF C hW (ci := 12) kx0 ff_12_34 cl_12 fl_RX12_79 dX12_delayAt_1 (fun k1000001 => ?_)
  refine lv_bipush (v := 6) hx hb dX12_delayAt_4 (by decide) ?_
  refine lv_aload_n hx hb dX12_delayAt_6 rfl (lv_at hl 0 rfl) ?_
  refine r_getI C hW (ci := 12) kx0 ff_12_18 cl_12 fl_RX12_242 dX12_delayAt_7 ?_
  refine lv_imul hx hb dX12_delayAt_10 ?_
  refine lv_iload_n hx hb dX12_delayAt_11 rfl (lv_at hl 1 rfl) ?_
  refine lv_iadd hx hb dX12_delayAt_12 ?_
  refine r_iald C hW hm k1000001 dX12_delayAt_13 (fun hm => ?_)
  refine q_nmI hm (fun v1000002 ev1000002 hm => ?_)
  refine lv_istore_n (i := 3) (lv' := [(3, .int v1000002), (0, .ref x0), (1, .int x1), (2, .int x2)]) hx hb dX12_delayAt_14 rfl hl (by decide) rfl (fun ls hl => ?_)
  refine lv_aload_n hx hb dX12_delayAt_15 rfl (lv_at hl 1 rfl) ?_
  refine r_getF C hW (ci := 12) kx0 ff_12_37 cl_12 fl_RX12_88 dX12_delayAt_16 (fun k1000003 => ?_)
  refine lv_bipush (v := 6) hx hb dX12_delayAt_19 (by decide) ?_
  refine lv_aload_n hx hb dX12_delayAt_21 rfl (lv_at hl 1 rfl) ?_
  refine r_getI C hW (ci := 12) kx0 ff_12_18 cl_12 fl_RX12_242 dX12_delayAt_22 ?_
  refine lv_imul hx hb dX12_delayAt_25 ?_
  refine lv_iload_n hx hb dX12_delayAt_26 rfl (lv_at hl 2 rfl) ?_
  refine lv_iadd hx hb dX12_delayAt_27 ?_
  refine r_iald C hW hm k1000003 dX12_delayAt_28 (fun hm => ?_)
  refine q_nmI hm (fun v1000004 ev1000004 hm => ?_)
  refine lv_istore (i := 4) (lv' := [(4, .int v1000004), (3, .int v1000002), (0, .ref x0), (1, .int x1), (2, .int x2)]) hx hb dX12_delayAt_29 hl (by decide) rfl (fun ls hl => ?_)
  refine lv_iload hx hb dX12_delayAt_31 (lv_at hl 0 rfl) ?_
  refine q_ifc hm (fun c1000005 hm => ?_) (fun c1000005 hm => ?_)
  · refine lv_if_ne (tgt := 40) hx hb dX12_delayAt_33 (by decide) (fun h => absurd c1000005 h) (fun _ => ?_)
    refine lv_iload_n hx hb dX12_delayAt_36 rfl (lv_at hl 1 rfl) ?_
    refine lv_goto (tgt := 56) hx hb dX12_delayAt_37 (by decide) ?_
    exact e_i C hW hS hm dX12_delayAt_56
  refine lv_if_ne (tgt := 40) hx hb dX12_delayAt_33 (by decide) (fun _ => ?_) (fun h => absurd h c1000005)
  refine lv_iload_n hx hb dX12_delayAt_40 rfl (lv_at hl 1 rfl) ?_
  refine lv_iload_n hx hb dX12_delayAt_41 rfl (lv_at hl 4 rfl) ?_
  refine lv_iload hx hb dX12_delayAt_42 (lv_at hl 0 rfl) ?_
  refine lv_aload_n hx hb dX12_delayAt_44 rfl (lv_at hl 2 rfl) ?_
  refine lv_aload_n hx hb dX12_delayAt_45 rfl (lv_at hl 2 rfl) ?_
  refine lv_iload_n hx hb dX12_delayAt_46 rfl (lv_at hl 3 rfl) ?_
  obtain ⟨v1000007, hc1000006, hm⟩ := q_b1i hm
  refine q_callV C hW hS (As := [.int x1]) (rest := [.ref x0, .int v1000004, .int x2, .int v1000002]) (st1 := [.int v1000007, .ref x0, .int v1000004, .int x2, .int v1000002]) (c_X12_codeOf l D al dt x0 x1 kx0 v1000007 hc1000006) yl_X12_codeOf vl_X12_codeOf ml_RX12_324 (ci := 12) rfl kx0 (by decide) rfl ⟨Nat.le_of_ble_eq_true rfl, Nat.le_of_ble_eq_true rfl⟩ hl rfl (Nat.le_of_ble_eq_true rfl) dX12_delayAt_47 ⟨Nat.le_refl _, Nat.le_refl _⟩ rfl (fun H locs k1000008 hW hS => ?_)
  obtain ⟨v1000010, hc1000009, hm⟩ := q_b1i hm
  refine q_callV C hW hS (As := [.int v1000007]) (rest := [.int v1000004, .int x2, .int v1000002]) (st1 := [.int v1000010, .int v1000004, .int x2, .int v1000002]) (c_X12_long0 l D al dt x0 v1000007 kx0 v1000010 hc1000009) yl_X12_long0 vl_X12_long0 ml_RX12_327 (ci := 12) rfl kx0 (by decide) rfl ⟨Nat.le_of_ble_eq_true rfl, Nat.le_of_ble_eq_true rfl⟩ hl rfl (Nat.le_of_ble_eq_true rfl) dX12_delayAt_50 ⟨Nat.le_refl _, Nat.le_refl _⟩ rfl (fun H locs k1000011 hW hS => ?_)
  refine lv_imul hx hb dX12_delayAt_53 ?_
  obtain ⟨c1000012, hm⟩ := q_ini hm
  refine lv_idiv hx hb dX12_delayAt_54 c1000012 ?_
  refine lv_iadd hx hb dX12_delayAt_55 ?_
  exact e_i C hW hS hm dX12_delayAt_56
theorem dX12_periodAt_0 : decode cX12_periodAt 0 = .ok (.iload_n 2, 1) := by decide +kernel
theorem dX12_periodAt_1 : decode cX12_periodAt 1 = .ok (.aload_n 0, 1) := by decide +kernel
theorem dX12_periodAt_2 : decode cX12_periodAt 2 = .ok (.iload_n 1, 1) := by decide +kernel
theorem dX12_periodAt_3 : decode cX12_periodAt 3 = .ok (.iload_n 2, 1) := by decide +kernel
theorem dX12_periodAt_4 : decode cX12_periodAt 4 = .ok (.invokevirtual 330, 3) := by decide +kernel
theorem dX12_periodAt_7 : decode cX12_periodAt 7 = .ok (.isub, 1) := by decide +kernel
theorem dX12_periodAt_8 : decode cX12_periodAt 8 = .ok (.istore_n 3, 1) := by decide +kernel
theorem dX12_periodAt_9 : decode cX12_periodAt 9 = .ok (.iload_n 3, 1) := by decide +kernel
theorem dX12_periodAt_10 : decode cX12_periodAt 10 = .ok (.ifCond .ge 7, 3) := by decide +kernel
theorem dX12_periodAt_13 : decode cX12_periodAt 13 = .ok (.iconst (-1), 1) := by decide +kernel
theorem dX12_periodAt_14 : decode cX12_periodAt 14 = .ok (.goto 14, 3) := by decide +kernel
theorem dX12_periodAt_17 : decode cX12_periodAt 17 = .ok (.iload_n 3, 1) := by decide +kernel
theorem dX12_periodAt_18 : decode cX12_periodAt 18 = .ok (.aload_n 0, 1) := by decide +kernel
theorem dX12_periodAt_19 : decode cX12_periodAt 19 = .ok (.aload_n 0, 1) := by decide +kernel
theorem dX12_periodAt_20 : decode cX12_periodAt 20 = .ok (.iload_n 1, 1) := by decide +kernel
theorem dX12_periodAt_21 : decode cX12_periodAt 21 = .ok (.invokevirtual 324, 3) := by decide +kernel
theorem dX12_periodAt_24 : decode cX12_periodAt 24 = .ok (.invokevirtual 327, 3) := by decide +kernel
theorem dX12_periodAt_27 : decode cX12_periodAt 27 = .ok (.idiv, 1) := by decide +kernel
theorem dX12_periodAt_28 : decode cX12_periodAt 28 = .ok (.ireturn, 1) := by decide +kernel
set_option maxRecDepth 100000 in
theorem c_X12_periodAt (l : Launch) (D : q_D) (al : q_Al) (dt : q_Dt) (x0 : Nat) (x1 : Int32) (x2 : Int32) (kx0 : al.1 x0 = 13) (r0 : Int32) (hm : X12_periodAt al dt x0 x1 x2 = some r0) : q_Mt l yX12_periodAt cX12_periodAt 4 (some FieldType.int) 2 45 D al [.ref x0, .int x1, .int x2] dt 0 (some (.int r0)) dt := by
  refine q_Mt.of (by decide) (Nat.le_of_ble_eq_true rfl) ?_
  intro p e s m args below meth c ls C hargs hW hl
  have hx := C.1
  have hb := C.2.1
  have hown := C.2.2.2.2.2.1
  have hts := C.2.2.2.2.2.2.1
  have hS : va_S (q_A al) s.heap s.heap [] := va_S.rf
  have hl : lv_has ls 4 [(0, .ref x0), (1, .int x1), (2, .int x2)] := hl
  unfold X12_periodAt at hm
  refine lv_iload_n hx hb dX12_periodAt_0 rfl (lv_at hl 2 rfl) ?_
  refine lv_aload_n hx hb dX12_periodAt_1 rfl (lv_at hl 0 rfl) ?_
  refine lv_iload_n hx hb dX12_periodAt_2 rfl (lv_at hl 1 rfl) ?_
  refine lv_iload_n hx hb dX12_periodAt_3 rfl (lv_at hl 2 rfl) ?_
  obtain ⟨v1000002, hc1000001, hm⟩ := q_b1i hm
  refine q_callV C hW hS (As := [.int x1, .int x2]) (rest := [.int x2]) (st1 := [.int v1000002, .int x2]) (c_X12_delayAt l D al dt x0 x1 x2 kx0 v1000002 hc1000001) yl_X12_delayAt vl_X12_delayAt ml_RX12_330 (ci := 12) rfl kx0 (by decide) rfl ⟨Nat.le_of_ble_eq_true rfl, Nat.le_of_ble_eq_true rfl⟩ hl rfl (Nat.le_of_ble_eq_true rfl) dX12_periodAt_4 ⟨Nat.le_refl _, Nat.le_refl _⟩ rfl (fun H locs k1000003 hW hS => ?_)
  refine lv_isub hx hb dX12_periodAt_7 ?_
  refine lv_istore_n (i := 3) (lv' := [(3, .int (x2 - v1000002)), (0, .ref x0), (1, .int x1), (2, .int x2)]) hx hb dX12_periodAt_8 rfl hl (by decide) rfl (fun ls hl => ?_)
  refine lv_iload_n hx hb dX12_periodAt_9 rfl (lv_at hl 0 rfl) ?_
  refine q_ifc hm (fun c1000004 hm => ?_) (fun c1000004 hm => ?_)
  · refine lv_if_ge (tgt := 17) hx hb dX12_periodAt_10 (by decide) (fun _ => ?_) (fun h => absurd c1000004 h)
    refine lv_iload_n hx hb dX12_periodAt_17 rfl (lv_at hl 0 rfl) ?_
    refine lv_aload_n hx hb dX12_periodAt_18 rfl (lv_at hl 1 rfl) ?_
    refine lv_aload_n hx hb dX12_periodAt_19 rfl (lv_at hl 1 rfl) ?_
    refine lv_iload_n hx hb dX12_periodAt_20 rfl (lv_at hl 2 rfl) ?_
    obtain ⟨v1000006, hc1000005, hm⟩ := q_b1i hm
    refine q_callV C hW hS (As := [.int x1]) (rest := [.ref x0, .int (x2 - v1000002)]) (st1 := [.int v1000006, .ref x0, .int (x2 - v1000002)]) (c_X12_codeOf l D al dt x0 x1 kx0 v1000006 hc1000005) yl_X12_codeOf vl_X12_codeOf ml_RX12_324 (ci := 12) rfl kx0 (by decide) rfl ⟨Nat.le_of_ble_eq_true rfl, Nat.le_of_ble_eq_true rfl⟩ hl rfl (Nat.le_of_ble_eq_true rfl) dX12_periodAt_21 ⟨Nat.le_refl _, Nat.le_refl _⟩ rfl (fun H locs k1000007 hW hS => ?_)
    obtain ⟨v1000009, hc1000008, hm⟩ := q_b1i hm
    refine q_callV C hW hS (As := [.int v1000006]) (rest := [.int (x2 - v1000002)]) (st1 := [.int v1000009, .int (x2 - v1000002)]) (c_X12_long0 l D al dt x0 v1000006 kx0 v1000009 hc1000008) yl_X12_long0 vl_X12_long0 ml_RX12_327 (ci := 12) rfl kx0 (by decide) rfl ⟨Nat.le_of_ble_eq_true rfl, Nat.le_of_ble_eq_true rfl⟩ hl rfl (Nat.le_of_ble_eq_true rfl) dX12_periodAt_24 ⟨Nat.le_refl _, Nat.le_refl _⟩ rfl (fun H locs k1000010 hW hS => ?_)
    obtain ⟨c1000011, hm⟩ := q_ini hm
    refine lv_idiv hx hb dX12_periodAt_27 c1000011 ?_
    exact e_i C hW hS hm dX12_periodAt_28
  refine lv_if_ge (tgt := 17) hx hb dX12_periodAt_10 (by decide) (fun h => absurd h c1000004) (fun _ => ?_)
  refine lv_iconst (v := (-1)) hx hb dX12_periodAt_13 (by decide) ?_
  refine lv_goto (tgt := 28) hx hb dX12_periodAt_14 (by decide) ?_
  exact e_i C hW hS hm dX12_periodAt_28
theorem dX12_chipOf_0 : decode cX12_chipOf 0 = .ok (.aload_n 0, 1) := by decide +kernel
theorem dX12_chipOf_1 : decode cX12_chipOf 1 = .ok (.getfield 55, 3) := by decide +kernel
theorem dX12_chipOf_4 : decode cX12_chipOf 4 = .ok (.sipush 128, 3) := by decide +kernel
theorem dX12_chipOf_7 : decode cX12_chipOf 7 = .ok (.bipush 8, 2) := by decide +kernel
theorem dX12_chipOf_9 : decode cX12_chipOf 9 = .ok (.aload_n 0, 1) := by decide +kernel
theorem dX12_chipOf_10 : decode cX12_chipOf 10 = .ok (.getfield 242, 3) := by decide +kernel
theorem dX12_chipOf_13 : decode cX12_chipOf 13 = .ok (.imul, 1) := by decide +kernel
theorem dX12_chipOf_14 : decode cX12_chipOf 14 = .ok (.iload_n 1, 1) := by decide +kernel
theorem dX12_chipOf_15 : decode cX12_chipOf 15 = .ok (.iadd, 1) := by decide +kernel
theorem dX12_chipOf_16 : decode cX12_chipOf 16 = .ok (.imul, 1) := by decide +kernel
theorem dX12_chipOf_17 : decode cX12_chipOf 17 = .ok (.iload_n 2, 1) := by decide +kernel
theorem dX12_chipOf_18 : decode cX12_chipOf 18 = .ok (.iadd, 1) := by decide +kernel
theorem dX12_chipOf_19 : decode cX12_chipOf 19 = .ok (.iaload, 1) := by decide +kernel
theorem dX12_chipOf_20 : decode cX12_chipOf 20 = .ok (.ireturn, 1) := by decide +kernel
set_option maxRecDepth 100000 in
theorem c_X12_chipOf (l : Launch) (D : q_D) (al : q_Al) (dt : q_Dt) (x0 : Nat) (x1 : Int32) (x2 : Int32) (kx0 : al.1 x0 = 13) (r0 : Int32) (hm : X12_chipOf al dt x0 x1 x2 = some r0) : q_Mt l yX12_chipOf cX12_chipOf 3 (some FieldType.int) 0 0 D al [.ref x0, .int x1, .int x2] dt 0 (some (.int r0)) dt := by
  refine q_Mt.of (by decide) (Nat.le_of_ble_eq_true rfl) ?_
  intro p e s m args below meth c ls C hargs hW hl
  have hx := C.1
  have hb := C.2.1
  have hown := C.2.2.2.2.2.1
  have hts := C.2.2.2.2.2.2.1
  have hS : va_S (q_A al) s.heap s.heap [] := va_S.rf
  have hl : lv_has ls 3 [(0, .ref x0), (1, .int x1), (2, .int x2)] := hl
  unfold X12_chipOf at hm
  refine lv_aload_n hx hb dX12_chipOf_0 rfl (lv_at hl 0 rfl) ?_
  refine r_getF C hW (ci := 12) kx0 ff_12_26 cl_12 fl_RX12_55 dX12_chipOf_1 (fun k1000001 => ?_)
  refine lv_sipush (v := 128) hx hb dX12_chipOf_4 (by decide) ?_
  refine lv_bipush (v := 8) hx hb dX12_chipOf_7 (by decide) ?_
  refine lv_aload_n hx hb dX12_chipOf_9 rfl (lv_at hl 0 rfl) ?_
  refine r_getI C hW (ci := 12) kx0 ff_12_18 cl_12 fl_RX12_242 dX12_chipOf_10 ?_
  refine lv_imul hx hb dX12_chipOf_13 ?_
  refine lv_iload_n hx hb dX12_chipOf_14 rfl (lv_at hl 1 rfl) ?_
  refine lv_iadd hx hb dX12_chipOf_15 ?_
  refine lv_imul hx hb dX12_chipOf_16 ?_
  refine lv_iload_n hx hb dX12_chipOf_17 rfl (lv_at hl 2 rfl) ?_
  refine lv_iadd hx hb dX12_chipOf_18 ?_
  refine r_iald C hW hm k1000001 dX12_chipOf_19 (fun hm => ?_)
  exact e_i C hW hS hm dX12_chipOf_20
theorem dX12_turnOf_0 : decode cX12_turnOf 0 = .ok (.iload_n 0, 1) := by decide +kernel
theorem dX12_turnOf_1 : decode cX12_turnOf 1 = .ok (.iload_n 1, 1) := by decide +kernel
theorem dX12_turnOf_2 : decode cX12_turnOf 2 = .ok (.bipush 8, 2) := by decide +kernel
theorem dX12_turnOf_4 : decode cX12_turnOf 4 = .ok (.idiv, 1) := by decide +kernel
theorem dX12_turnOf_5 : decode cX12_turnOf 5 = .ok (.imul, 1) := by decide +kernel
theorem dX12_turnOf_6 : decode cX12_turnOf 6 = .ok (.iconst 4, 1) := by decide +kernel
theorem dX12_turnOf_7 : decode cX12_turnOf 7 = .ok (.irem, 1) := by decide +kernel
theorem dX12_turnOf_8 : decode cX12_turnOf 8 = .ok (.ireturn, 1) := by decide +kernel
set_option maxRecDepth 100000 in
theorem c_X12_turnOf (l : Launch) (D : q_D) (al : q_Al) (dt : q_Dt) (x0 : Int32) (x1 : Int32) (r0 : Int32) (hm : X12_turnOf x0 x1 = some r0) : q_Mt l yX12_turnOf cX12_turnOf 2 (some FieldType.int) 0 0 D al [.int x0, .int x1] dt 0 (some (.int r0)) dt := by
  refine q_Mt.of (by decide) (Nat.le_of_ble_eq_true rfl) ?_
  intro p e s m args below meth c ls C hargs hW hl
  have hx := C.1
  have hb := C.2.1
  have hown := C.2.2.2.2.2.1
  have hts := C.2.2.2.2.2.2.1
  have hS : va_S (q_A al) s.heap s.heap [] := va_S.rf
  have hl : lv_has ls 2 [(0, .int x0), (1, .int x1)] := hl
  unfold X12_turnOf at hm
  refine lv_iload_n hx hb dX12_turnOf_0 rfl (lv_at hl 0 rfl) ?_
  refine lv_iload_n hx hb dX12_turnOf_1 rfl (lv_at hl 1 rfl) ?_
  refine lv_bipush (v := 8) hx hb dX12_turnOf_2 (by decide) ?_
  refine lv_idiv hx hb dX12_turnOf_4 (by decide) ?_
  refine lv_imul hx hb dX12_turnOf_5 ?_
  refine lv_iconst (v := 4) hx hb dX12_turnOf_6 (by decide) ?_
  refine lv_irem hx hb dX12_turnOf_7 (by decide) ?_
  exact e_i C hW hS hm dX12_turnOf_8
theorem dX12_signAt_0 : decode cX12_signAt 0 = .ok (.aload_n 0, 1) := by decide +kernel
theorem dX12_signAt_1 : decode cX12_signAt 1 = .ok (.aload_n 0, 1) := by decide +kernel
theorem dX12_signAt_2 : decode cX12_signAt 2 = .ok (.iload_n 1, 1) := by decide +kernel
theorem dX12_signAt_3 : decode cX12_signAt 3 = .ok (.invokevirtual 324, 3) := by decide +kernel
theorem dX12_signAt_6 : decode cX12_signAt 6 = .ok (.iload_n 2, 1) := by decide +kernel
theorem dX12_signAt_7 : decode cX12_signAt 7 = .ok (.aload_n 0, 1) := by decide +kernel
theorem dX12_signAt_8 : decode cX12_signAt 8 = .ok (.iload_n 1, 1) := by decide +kernel
theorem dX12_signAt_9 : decode cX12_signAt 9 = .ok (.iload_n 2, 1) := by decide +kernel
theorem dX12_signAt_10 : decode cX12_signAt 10 = .ok (.invokevirtual 330, 3) := by decide +kernel
theorem dX12_signAt_13 : decode cX12_signAt 13 = .ok (.isub, 1) := by decide +kernel
theorem dX12_signAt_14 : decode cX12_signAt 14 = .ok (.aload_n 0, 1) := by decide +kernel
theorem dX12_signAt_15 : decode cX12_signAt 15 = .ok (.aload_n 0, 1) := by decide +kernel
theorem dX12_signAt_16 : decode cX12_signAt 16 = .ok (.iload_n 1, 1) := by decide +kernel
theorem dX12_signAt_17 : decode cX12_signAt 17 = .ok (.invokevirtual 324, 3) := by decide +kernel
theorem dX12_signAt_20 : decode cX12_signAt 20 = .ok (.invokevirtual 327, 3) := by decide +kernel
theorem dX12_signAt_23 : decode cX12_signAt 23 = .ok (.irem, 1) := by decide +kernel
theorem dX12_signAt_24 : decode cX12_signAt 24 = .ok (.invokevirtual 333, 3) := by decide +kernel
theorem dX12_signAt_27 : decode cX12_signAt 27 = .ok (.istore_n 3, 1) := by decide +kernel
theorem dX12_signAt_28 : decode cX12_signAt 28 = .ok (.aload_n 0, 1) := by decide +kernel
theorem dX12_signAt_29 : decode cX12_signAt 29 = .ok (.getfield 82, 3) := by decide +kernel
theorem dX12_signAt_32 : decode cX12_signAt 32 = .ok (.bipush 6, 2) := by decide +kernel
theorem dX12_signAt_34 : decode cX12_signAt 34 = .ok (.aload_n 0, 1) := by decide +kernel
theorem dX12_signAt_35 : decode cX12_signAt 35 = .ok (.getfield 242, 3) := by decide +kernel
theorem dX12_signAt_38 : decode cX12_signAt 38 = .ok (.imul, 1) := by decide +kernel
theorem dX12_signAt_39 : decode cX12_signAt 39 = .ok (.iload_n 1, 1) := by decide +kernel
theorem dX12_signAt_40 : decode cX12_signAt 40 = .ok (.iadd, 1) := by decide +kernel
theorem dX12_signAt_41 : decode cX12_signAt 41 = .ok (.iaload, 1) := by decide +kernel
theorem dX12_signAt_42 : decode cX12_signAt 42 = .ok (.iload_n 2, 1) := by decide +kernel
theorem dX12_signAt_43 : decode cX12_signAt 43 = .ok (.invokestatic 336, 3) := by decide +kernel
theorem dX12_signAt_46 : decode cX12_signAt 46 = .ok (.iconst 2, 1) := by decide +kernel
theorem dX12_signAt_47 : decode cX12_signAt 47 = .ok (.if_icmp .ge 7, 3) := by decide +kernel
theorem dX12_signAt_50 : decode cX12_signAt 50 = .ok (.iload_n 3, 1) := by decide +kernel
theorem dX12_signAt_51 : decode cX12_signAt 51 = .ok (.goto 5, 3) := by decide +kernel
theorem dX12_signAt_54 : decode cX12_signAt 54 = .ok (.iload_n 3, 1) := by decide +kernel
theorem dX12_signAt_55 : decode cX12_signAt 55 = .ok (.ineg, 1) := by decide +kernel
theorem dX12_signAt_56 : decode cX12_signAt 56 = .ok (.ireturn, 1) := by decide +kernel
set_option maxRecDepth 100000 in
theorem c_X12_signAt (l : Launch) (D : q_D) (al : q_Al) (dt : q_Dt) (x0 : Nat) (x1 : Int32) (x2 : Int32) (kx0 : al.1 x0 = 13) (r0 : Int32) (hm : X12_signAt al dt x0 x1 x2 = some r0) : q_Mt l yX12_signAt cX12_signAt 4 (some FieldType.int) 2 45 D al [.ref x0, .int x1, .int x2] dt 0 (some (.int r0)) dt := by
  refine q_Mt.of (by decide) (Nat.le_of_ble_eq_true rfl) ?_
  intro p e s m args below meth c ls C hargs hW hl
  have hx := C.1
  have hb := C.2.1
  have hown := C.2.2.2.2.2.1
  have hts := C.2.2.2.2.2.2.1
  have hS : va_S (q_A al) s.heap s.heap [] := va_S.rf
  have hl : lv_has ls 4 [(0, .ref x0), (1, .int x1), (2, .int x2)] := hl
  unfold X12_signAt at hm
  refine lv_aload_n hx hb dX12_signAt_0 rfl (lv_at hl 0 rfl) ?_
  refine lv_aload_n hx hb dX12_signAt_1 rfl (lv_at hl 0 rfl) ?_
  refine lv_iload_n hx hb dX12_signAt_2 rfl (lv_at hl 1 rfl) ?_
  obtain ⟨v1000002, hc1000001, hm⟩ := q_b1i hm
  refine q_callV C hW hS (As := [.int x1]) (rest := [.ref x0]) (st1 := [.int v1000002, .ref x0]) (c_X12_codeOf l D al dt x0 x1 kx0 v1000002 hc1000001) yl_X12_codeOf vl_X12_codeOf ml_RX12_324 (ci := 12) rfl kx0 (by decide) rfl ⟨Nat.le_of_ble_eq_true rfl, Nat.le_of_ble_eq_true rfl⟩ hl rfl (Nat.le_of_ble_eq_true rfl) dX12_signAt_3 ⟨Nat.le_refl _, Nat.le_refl _⟩ rfl (fun H locs k1000003 hW hS => ?_)
  refine lv_iload_n hx hb dX12_signAt_6 rfl (lv_at hl 2 rfl) ?_
  refine lv_aload_n hx hb dX12_signAt_7 rfl (lv_at hl 0 rfl) ?_
  refine lv_iload_n hx hb dX12_signAt_8 rfl (lv_at hl 1 rfl) ?_
  refine lv_iload_n hx hb dX12_signAt_9 rfl (lv_at hl 2 rfl) ?_
  obtain ⟨v1000005, hc1000004, hm⟩ := q_b1i hm
  refine q_callV C hW hS (As := [.int x1, .int x2]) (rest := [.int x2, .int v1000002, .ref x0]) (st1 := [.int v1000005, .int x2, .int v1000002, .ref x0]) (c_X12_delayAt l D al dt x0 x1 x2 kx0 v1000005 hc1000004) yl_X12_delayAt vl_X12_delayAt ml_RX12_330 (ci := 12) rfl kx0 (by decide) rfl ⟨Nat.le_of_ble_eq_true rfl, Nat.le_of_ble_eq_true rfl⟩ hl rfl (Nat.le_of_ble_eq_true rfl) dX12_signAt_10 ⟨Nat.le_refl _, Nat.le_refl _⟩ rfl (fun H locs k1000006 hW hS => ?_)
  refine lv_isub hx hb dX12_signAt_13 ?_
  refine lv_aload_n hx hb dX12_signAt_14 rfl (lv_at hl 0 rfl) ?_
  refine lv_aload_n hx hb dX12_signAt_15 rfl (lv_at hl 0 rfl) ?_
  refine lv_iload_n hx hb dX12_signAt_16 rfl (lv_at hl 1 rfl) ?_
  obtain ⟨v1000008, hc1000007, hm⟩ := q_b1i hm
  refine q_callV C hW hS (As := [.int x1]) (rest := [.ref x0, .int (x2 - v1000005), .int v1000002, .ref x0]) (st1 := [.int v1000008, .ref x0, .int (x2 - v1000005), .int v1000002, .ref x0]) (c_X12_codeOf l D al dt x0 x1 kx0 v1000008 hc1000007) yl_X12_codeOf vl_X12_codeOf ml_RX12_324 (ci := 12) rfl kx0 (by decide) rfl ⟨Nat.le_of_ble_eq_true rfl, Nat.le_of_ble_eq_true rfl⟩ hl rfl (Nat.le_of_ble_eq_true rfl) dX12_signAt_17 ⟨Nat.le_refl _, Nat.le_refl _⟩ rfl (fun H locs k1000009 hW hS => ?_)
  obtain ⟨v1000011, hc1000010, hm⟩ := q_b1i hm
  refine q_callV C hW hS (As := [.int v1000008]) (rest := [.int (x2 - v1000005), .int v1000002, .ref x0]) (st1 := [.int v1000011, .int (x2 - v1000005), .int v1000002, .ref x0]) (c_X12_long0 l D al dt x0 v1000008 kx0 v1000011 hc1000010) yl_X12_long0 vl_X12_long0 ml_RX12_327 (ci := 12) rfl kx0 (by decide) rfl ⟨Nat.le_of_ble_eq_true rfl, Nat.le_of_ble_eq_true rfl⟩ hl rfl (Nat.le_of_ble_eq_true rfl) dX12_signAt_20 ⟨Nat.le_refl _, Nat.le_refl _⟩ rfl (fun H locs k1000012 hW hS => ?_)
  obtain ⟨c1000013, hm⟩ := q_ini hm
  refine lv_irem hx hb dX12_signAt_23 c1000013 ?_
  obtain ⟨v1000015, hc1000014, hm⟩ := q_b1i hm
  refine q_callV C hW hS (As := [.int v1000002, .int (q_ir (x2 - v1000005) v1000011)]) (rest := []) (st1 := [.int v1000015]) (c_X12_chipOf l D al dt x0 v1000002 (q_ir (x2 - v1000005) v1000011) kx0 v1000015 hc1000014) yl_X12_chipOf vl_X12_chipOf ml_RX12_333 (ci := 12) rfl kx0 (by decide) rfl ⟨Nat.le_of_ble_eq_true rfl, Nat.le_of_ble_eq_true rfl⟩ hl rfl (Nat.le_of_ble_eq_true rfl) dX12_signAt_24 ⟨Nat.le_refl _, Nat.le_refl _⟩ rfl (fun H locs k1000016 hW hS => ?_)
  refine lv_istore_n (i := 3) (lv' := [(3, .int v1000015), (0, .ref x0), (1, .int x1), (2, .int x2)]) hx hb dX12_signAt_27 rfl hl (by decide) rfl (fun ls hl => ?_)
  refine lv_aload_n hx hb dX12_signAt_28 rfl (lv_at hl 1 rfl) ?_
  refine r_getF C hW (ci := 12) kx0 ff_12_35 cl_12 fl_RX12_82 dX12_signAt_29 (fun k1000017 => ?_)
  refine lv_bipush (v := 6) hx hb dX12_signAt_32 (by decide) ?_
  refine lv_aload_n hx hb dX12_signAt_34 rfl (lv_at hl 1 rfl) ?_
  refine r_getI C hW (ci := 12) kx0 ff_12_18 cl_12 fl_RX12_242 dX12_signAt_35 ?_
  refine lv_imul hx hb dX12_signAt_38 ?_
  refine lv_iload_n hx hb dX12_signAt_39 rfl (lv_at hl 2 rfl) ?_
  refine lv_iadd hx hb dX12_signAt_40 ?_
  refine r_iald C hW hm k1000017 dX12_signAt_41 (fun hm => ?_)
  refine lv_iload_n hx hb dX12_signAt_42 rfl (lv_at hl 3 rfl) ?_
  obtain ⟨v1000019, hc1000018, hm⟩ := q_b1i hm
  refine q_callS C hW hS (As := [.int (dt.1 (al.2.2 x0 35) (Int32.toNatClampNeg ((6 * (dt.1 x0 18)) + x1))), .int x2]) (rest := []) (st1 := [.int v1000019]) (c_X12_turnOf l D al dt (dt.1 (al.2.2 x0 35) (Int32.toNatClampNeg ((6 * (dt.1 x0 18)) + x1))) x2 v1000019 hc1000018) yl_X12_turnOf sl_X12_turnOf ml_RX12_336 rfl ⟨Nat.le_of_ble_eq_true rfl, Nat.le_of_ble_eq_true rfl⟩ hl rfl (Nat.le_of_ble_eq_true rfl) dX12_signAt_43 ⟨Nat.le_refl _, Nat.le_refl _⟩ rfl (fun H locs k1000020 hW hS => ?_)
  refine lv_iconst (v := 2) hx hb dX12_signAt_46 (by decide) ?_
  refine q_ifc hm (fun c1000021 hm => ?_) (fun c1000021 hm => ?_)
  · refine lv_icmp_ge (tgt := 54) hx hb dX12_signAt_47 (by decide) (fun _ => ?_) (fun h => absurd c1000021 h)
    refine lv_iload_n hx hb dX12_signAt_54 rfl (lv_at hl 0 rfl) ?_
    refine lv_ineg hx hb dX12_signAt_55 ?_
    exact e_i C hW hS hm dX12_signAt_56
  refine lv_icmp_ge (tgt := 54) hx hb dX12_signAt_47 (by decide) (fun h => absurd h c1000021) (fun _ => ?_)
  refine lv_iload_n hx hb dX12_signAt_50 rfl (lv_at hl 0 rfl) ?_
  refine lv_goto (tgt := 56) hx hb dX12_signAt_51 (by decide) ?_
  exact e_i C hW hS hm dX12_signAt_56
theorem dX12_isIm_0 : decode cX12_isIm 0 = .ok (.aload_n 0, 1) := by decide +kernel
theorem dX12_isIm_1 : decode cX12_isIm 1 = .ok (.getfield 82, 3) := by decide +kernel
theorem dX12_isIm_4 : decode cX12_isIm 4 = .ok (.bipush 6, 2) := by decide +kernel
theorem dX12_isIm_6 : decode cX12_isIm 6 = .ok (.aload_n 0, 1) := by decide +kernel
theorem dX12_isIm_7 : decode cX12_isIm 7 = .ok (.getfield 242, 3) := by decide +kernel
theorem dX12_isIm_10 : decode cX12_isIm 10 = .ok (.imul, 1) := by decide +kernel
theorem dX12_isIm_11 : decode cX12_isIm 11 = .ok (.iload_n 1, 1) := by decide +kernel
theorem dX12_isIm_12 : decode cX12_isIm 12 = .ok (.iadd, 1) := by decide +kernel
theorem dX12_isIm_13 : decode cX12_isIm 13 = .ok (.iaload, 1) := by decide +kernel
theorem dX12_isIm_14 : decode cX12_isIm 14 = .ok (.iload_n 2, 1) := by decide +kernel
theorem dX12_isIm_15 : decode cX12_isIm 15 = .ok (.invokestatic 336, 3) := by decide +kernel
theorem dX12_isIm_18 : decode cX12_isIm 18 = .ok (.iconst 2, 1) := by decide +kernel
theorem dX12_isIm_19 : decode cX12_isIm 19 = .ok (.irem, 1) := by decide +kernel
theorem dX12_isIm_20 : decode cX12_isIm 20 = .ok (.iconst 1, 1) := by decide +kernel
theorem dX12_isIm_21 : decode cX12_isIm 21 = .ok (.if_icmp .ne 7, 3) := by decide +kernel
theorem dX12_isIm_24 : decode cX12_isIm 24 = .ok (.iconst 1, 1) := by decide +kernel
theorem dX12_isIm_25 : decode cX12_isIm 25 = .ok (.goto 4, 3) := by decide +kernel
theorem dX12_isIm_28 : decode cX12_isIm 28 = .ok (.iconst 0, 1) := by decide +kernel
theorem dX12_isIm_29 : decode cX12_isIm 29 = .ok (.ireturn, 1) := by decide +kernel
set_option maxRecDepth 100000 in
theorem c_X12_isIm (l : Launch) (D : q_D) (al : q_Al) (dt : q_Dt) (x0 : Nat) (x1 : Int32) (x2 : Int32) (kx0 : al.1 x0 = 13) (r0 : Int32) (hm : X12_isIm al dt x0 x1 x2 = some r0) : q_Mt l yX12_isIm cX12_isIm 3 (some FieldType.boolean) 1 21 D al [.ref x0, .int x1, .int x2] dt 0 (some (.int r0)) dt := by
  refine q_Mt.of (by decide) (Nat.le_of_ble_eq_true rfl) ?_
  intro p e s m args below meth c ls C hargs hW hl
  have hx := C.1
  have hb := C.2.1
  have hown := C.2.2.2.2.2.1
  have hts := C.2.2.2.2.2.2.1
  have hS : va_S (q_A al) s.heap s.heap [] := va_S.rf
  have hl : lv_has ls 3 [(0, .ref x0), (1, .int x1), (2, .int x2)] := hl
  unfold X12_isIm at hm
  refine lv_aload_n hx hb dX12_isIm_0 rfl (lv_at hl 0 rfl) ?_
  refine r_getF C hW (ci := 12) kx0 ff_12_35 cl_12 fl_RX12_82 dX12_isIm_1 (fun k1000001 => ?_)
  refine lv_bipush (v := 6) hx hb dX12_isIm_4 (by decide) ?_
  refine lv_aload_n hx hb dX12_isIm_6 rfl (lv_at hl 0 rfl) ?_
  refine r_getI C hW (ci := 12) kx0 ff_12_18 cl_12 fl_RX12_242 dX12_isIm_7 ?_
  refine lv_imul hx hb dX12_isIm_10 ?_
  refine lv_iload_n hx hb dX12_isIm_11 rfl (lv_at hl 1 rfl) ?_
  refine lv_iadd hx hb dX12_isIm_12 ?_
  refine r_iald C hW hm k1000001 dX12_isIm_13 (fun hm => ?_)
  refine lv_iload_n hx hb dX12_isIm_14 rfl (lv_at hl 2 rfl) ?_
  obtain ⟨v1000003, hc1000002, hm⟩ := q_b1i hm
  refine q_callS C hW hS (As := [.int (dt.1 (al.2.2 x0 35) (Int32.toNatClampNeg ((6 * (dt.1 x0 18)) + x1))), .int x2]) (rest := []) (st1 := [.int v1000003]) (c_X12_turnOf l D al dt (dt.1 (al.2.2 x0 35) (Int32.toNatClampNeg ((6 * (dt.1 x0 18)) + x1))) x2 v1000003 hc1000002) yl_X12_turnOf sl_X12_turnOf ml_RX12_336 rfl ⟨Nat.le_of_ble_eq_true rfl, Nat.le_of_ble_eq_true rfl⟩ hl rfl (Nat.le_of_ble_eq_true rfl) dX12_isIm_15 ⟨Nat.le_refl _, Nat.le_refl _⟩ rfl (fun H locs k1000004 hW hS => ?_)
  refine lv_iconst (v := 2) hx hb dX12_isIm_18 (by decide) ?_
  refine lv_irem hx hb dX12_isIm_19 (by decide) ?_
  refine lv_iconst (v := 1) hx hb dX12_isIm_20 (by decide) ?_
  refine q_ifc hm (fun c1000006 hm => ?_) (fun c1000006 hm => ?_)
  · refine lv_icmp_ne (tgt := 28) hx hb dX12_isIm_21 (by decide) (fun h => absurd c1000006 h) (fun _ => ?_)
    refine lv_iconst (v := 1) hx hb dX12_isIm_24 (by decide) ?_
    refine lv_goto (tgt := 29) hx hb dX12_isIm_25 (by decide) ?_
    exact e_zl C hW hS (Or.inr rfl) hm dX12_isIm_29
  refine lv_icmp_ne (tgt := 28) hx hb dX12_isIm_21 (by decide) (fun _ => ?_) (fun h => absurd h c1000006)
  refine lv_iconst (v := 0) hx hb dX12_isIm_28 (by decide) ?_
  exact e_zl C hW hS (Or.inl rfl) hm dX12_isIm_29
theorem dX12_adds_0 : decode cX12_adds 0 = .ok (.aload_n 1, 1) := by decide +kernel
theorem dX12_adds_1 : decode cX12_adds 1 = .ok (.iload_n 3, 1) := by decide +kernel
theorem dX12_adds_2 : decode cX12_adds 2 = .ok (.ifCond .eq 11, 3) := by decide +kernel
theorem dX12_adds_5 : decode cX12_adds 5 = .ok (.sipush 512, 3) := by decide +kernel
theorem dX12_adds_8 : decode cX12_adds 8 = .ok (.iload_n 2, 1) := by decide +kernel
theorem dX12_adds_9 : decode cX12_adds 9 = .ok (.iadd, 1) := by decide +kernel
theorem dX12_adds_10 : decode cX12_adds 10 = .ok (.goto 4, 3) := by decide +kernel
theorem dX12_adds_13 : decode cX12_adds 13 = .ok (.iload_n 2, 1) := by decide +kernel
theorem dX12_adds_14 : decode cX12_adds 14 = .ok (.dup2, 1) := by decide +kernel
theorem dX12_adds_15 : decode cX12_adds 15 = .ok (.iaload, 1) := by decide +kernel
theorem dX12_adds_16 : decode cX12_adds 16 = .ok (.iload 4, 2) := by decide +kernel
theorem dX12_adds_18 : decode cX12_adds 18 = .ok (.iadd, 1) := by decide +kernel
theorem dX12_adds_19 : decode cX12_adds 19 = .ok (.iastore, 1) := by decide +kernel
theorem dX12_adds_20 : decode cX12_adds 20 = .ok (.return_, 1) := by decide +kernel
set_option maxRecDepth 100000 in
theorem c_X12_adds (l : Launch) (D : q_D) (al : q_Al) (dt : q_Dt) (x0 : Nat) (x1 : Nat) (x2 : Int32) (x3 : Int32) (x4 : Int32) (kx0 : al.1 x0 = 13) (kx1 : al.1 x1 = 21) (dt0 : q_Dt) (hm : X12_adds al dt x0 x1 x2 x3 x4 = some dt0) : q_Mt l yX12_adds cX12_adds 5 (none) 0 0 D al [.ref x0, .ref x1, .int x2, .int x3, .int x4] dt 0 none dt0 := by
  refine q_Mt.of (by decide) (Nat.le_of_ble_eq_true rfl) ?_
  intro p e s m args below meth c ls C hargs hW hl
  have hx := C.1
  have hb := C.2.1
  have hown := C.2.2.2.2.2.1
  have hts := C.2.2.2.2.2.2.1
  have hS : va_S (q_A al) s.heap s.heap [] := va_S.rf
  have hl : lv_has ls 5 [(0, .ref x0), (1, .ref x1), (2, .int x2), (3, .int x3), (4, .int x4)] := hl
  unfold X12_adds at hm
  have hB14 : ∀ (x4_14 : Int32) (t0_14 : Nat) (t1_14 : Int32) (kt0_14 : al.1 t0_14 = 21) (dt : q_Dt) (H : Heap) (locs : List Loc) (ls : Array Slot) (hm : X12_adds_b14 al x4_14 t0_14 t1_14 dt = some dt0) (hW : q_W D al dt H) (hS : va_S (q_A al) s.heap H locs) (hl : lv_has ls 5 [(4, .int x4_14)]), W p l e { frames := 0, cells := 0, slots := 0, locals := 0 } s m args below meth c H locs 0 0 (MQ below (q_Q none (fun H => q_W D al dt0 H ∧ q_Rk al 0 none) (q_A al)) args s 0 0 (q_A al)) (F0 m 14 ls [.int t1_14, .ref t0_14]) := by
    intro x4_14 t0_14 t1_14 kt0_14 dt H locs ls hm hW hS hl
    unfold X12_adds_b14 at hm
    refine lv_dup2_11 hx hb dX12_adds_14 rfl rfl ?_
    refine r_iald C hW hm kt0_14 dX12_adds_15 (fun hm => ?_)
    refine lv_iload hx hb dX12_adds_16 (lv_at hl 0 rfl) ?_
    refine lv_iadd hx hb dX12_adds_18 ?_
    refine r_iast C hW hS hm kt0_14 dX12_adds_19 (fun dt14001 H locs hm hW hS => ?_)
    exact e_vD C hW hS hm dX12_adds_20
  refine lv_aload_n hx hb dX12_adds_0 rfl (lv_at hl 1 rfl) ?_
  refine lv_iload_n hx hb dX12_adds_1 rfl (lv_at hl 3 rfl) ?_
  refine q_ifc hm (fun c1000001 hm => ?_) (fun c1000001 hm => ?_)
  · refine lv_if_eq (tgt := 13) hx hb dX12_adds_2 (by decide) (fun _ => ?_) (fun h => absurd c1000001 h)
    refine lv_iload_n hx hb dX12_adds_13 rfl (lv_at hl 2 rfl) ?_
    exact hB14 x4 x1 x2 kx1 dt _ _ _ hm hW hS (lv_sub hl [4] rfl)
  refine lv_if_eq (tgt := 13) hx hb dX12_adds_2 (by decide) (fun h => absurd h c1000001) (fun _ => ?_)
  refine lv_sipush (v := 512) hx hb dX12_adds_5 (by decide) ?_
  refine lv_iload_n hx hb dX12_adds_8 rfl (lv_at hl 2 rfl) ?_
  refine lv_iadd hx hb dX12_adds_9 ?_
  refine lv_goto (tgt := 14) hx hb dX12_adds_10 (by decide) ?_
  exact hB14 x4 x1 (512 + x2) kx1 dt _ _ _ hm hW hS (lv_sub hl [4] rfl)
theorem dX12_addsWave_0 : decode cX12_addsWave 0 = .ok (.iconst 0, 1) := by decide +kernel
theorem dX12_addsWave_1 : decode cX12_addsWave 1 = .ok (.istore 4, 2) := by decide +kernel
theorem dX12_addsWave_3 : decode cX12_addsWave 3 = .ok (.iload 4, 2) := by decide +kernel
theorem dX12_addsWave_5 : decode cX12_addsWave 5 = .ok (.aload_n 0, 1) := by decide +kernel
theorem dX12_addsWave_6 : decode cX12_addsWave 6 = .ok (.invokevirtual 342, 3) := by decide +kernel
theorem dX12_addsWave_9 : decode cX12_addsWave 9 = .ok (.if_icmp .ge 184, 3) := by decide +kernel
theorem dX12_addsWave_12 : decode cX12_addsWave 12 = .ok (.aload_n 0, 1) := by decide +kernel
theorem dX12_addsWave_13 : decode cX12_addsWave 13 = .ok (.iload_n 2, 1) := by decide +kernel
theorem dX12_addsWave_14 : decode cX12_addsWave 14 = .ok (.iload 4, 2) := by decide +kernel
theorem dX12_addsWave_16 : decode cX12_addsWave 16 = .ok (.invokevirtual 345, 3) := by decide +kernel
theorem dX12_addsWave_19 : decode cX12_addsWave 19 = .ok (.istore 5, 2) := by decide +kernel
theorem dX12_addsWave_21 : decode cX12_addsWave 21 = .ok (.iload 5, 2) := by decide +kernel
theorem dX12_addsWave_23 : decode cX12_addsWave 23 = .ok (.ifCond .ge 6, 3) := by decide +kernel
theorem dX12_addsWave_26 : decode cX12_addsWave 26 = .ok (.goto 161, 3) := by decide +kernel
theorem dX12_addsWave_29 : decode cX12_addsWave 29 = .ok (.aload_n 0, 1) := by decide +kernel
theorem dX12_addsWave_30 : decode cX12_addsWave 30 = .ok (.iload_n 2, 1) := by decide +kernel
theorem dX12_addsWave_31 : decode cX12_addsWave 31 = .ok (.iload 4, 2) := by decide +kernel
theorem dX12_addsWave_33 : decode cX12_addsWave 33 = .ok (.invokevirtual 348, 3) := by decide +kernel
theorem dX12_addsWave_36 : decode cX12_addsWave 36 = .ok (.iload_n 3, 1) := by decide +kernel
theorem dX12_addsWave_37 : decode cX12_addsWave 37 = .ok (.imul, 1) := by decide +kernel
theorem dX12_addsWave_38 : decode cX12_addsWave 38 = .ok (.istore 6, 2) := by decide +kernel
theorem dX12_addsWave_40 : decode cX12_addsWave 40 = .ok (.aload_n 0, 1) := by decide +kernel
theorem dX12_addsWave_41 : decode cX12_addsWave 41 = .ok (.getfield 127, 3) := by decide +kernel
theorem dX12_addsWave_44 : decode cX12_addsWave 44 = .ok (.sipush 512, 3) := by decide +kernel
theorem dX12_addsWave_47 : decode cX12_addsWave 47 = .ok (.iload_n 2, 1) := by decide +kernel
theorem dX12_addsWave_48 : decode cX12_addsWave 48 = .ok (.imul, 1) := by decide +kernel
theorem dX12_addsWave_49 : decode cX12_addsWave 49 = .ok (.iload 5, 2) := by decide +kernel
theorem dX12_addsWave_51 : decode cX12_addsWave 51 = .ok (.iadd, 1) := by decide +kernel
theorem dX12_addsWave_52 : decode cX12_addsWave 52 = .ok (.baload, 1) := by decide +kernel
theorem dX12_addsWave_53 : decode cX12_addsWave 53 = .ok (.iconst 1, 1) := by decide +kernel
theorem dX12_addsWave_54 : decode cX12_addsWave 54 = .ok (.if_icmp .ne 8, 3) := by decide +kernel
theorem dX12_addsWave_57 : decode cX12_addsWave 57 = .ok (.iload 6, 2) := by decide +kernel
theorem dX12_addsWave_59 : decode cX12_addsWave 59 = .ok (.ineg, 1) := by decide +kernel
theorem dX12_addsWave_60 : decode cX12_addsWave 60 = .ok (.istore 6, 2) := by decide +kernel
theorem dX12_addsWave_62 : decode cX12_addsWave 62 = .ok (.aload_n 0, 1) := by decide +kernel
theorem dX12_addsWave_63 : decode cX12_addsWave 63 = .ok (.iload_n 2, 1) := by decide +kernel
theorem dX12_addsWave_64 : decode cX12_addsWave 64 = .ok (.iload 4, 2) := by decide +kernel
theorem dX12_addsWave_66 : decode cX12_addsWave 66 = .ok (.invokevirtual 351, 3) := by decide +kernel
theorem dX12_addsWave_69 : decode cX12_addsWave 69 = .ok (.istore 7, 2) := by decide +kernel
theorem dX12_addsWave_71 : decode cX12_addsWave 71 = .ok (.aload_n 0, 1) := by decide +kernel
theorem dX12_addsWave_72 : decode cX12_addsWave 72 = .ok (.aload_n 1, 1) := by decide +kernel
theorem dX12_addsWave_73 : decode cX12_addsWave 73 = .ok (.iload 4, 2) := by decide +kernel
theorem dX12_addsWave_75 : decode cX12_addsWave 75 = .ok (.iload 7, 2) := by decide +kernel
theorem dX12_addsWave_77 : decode cX12_addsWave 77 = .ok (.iload 6, 2) := by decide +kernel
theorem dX12_addsWave_79 : decode cX12_addsWave 79 = .ok (.aload_n 0, 1) := by decide +kernel
theorem dX12_addsWave_80 : decode cX12_addsWave 80 = .ok (.getfield 76, 3) := by decide +kernel
theorem dX12_addsWave_83 : decode cX12_addsWave 83 = .ok (.bipush 6, 2) := by decide +kernel
theorem dX12_addsWave_85 : decode cX12_addsWave 85 = .ok (.aload_n 0, 1) := by decide +kernel
theorem dX12_addsWave_86 : decode cX12_addsWave 86 = .ok (.getfield 242, 3) := by decide +kernel
theorem dX12_addsWave_89 : decode cX12_addsWave 89 = .ok (.imul, 1) := by decide +kernel
theorem dX12_addsWave_90 : decode cX12_addsWave 90 = .ok (.iload_n 2, 1) := by decide +kernel
theorem dX12_addsWave_91 : decode cX12_addsWave 91 = .ok (.iadd, 1) := by decide +kernel
theorem dX12_addsWave_92 : decode cX12_addsWave 92 = .ok (.iaload, 1) := by decide +kernel
theorem dX12_addsWave_93 : decode cX12_addsWave 93 = .ok (.imul, 1) := by decide +kernel
theorem dX12_addsWave_94 : decode cX12_addsWave 94 = .ok (.invokevirtual 355, 3) := by decide +kernel
theorem dX12_addsWave_97 : decode cX12_addsWave 97 = .ok (.iconst 0, 1) := by decide +kernel
theorem dX12_addsWave_98 : decode cX12_addsWave 98 = .ok (.istore 8, 2) := by decide +kernel
theorem dX12_addsWave_100 : decode cX12_addsWave 100 = .ok (.iload 8, 2) := by decide +kernel
theorem dX12_addsWave_102 : decode cX12_addsWave 102 = .ok (.aload_n 0, 1) := by decide +kernel
theorem dX12_addsWave_103 : decode cX12_addsWave 103 = .ok (.getfield 91, 3) := by decide +kernel
theorem dX12_addsWave_106 : decode cX12_addsWave 106 = .ok (.aload_n 0, 1) := by decide +kernel
theorem dX12_addsWave_107 : decode cX12_addsWave 107 = .ok (.getfield 242, 3) := by decide +kernel
theorem dX12_addsWave_110 : decode cX12_addsWave 110 = .ok (.iaload, 1) := by decide +kernel
theorem dX12_addsWave_111 : decode cX12_addsWave 111 = .ok (.if_icmp .ge 76, 3) := by decide +kernel
theorem dX12_addsWave_114 : decode cX12_addsWave 114 = .ok (.bipush 6, 2) := by decide +kernel
theorem dX12_addsWave_116 : decode cX12_addsWave 116 = .ok (.aload_n 0, 1) := by decide +kernel
theorem dX12_addsWave_117 : decode cX12_addsWave 117 = .ok (.getfield 242, 3) := by decide +kernel
theorem dX12_addsWave_120 : decode cX12_addsWave 120 = .ok (.imul, 1) := by decide +kernel
theorem dX12_addsWave_121 : decode cX12_addsWave 121 = .ok (.iload 8, 2) := by decide +kernel
theorem dX12_addsWave_123 : decode cX12_addsWave 123 = .ok (.iadd, 1) := by decide +kernel
theorem dX12_addsWave_124 : decode cX12_addsWave 124 = .ok (.istore 9, 2) := by decide +kernel
theorem dX12_addsWave_126 : decode cX12_addsWave 126 = .ok (.aload_n 0, 1) := by decide +kernel
theorem dX12_addsWave_127 : decode cX12_addsWave 127 = .ok (.getfield 94, 3) := by decide +kernel
theorem dX12_addsWave_130 : decode cX12_addsWave 130 = .ok (.iload 9, 2) := by decide +kernel
theorem dX12_addsWave_132 : decode cX12_addsWave 132 = .ok (.iaload, 1) := by decide +kernel
theorem dX12_addsWave_133 : decode cX12_addsWave 133 = .ok (.iload_n 2, 1) := by decide +kernel
theorem dX12_addsWave_134 : decode cX12_addsWave 134 = .ok (.if_icmp .ne 47, 3) := by decide +kernel
theorem dX12_addsWave_137 : decode cX12_addsWave 137 = .ok (.iload 4, 2) := by decide +kernel
theorem dX12_addsWave_139 : decode cX12_addsWave 139 = .ok (.aload_n 0, 1) := by decide +kernel
theorem dX12_addsWave_140 : decode cX12_addsWave 140 = .ok (.getfield 97, 3) := by decide +kernel
theorem dX12_addsWave_143 : decode cX12_addsWave 143 = .ok (.iload 9, 2) := by decide +kernel
theorem dX12_addsWave_145 : decode cX12_addsWave 145 = .ok (.iaload, 1) := by decide +kernel
theorem dX12_addsWave_146 : decode cX12_addsWave 146 = .ok (.iadd, 1) := by decide +kernel
theorem dX12_addsWave_147 : decode cX12_addsWave 147 = .ok (.aload_n 0, 1) := by decide +kernel
theorem dX12_addsWave_148 : decode cX12_addsWave 148 = .ok (.invokevirtual 342, 3) := by decide +kernel
theorem dX12_addsWave_151 : decode cX12_addsWave 151 = .ok (.if_icmp .ge 30, 3) := by decide +kernel
theorem dX12_addsWave_154 : decode cX12_addsWave 154 = .ok (.aload_n 0, 1) := by decide +kernel
theorem dX12_addsWave_155 : decode cX12_addsWave 155 = .ok (.aload_n 1, 1) := by decide +kernel
theorem dX12_addsWave_156 : decode cX12_addsWave 156 = .ok (.iload 4, 2) := by decide +kernel
theorem dX12_addsWave_158 : decode cX12_addsWave 158 = .ok (.aload_n 0, 1) := by decide +kernel
theorem dX12_addsWave_159 : decode cX12_addsWave 159 = .ok (.getfield 97, 3) := by decide +kernel
theorem dX12_addsWave_162 : decode cX12_addsWave 162 = .ok (.iload 9, 2) := by decide +kernel
theorem dX12_addsWave_164 : decode cX12_addsWave 164 = .ok (.iaload, 1) := by decide +kernel
theorem dX12_addsWave_165 : decode cX12_addsWave 165 = .ok (.iadd, 1) := by decide +kernel
theorem dX12_addsWave_166 : decode cX12_addsWave 166 = .ok (.iload 7, 2) := by decide +kernel
theorem dX12_addsWave_168 : decode cX12_addsWave 168 = .ok (.iload 6, 2) := by decide +kernel
theorem dX12_addsWave_170 : decode cX12_addsWave 170 = .ok (.aload_n 0, 1) := by decide +kernel
theorem dX12_addsWave_171 : decode cX12_addsWave 171 = .ok (.getfield 100, 3) := by decide +kernel
theorem dX12_addsWave_174 : decode cX12_addsWave 174 = .ok (.iload 9, 2) := by decide +kernel
theorem dX12_addsWave_176 : decode cX12_addsWave 176 = .ok (.iaload, 1) := by decide +kernel
theorem dX12_addsWave_177 : decode cX12_addsWave 177 = .ok (.imul, 1) := by decide +kernel
theorem dX12_addsWave_178 : decode cX12_addsWave 178 = .ok (.invokevirtual 355, 3) := by decide +kernel
theorem dX12_addsWave_181 : decode cX12_addsWave 181 = .ok (.iinc 8 1, 3) := by decide +kernel
theorem dX12_addsWave_184 : decode cX12_addsWave 184 = .ok (.goto (-84), 3) := by decide +kernel
theorem dX12_addsWave_187 : decode cX12_addsWave 187 = .ok (.iinc 4 1, 3) := by decide +kernel
theorem dX12_addsWave_190 : decode cX12_addsWave 190 = .ok (.goto (-187), 3) := by decide +kernel
theorem dX12_addsWave_193 : decode cX12_addsWave 193 = .ok (.return_, 1) := by decide +kernel
set_option maxRecDepth 100000 in
theorem c_X12_addsWave (l : Launch) (D : q_D) (al : q_Al) (dt : q_Dt) (x0 : Nat) (x1 : Nat) (x2 : Int32) (x3 : Int32) (kx0 : al.1 x0 = 13) (kx1 : al.1 x1 = 21) (dt0 : q_Dt) (hm : X12_addsWave al dt x0 x1 x2 x3 = some dt0) : q_Mt l yX12_addsWave cX12_addsWave 10 (none) 3 68 D al [.ref x0, .ref x1, .int x2, .int x3] dt 0 none dt0 := by
  refine q_Mt.of (by decide) (Nat.le_of_ble_eq_true rfl) ?_
  intro p e s m args below meth c ls C hargs hW hl
  have hx := C.1
  have hb := C.2.1
  have hown := C.2.2.2.2.2.1
  have hts := C.2.2.2.2.2.2.1
  have hS : va_S (q_A al) s.heap s.heap [] := va_S.rf
  have hl : lv_has ls 10 [(0, .ref x0), (1, .ref x1), (2, .int x2), (3, .int x3)] := hl
  unfold X12_addsWave at hm
  have hB3 : ∀ (x0_3 : Nat) (x1_3 : Nat) (x2_3 : Int32) (x3_3 : Int32) (kx0_3 : al.1 x0_3 = 13) (kx1_3 : al.1 x1_3 = 21) (n_3 : Nat) (x4_3 : Int32) (dt : q_Dt) (H : Heap) (locs : List Loc) (ls : Array Slot) (hm : X12_addsWave_b3 al x0_3 x1_3 x2_3 x3_3 n_3 x4_3 dt = some dt0) (hW : q_W D al dt H) (hS : va_S (q_A al) s.heap H locs) (hl : lv_has ls 10 [(0, .ref x0_3), (1, .ref x1_3), (2, .int x2_3), (3, .int x3_3), (4, .int x4_3)]), W p l e { frames := 3, cells := 0, slots := 0, locals := 68 } s m args below meth c H locs 0 0 (MQ below (q_Q none (fun H => q_W D al dt0 H ∧ q_Rk al 0 none) (q_A al)) args s 0 0 (q_A al)) (F0 m 3 ls []) := by
    intro x0_3 x1_3 x2_3 x3_3 kx0_3 kx1_3
    intro n_3
    induction n_3 with
    | zero => intro x4_3 dt H locs ls hm hW hS hl; cases hm
    | succ n_3 ih3 =>
      have hB187 : ∀ (x4_187 : Int32) (dt : q_Dt) (H : Heap) (locs : List Loc) (ls : Array Slot) (hm : X12_addsWave_b187 al (X12_addsWave_b3 al x0_3 x1_3 x2_3 x3_3 n_3) x0_3 x1_3 x2_3 x3_3 x4_187 dt = some dt0) (hW : q_W D al dt H) (hS : va_S (q_A al) s.heap H locs) (hl : lv_has ls 10 [(0, .ref x0_3), (1, .ref x1_3), (2, .int x2_3), (3, .int x3_3), (4, .int x4_187)]), W p l e { frames := 3, cells := 0, slots := 0, locals := 68 } s m args below meth c H locs 0 0 (MQ below (q_Q none (fun H => q_W D al dt0 H ∧ q_Rk al 0 none) (q_A al)) args s 0 0 (q_A al)) (F0 m 187 ls []) := by
        intro x4_187 dt H locs ls hm hW hS hl
        unfold X12_addsWave_b187 at hm
        refine lv_iinc (v := (x4_187 + 1)) (lv' := [(4, .int (x4_187 + 1)), (0, .ref x0_3), (1, .ref x1_3), (2, .int x2_3), (3, .int x3_3)]) hx hb dX12_addsWave_187 hl (k := 4) rfl rfl (by decide) rfl (fun ls hl => ?_)
        refine lv_goto (tgt := 3) hx hb dX12_addsWave_190 (by decide) ?_
        exact ih3 (x4_187 + 1) dt _ _ _ hm hW hS (lv_sub hl [1, 2, 3, 4, 0] rfl)
      have hB100 : ∀ (x4_100 : Int32) (x6_100 : Int32) (x7_100 : Int32) (n_100 : Nat) (x8_100 : Int32) (dt : q_Dt) (H : Heap) (locs : List Loc) (ls : Array Slot) (hm : X12_addsWave_b100 al (X12_addsWave_b3 al x0_3 x1_3 x2_3 x3_3 n_3) x0_3 x1_3 x2_3 x3_3 x4_100 x6_100 x7_100 n_100 x8_100 dt = some dt0) (hW : q_W D al dt H) (hS : va_S (q_A al) s.heap H locs) (hl : lv_has ls 10 [(0, .ref x0_3), (1, .ref x1_3), (2, .int x2_3), (3, .int x3_3), (4, .int x4_100), (6, .int x6_100), (7, .int x7_100), (8, .int x8_100)]), W p l e { frames := 3, cells := 0, slots := 0, locals := 68 } s m args below meth c H locs 0 0 (MQ below (q_Q none (fun H => q_W D al dt0 H ∧ q_Rk al 0 none) (q_A al)) args s 0 0 (q_A al)) (F0 m 100 ls []) := by
        intro x4_100 x6_100 x7_100
        intro n_100
        induction n_100 with
        | zero => intro x8_100 dt H locs ls hm hW hS hl; cases hm
        | succ n_100 ih100 =>
          have hB181 : ∀ (x8_181 : Int32) (dt : q_Dt) (H : Heap) (locs : List Loc) (ls : Array Slot) (hm : X12_addsWave_b181 al (X12_addsWave_b3 al x0_3 x1_3 x2_3 x3_3 n_3) (X12_addsWave_b100 al (X12_addsWave_b3 al x0_3 x1_3 x2_3 x3_3 n_3) x0_3 x1_3 x2_3 x3_3 x4_100 x6_100 x7_100 n_100) x0_3 x1_3 x2_3 x3_3 x4_100 x6_100 x7_100 x8_181 dt = some dt0) (hW : q_W D al dt H) (hS : va_S (q_A al) s.heap H locs) (hl : lv_has ls 10 [(0, .ref x0_3), (1, .ref x1_3), (2, .int x2_3), (3, .int x3_3), (4, .int x4_100), (6, .int x6_100), (7, .int x7_100), (8, .int x8_181)]), W p l e { frames := 3, cells := 0, slots := 0, locals := 68 } s m args below meth c H locs 0 0 (MQ below (q_Q none (fun H => q_W D al dt0 H ∧ q_Rk al 0 none) (q_A al)) args s 0 0 (q_A al)) (F0 m 181 ls []) := by
            intro x8_181 dt H locs ls hm hW hS hl
            unfold X12_addsWave_b181 at hm
            refine lv_iinc (v := (x8_181 + 1)) (lv' := [(8, .int (x8_181 + 1)), (0, .ref x0_3), (1, .ref x1_3), (2, .int x2_3), (3, .int x3_3), (4, .int x4_100), (6, .int x6_100), (7, .int x7_100)]) hx hb dX12_addsWave_181 hl (k := 7) rfl rfl (by decide) rfl (fun ls hl => ?_)
            refine lv_goto (tgt := 100) hx hb dX12_addsWave_184 (by decide) ?_
            exact ih100 (x8_181 + 1) dt _ _ _ hm hW hS (lv_sub hl [1, 2, 3, 4, 5, 6, 7, 0] rfl)
          intro x8_100 dt H locs ls hm hW hS hl
          rw [X12_addsWave_b100] at hm
          refine lv_iload hx hb dX12_addsWave_100 (lv_at hl 7 rfl) ?_
          refine lv_aload_n hx hb dX12_addsWave_102 rfl (lv_at hl 0 rfl) ?_
          refine r_getF C hW (ci := 12) kx0_3 ff_12_38 cl_12 fl_RX12_91 dX12_addsWave_103 (fun k100001 => ?_)
          refine lv_aload_n hx hb dX12_addsWave_106 rfl (lv_at hl 0 rfl) ?_
          refine r_getI C hW (ci := 12) kx0_3 ff_12_18 cl_12 fl_RX12_242 dX12_addsWave_107 ?_
          refine r_iald C hW hm k100001 dX12_addsWave_110 (fun hm => ?_)
          refine q_ifc hm (fun c100002 hm => ?_) (fun c100002 hm => ?_)
          · refine lv_icmp_ge (tgt := 187) hx hb dX12_addsWave_111 (by decide) (fun _ => ?_) (fun h => absurd c100002 h)
            exact hB187 x4_100 dt _ _ _ hm hW hS (lv_sub hl [0, 1, 2, 3, 4] rfl)
          refine lv_icmp_ge (tgt := 187) hx hb dX12_addsWave_111 (by decide) (fun h => absurd h c100002) (fun _ => ?_)
          refine lv_bipush (v := 6) hx hb dX12_addsWave_114 (by decide) ?_
          refine lv_aload_n hx hb dX12_addsWave_116 rfl (lv_at hl 0 rfl) ?_
          refine r_getI C hW (ci := 12) kx0_3 ff_12_18 cl_12 fl_RX12_242 dX12_addsWave_117 ?_
          refine lv_imul hx hb dX12_addsWave_120 ?_
          refine lv_iload hx hb dX12_addsWave_121 (lv_at hl 7 rfl) ?_
          refine lv_iadd hx hb dX12_addsWave_123 ?_
          refine lv_istore (i := 9) (lv' := [(9, .int ((6 * (dt.1 x0_3 18)) + x8_100)), (0, .ref x0_3), (1, .ref x1_3), (2, .int x2_3), (3, .int x3_3), (4, .int x4_100), (6, .int x6_100), (7, .int x7_100), (8, .int x8_100)]) hx hb dX12_addsWave_124 hl (by decide) rfl (fun ls hl => ?_)
          refine lv_aload_n hx hb dX12_addsWave_126 rfl (lv_at hl 1 rfl) ?_
          refine r_getF C hW (ci := 12) kx0_3 ff_12_39 cl_12 fl_RX12_94 dX12_addsWave_127 (fun k100003 => ?_)
          refine lv_iload hx hb dX12_addsWave_130 (lv_at hl 0 rfl) ?_
          refine r_iald C hW hm k100003 dX12_addsWave_132 (fun hm => ?_)
          refine lv_iload_n hx hb dX12_addsWave_133 rfl (lv_at hl 3 rfl) ?_
          refine q_ifc hm (fun c100004 hm => ?_) (fun c100004 hm => ?_)
          · refine lv_icmp_ne (tgt := 181) hx hb dX12_addsWave_134 (by decide) (fun h => absurd c100004 h) (fun _ => ?_)
            refine lv_iload hx hb dX12_addsWave_137 (lv_at hl 5 rfl) ?_
            refine lv_aload_n hx hb dX12_addsWave_139 rfl (lv_at hl 1 rfl) ?_
            refine r_getF C hW (ci := 12) kx0_3 ff_12_40 cl_12 fl_RX12_97 dX12_addsWave_140 (fun k100005 => ?_)
            refine lv_iload hx hb dX12_addsWave_143 (lv_at hl 0 rfl) ?_
            refine r_iald C hW hm k100005 dX12_addsWave_145 (fun hm => ?_)
            refine lv_iadd hx hb dX12_addsWave_146 ?_
            refine lv_aload_n hx hb dX12_addsWave_147 rfl (lv_at hl 1 rfl) ?_
            obtain ⟨v100007, hc100006, hm⟩ := q_b1i hm
            refine q_callV C hW hS (As := []) (rest := [.int (x4_100 + (dt.1 (al.2.2 x0_3 40) (Int32.toNatClampNeg ((6 * (dt.1 x0_3 18)) + x8_100))))]) (st1 := [.int v100007, .int (x4_100 + (dt.1 (al.2.2 x0_3 40) (Int32.toNatClampNeg ((6 * (dt.1 x0_3 18)) + x8_100))))]) (c_X12_n l D al dt x0_3 kx0_3 v100007 hc100006) yl_X12_n vl_X12_n ml_RX12_342 (ci := 12) rfl kx0_3 (by decide) rfl ⟨Nat.le_of_ble_eq_true rfl, Nat.le_of_ble_eq_true rfl⟩ hl rfl (Nat.le_of_ble_eq_true rfl) dX12_addsWave_148 ⟨Nat.le_refl _, Nat.le_refl _⟩ rfl (fun H locs k100008 hW hS => ?_)
            refine q_ifc hm (fun c100009 hm => ?_) (fun c100009 hm => ?_)
            · refine lv_icmp_ge (tgt := 181) hx hb dX12_addsWave_151 (by decide) (fun _ => ?_) (fun h => absurd c100009 h)
              exact hB181 x8_100 dt _ _ _ hm hW hS (lv_sub hl [1, 2, 3, 4, 5, 6, 7, 8] rfl)
            refine lv_icmp_ge (tgt := 181) hx hb dX12_addsWave_151 (by decide) (fun h => absurd h c100009) (fun _ => ?_)
            refine lv_aload_n hx hb dX12_addsWave_154 rfl (lv_at hl 1 rfl) ?_
            refine lv_aload_n hx hb dX12_addsWave_155 rfl (lv_at hl 2 rfl) ?_
            refine lv_iload hx hb dX12_addsWave_156 (lv_at hl 5 rfl) ?_
            refine lv_aload_n hx hb dX12_addsWave_158 rfl (lv_at hl 1 rfl) ?_
            refine r_getF C hW (ci := 12) kx0_3 ff_12_40 cl_12 fl_RX12_97 dX12_addsWave_159 (fun k100010 => ?_)
            refine lv_iload hx hb dX12_addsWave_162 (lv_at hl 0 rfl) ?_
            refine r_iald C hW hm k100010 dX12_addsWave_164 (fun hm => ?_)
            refine lv_iadd hx hb dX12_addsWave_165 ?_
            refine lv_iload hx hb dX12_addsWave_166 (lv_at hl 7 rfl) ?_
            refine lv_iload hx hb dX12_addsWave_168 (lv_at hl 6 rfl) ?_
            refine lv_aload_n hx hb dX12_addsWave_170 rfl (lv_at hl 1 rfl) ?_
            refine r_getF C hW (ci := 12) kx0_3 ff_12_41 cl_12 fl_RX12_100 dX12_addsWave_171 (fun k100011 => ?_)
            refine lv_iload hx hb dX12_addsWave_174 (lv_at hl 0 rfl) ?_
            refine r_iald C hW hm k100011 dX12_addsWave_176 (fun hm => ?_)
            refine lv_imul hx hb dX12_addsWave_177 ?_
            obtain ⟨dt100013, hc100012, hm⟩ := q_b1i hm
            refine q_callV C hW hS (As := [.ref x1_3, .int (x4_100 + (dt.1 (al.2.2 x0_3 40) (Int32.toNatClampNeg ((6 * (dt.1 x0_3 18)) + x8_100)))), .int x7_100, .int (x6_100 * (dt.1 (al.2.2 x0_3 41) (Int32.toNatClampNeg ((6 * (dt.1 x0_3 18)) + x8_100))))]) (rest := []) (st1 := []) (c_X12_adds l D al dt x0_3 x1_3 (x4_100 + (dt.1 (al.2.2 x0_3 40) (Int32.toNatClampNeg ((6 * (dt.1 x0_3 18)) + x8_100)))) x7_100 (x6_100 * (dt.1 (al.2.2 x0_3 41) (Int32.toNatClampNeg ((6 * (dt.1 x0_3 18)) + x8_100)))) kx0_3 kx1_3 dt100013 hc100012) yl_X12_adds vl_X12_adds ml_RX12_355 (ci := 12) rfl kx0_3 (by decide) rfl ⟨Nat.le_of_ble_eq_true rfl, Nat.le_of_ble_eq_true rfl⟩ hl rfl (Nat.le_of_ble_eq_true rfl) dX12_addsWave_178 ⟨Nat.le_refl _, Nat.le_refl _⟩ rfl (fun H locs k100014 hW hS => ?_)
            exact hB181 x8_100 dt100013 _ _ _ hm hW hS (lv_sub hl [1, 2, 3, 4, 5, 6, 7, 8] rfl)
          refine lv_icmp_ne (tgt := 181) hx hb dX12_addsWave_134 (by decide) (fun _ => ?_) (fun h => absurd h c100004)
          exact hB181 x8_100 dt _ _ _ hm hW hS (lv_sub hl [1, 2, 3, 4, 5, 6, 7, 8] rfl)
      have hB62 : ∀ (x4_62 : Int32) (x6_62 : Int32) (dt : q_Dt) (H : Heap) (locs : List Loc) (ls : Array Slot) (hm : X12_addsWave_b62 al (X12_addsWave_b3 al x0_3 x1_3 x2_3 x3_3 n_3) x0_3 x1_3 x2_3 x3_3 x4_62 x6_62 dt = some dt0) (hW : q_W D al dt H) (hS : va_S (q_A al) s.heap H locs) (hl : lv_has ls 10 [(0, .ref x0_3), (1, .ref x1_3), (2, .int x2_3), (3, .int x3_3), (4, .int x4_62), (6, .int x6_62)]), W p l e { frames := 3, cells := 0, slots := 0, locals := 68 } s m args below meth c H locs 0 0 (MQ below (q_Q none (fun H => q_W D al dt0 H ∧ q_Rk al 0 none) (q_A al)) args s 0 0 (q_A al)) (F0 m 62 ls []) := by
        intro x4_62 x6_62 dt H locs ls hm hW hS hl
        unfold X12_addsWave_b62 at hm
        refine lv_aload_n hx hb dX12_addsWave_62 rfl (lv_at hl 0 rfl) ?_
        refine lv_iload_n hx hb dX12_addsWave_63 rfl (lv_at hl 2 rfl) ?_
        refine lv_iload hx hb dX12_addsWave_64 (lv_at hl 4 rfl) ?_
        obtain ⟨v62002, hc62001, hm⟩ := q_b1i hm
        refine q_callV C hW hS (As := [.int x2_3, .int x4_62]) (rest := []) (st1 := [.int v62002]) (c_X12_isIm l D al dt x0_3 x2_3 x4_62 kx0_3 v62002 hc62001) yl_X12_isIm vl_X12_isIm ml_RX12_351 (ci := 12) rfl kx0_3 (by decide) rfl ⟨Nat.le_of_ble_eq_true rfl, Nat.le_of_ble_eq_true rfl⟩ hl rfl (Nat.le_of_ble_eq_true rfl) dX12_addsWave_66 ⟨Nat.le_refl _, Nat.le_refl _⟩ rfl (fun H locs k62003 hW hS => ?_)
        refine lv_istore (i := 7) (lv' := [(7, .int v62002), (0, .ref x0_3), (1, .ref x1_3), (2, .int x2_3), (3, .int x3_3), (4, .int x4_62), (6, .int x6_62)]) hx hb dX12_addsWave_69 hl (by decide) rfl (fun ls hl => ?_)
        refine lv_aload_n hx hb dX12_addsWave_71 rfl (lv_at hl 1 rfl) ?_
        refine lv_aload_n hx hb dX12_addsWave_72 rfl (lv_at hl 2 rfl) ?_
        refine lv_iload hx hb dX12_addsWave_73 (lv_at hl 5 rfl) ?_
        refine lv_iload hx hb dX12_addsWave_75 (lv_at hl 0 rfl) ?_
        refine lv_iload hx hb dX12_addsWave_77 (lv_at hl 6 rfl) ?_
        refine lv_aload_n hx hb dX12_addsWave_79 rfl (lv_at hl 1 rfl) ?_
        refine r_getF C hW (ci := 12) kx0_3 ff_12_33 cl_12 fl_RX12_76 dX12_addsWave_80 (fun k62004 => ?_)
        refine lv_bipush (v := 6) hx hb dX12_addsWave_83 (by decide) ?_
        refine lv_aload_n hx hb dX12_addsWave_85 rfl (lv_at hl 1 rfl) ?_
        refine r_getI C hW (ci := 12) kx0_3 ff_12_18 cl_12 fl_RX12_242 dX12_addsWave_86 ?_
        refine lv_imul hx hb dX12_addsWave_89 ?_
        refine lv_iload_n hx hb dX12_addsWave_90 rfl (lv_at hl 3 rfl) ?_
        refine lv_iadd hx hb dX12_addsWave_91 ?_
        refine r_iald C hW hm k62004 dX12_addsWave_92 (fun hm => ?_)
        refine lv_imul hx hb dX12_addsWave_93 ?_
        obtain ⟨dt62006, hc62005, hm⟩ := q_b1i hm
        refine q_callV C hW hS (As := [.ref x1_3, .int x4_62, .int v62002, .int (x6_62 * (dt.1 (al.2.2 x0_3 33) (Int32.toNatClampNeg ((6 * (dt.1 x0_3 18)) + x2_3))))]) (rest := []) (st1 := []) (c_X12_adds l D al dt x0_3 x1_3 x4_62 v62002 (x6_62 * (dt.1 (al.2.2 x0_3 33) (Int32.toNatClampNeg ((6 * (dt.1 x0_3 18)) + x2_3)))) kx0_3 kx1_3 dt62006 hc62005) yl_X12_adds vl_X12_adds ml_RX12_355 (ci := 12) rfl kx0_3 (by decide) rfl ⟨Nat.le_of_ble_eq_true rfl, Nat.le_of_ble_eq_true rfl⟩ hl rfl (Nat.le_of_ble_eq_true rfl) dX12_addsWave_94 ⟨Nat.le_refl _, Nat.le_refl _⟩ rfl (fun H locs k62007 hW hS => ?_)
        refine lv_iconst (v := 0) hx hb dX12_addsWave_97 (by decide) ?_
        refine lv_istore (i := 8) (lv' := [(8, .int 0), (7, .int v62002), (0, .ref x0_3), (1, .ref x1_3), (2, .int x2_3), (3, .int x3_3), (4, .int x4_62), (6, .int x6_62)]) hx hb dX12_addsWave_98 hl (by decide) rfl (fun ls hl => ?_)
        exact hB100 x4_62 x6_62 v62002 q_FU 0 dt62006 _ _ _ hm hW hS (lv_sub hl [2, 3, 4, 5, 6, 7, 1, 0] rfl)
      intro x4_3 dt H locs ls hm hW hS hl
      rw [X12_addsWave_b3] at hm
      refine lv_iload hx hb dX12_addsWave_3 (lv_at hl 4 rfl) ?_
      refine lv_aload_n hx hb dX12_addsWave_5 rfl (lv_at hl 0 rfl) ?_
      obtain ⟨v3002, hc3001, hm⟩ := q_b1i hm
      refine q_callV C hW hS (As := []) (rest := [.int x4_3]) (st1 := [.int v3002, .int x4_3]) (c_X12_n l D al dt x0_3 kx0_3 v3002 hc3001) yl_X12_n vl_X12_n ml_RX12_342 (ci := 12) rfl kx0_3 (by decide) rfl ⟨Nat.le_of_ble_eq_true rfl, Nat.le_of_ble_eq_true rfl⟩ hl rfl (Nat.le_of_ble_eq_true rfl) dX12_addsWave_6 ⟨Nat.le_refl _, Nat.le_refl _⟩ rfl (fun H locs k3003 hW hS => ?_)
      refine q_ifc hm (fun c3004 hm => ?_) (fun c3004 hm => ?_)
      · refine lv_icmp_ge (tgt := 193) hx hb dX12_addsWave_9 (by decide) (fun _ => ?_) (fun h => absurd c3004 h)
        exact e_vD C hW hS hm dX12_addsWave_193
      refine lv_icmp_ge (tgt := 193) hx hb dX12_addsWave_9 (by decide) (fun h => absurd h c3004) (fun _ => ?_)
      refine lv_aload_n hx hb dX12_addsWave_12 rfl (lv_at hl 0 rfl) ?_
      refine lv_iload_n hx hb dX12_addsWave_13 rfl (lv_at hl 2 rfl) ?_
      refine lv_iload hx hb dX12_addsWave_14 (lv_at hl 4 rfl) ?_
      obtain ⟨v3006, hc3005, hm⟩ := q_b1i hm
      refine q_callV C hW hS (As := [.int x2_3, .int x4_3]) (rest := []) (st1 := [.int v3006]) (c_X12_periodAt l D al dt x0_3 x2_3 x4_3 kx0_3 v3006 hc3005) yl_X12_periodAt vl_X12_periodAt ml_RX12_345 (ci := 12) rfl kx0_3 (by decide) rfl ⟨Nat.le_of_ble_eq_true rfl, Nat.le_of_ble_eq_true rfl⟩ hl rfl (Nat.le_of_ble_eq_true rfl) dX12_addsWave_16 ⟨Nat.le_refl _, Nat.le_refl _⟩ rfl (fun H locs k3007 hW hS => ?_)
      refine lv_istore (i := 5) (lv' := [(5, .int v3006), (0, .ref x0_3), (1, .ref x1_3), (2, .int x2_3), (3, .int x3_3), (4, .int x4_3)]) hx hb dX12_addsWave_19 hl (by decide) rfl (fun ls hl => ?_)
      refine lv_iload hx hb dX12_addsWave_21 (lv_at hl 0 rfl) ?_
      refine q_ifc hm (fun c3008 hm => ?_) (fun c3008 hm => ?_)
      · refine lv_if_ge (tgt := 29) hx hb dX12_addsWave_23 (by decide) (fun _ => ?_) (fun h => absurd c3008 h)
        refine lv_aload_n hx hb dX12_addsWave_29 rfl (lv_at hl 1 rfl) ?_
        refine lv_iload_n hx hb dX12_addsWave_30 rfl (lv_at hl 3 rfl) ?_
        refine lv_iload hx hb dX12_addsWave_31 (lv_at hl 5 rfl) ?_
        obtain ⟨v3010, hc3009, hm⟩ := q_b1i hm
        refine q_callV C hW hS (As := [.int x2_3, .int x4_3]) (rest := []) (st1 := [.int v3010]) (c_X12_signAt l D al dt x0_3 x2_3 x4_3 kx0_3 v3010 hc3009) yl_X12_signAt vl_X12_signAt ml_RX12_348 (ci := 12) rfl kx0_3 (by decide) rfl ⟨Nat.le_of_ble_eq_true rfl, Nat.le_of_ble_eq_true rfl⟩ hl rfl (Nat.le_of_ble_eq_true rfl) dX12_addsWave_33 ⟨Nat.le_refl _, Nat.le_refl _⟩ rfl (fun H locs k3011 hW hS => ?_)
        refine lv_iload_n hx hb dX12_addsWave_36 rfl (lv_at hl 4 rfl) ?_
        refine lv_imul hx hb dX12_addsWave_37 ?_
        refine lv_istore (i := 6) (lv' := [(6, .int (v3010 * x3_3)), (5, .int v3006), (0, .ref x0_3), (1, .ref x1_3), (2, .int x2_3), (3, .int x3_3), (4, .int x4_3)]) hx hb dX12_addsWave_38 hl (by decide) rfl (fun ls hl => ?_)
        refine lv_aload_n hx hb dX12_addsWave_40 rfl (lv_at hl 2 rfl) ?_
        refine r_getF C hW (ci := 12) kx0_3 ff_12_51 cl_12 fl_RX12_127 dX12_addsWave_41 (fun k3012 => ?_)
        refine lv_sipush (v := 512) hx hb dX12_addsWave_44 (by decide) ?_
        refine lv_iload_n hx hb dX12_addsWave_47 rfl (lv_at hl 4 rfl) ?_
        refine lv_imul hx hb dX12_addsWave_48 ?_
        refine lv_iload hx hb dX12_addsWave_49 (lv_at hl 1 rfl) ?_
        refine lv_iadd hx hb dX12_addsWave_51 ?_
        refine r_bald C hW hm k3012 dX12_addsWave_52 (fun hm => ?_)
        refine lv_iconst (v := 1) hx hb dX12_addsWave_53 (by decide) ?_
        refine q_ifc hm (fun c3013 hm => ?_) (fun c3013 hm => ?_)
        · refine lv_icmp_ne (tgt := 62) hx hb dX12_addsWave_54 (by decide) (fun h => absurd c3013 h) (fun _ => ?_)
          refine lv_iload hx hb dX12_addsWave_57 (lv_at hl 0 rfl) ?_
          refine lv_ineg hx hb dX12_addsWave_59 ?_
          refine lv_istore (i := 6) (lv' := [(6, .int (-(v3010 * x3_3))), (5, .int v3006), (0, .ref x0_3), (1, .ref x1_3), (2, .int x2_3), (3, .int x3_3), (4, .int x4_3)]) hx hb dX12_addsWave_60 hl (by decide) rfl (fun ls hl => ?_)
          exact hB62 x4_3 (-(v3010 * x3_3)) dt _ _ _ hm hW hS (lv_sub hl [2, 3, 4, 5, 6, 0] rfl)
        refine lv_icmp_ne (tgt := 62) hx hb dX12_addsWave_54 (by decide) (fun _ => ?_) (fun h => absurd h c3013)
        exact hB62 x4_3 (v3010 * x3_3) dt _ _ _ hm hW hS (lv_sub hl [2, 3, 4, 5, 6, 0] rfl)
      refine lv_if_ge (tgt := 29) hx hb dX12_addsWave_23 (by decide) (fun h => absurd h c3008) (fun _ => ?_)
      refine lv_goto (tgt := 187) hx hb dX12_addsWave_26 (by decide) ?_
      exact hB187 x4_3 dt _ _ _ hm hW hS (lv_sub hl [1, 2, 3, 4, 5] rfl)
  refine lv_iconst (v := 0) hx hb dX12_addsWave_0 (by decide) ?_
  refine lv_istore (i := 4) (lv' := [(4, .int 0), (0, .ref x0), (1, .ref x1), (2, .int x2), (3, .int x3)]) hx hb dX12_addsWave_1 hl (by decide) rfl (fun ls hl => ?_)
  exact hB3 x0 x1 x2 x3 kx0 kx1 q_FU 0 dt _ _ _ hm hW hS (lv_sub hl [1, 2, 3, 4, 0] rfl)
theorem dX12_mixed_0 : decode cX12_mixed 0 = .ok (.iload_n 0, 1) := by decide +kernel
theorem dX12_mixed_1 : decode cX12_mixed 1 = .ok (.iload_n 1, 1) := by decide +kernel
theorem dX12_mixed_2 : decode cX12_mixed 2 = .ok (.ixor, 1) := by decide +kernel
theorem dX12_mixed_3 : decode cX12_mixed 3 = .ok (.ldc_w 359, 3) := by decide +kernel
theorem dX12_mixed_6 : decode cX12_mixed 6 = .ok (.imul, 1) := by decide +kernel
theorem dX12_mixed_7 : decode cX12_mixed 7 = .ok (.sipush 12345, 3) := by decide +kernel
theorem dX12_mixed_10 : decode cX12_mixed 10 = .ok (.iadd, 1) := by decide +kernel
theorem dX12_mixed_11 : decode cX12_mixed 11 = .ok (.istore_n 2, 1) := by decide +kernel
theorem dX12_mixed_12 : decode cX12_mixed 12 = .ok (.iload_n 2, 1) := by decide +kernel
theorem dX12_mixed_13 : decode cX12_mixed 13 = .ok (.iload_n 2, 1) := by decide +kernel
theorem dX12_mixed_14 : decode cX12_mixed 14 = .ok (.bipush 15, 2) := by decide +kernel
theorem dX12_mixed_16 : decode cX12_mixed 16 = .ok (.iushr, 1) := by decide +kernel
theorem dX12_mixed_17 : decode cX12_mixed 17 = .ok (.ixor, 1) := by decide +kernel
theorem dX12_mixed_18 : decode cX12_mixed 18 = .ok (.ireturn, 1) := by decide +kernel
set_option maxRecDepth 100000 in
theorem c_X12_mixed (l : Launch) (D : q_D) (al : q_Al) (dt : q_Dt) (x0 : Int32) (x1 : Int32) (r0 : Int32) (hm : X12_mixed x0 x1 = some r0) : q_Mt l yX12_mixed cX12_mixed 3 (some FieldType.int) 0 0 D al [.int x0, .int x1] dt 0 (some (.int r0)) dt := by
  refine q_Mt.of (by decide) (Nat.le_of_ble_eq_true rfl) ?_
  intro p e s m args below meth c ls C hargs hW hl
  have hx := C.1
  have hb := C.2.1
  have hown := C.2.2.2.2.2.1
  have hts := C.2.2.2.2.2.2.1
  have hS : va_S (q_A al) s.heap s.heap [] := va_S.rf
  have hl : lv_has ls 3 [(0, .int x0), (1, .int x1)] := hl
  unfold X12_mixed at hm
  refine lv_iload_n hx hb dX12_mixed_0 rfl (lv_at hl 0 rfl) ?_
  refine lv_iload_n hx hb dX12_mixed_1 rfl (lv_at hl 1 rfl) ?_
  refine lv_ixor hx hb dX12_mixed_2 ?_
  refine lv_ldcw (own := RX12) (v := 1103515245) hx hb hown (hts _ wc_RX12_359) dX12_mixed_3 ?_
  refine lv_imul hx hb dX12_mixed_6 ?_
  refine lv_sipush (v := 12345) hx hb dX12_mixed_7 (by decide) ?_
  refine lv_iadd hx hb dX12_mixed_10 ?_
  refine lv_istore_n (i := 2) (lv' := [(2, .int (((x0 ^^^ x1) * 1103515245) + 12345)), (0, .int x0), (1, .int x1)]) hx hb dX12_mixed_11 rfl hl (by decide) rfl (fun ls hl => ?_)
  refine lv_iload_n hx hb dX12_mixed_12 rfl (lv_at hl 0 rfl) ?_
  refine lv_iload_n hx hb dX12_mixed_13 rfl (lv_at hl 0 rfl) ?_
  refine lv_bipush (v := 15) hx hb dX12_mixed_14 (by decide) ?_
  refine lv_iushr (v := (q_ushr (((x0 ^^^ x1) * 1103515245) + 12345) 15)) hx hb dX12_mixed_16 rfl ?_
  refine lv_ixor hx hb dX12_mixed_17 ?_
  exact e_i C hW hS hm dX12_mixed_18
theorem dX12_lot_0 : decode cX12_lot 0 = .ok (.iload_n 0, 1) := by decide +kernel
theorem dX12_lot_1 : decode cX12_lot 1 = .ok (.bipush 21, 2) := by decide +kernel
theorem dX12_lot_3 : decode cX12_lot 3 = .ok (.invokestatic 360, 3) := by decide +kernel
theorem dX12_lot_6 : decode cX12_lot 6 = .ok (.iload_n 1, 1) := by decide +kernel
theorem dX12_lot_7 : decode cX12_lot 7 = .ok (.invokestatic 360, 3) := by decide +kernel
theorem dX12_lot_10 : decode cX12_lot 10 = .ok (.iconst 1, 1) := by decide +kernel
theorem dX12_lot_11 : decode cX12_lot 11 = .ok (.iushr, 1) := by decide +kernel
theorem dX12_lot_12 : decode cX12_lot 12 = .ok (.iload_n 2, 1) := by decide +kernel
theorem dX12_lot_13 : decode cX12_lot 13 = .ok (.irem, 1) := by decide +kernel
theorem dX12_lot_14 : decode cX12_lot 14 = .ok (.ireturn, 1) := by decide +kernel
set_option maxRecDepth 100000 in
theorem c_X12_lot (l : Launch) (D : q_D) (al : q_Al) (dt : q_Dt) (x0 : Int32) (x1 : Int32) (x2 : Int32) (r0 : Int32) (hm : X12_lot x0 x1 x2 = some r0) : q_Mt l yX12_lot cX12_lot 3 (some FieldType.int) 1 22 D al [.int x0, .int x1, .int x2] dt 0 (some (.int r0)) dt := by
  refine q_Mt.of (by decide) (Nat.le_of_ble_eq_true rfl) ?_
  intro p e s m args below meth c ls C hargs hW hl
  have hx := C.1
  have hb := C.2.1
  have hown := C.2.2.2.2.2.1
  have hts := C.2.2.2.2.2.2.1
  have hS : va_S (q_A al) s.heap s.heap [] := va_S.rf
  have hl : lv_has ls 3 [(0, .int x0), (1, .int x1), (2, .int x2)] := hl
  unfold X12_lot at hm
  refine lv_iload_n hx hb dX12_lot_0 rfl (lv_at hl 0 rfl) ?_
  refine lv_bipush (v := 21) hx hb dX12_lot_1 (by decide) ?_
  obtain ⟨v1000002, hc1000001, hm⟩ := q_b1i hm
  refine q_callS C hW hS (As := [.int x0, .int 21]) (rest := []) (st1 := [.int v1000002]) (c_X12_mixed l D al dt x0 21 v1000002 hc1000001) yl_X12_mixed sl_X12_mixed ml_RX12_360 rfl ⟨Nat.le_of_ble_eq_true rfl, Nat.le_of_ble_eq_true rfl⟩ hl rfl (Nat.le_of_ble_eq_true rfl) dX12_lot_3 ⟨Nat.le_refl _, Nat.le_refl _⟩ rfl (fun H locs k1000003 hW hS => ?_)
  refine lv_iload_n hx hb dX12_lot_6 rfl (lv_at hl 1 rfl) ?_
  obtain ⟨v1000005, hc1000004, hm⟩ := q_b1i hm
  refine q_callS C hW hS (As := [.int v1000002, .int x1]) (rest := []) (st1 := [.int v1000005]) (c_X12_mixed l D al dt v1000002 x1 v1000005 hc1000004) yl_X12_mixed sl_X12_mixed ml_RX12_360 rfl ⟨Nat.le_of_ble_eq_true rfl, Nat.le_of_ble_eq_true rfl⟩ hl rfl (Nat.le_of_ble_eq_true rfl) dX12_lot_7 ⟨Nat.le_refl _, Nat.le_refl _⟩ rfl (fun H locs k1000006 hW hS => ?_)
  refine lv_iconst (v := 1) hx hb dX12_lot_10 (by decide) ?_
  refine lv_iushr (v := (q_ushr v1000005 1)) hx hb dX12_lot_11 rfl ?_
  refine lv_iload_n hx hb dX12_lot_12 rfl (lv_at hl 2 rfl) ?_
  obtain ⟨c1000007, hm⟩ := q_ini hm
  refine lv_irem hx hb dX12_lot_13 c1000007 ?_
  exact e_i C hW hS hm dX12_lot_14
