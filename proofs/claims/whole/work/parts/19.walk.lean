theorem dX11_alarms_0 : decode cX11_alarms 0 = .ok (.aload_n 0, 1) := by decide +kernel
theorem dX11_alarms_1 : decode cX11_alarms 1 = .ok (.iload_n 1, 1) := by decide +kernel
theorem dX11_alarms_2 : decode cX11_alarms 2 = .ok (.iload_n 2, 1) := by decide +kernel
theorem dX11_alarms_3 : decode cX11_alarms 3 = .ok (.iload_n 3, 1) := by decide +kernel
theorem dX11_alarms_4 : decode cX11_alarms 4 = .ok (.invokevirtual 187, 3) := by decide +kernel
theorem dX11_alarms_7 : decode cX11_alarms 7 = .ok (.astore 6, 2) := by decide +kernel
theorem dX11_alarms_9 : decode cX11_alarms 9 = .ok (.aload 6, 2) := by decide +kernel
theorem dX11_alarms_11 : decode cX11_alarms 11 = .ok (.ifnonnull 5, 3) := by decide +kernel
theorem dX11_alarms_14 : decode cX11_alarms 14 = .ok (.iconst (-1), 1) := by decide +kernel
theorem dX11_alarms_15 : decode cX11_alarms 15 = .ok (.ireturn, 1) := by decide +kernel
theorem dX11_alarms_16 : decode cX11_alarms 16 = .ok (.aload_n 0, 1) := by decide +kernel
theorem dX11_alarms_17 : decode cX11_alarms 17 = .ok (.getfield 37, 3) := by decide +kernel
theorem dX11_alarms_20 : decode cX11_alarms 20 = .ok (.aload 6, 2) := by decide +kernel
theorem dX11_alarms_22 : decode cX11_alarms 22 = .ok (.aload_n 0, 1) := by decide +kernel
theorem dX11_alarms_23 : decode cX11_alarms 23 = .ok (.getfield 19, 3) := by decide +kernel
theorem dX11_alarms_26 : decode cX11_alarms 26 = .ok (.iload_n 2, 1) := by decide +kernel
theorem dX11_alarms_27 : decode cX11_alarms 27 = .ok (.iload_n 3, 1) := by decide +kernel
theorem dX11_alarms_28 : decode cX11_alarms 28 = .ok (.invokevirtual 198, 3) := by decide +kernel
theorem dX11_alarms_31 : decode cX11_alarms 31 = .ok (.aload_n 0, 1) := by decide +kernel
theorem dX11_alarms_32 : decode cX11_alarms 32 = .ok (.getfield 37, 3) := by decide +kernel
theorem dX11_alarms_35 : decode cX11_alarms 35 = .ok (.lload 4, 2) := by decide +kernel
theorem dX11_alarms_37 : decode cX11_alarms 37 = .ok (.invokevirtual 211, 3) := by decide +kernel
theorem dX11_alarms_40 : decode cX11_alarms 40 = .ok (.ireturn, 1) := by decide +kernel
set_option maxRecDepth 100000 in
theorem c_X11_alarms (l : Launch) (D : q_D) (al : q_Al) (dt : q_Dt) (x0 : Nat) (x1 : Int32) (x2 : Int32) (x3 : Int32) (x4 : Int64) (kx0 : al.1 x0 = 12) (r0 : Int32) (dt0 : q_Dt) (hm : X11_alarms al dt x0 x1 x2 x3 x4 = some (r0, dt0)) : q_Mt l yX11_alarms cX11_alarms 7 (some FieldType.int) 5 126 D al [.ref x0, .int x1, .int x2, .int x3, .long x4] dt 0 (some (.int r0)) dt0 := by
  refine q_Mt.of (by decide) (Nat.le_of_ble_eq_true rfl) ?_
  intro p e s m args below meth c ls C hargs hW hl
  have hx := C.1
  have hb := C.2.1
  have hown := C.2.2.2.2.2.1
  have hts := C.2.2.2.2.2.2.1
  have hS : va_S (q_A al) s.heap s.heap [] := va_S.rf
  have hl : lv_has ls 7 [(0, .ref x0), (1, .int x1), (2, .int x2), (3, .int x3), (4, .long x4)] := hl
  unfold X11_alarms at hm
  refine lv_aload_n hx hb dX11_alarms_0 rfl (lv_at hl 0 rfl) ?_
  refine lv_iload_n hx hb dX11_alarms_1 rfl (lv_at hl 1 rfl) ?_
  refine lv_iload_n hx hb dX11_alarms_2 rfl (lv_at hl 2 rfl) ?_
  refine lv_iload_n hx hb dX11_alarms_3 rfl (lv_at hl 3 rfl) ?_
  obtain ⟨v1000002, hc1000001, hm⟩ := q_b1i hm
  refine q_callV C hW hS (As := [.int x1, .int x2, .int x3]) (rest := []) (st1 := [va_rf v1000002]) (c_X11_searched l D al dt x0 x1 x2 x3 kx0 v1000002 hc1000001) yl_X11_searched vl_X11_searched ml_RX11_187 (ci := 11) rfl kx0 (by decide) rfl ⟨Nat.le_of_ble_eq_true rfl, Nat.le_of_ble_eq_true rfl⟩ hl rfl (Nat.le_of_ble_eq_true rfl) dX11_alarms_4 ⟨Nat.le_refl _, Nat.le_refl _⟩ rfl (fun H locs k1000003 hW hS => ?_)
  have k1000003 := q_rk k1000003 (by decide)
  refine q_astoreQ (i := 6) (lv' := [(6, va_rf v1000002), (0, .ref x0), (1, .int x1), (2, .int x2), (3, .int x3), (4, .long x4)]) C dX11_alarms_7 hl (by decide) rfl (fun ls hl => ?_)
  refine q_aloadQ C dX11_alarms_9 (lv_at hl 0 rfl) ?_
  refine q_ifnonnull C hm (tgt := 16) dX11_alarms_11 (by decide) (fun e1000006 hq1000007 => ?_) (fun b1000004 e1000006 hq1000007 => ?_)
  · subst e1000006
    have hm := hq1000007
    refine lv_iconst (v := (-1)) hx hb dX11_alarms_14 (by decide) ?_
    exact e_iD C hW hS hm dX11_alarms_15
  subst e1000006
  have hm := hq1000007
  have k1000005 := k1000003 b1000004 rfl
  refine lv_aload_n hx hb dX11_alarms_16 rfl (lv_at hl 1 rfl) ?_
  refine r_getF C hW (ci := 11) kx0 ff_11_4 cl_11 fl_RX11_37 dX11_alarms_17 (fun k1000008 => ?_)
  refine lv_aload hx hb dX11_alarms_20 (lv_at hl 0 rfl) ?_
  refine lv_aload_n hx hb dX11_alarms_22 rfl (lv_at hl 1 rfl) ?_
  refine r_getF C hW (ci := 11) kx0 ff_11_1 cl_11 fl_RX11_19 dX11_alarms_23 (fun k1000009 => ?_)
  refine lv_iload_n hx hb dX11_alarms_26 rfl (lv_at hl 3 rfl) ?_
  refine lv_iload_n hx hb dX11_alarms_27 rfl (lv_at hl 4 rfl) ?_
  obtain ⟨dt1000011, hc1000010, hm⟩ := q_b1i hm
  refine q_callV C hW hS (As := [.ref b1000004, .ref (al.2.2 x0 1), .int x2, .int x3]) (rest := []) (st1 := []) (c_X6_survey l D al dt (al.2.2 x0 4) (some b1000004) (al.2.2 x0 1) x2 x3 k1000008 (q_ks k1000005) k1000009 dt1000011 hc1000010) yl_X6_survey vl_X6_survey ml_RX11_198 (ci := 6) rfl k1000008 (by decide) rfl ⟨Nat.le_of_ble_eq_true rfl, Nat.le_of_ble_eq_true rfl⟩ hl rfl (Nat.le_of_ble_eq_true rfl) dX11_alarms_28 ⟨Nat.le_refl _, Nat.le_refl _⟩ rfl (fun H locs k1000012 hW hS => ?_)
  refine lv_aload_n hx hb dX11_alarms_31 rfl (lv_at hl 1 rfl) ?_
  refine r_getF C hW (ci := 11) kx0 ff_11_4 cl_11 fl_RX11_37 dX11_alarms_32 (fun k1000013 => ?_)
  refine lv_lload hx hb dX11_alarms_35 (lv_at hl 5 rfl) ?_
  obtain ⟨v1000015, hc1000014, hm⟩ := q_b1i hm
  refine q_callV C hW hS (As := [.long x4]) (rest := []) (st1 := [.int v1000015]) (c_X6_cellsFrom l D al dt1000011 (al.2.2 x0 4) x4 k1000013 v1000015 hc1000014) yl_X6_cellsFrom vl_X6_cellsFrom ml_RX11_211 (ci := 6) rfl k1000013 (by decide) rfl ⟨Nat.le_of_ble_eq_true rfl, Nat.le_of_ble_eq_true rfl⟩ hl rfl (Nat.le_of_ble_eq_true rfl) dX11_alarms_37 ⟨Nat.le_refl _, Nat.le_refl _⟩ rfl (fun H locs k1000016 hW hS => ?_)
  exact e_iD C hW hS hm dX11_alarms_40
theorem dX11_plan_0 : decode cX11_plan 0 = .ok (.aload_n 0, 1) := by decide +kernel
theorem dX11_plan_1 : decode cX11_plan 1 = .ok (.iload_n 1, 1) := by decide +kernel
theorem dX11_plan_2 : decode cX11_plan 2 = .ok (.iload_n 2, 1) := by decide +kernel
theorem dX11_plan_3 : decode cX11_plan 3 = .ok (.iload_n 3, 1) := by decide +kernel
theorem dX11_plan_4 : decode cX11_plan 4 = .ok (.invokevirtual 187, 3) := by decide +kernel
theorem dX11_plan_7 : decode cX11_plan 7 = .ok (.astore 8, 2) := by decide +kernel
theorem dX11_plan_9 : decode cX11_plan 9 = .ok (.aload 8, 2) := by decide +kernel
theorem dX11_plan_11 : decode cX11_plan 11 = .ok (.ifnull 34, 3) := by decide +kernel
theorem dX11_plan_14 : decode cX11_plan 14 = .ok (.iload 4, 2) := by decide +kernel
theorem dX11_plan_16 : decode cX11_plan 16 = .ok (.ifCond .lt 29, 3) := by decide +kernel
theorem dX11_plan_19 : decode cX11_plan 19 = .ok (.iload 4, 2) := by decide +kernel
theorem dX11_plan_21 : decode cX11_plan 21 = .ok (.aload 8, 2) := by decide +kernel
theorem dX11_plan_23 : decode cX11_plan 23 = .ok (.invokevirtual 191, 3) := by decide +kernel
theorem dX11_plan_26 : decode cX11_plan 26 = .ok (.if_icmp .ge 19, 3) := by decide +kernel
theorem dX11_plan_29 : decode cX11_plan 29 = .ok (.iload 5, 2) := by decide +kernel
theorem dX11_plan_31 : decode cX11_plan 31 = .ok (.iconst 1, 1) := by decide +kernel
theorem dX11_plan_32 : decode cX11_plan 32 = .ok (.if_icmp .lt 13, 3) := by decide +kernel
theorem dX11_plan_35 : decode cX11_plan 35 = .ok (.iload 5, 2) := by decide +kernel
theorem dX11_plan_37 : decode cX11_plan 37 = .ok (.aload 8, 2) := by decide +kernel
theorem dX11_plan_39 : decode cX11_plan 39 = .ok (.invokevirtual 191, 3) := by decide +kernel
theorem dX11_plan_42 : decode cX11_plan 42 = .ok (.if_icmp .le 5, 3) := by decide +kernel
theorem dX11_plan_45 : decode cX11_plan 45 = .ok (.iconst (-1), 1) := by decide +kernel
theorem dX11_plan_46 : decode cX11_plan 46 = .ok (.ireturn, 1) := by decide +kernel
theorem dX11_plan_47 : decode cX11_plan 47 = .ok (.aload_n 0, 1) := by decide +kernel
theorem dX11_plan_48 : decode cX11_plan 48 = .ok (.getfield 37, 3) := by decide +kernel
theorem dX11_plan_51 : decode cX11_plan 51 = .ok (.aload 8, 2) := by decide +kernel
theorem dX11_plan_53 : decode cX11_plan 53 = .ok (.aload_n 0, 1) := by decide +kernel
theorem dX11_plan_54 : decode cX11_plan 54 = .ok (.getfield 19, 3) := by decide +kernel
theorem dX11_plan_57 : decode cX11_plan 57 = .ok (.iload_n 2, 1) := by decide +kernel
theorem dX11_plan_58 : decode cX11_plan 58 = .ok (.iload_n 3, 1) := by decide +kernel
theorem dX11_plan_59 : decode cX11_plan 59 = .ok (.invokevirtual 198, 3) := by decide +kernel
theorem dX11_plan_62 : decode cX11_plan 62 = .ok (.aload_n 0, 1) := by decide +kernel
theorem dX11_plan_63 : decode cX11_plan 63 = .ok (.getfield 37, 3) := by decide +kernel
theorem dX11_plan_66 : decode cX11_plan 66 = .ok (.iload 4, 2) := by decide +kernel
theorem dX11_plan_68 : decode cX11_plan 68 = .ok (.iload 5, 2) := by decide +kernel
theorem dX11_plan_70 : decode cX11_plan 70 = .ok (.lload 6, 2) := by decide +kernel
theorem dX11_plan_72 : decode cX11_plan 72 = .ok (.invokevirtual 215, 3) := by decide +kernel
theorem dX11_plan_75 : decode cX11_plan 75 = .ok (.ireturn, 1) := by decide +kernel
set_option maxRecDepth 100000 in
theorem c_X11_plan (l : Launch) (D : q_D) (al : q_Al) (dt : q_Dt) (x0 : Nat) (x1 : Int32) (x2 : Int32) (x3 : Int32) (x4 : Int32) (x5 : Int32) (x6 : Int64) (kx0 : al.1 x0 = 12) (r0 : Int32) (dt0 : q_Dt) (hm : X11_plan al dt x0 x1 x2 x3 x4 x5 x6 = some (r0, dt0)) : q_Mt l yX11_plan cX11_plan 9 (some FieldType.int) 5 126 D al [.ref x0, .int x1, .int x2, .int x3, .int x4, .int x5, .long x6] dt 0 (some (.int r0)) dt0 := by
  refine q_Mt.of (by decide) (Nat.le_of_ble_eq_true rfl) ?_
  intro p e s m args below meth c ls C hargs hW hl
  have hx := C.1
  have hb := C.2.1
  have hown := C.2.2.2.2.2.1
  have hts := C.2.2.2.2.2.2.1
  have hS : va_S (q_A al) s.heap s.heap [] := va_S.rf
  have hl : lv_has ls 9 [(0, .ref x0), (1, .int x1), (2, .int x2), (3, .int x3), (4, .int x4), (5, .int x5), (6, .long x6)] := hl
  unfold X11_plan at hm
  refine lv_aload_n hx hb dX11_plan_0 rfl (lv_at hl 0 rfl) ?_
  refine lv_iload_n hx hb dX11_plan_1 rfl (lv_at hl 1 rfl) ?_
  refine lv_iload_n hx hb dX11_plan_2 rfl (lv_at hl 2 rfl) ?_
  refine lv_iload_n hx hb dX11_plan_3 rfl (lv_at hl 3 rfl) ?_
  obtain ⟨v1000002, hc1000001, hm⟩ := q_b1i hm
  refine q_callV C hW hS (As := [.int x1, .int x2, .int x3]) (rest := []) (st1 := [va_rf v1000002]) (c_X11_searched l D al dt x0 x1 x2 x3 kx0 v1000002 hc1000001) yl_X11_searched vl_X11_searched ml_RX11_187 (ci := 11) rfl kx0 (by decide) rfl ⟨Nat.le_of_ble_eq_true rfl, Nat.le_of_ble_eq_true rfl⟩ hl rfl (Nat.le_of_ble_eq_true rfl) dX11_plan_4 ⟨Nat.le_refl _, Nat.le_refl _⟩ rfl (fun H locs k1000003 hW hS => ?_)
  have k1000003 := q_rk k1000003 (by decide)
  refine q_astoreQ (i := 8) (lv' := [(8, va_rf v1000002), (0, .ref x0), (1, .int x1), (2, .int x2), (3, .int x3), (4, .int x4), (5, .int x5), (6, .long x6)]) C dX11_plan_7 hl (by decide) rfl (fun ls hl => ?_)
  refine q_aloadQ C dX11_plan_9 (lv_at hl 0 rfl) ?_
  refine q_ifnull C hm (tgt := 45) dX11_plan_11 (by decide) (fun e1000006 hq1000007 => ?_) (fun b1000004 e1000006 hq1000007 => ?_)
  · subst e1000006
    have hm := hq1000007
    refine lv_iconst (v := (-1)) hx hb dX11_plan_45 (by decide) ?_
    exact e_iD C hW hS hm dX11_plan_46
  subst e1000006
  have hm := hq1000007
  have k1000005 := k1000003 b1000004 rfl
  refine lv_iload hx hb dX11_plan_14 (lv_at hl 5 rfl) ?_
  refine q_ifc hm (fun c1000008 hm => ?_) (fun c1000008 hm => ?_)
  · refine lv_if_lt (tgt := 45) hx hb dX11_plan_16 (by decide) (fun _ => ?_) (fun h => absurd c1000008 h)
    refine lv_iconst (v := (-1)) hx hb dX11_plan_45 (by decide) ?_
    exact e_iD C hW hS hm dX11_plan_46
  refine lv_if_lt (tgt := 45) hx hb dX11_plan_16 (by decide) (fun h => absurd h c1000008) (fun _ => ?_)
  refine lv_iload hx hb dX11_plan_19 (lv_at hl 5 rfl) ?_
  refine lv_aload hx hb dX11_plan_21 (lv_at hl 0 rfl) ?_
  obtain ⟨v1000010, hc1000009, hm⟩ := q_b1i hm
  refine q_callV C hW hS (As := []) (rest := [.int x4]) (st1 := [.int v1000010, .int x4]) (c_X0_cells l D al dt b1000004 k1000005 v1000010 hc1000009) yl_X0_cells vl_X0_cells ml_RX11_191 (ci := 0) rfl k1000005 (by decide) rfl ⟨Nat.le_of_ble_eq_true rfl, Nat.le_of_ble_eq_true rfl⟩ hl rfl (Nat.le_of_ble_eq_true rfl) dX11_plan_23 ⟨Nat.le_refl _, Nat.le_refl _⟩ rfl (fun H locs k1000011 hW hS => ?_)
  refine q_ifc hm (fun c1000012 hm => ?_) (fun c1000012 hm => ?_)
  · refine lv_icmp_ge (tgt := 45) hx hb dX11_plan_26 (by decide) (fun _ => ?_) (fun h => absurd c1000012 h)
    refine lv_iconst (v := (-1)) hx hb dX11_plan_45 (by decide) ?_
    exact e_iD C hW hS hm dX11_plan_46
  refine lv_icmp_ge (tgt := 45) hx hb dX11_plan_26 (by decide) (fun h => absurd h c1000012) (fun _ => ?_)
  refine lv_iload hx hb dX11_plan_29 (lv_at hl 6 rfl) ?_
  refine lv_iconst (v := 1) hx hb dX11_plan_31 (by decide) ?_
  refine q_ifc hm (fun c1000013 hm => ?_) (fun c1000013 hm => ?_)
  · refine lv_icmp_lt (tgt := 45) hx hb dX11_plan_32 (by decide) (fun _ => ?_) (fun h => absurd c1000013 h)
    refine lv_iconst (v := (-1)) hx hb dX11_plan_45 (by decide) ?_
    exact e_iD C hW hS hm dX11_plan_46
  refine lv_icmp_lt (tgt := 45) hx hb dX11_plan_32 (by decide) (fun h => absurd h c1000013) (fun _ => ?_)
  refine lv_iload hx hb dX11_plan_35 (lv_at hl 6 rfl) ?_
  refine lv_aload hx hb dX11_plan_37 (lv_at hl 0 rfl) ?_
  obtain ⟨v1000015, hc1000014, hm⟩ := q_b1i hm
  refine q_callV C hW hS (As := []) (rest := [.int x5]) (st1 := [.int v1000015, .int x5]) (c_X0_cells l D al dt b1000004 k1000005 v1000015 hc1000014) yl_X0_cells vl_X0_cells ml_RX11_191 (ci := 0) rfl k1000005 (by decide) rfl ⟨Nat.le_of_ble_eq_true rfl, Nat.le_of_ble_eq_true rfl⟩ hl rfl (Nat.le_of_ble_eq_true rfl) dX11_plan_39 ⟨Nat.le_refl _, Nat.le_refl _⟩ rfl (fun H locs k1000016 hW hS => ?_)
  refine q_ifc hm (fun c1000017 hm => ?_) (fun c1000017 hm => ?_)
  · refine lv_icmp_le (tgt := 47) hx hb dX11_plan_42 (by decide) (fun _ => ?_) (fun h => absurd c1000017 h)
    refine lv_aload_n hx hb dX11_plan_47 rfl (lv_at hl 1 rfl) ?_
    refine r_getF C hW (ci := 11) kx0 ff_11_4 cl_11 fl_RX11_37 dX11_plan_48 (fun k1000018 => ?_)
    refine lv_aload hx hb dX11_plan_51 (lv_at hl 0 rfl) ?_
    refine lv_aload_n hx hb dX11_plan_53 rfl (lv_at hl 1 rfl) ?_
    refine r_getF C hW (ci := 11) kx0 ff_11_1 cl_11 fl_RX11_19 dX11_plan_54 (fun k1000019 => ?_)
    refine lv_iload_n hx hb dX11_plan_57 rfl (lv_at hl 3 rfl) ?_
    refine lv_iload_n hx hb dX11_plan_58 rfl (lv_at hl 4 rfl) ?_
    obtain ⟨dt1000021, hc1000020, hm⟩ := q_b1i hm
    refine q_callV C hW hS (As := [.ref b1000004, .ref (al.2.2 x0 1), .int x2, .int x3]) (rest := []) (st1 := []) (c_X6_survey l D al dt (al.2.2 x0 4) (some b1000004) (al.2.2 x0 1) x2 x3 k1000018 (q_ks k1000005) k1000019 dt1000021 hc1000020) yl_X6_survey vl_X6_survey ml_RX11_198 (ci := 6) rfl k1000018 (by decide) rfl ⟨Nat.le_of_ble_eq_true rfl, Nat.le_of_ble_eq_true rfl⟩ hl rfl (Nat.le_of_ble_eq_true rfl) dX11_plan_59 ⟨Nat.le_refl _, Nat.le_refl _⟩ rfl (fun H locs k1000022 hW hS => ?_)
    refine lv_aload_n hx hb dX11_plan_62 rfl (lv_at hl 1 rfl) ?_
    refine r_getF C hW (ci := 11) kx0 ff_11_4 cl_11 fl_RX11_37 dX11_plan_63 (fun k1000023 => ?_)
    refine lv_iload hx hb dX11_plan_66 (lv_at hl 5 rfl) ?_
    refine lv_iload hx hb dX11_plan_68 (lv_at hl 6 rfl) ?_
    refine lv_lload hx hb dX11_plan_70 (lv_at hl 7 rfl) ?_
    obtain ⟨v1000025, hc1000024, hm⟩ := q_b1i hm
    refine q_callV C hW hS (As := [.int x4, .int x5, .long x6]) (rest := []) (st1 := [.int v1000025]) (c_X6_looksTill l D al dt1000021 (al.2.2 x0 4) x4 x5 x6 k1000023 v1000025 hc1000024) yl_X6_looksTill vl_X6_looksTill ml_RX11_215 (ci := 6) rfl k1000023 (by decide) rfl ⟨Nat.le_of_ble_eq_true rfl, Nat.le_of_ble_eq_true rfl⟩ hl rfl (Nat.le_of_ble_eq_true rfl) dX11_plan_72 ⟨Nat.le_refl _, Nat.le_refl _⟩ rfl (fun H locs k1000026 hW hS => ?_)
    exact e_iD C hW hS hm dX11_plan_75
  refine lv_icmp_le (tgt := 47) hx hb dX11_plan_42 (by decide) (fun h => absurd h c1000017) (fun _ => ?_)
  refine lv_iconst (v := (-1)) hx hb dX11_plan_45 (by decide) ?_
  exact e_iD C hW hS hm dX11_plan_46
theorem dX11_commonDivisor_0 : decode cX11_commonDivisor 0 = .ok (.lload_n 0, 1) := by decide +kernel
theorem dX11_commonDivisor_1 : decode cX11_commonDivisor 1 = .ok (.lstore 4, 2) := by decide +kernel
theorem dX11_commonDivisor_3 : decode cX11_commonDivisor 3 = .ok (.lload_n 2, 1) := by decide +kernel
theorem dX11_commonDivisor_4 : decode cX11_commonDivisor 4 = .ok (.lstore 6, 2) := by decide +kernel
theorem dX11_commonDivisor_6 : decode cX11_commonDivisor 6 = .ok (.iconst 0, 1) := by decide +kernel
theorem dX11_commonDivisor_7 : decode cX11_commonDivisor 7 = .ok (.istore 8, 2) := by decide +kernel
theorem dX11_commonDivisor_9 : decode cX11_commonDivisor 9 = .ok (.iload 8, 2) := by decide +kernel
theorem dX11_commonDivisor_11 : decode cX11_commonDivisor 11 = .ok (.bipush 100, 2) := by decide +kernel
theorem dX11_commonDivisor_13 : decode cX11_commonDivisor 13 = .ok (.if_icmp .ge 31, 3) := by decide +kernel
theorem dX11_commonDivisor_16 : decode cX11_commonDivisor 16 = .ok (.lload 6, 2) := by decide +kernel
theorem dX11_commonDivisor_18 : decode cX11_commonDivisor 18 = .ok (.lconst 0, 1) := by decide +kernel
theorem dX11_commonDivisor_19 : decode cX11_commonDivisor 19 = .ok (.lcmp, 1) := by decide +kernel
theorem dX11_commonDivisor_20 : decode cX11_commonDivisor 20 = .ok (.ifCond .le 24, 3) := by decide +kernel
theorem dX11_commonDivisor_23 : decode cX11_commonDivisor 23 = .ok (.lload 4, 2) := by decide +kernel
theorem dX11_commonDivisor_25 : decode cX11_commonDivisor 25 = .ok (.lload 6, 2) := by decide +kernel
theorem dX11_commonDivisor_27 : decode cX11_commonDivisor 27 = .ok (.lrem, 1) := by decide +kernel
theorem dX11_commonDivisor_28 : decode cX11_commonDivisor 28 = .ok (.lstore 9, 2) := by decide +kernel
theorem dX11_commonDivisor_30 : decode cX11_commonDivisor 30 = .ok (.lload 6, 2) := by decide +kernel
theorem dX11_commonDivisor_32 : decode cX11_commonDivisor 32 = .ok (.lstore 4, 2) := by decide +kernel
theorem dX11_commonDivisor_34 : decode cX11_commonDivisor 34 = .ok (.lload 9, 2) := by decide +kernel
theorem dX11_commonDivisor_36 : decode cX11_commonDivisor 36 = .ok (.lstore 6, 2) := by decide +kernel
theorem dX11_commonDivisor_38 : decode cX11_commonDivisor 38 = .ok (.iinc 8 1, 3) := by decide +kernel
theorem dX11_commonDivisor_41 : decode cX11_commonDivisor 41 = .ok (.goto (-32), 3) := by decide +kernel
theorem dX11_commonDivisor_44 : decode cX11_commonDivisor 44 = .ok (.lload 4, 2) := by decide +kernel
theorem dX11_commonDivisor_46 : decode cX11_commonDivisor 46 = .ok (.lreturn, 1) := by decide +kernel
set_option maxRecDepth 100000 in
theorem c_X11_commonDivisor (l : Launch) (D : q_D) (al : q_Al) (dt : q_Dt) (x0 : Int64) (x2 : Int64) (r0 : Int64) (hm : X11_commonDivisor x0 x2 = some r0) : q_Mt l yX11_commonDivisor cX11_commonDivisor 11 (some FieldType.long) 0 0 D al [.long x0, .long x2] dt 0 (some (.long r0)) dt := by
  refine q_Mt.of (by decide) (Nat.le_of_ble_eq_true rfl) ?_
  intro p e s m args below meth c ls C hargs hW hl
  have hx := C.1
  have hb := C.2.1
  have hown := C.2.2.2.2.2.1
  have hts := C.2.2.2.2.2.2.1
  have hS : va_S (q_A al) s.heap s.heap [] := va_S.rf
  have hl : lv_has ls 11 [(0, .long x0), (2, .long x2)] := hl
  unfold X11_commonDivisor at hm
  have hB44 : ∀ (x4_44 : Int64) (H : Heap) (locs : List Loc) (ls : Array Slot) (hm : X11_commonDivisor_b44 x4_44 = some r0) (hW : q_W D al dt H) (hS : va_S (q_A al) s.heap H locs) (hl : lv_has ls 11 [(4, .long x4_44)]), W p l e { frames := 0, cells := 0, slots := 0, locals := 0 } s m args below meth c H locs 0 0 (MQ below (q_Q (some (.long r0)) (fun H => q_W D al dt H ∧ q_Rk al 0 (some (.long r0))) (q_A al)) args s 0 0 (q_A al)) (F0 m 44 ls []) := by
    intro x4_44 H locs ls hm hW hS hl
    unfold X11_commonDivisor_b44 at hm
    refine lv_lload hx hb dX11_commonDivisor_44 (lv_at hl 0 rfl) ?_
    exact e_l C hW hS hm dX11_commonDivisor_46
  have hB9 : ∀ (n_9 : Nat) (x4_9 : Int64) (x6_9 : Int64) (x8_9 : Int32) (H : Heap) (locs : List Loc) (ls : Array Slot) (hm : X11_commonDivisor_b9 n_9 x4_9 x6_9 x8_9 = some r0) (hW : q_W D al dt H) (hS : va_S (q_A al) s.heap H locs) (hl : lv_has ls 11 [(4, .long x4_9), (6, .long x6_9), (8, .int x8_9)]), W p l e { frames := 0, cells := 0, slots := 0, locals := 0 } s m args below meth c H locs 0 0 (MQ below (q_Q (some (.long r0)) (fun H => q_W D al dt H ∧ q_Rk al 0 (some (.long r0))) (q_A al)) args s 0 0 (q_A al)) (F0 m 9 ls []) := by
    intro n_9
    induction n_9 with
    | zero => intro x4_9 x6_9 x8_9 H locs ls hm hW hS hl; cases hm
    | succ n_9 ih9 =>
      intro x4_9 x6_9 x8_9 H locs ls hm hW hS hl
      rw [X11_commonDivisor_b9] at hm
      refine lv_iload hx hb dX11_commonDivisor_9 (lv_at hl 2 rfl) ?_
      refine lv_bipush (v := 100) hx hb dX11_commonDivisor_11 (by decide) ?_
      refine q_ifc hm (fun c9001 hm => ?_) (fun c9001 hm => ?_)
      · refine lv_icmp_ge (tgt := 44) hx hb dX11_commonDivisor_13 (by decide) (fun _ => ?_) (fun h => absurd c9001 h)
        exact hB44 x4_9 _ _ _ hm hW hS (lv_sub hl [0] rfl)
      refine lv_icmp_ge (tgt := 44) hx hb dX11_commonDivisor_13 (by decide) (fun h => absurd h c9001) (fun _ => ?_)
      refine lv_lload hx hb dX11_commonDivisor_16 (lv_at hl 1 rfl) ?_
      refine lv_lconst (v := 0) hx hb dX11_commonDivisor_18 rfl ?_
      refine W.lcmp hx hb dX11_commonDivisor_19 ?_
      refine q_ifc hm (fun c9002 hm => ?_) (fun c9002 hm => ?_)
      · refine lv_if_le (tgt := 44) hx hb dX11_commonDivisor_20 (by decide) (fun _ => ?_) (fun h => absurd (q_cmp_le.mpr c9002) h)
        exact hB44 x4_9 _ _ _ hm hW hS (lv_sub hl [0] rfl)
      refine lv_if_le (tgt := 44) hx hb dX11_commonDivisor_20 (by decide) (fun h => absurd (q_cmp_le.mp h) c9002) (fun _ => ?_)
      refine lv_lload hx hb dX11_commonDivisor_23 (lv_at hl 0 rfl) ?_
      refine lv_lload hx hb dX11_commonDivisor_25 (lv_at hl 1 rfl) ?_
      obtain ⟨c9003, hm⟩ := q_ini hm
      refine lv_lrem hx hb dX11_commonDivisor_27 c9003 ?_
      refine lv_lstore (i := 9) (lv' := [(9, .long (q_lr x4_9 x6_9)), (4, .long x4_9), (6, .long x6_9), (8, .int x8_9)]) hx hb dX11_commonDivisor_28 hl (by decide) rfl (fun ls hl => ?_)
      refine lv_lload hx hb dX11_commonDivisor_30 (lv_at hl 2 rfl) ?_
      refine lv_lstore (i := 4) (lv' := [(4, .long x6_9), (9, .long (q_lr x4_9 x6_9)), (6, .long x6_9), (8, .int x8_9)]) hx hb dX11_commonDivisor_32 hl (by decide) rfl (fun ls hl => ?_)
      refine lv_lload hx hb dX11_commonDivisor_34 (lv_at hl 1 rfl) ?_
      refine lv_lstore (i := 6) (lv' := [(6, .long (q_lr x4_9 x6_9)), (4, .long x6_9), (9, .long (q_lr x4_9 x6_9)), (8, .int x8_9)]) hx hb dX11_commonDivisor_36 hl (by decide) rfl (fun ls hl => ?_)
      refine lv_iinc (v := (x8_9 + 1)) (lv' := [(8, .int (x8_9 + 1)), (6, .long (q_lr x4_9 x6_9)), (4, .long x6_9), (9, .long (q_lr x4_9 x6_9))]) hx hb dX11_commonDivisor_38 hl (k := 3) rfl rfl (by decide) rfl (fun ls hl => ?_)
      refine lv_goto (tgt := 9) hx hb dX11_commonDivisor_41 (by decide) ?_
      exact ih9 x6_9 (q_lr x4_9 x6_9) (x8_9 + 1) _ _ _ hm hW hS (lv_sub hl [2, 1, 0] rfl)
  refine lv_lload_n hx hb dX11_commonDivisor_0 rfl (lv_at hl 0 rfl) ?_
  refine lv_lstore (i := 4) (lv' := [(4, .long x0), (0, .long x0), (2, .long x2)]) hx hb dX11_commonDivisor_1 hl (by decide) rfl (fun ls hl => ?_)
  refine lv_lload_n hx hb dX11_commonDivisor_3 rfl (lv_at hl 2 rfl) ?_
  refine lv_lstore (i := 6) (lv' := [(6, .long x2), (4, .long x0), (0, .long x0), (2, .long x2)]) hx hb dX11_commonDivisor_4 hl (by decide) rfl (fun ls hl => ?_)
  refine lv_iconst (v := 0) hx hb dX11_commonDivisor_6 (by decide) ?_
  refine lv_istore (i := 8) (lv' := [(8, .int 0), (6, .long x2), (4, .long x0), (0, .long x0), (2, .long x2)]) hx hb dX11_commonDivisor_7 hl (by decide) rfl (fun ls hl => ?_)
  exact hB9 q_FU x0 x2 0 _ _ _ hm hW hS (lv_sub hl [2, 1, 0] rfl)
theorem dX11_mean_0 : decode cX11_mean 0 = .ok (.iload_n 1, 1) := by decide +kernel
theorem dX11_mean_1 : decode cX11_mean 1 = .ok (.iconst 2, 1) := by decide +kernel
theorem dX11_mean_2 : decode cX11_mean 2 = .ok (.if_icmp .lt 27, 3) := by decide +kernel
theorem dX11_mean_5 : decode cX11_mean 5 = .ok (.iload_n 1, 1) := by decide +kernel
theorem dX11_mean_6 : decode cX11_mean 6 = .ok (.sipush 1000, 3) := by decide +kernel
theorem dX11_mean_9 : decode cX11_mean 9 = .ok (.if_icmp .gt 20, 3) := by decide +kernel
theorem dX11_mean_12 : decode cX11_mean 12 = .ok (.iload 5, 2) := by decide +kernel
theorem dX11_mean_14 : decode cX11_mean 14 = .ok (.ifCond .lt 15, 3) := by decide +kernel
theorem dX11_mean_17 : decode cX11_mean 17 = .ok (.iload 5, 2) := by decide +kernel
theorem dX11_mean_19 : decode cX11_mean 19 = .ok (.sipush 1000, 3) := by decide +kernel
theorem dX11_mean_22 : decode cX11_mean 22 = .ok (.if_icmp .gt 7, 3) := by decide +kernel
theorem dX11_mean_25 : decode cX11_mean 25 = .ok (.iconst 1, 1) := by decide +kernel
theorem dX11_mean_26 : decode cX11_mean 26 = .ok (.goto 4, 3) := by decide +kernel
theorem dX11_mean_29 : decode cX11_mean 29 = .ok (.iconst 0, 1) := by decide +kernel
theorem dX11_mean_30 : decode cX11_mean 30 = .ok (.istore 7, 2) := by decide +kernel
theorem dX11_mean_32 : decode cX11_mean 32 = .ok (.iload 4, 2) := by decide +kernel
theorem dX11_mean_34 : decode cX11_mean 34 = .ok (.iconst 1, 1) := by decide +kernel
theorem dX11_mean_35 : decode cX11_mean 35 = .ok (.if_icmp .lt 35, 3) := by decide +kernel
theorem dX11_mean_38 : decode cX11_mean 38 = .ok (.iload 4, 2) := by decide +kernel
theorem dX11_mean_40 : decode cX11_mean 40 = .ok (.bipush 100, 2) := by decide +kernel
theorem dX11_mean_42 : decode cX11_mean 42 = .ok (.if_icmp .gt 28, 3) := by decide +kernel
theorem dX11_mean_45 : decode cX11_mean 45 = .ok (.iload_n 2, 1) := by decide +kernel
theorem dX11_mean_46 : decode cX11_mean 46 = .ok (.iconst 1, 1) := by decide +kernel
theorem dX11_mean_47 : decode cX11_mean 47 = .ok (.if_icmp .lt 23, 3) := by decide +kernel
theorem dX11_mean_50 : decode cX11_mean 50 = .ok (.iload_n 2, 1) := by decide +kernel
theorem dX11_mean_51 : decode cX11_mean 51 = .ok (.iload 4, 2) := by decide +kernel
theorem dX11_mean_53 : decode cX11_mean 53 = .ok (.if_icmp .gt 17, 3) := by decide +kernel
theorem dX11_mean_56 : decode cX11_mean 56 = .ok (.iload_n 3, 1) := by decide +kernel
theorem dX11_mean_57 : decode cX11_mean 57 = .ok (.ifCond .lt 13, 3) := by decide +kernel
theorem dX11_mean_60 : decode cX11_mean 60 = .ok (.iload_n 3, 1) := by decide +kernel
theorem dX11_mean_61 : decode cX11_mean 61 = .ok (.iload 4, 2) := by decide +kernel
theorem dX11_mean_63 : decode cX11_mean 63 = .ok (.if_icmp .gt 7, 3) := by decide +kernel
theorem dX11_mean_66 : decode cX11_mean 66 = .ok (.iconst 1, 1) := by decide +kernel
theorem dX11_mean_67 : decode cX11_mean 67 = .ok (.goto 4, 3) := by decide +kernel
theorem dX11_mean_70 : decode cX11_mean 70 = .ok (.iconst 0, 1) := by decide +kernel
theorem dX11_mean_71 : decode cX11_mean 71 = .ok (.istore 8, 2) := by decide +kernel
theorem dX11_mean_73 : decode cX11_mean 73 = .ok (.iload 7, 2) := by decide +kernel
theorem dX11_mean_75 : decode cX11_mean 75 = .ok (.ifCond .eq 8, 3) := by decide +kernel
theorem dX11_mean_78 : decode cX11_mean 78 = .ok (.iload 8, 2) := by decide +kernel
theorem dX11_mean_80 : decode cX11_mean 80 = .ok (.ifCond .ne 7, 3) := by decide +kernel
theorem dX11_mean_83 : decode cX11_mean 83 = .ok (.ldc2_w 152, 3) := by decide +kernel
theorem dX11_mean_86 : decode cX11_mean 86 = .ok (.lreturn, 1) := by decide +kernel
theorem dX11_mean_87 : decode cX11_mean 87 = .ok (.ldc2_w 219, 3) := by decide +kernel
theorem dX11_mean_90 : decode cX11_mean 90 = .ok (.iload 4, 2) := by decide +kernel
theorem dX11_mean_92 : decode cX11_mean 92 = .ok (.i2l, 1) := by decide +kernel
theorem dX11_mean_93 : decode cX11_mean 93 = .ok (.lmul, 1) := by decide +kernel
theorem dX11_mean_94 : decode cX11_mean 94 = .ok (.iload_n 2, 1) := by decide +kernel
theorem dX11_mean_95 : decode cX11_mean 95 = .ok (.i2l, 1) := by decide +kernel
theorem dX11_mean_96 : decode cX11_mean 96 = .ok (.lsub, 1) := by decide +kernel
theorem dX11_mean_97 : decode cX11_mean 97 = .ok (.iload_n 1, 1) := by decide +kernel
theorem dX11_mean_98 : decode cX11_mean 98 = .ok (.iconst 1, 1) := by decide +kernel
theorem dX11_mean_99 : decode cX11_mean 99 = .ok (.isub, 1) := by decide +kernel
theorem dX11_mean_100 : decode cX11_mean 100 = .ok (.i2l, 1) := by decide +kernel
theorem dX11_mean_101 : decode cX11_mean 101 = .ok (.lmul, 1) := by decide +kernel
theorem dX11_mean_102 : decode cX11_mean 102 = .ok (.iload 4, 2) := by decide +kernel
theorem dX11_mean_104 : decode cX11_mean 104 = .ok (.i2l, 1) := by decide +kernel
theorem dX11_mean_105 : decode cX11_mean 105 = .ok (.iload 5, 2) := by decide +kernel
theorem dX11_mean_107 : decode cX11_mean 107 = .ok (.i2l, 1) := by decide +kernel
theorem dX11_mean_108 : decode cX11_mean 108 = .ok (.iload_n 3, 1) := by decide +kernel
theorem dX11_mean_109 : decode cX11_mean 109 = .ok (.i2l, 1) := by decide +kernel
theorem dX11_mean_110 : decode cX11_mean 110 = .ok (.lmul, 1) := by decide +kernel
theorem dX11_mean_111 : decode cX11_mean 111 = .ok (.ladd, 1) := by decide +kernel
theorem dX11_mean_112 : decode cX11_mean 112 = .ok (.lmul, 1) := by decide +kernel
theorem dX11_mean_113 : decode cX11_mean 113 = .ok (.ldc2_w 219, 3) := by decide +kernel
theorem dX11_mean_116 : decode cX11_mean 116 = .ok (.iload 4, 2) := by decide +kernel
theorem dX11_mean_118 : decode cX11_mean 118 = .ok (.i2l, 1) := by decide +kernel
theorem dX11_mean_119 : decode cX11_mean 119 = .ok (.lmul, 1) := by decide +kernel
theorem dX11_mean_120 : decode cX11_mean 120 = .ok (.iload 4, 2) := by decide +kernel
theorem dX11_mean_122 : decode cX11_mean 122 = .ok (.i2l, 1) := by decide +kernel
theorem dX11_mean_123 : decode cX11_mean 123 = .ok (.lmul, 1) := by decide +kernel
theorem dX11_mean_124 : decode cX11_mean 124 = .ok (.ladd, 1) := by decide +kernel
theorem dX11_mean_125 : decode cX11_mean 125 = .ok (.lstore 9, 2) := by decide +kernel
theorem dX11_mean_127 : decode cX11_mean 127 = .ok (.ldc2_w 219, 3) := by decide +kernel
theorem dX11_mean_130 : decode cX11_mean 130 = .ok (.iload_n 2, 1) := by decide +kernel
theorem dX11_mean_131 : decode cX11_mean 131 = .ok (.i2l, 1) := by decide +kernel
theorem dX11_mean_132 : decode cX11_mean 132 = .ok (.lmul, 1) := by decide +kernel
theorem dX11_mean_133 : decode cX11_mean 133 = .ok (.iload 4, 2) := by decide +kernel
theorem dX11_mean_135 : decode cX11_mean 135 = .ok (.i2l, 1) := by decide +kernel
theorem dX11_mean_136 : decode cX11_mean 136 = .ok (.lmul, 1) := by decide +kernel
theorem dX11_mean_137 : decode cX11_mean 137 = .ok (.lstore 11, 2) := by decide +kernel
theorem dX11_mean_139 : decode cX11_mean 139 = .ok (.iload 6, 2) := by decide +kernel
theorem dX11_mean_141 : decode cX11_mean 141 = .ok (.ifCond .eq 8, 3) := by decide +kernel
theorem dX11_mean_144 : decode cX11_mean 144 = .ok (.lload 11, 2) := by decide +kernel
theorem dX11_mean_146 : decode cX11_mean 146 = .ok (.goto 5, 3) := by decide +kernel
theorem dX11_mean_149 : decode cX11_mean 149 = .ok (.lload 9, 2) := by decide +kernel
theorem dX11_mean_151 : decode cX11_mean 151 = .ok (.lload 9, 2) := by decide +kernel
theorem dX11_mean_153 : decode cX11_mean 153 = .ok (.lload 11, 2) := by decide +kernel
theorem dX11_mean_155 : decode cX11_mean 155 = .ok (.invokestatic 221, 3) := by decide +kernel
theorem dX11_mean_158 : decode cX11_mean 158 = .ok (.invokestatic 225, 3) := by decide +kernel
theorem dX11_mean_161 : decode cX11_mean 161 = .ok (.lreturn, 1) := by decide +kernel
set_option maxRecDepth 100000 in
theorem c_X11_mean (l : Launch) (D : q_D) (al : q_Al) (dt : q_Dt) (x0 : Nat) (x1 : Int32) (x2 : Int32) (x3 : Int32) (x4 : Int32) (x5 : Int32) (x6 : Int32) (kx0 : al.1 x0 = 12) (r0 : Int64) (hm : X11_mean x0 x1 x2 x3 x4 x5 x6 = some r0) : q_Mt l yX11_mean cX11_mean 13 (some FieldType.long) 1 30 D al [.ref x0, .int x1, .int x2, .int x3, .int x4, .int x5, .int x6] dt 0 (some (.long r0)) dt := by
  refine q_Mt.of (by decide) (Nat.le_of_ble_eq_true rfl) ?_
  intro p e s m args below meth c ls C hargs hW hl
  have hx := C.1
  have hb := C.2.1
  have hown := C.2.2.2.2.2.1
  have hts := C.2.2.2.2.2.2.1
  have hS : va_S (q_A al) s.heap s.heap [] := va_S.rf
  have hl : lv_has ls 13 [(0, .ref x0), (1, .int x1), (2, .int x2), (3, .int x3), (4, .int x4), (5, .int x5), (6, .int x6)] := hl
  unfold X11_mean at hm
  have hB83 : ∀ (H : Heap) (locs : List Loc) (ls : Array Slot) (hm : X11_mean_b83 = some r0) (hW : q_W D al dt H) (hS : va_S (q_A al) s.heap H locs) (hl : lv_has ls 13 []), W p l e { frames := 1, cells := 0, slots := 0, locals := 30 } s m args below meth c H locs 0 0 (MQ below (q_Q (some (.long r0)) (fun H => q_W D al dt H ∧ q_Rk al 0 (some (.long r0))) (q_A al)) args s 0 0 (q_A al)) (F0 m 83 ls []) := by
    intro H locs ls hm hW hS hl
    unfold X11_mean_b83 at hm
    refine lv_ldc2 (own := RX11) (v := (-1)) hx hb hown (hts _ wc_RX11_152) dX11_mean_83 ?_
    exact e_l C hW hS hm dX11_mean_86
  have hB151 : ∀ (x9_151 : Int64) (x11_151 : Int64) (t0_151 : Int64) (H : Heap) (locs : List Loc) (ls : Array Slot) (hm : X11_mean_b151 x9_151 x11_151 t0_151 = some r0) (hW : q_W D al dt H) (hS : va_S (q_A al) s.heap H locs) (hl : lv_has ls 13 [(9, .long x9_151), (11, .long x11_151)]), W p l e { frames := 1, cells := 0, slots := 0, locals := 30 } s m args below meth c H locs 0 0 (MQ below (q_Q (some (.long r0)) (fun H => q_W D al dt H ∧ q_Rk al 0 (some (.long r0))) (q_A al)) args s 0 0 (q_A al)) (F0 m 151 ls [.long t0_151]) := by
    intro x9_151 x11_151 t0_151 H locs ls hm hW hS hl
    unfold X11_mean_b151 at hm
    refine lv_lload hx hb dX11_mean_151 (lv_at hl 0 rfl) ?_
    refine lv_lload hx hb dX11_mean_153 (lv_at hl 1 rfl) ?_
    obtain ⟨v151002, hc151001, hm⟩ := q_b1i hm
    refine q_callS C hW hS (As := [.long x9_151, .long x11_151]) (rest := [.long t0_151]) (st1 := [.long v151002, .long t0_151]) (c_X11_commonDivisor l D al dt x9_151 x11_151 v151002 hc151001) yl_X11_commonDivisor sl_X11_commonDivisor ml_RX11_221 rfl ⟨Nat.le_of_ble_eq_true rfl, Nat.le_of_ble_eq_true rfl⟩ hl rfl (Nat.le_of_ble_eq_true rfl) dX11_mean_155 ⟨Nat.le_refl _, Nat.le_refl _⟩ rfl (fun H locs k151003 hW hS => ?_)
    obtain ⟨v151005, hc151004, hm⟩ := q_b1i hm
    refine q_callS C hW hS (As := [.long t0_151, .long v151002]) (rest := []) (st1 := [.long v151005]) (c_X11_quotient l D al dt t0_151 v151002 v151005 hc151004) yl_X11_quotient sl_X11_quotient ml_RX11_225 rfl ⟨Nat.le_of_ble_eq_true rfl, Nat.le_of_ble_eq_true rfl⟩ hl rfl (Nat.le_of_ble_eq_true rfl) dX11_mean_158 ⟨Nat.le_refl _, Nat.le_refl _⟩ rfl (fun H locs k151006 hW hS => ?_)
    exact e_l C hW hS hm dX11_mean_161
  have hB71 : ∀ (x1_71 : Int32) (x2_71 : Int32) (x3_71 : Int32) (x4_71 : Int32) (x5_71 : Int32) (x6_71 : Int32) (x7_71 : Int32) (t0_71 : Int32) (H : Heap) (locs : List Loc) (ls : Array Slot) (hm : X11_mean_b71 x1_71 x2_71 x3_71 x4_71 x5_71 x6_71 x7_71 t0_71 = some r0) (hW : q_W D al dt H) (hS : va_S (q_A al) s.heap H locs) (hl : lv_has ls 13 [(1, .int x1_71), (2, .int x2_71), (3, .int x3_71), (4, .int x4_71), (5, .int x5_71), (6, .int x6_71), (7, .int x7_71)]), W p l e { frames := 1, cells := 0, slots := 0, locals := 30 } s m args below meth c H locs 0 0 (MQ below (q_Q (some (.long r0)) (fun H => q_W D al dt H ∧ q_Rk al 0 (some (.long r0))) (q_A al)) args s 0 0 (q_A al)) (F0 m 71 ls [.int t0_71]) := by
    intro x1_71 x2_71 x3_71 x4_71 x5_71 x6_71 x7_71 t0_71 H locs ls hm hW hS hl
    unfold X11_mean_b71 at hm
    refine lv_istore (i := 8) (lv' := [(8, .int t0_71), (1, .int x1_71), (2, .int x2_71), (3, .int x3_71), (4, .int x4_71), (5, .int x5_71), (6, .int x6_71), (7, .int x7_71)]) hx hb dX11_mean_71 hl (by decide) rfl (fun ls hl => ?_)
    refine lv_iload hx hb dX11_mean_73 (lv_at hl 7 rfl) ?_
    refine q_ifc hm (fun c71001 hm => ?_) (fun c71001 hm => ?_)
    · refine lv_if_eq (tgt := 83) hx hb dX11_mean_75 (by decide) (fun _ => ?_) (fun h => absurd c71001 h)
      exact hB83 _ _ _ hm hW hS (lv_sub hl [] rfl)
    refine lv_if_eq (tgt := 83) hx hb dX11_mean_75 (by decide) (fun h => absurd h c71001) (fun _ => ?_)
    refine lv_iload hx hb dX11_mean_78 (lv_at hl 0 rfl) ?_
    refine q_ifc hm (fun c71002 hm => ?_) (fun c71002 hm => ?_)
    · refine lv_if_ne (tgt := 87) hx hb dX11_mean_80 (by decide) (fun h => absurd c71002 h) (fun _ => ?_)
      exact hB83 _ _ _ hm hW hS (lv_sub hl [] rfl)
    refine lv_if_ne (tgt := 87) hx hb dX11_mean_80 (by decide) (fun _ => ?_) (fun h => absurd h c71002)
    refine lv_ldc2 (own := RX11) (v := 2) hx hb hown (hts _ wc_RX11_219) dX11_mean_87 ?_
    refine lv_iload hx hb dX11_mean_90 (lv_at hl 4 rfl) ?_
    refine lv_i2l (v := (Int32.toInt64 x4_71)) hx hb dX11_mean_92 rfl ?_
    refine lv_lmul hx hb dX11_mean_93 ?_
    refine lv_iload_n hx hb dX11_mean_94 rfl (lv_at hl 2 rfl) ?_
    refine lv_i2l (v := (Int32.toInt64 x2_71)) hx hb dX11_mean_95 rfl ?_
    refine lv_lsub hx hb dX11_mean_96 ?_
    refine lv_iload_n hx hb dX11_mean_97 rfl (lv_at hl 1 rfl) ?_
    refine lv_iconst (v := 1) hx hb dX11_mean_98 (by decide) ?_
    refine lv_isub hx hb dX11_mean_99 ?_
    refine lv_i2l (v := (Int32.toInt64 (x1_71 - 1))) hx hb dX11_mean_100 rfl ?_
    refine lv_lmul hx hb dX11_mean_101 ?_
    refine lv_iload hx hb dX11_mean_102 (lv_at hl 4 rfl) ?_
    refine lv_i2l (v := (Int32.toInt64 x4_71)) hx hb dX11_mean_104 rfl ?_
    refine lv_iload hx hb dX11_mean_105 (lv_at hl 5 rfl) ?_
    refine lv_i2l (v := (Int32.toInt64 x5_71)) hx hb dX11_mean_107 rfl ?_
    refine lv_iload_n hx hb dX11_mean_108 rfl (lv_at hl 3 rfl) ?_
    refine lv_i2l (v := (Int32.toInt64 x3_71)) hx hb dX11_mean_109 rfl ?_
    refine lv_lmul hx hb dX11_mean_110 ?_
    refine lv_ladd hx hb dX11_mean_111 ?_
    refine lv_lmul hx hb dX11_mean_112 ?_
    refine lv_ldc2 (own := RX11) (v := 2) hx hb hown (hts _ wc_RX11_219) dX11_mean_113 ?_
    refine lv_iload hx hb dX11_mean_116 (lv_at hl 4 rfl) ?_
    refine lv_i2l (v := (Int32.toInt64 x4_71)) hx hb dX11_mean_118 rfl ?_
    refine lv_lmul hx hb dX11_mean_119 ?_
    refine lv_iload hx hb dX11_mean_120 (lv_at hl 4 rfl) ?_
    refine lv_i2l (v := (Int32.toInt64 x4_71)) hx hb dX11_mean_122 rfl ?_
    refine lv_lmul hx hb dX11_mean_123 ?_
    refine lv_ladd hx hb dX11_mean_124 ?_
    refine q_nmL hm (fun v71003 ev71003 hm => ?_)
    refine lv_lstore (i := 9) (lv' := [(9, .long v71003), (8, .int t0_71), (1, .int x1_71), (2, .int x2_71), (3, .int x3_71), (4, .int x4_71), (5, .int x5_71), (6, .int x6_71), (7, .int x7_71)]) hx hb dX11_mean_125 hl (by decide) rfl (fun ls hl => ?_)
    refine lv_ldc2 (own := RX11) (v := 2) hx hb hown (hts _ wc_RX11_219) dX11_mean_127 ?_
    refine lv_iload_n hx hb dX11_mean_130 rfl (lv_at hl 3 rfl) ?_
    refine lv_i2l (v := (Int32.toInt64 x2_71)) hx hb dX11_mean_131 rfl ?_
    refine lv_lmul hx hb dX11_mean_132 ?_
    refine lv_iload hx hb dX11_mean_133 (lv_at hl 5 rfl) ?_
    refine lv_i2l (v := (Int32.toInt64 x4_71)) hx hb dX11_mean_135 rfl ?_
    refine lv_lmul hx hb dX11_mean_136 ?_
    refine q_nmL hm (fun v71004 ev71004 hm => ?_)
    refine lv_lstore (i := 11) (lv' := [(11, .long v71004), (9, .long v71003), (8, .int t0_71), (1, .int x1_71), (2, .int x2_71), (3, .int x3_71), (4, .int x4_71), (5, .int x5_71), (6, .int x6_71), (7, .int x7_71)]) hx hb dX11_mean_137 hl (by decide) rfl (fun ls hl => ?_)
    refine lv_iload hx hb dX11_mean_139 (lv_at hl 8 rfl) ?_
    refine q_ifc hm (fun c71005 hm => ?_) (fun c71005 hm => ?_)
    · refine lv_if_eq (tgt := 149) hx hb dX11_mean_141 (by decide) (fun _ => ?_) (fun h => absurd c71005 h)
      refine lv_lload hx hb dX11_mean_149 (lv_at hl 1 rfl) ?_
      exact hB151 v71003 v71004 v71003 _ _ _ hm hW hS (lv_sub hl [1, 0] rfl)
    refine lv_if_eq (tgt := 149) hx hb dX11_mean_141 (by decide) (fun h => absurd h c71005) (fun _ => ?_)
    refine lv_lload hx hb dX11_mean_144 (lv_at hl 0 rfl) ?_
    refine lv_goto (tgt := 151) hx hb dX11_mean_146 (by decide) ?_
    exact hB151 v71003 v71004 v71004 _ _ _ hm hW hS (lv_sub hl [1, 0] rfl)
  have hB70 : ∀ (x1_70 : Int32) (x2_70 : Int32) (x3_70 : Int32) (x4_70 : Int32) (x5_70 : Int32) (x6_70 : Int32) (x7_70 : Int32) (H : Heap) (locs : List Loc) (ls : Array Slot) (hm : X11_mean_b70 x1_70 x2_70 x3_70 x4_70 x5_70 x6_70 x7_70 = some r0) (hW : q_W D al dt H) (hS : va_S (q_A al) s.heap H locs) (hl : lv_has ls 13 [(1, .int x1_70), (2, .int x2_70), (3, .int x3_70), (4, .int x4_70), (5, .int x5_70), (6, .int x6_70), (7, .int x7_70)]), W p l e { frames := 1, cells := 0, slots := 0, locals := 30 } s m args below meth c H locs 0 0 (MQ below (q_Q (some (.long r0)) (fun H => q_W D al dt H ∧ q_Rk al 0 (some (.long r0))) (q_A al)) args s 0 0 (q_A al)) (F0 m 70 ls []) := by
    intro x1_70 x2_70 x3_70 x4_70 x5_70 x6_70 x7_70 H locs ls hm hW hS hl
    unfold X11_mean_b70 at hm
    refine lv_iconst (v := 0) hx hb dX11_mean_70 (by decide) ?_
    exact hB71 x1_70 x2_70 x3_70 x4_70 x5_70 x6_70 x7_70 0 _ _ _ hm hW hS (lv_sub hl [0, 1, 2, 3, 4, 5, 6] rfl)
  have hB30 : ∀ (x1_30 : Int32) (x2_30 : Int32) (x3_30 : Int32) (x4_30 : Int32) (x5_30 : Int32) (x6_30 : Int32) (t0_30 : Int32) (H : Heap) (locs : List Loc) (ls : Array Slot) (hm : X11_mean_b30 x1_30 x2_30 x3_30 x4_30 x5_30 x6_30 t0_30 = some r0) (hW : q_W D al dt H) (hS : va_S (q_A al) s.heap H locs) (hl : lv_has ls 13 [(1, .int x1_30), (2, .int x2_30), (3, .int x3_30), (4, .int x4_30), (5, .int x5_30), (6, .int x6_30)]), W p l e { frames := 1, cells := 0, slots := 0, locals := 30 } s m args below meth c H locs 0 0 (MQ below (q_Q (some (.long r0)) (fun H => q_W D al dt H ∧ q_Rk al 0 (some (.long r0))) (q_A al)) args s 0 0 (q_A al)) (F0 m 30 ls [.int t0_30]) := by
    intro x1_30 x2_30 x3_30 x4_30 x5_30 x6_30 t0_30 H locs ls hm hW hS hl
    unfold X11_mean_b30 at hm
    refine lv_istore (i := 7) (lv' := [(7, .int t0_30), (1, .int x1_30), (2, .int x2_30), (3, .int x3_30), (4, .int x4_30), (5, .int x5_30), (6, .int x6_30)]) hx hb dX11_mean_30 hl (by decide) rfl (fun ls hl => ?_)
    refine lv_iload hx hb dX11_mean_32 (lv_at hl 4 rfl) ?_
    refine lv_iconst (v := 1) hx hb dX11_mean_34 (by decide) ?_
    refine q_ifc hm (fun c30001 hm => ?_) (fun c30001 hm => ?_)
    · refine lv_icmp_lt (tgt := 70) hx hb dX11_mean_35 (by decide) (fun _ => ?_) (fun h => absurd c30001 h)
      exact hB70 x1_30 x2_30 x3_30 x4_30 x5_30 x6_30 t0_30 _ _ _ hm hW hS (lv_sub hl [1, 2, 3, 4, 5, 6, 0] rfl)
    refine lv_icmp_lt (tgt := 70) hx hb dX11_mean_35 (by decide) (fun h => absurd h c30001) (fun _ => ?_)
    refine lv_iload hx hb dX11_mean_38 (lv_at hl 4 rfl) ?_
    refine lv_bipush (v := 100) hx hb dX11_mean_40 (by decide) ?_
    refine q_ifc hm (fun c30002 hm => ?_) (fun c30002 hm => ?_)
    · refine lv_icmp_gt (tgt := 70) hx hb dX11_mean_42 (by decide) (fun _ => ?_) (fun h => absurd c30002 h)
      exact hB70 x1_30 x2_30 x3_30 x4_30 x5_30 x6_30 t0_30 _ _ _ hm hW hS (lv_sub hl [1, 2, 3, 4, 5, 6, 0] rfl)
    refine lv_icmp_gt (tgt := 70) hx hb dX11_mean_42 (by decide) (fun h => absurd h c30002) (fun _ => ?_)
    refine lv_iload_n hx hb dX11_mean_45 rfl (lv_at hl 2 rfl) ?_
    refine lv_iconst (v := 1) hx hb dX11_mean_46 (by decide) ?_
    refine q_ifc hm (fun c30003 hm => ?_) (fun c30003 hm => ?_)
    · refine lv_icmp_lt (tgt := 70) hx hb dX11_mean_47 (by decide) (fun _ => ?_) (fun h => absurd c30003 h)
      exact hB70 x1_30 x2_30 x3_30 x4_30 x5_30 x6_30 t0_30 _ _ _ hm hW hS (lv_sub hl [1, 2, 3, 4, 5, 6, 0] rfl)
    refine lv_icmp_lt (tgt := 70) hx hb dX11_mean_47 (by decide) (fun h => absurd h c30003) (fun _ => ?_)
    refine lv_iload_n hx hb dX11_mean_50 rfl (lv_at hl 2 rfl) ?_
    refine lv_iload hx hb dX11_mean_51 (lv_at hl 4 rfl) ?_
    refine q_ifc hm (fun c30004 hm => ?_) (fun c30004 hm => ?_)
    · refine lv_icmp_gt (tgt := 70) hx hb dX11_mean_53 (by decide) (fun _ => ?_) (fun h => absurd c30004 h)
      exact hB70 x1_30 x2_30 x3_30 x4_30 x5_30 x6_30 t0_30 _ _ _ hm hW hS (lv_sub hl [1, 2, 3, 4, 5, 6, 0] rfl)
    refine lv_icmp_gt (tgt := 70) hx hb dX11_mean_53 (by decide) (fun h => absurd h c30004) (fun _ => ?_)
    refine lv_iload_n hx hb dX11_mean_56 rfl (lv_at hl 3 rfl) ?_
    refine q_ifc hm (fun c30005 hm => ?_) (fun c30005 hm => ?_)
    · refine lv_if_lt (tgt := 70) hx hb dX11_mean_57 (by decide) (fun _ => ?_) (fun h => absurd c30005 h)
      exact hB70 x1_30 x2_30 x3_30 x4_30 x5_30 x6_30 t0_30 _ _ _ hm hW hS (lv_sub hl [1, 2, 3, 4, 5, 6, 0] rfl)
    refine lv_if_lt (tgt := 70) hx hb dX11_mean_57 (by decide) (fun h => absurd h c30005) (fun _ => ?_)
    refine lv_iload_n hx hb dX11_mean_60 rfl (lv_at hl 3 rfl) ?_
    refine lv_iload hx hb dX11_mean_61 (lv_at hl 4 rfl) ?_
    refine q_ifc hm (fun c30006 hm => ?_) (fun c30006 hm => ?_)
    · refine lv_icmp_gt (tgt := 70) hx hb dX11_mean_63 (by decide) (fun _ => ?_) (fun h => absurd c30006 h)
      exact hB70 x1_30 x2_30 x3_30 x4_30 x5_30 x6_30 t0_30 _ _ _ hm hW hS (lv_sub hl [1, 2, 3, 4, 5, 6, 0] rfl)
    refine lv_icmp_gt (tgt := 70) hx hb dX11_mean_63 (by decide) (fun h => absurd h c30006) (fun _ => ?_)
    refine lv_iconst (v := 1) hx hb dX11_mean_66 (by decide) ?_
    refine lv_goto (tgt := 71) hx hb dX11_mean_67 (by decide) ?_
    exact hB71 x1_30 x2_30 x3_30 x4_30 x5_30 x6_30 t0_30 1 _ _ _ hm hW hS (lv_sub hl [1, 2, 3, 4, 5, 6, 0] rfl)
  have hB29 : ∀ (x1_29 : Int32) (x2_29 : Int32) (x3_29 : Int32) (x4_29 : Int32) (x5_29 : Int32) (x6_29 : Int32) (H : Heap) (locs : List Loc) (ls : Array Slot) (hm : X11_mean_b29 x1_29 x2_29 x3_29 x4_29 x5_29 x6_29 = some r0) (hW : q_W D al dt H) (hS : va_S (q_A al) s.heap H locs) (hl : lv_has ls 13 [(1, .int x1_29), (2, .int x2_29), (3, .int x3_29), (4, .int x4_29), (5, .int x5_29), (6, .int x6_29)]), W p l e { frames := 1, cells := 0, slots := 0, locals := 30 } s m args below meth c H locs 0 0 (MQ below (q_Q (some (.long r0)) (fun H => q_W D al dt H ∧ q_Rk al 0 (some (.long r0))) (q_A al)) args s 0 0 (q_A al)) (F0 m 29 ls []) := by
    intro x1_29 x2_29 x3_29 x4_29 x5_29 x6_29 H locs ls hm hW hS hl
    unfold X11_mean_b29 at hm
    refine lv_iconst (v := 0) hx hb dX11_mean_29 (by decide) ?_
    exact hB30 x1_29 x2_29 x3_29 x4_29 x5_29 x6_29 0 _ _ _ hm hW hS (lv_sub hl [0, 1, 2, 3, 4, 5] rfl)
  refine lv_iload_n hx hb dX11_mean_0 rfl (lv_at hl 1 rfl) ?_
  refine lv_iconst (v := 2) hx hb dX11_mean_1 (by decide) ?_
  refine q_ifc hm (fun c1000001 hm => ?_) (fun c1000001 hm => ?_)
  · refine lv_icmp_lt (tgt := 29) hx hb dX11_mean_2 (by decide) (fun _ => ?_) (fun h => absurd c1000001 h)
    exact hB29 x1 x2 x3 x4 x5 x6 _ _ _ hm hW hS (lv_sub hl [1, 2, 3, 4, 5, 6] rfl)
  refine lv_icmp_lt (tgt := 29) hx hb dX11_mean_2 (by decide) (fun h => absurd h c1000001) (fun _ => ?_)
  refine lv_iload_n hx hb dX11_mean_5 rfl (lv_at hl 1 rfl) ?_
  refine lv_sipush (v := 1000) hx hb dX11_mean_6 (by decide) ?_
  refine q_ifc hm (fun c1000002 hm => ?_) (fun c1000002 hm => ?_)
  · refine lv_icmp_gt (tgt := 29) hx hb dX11_mean_9 (by decide) (fun _ => ?_) (fun h => absurd c1000002 h)
    exact hB29 x1 x2 x3 x4 x5 x6 _ _ _ hm hW hS (lv_sub hl [1, 2, 3, 4, 5, 6] rfl)
  refine lv_icmp_gt (tgt := 29) hx hb dX11_mean_9 (by decide) (fun h => absurd h c1000002) (fun _ => ?_)
  refine lv_iload hx hb dX11_mean_12 (lv_at hl 5 rfl) ?_
  refine q_ifc hm (fun c1000003 hm => ?_) (fun c1000003 hm => ?_)
  · refine lv_if_lt (tgt := 29) hx hb dX11_mean_14 (by decide) (fun _ => ?_) (fun h => absurd c1000003 h)
    exact hB29 x1 x2 x3 x4 x5 x6 _ _ _ hm hW hS (lv_sub hl [1, 2, 3, 4, 5, 6] rfl)
  refine lv_if_lt (tgt := 29) hx hb dX11_mean_14 (by decide) (fun h => absurd h c1000003) (fun _ => ?_)
  refine lv_iload hx hb dX11_mean_17 (lv_at hl 5 rfl) ?_
  refine lv_sipush (v := 1000) hx hb dX11_mean_19 (by decide) ?_
  refine q_ifc hm (fun c1000004 hm => ?_) (fun c1000004 hm => ?_)
  · refine lv_icmp_gt (tgt := 29) hx hb dX11_mean_22 (by decide) (fun _ => ?_) (fun h => absurd c1000004 h)
    exact hB29 x1 x2 x3 x4 x5 x6 _ _ _ hm hW hS (lv_sub hl [1, 2, 3, 4, 5, 6] rfl)
  refine lv_icmp_gt (tgt := 29) hx hb dX11_mean_22 (by decide) (fun h => absurd h c1000004) (fun _ => ?_)
  refine lv_iconst (v := 1) hx hb dX11_mean_25 (by decide) ?_
  refine lv_goto (tgt := 30) hx hb dX11_mean_26 (by decide) ?_
  exact hB30 x1 x2 x3 x4 x5 x6 1 _ _ _ hm hW hS (lv_sub hl [1, 2, 3, 4, 5, 6] rfl)
theorem dX11_toThe_0 : decode cX11_toThe 0 = .ok (.lconst 1, 1) := by decide +kernel
theorem dX11_toThe_1 : decode cX11_toThe 1 = .ok (.lstore_n 3, 1) := by decide +kernel
theorem dX11_toThe_2 : decode cX11_toThe 2 = .ok (.iconst 0, 1) := by decide +kernel
theorem dX11_toThe_3 : decode cX11_toThe 3 = .ok (.istore 5, 2) := by decide +kernel
theorem dX11_toThe_5 : decode cX11_toThe 5 = .ok (.iload 5, 2) := by decide +kernel
theorem dX11_toThe_7 : decode cX11_toThe 7 = .ok (.iload_n 2, 1) := by decide +kernel
theorem dX11_toThe_8 : decode cX11_toThe 8 = .ok (.if_icmp .ge 13, 3) := by decide +kernel
theorem dX11_toThe_11 : decode cX11_toThe 11 = .ok (.lload_n 3, 1) := by decide +kernel
theorem dX11_toThe_12 : decode cX11_toThe 12 = .ok (.lload_n 0, 1) := by decide +kernel
theorem dX11_toThe_13 : decode cX11_toThe 13 = .ok (.lmul, 1) := by decide +kernel
theorem dX11_toThe_14 : decode cX11_toThe 14 = .ok (.lstore_n 3, 1) := by decide +kernel
theorem dX11_toThe_15 : decode cX11_toThe 15 = .ok (.iinc 5 1, 3) := by decide +kernel
theorem dX11_toThe_18 : decode cX11_toThe 18 = .ok (.goto (-13), 3) := by decide +kernel
theorem dX11_toThe_21 : decode cX11_toThe 21 = .ok (.lload_n 3, 1) := by decide +kernel
theorem dX11_toThe_22 : decode cX11_toThe 22 = .ok (.lreturn, 1) := by decide +kernel
set_option maxRecDepth 100000 in
theorem c_X11_toThe (l : Launch) (D : q_D) (al : q_Al) (dt : q_Dt) (x0 : Int64) (x2 : Int32) (r0 : Int64) (hm : X11_toThe x0 x2 = some r0) : q_Mt l yX11_toThe cX11_toThe 6 (some FieldType.long) 0 0 D al [.long x0, .int x2] dt 0 (some (.long r0)) dt := by
  refine q_Mt.of (by decide) (Nat.le_of_ble_eq_true rfl) ?_
  intro p e s m args below meth c ls C hargs hW hl
  have hx := C.1
  have hb := C.2.1
  have hown := C.2.2.2.2.2.1
  have hts := C.2.2.2.2.2.2.1
  have hS : va_S (q_A al) s.heap s.heap [] := va_S.rf
  have hl : lv_has ls 6 [(0, .long x0), (2, .int x2)] := hl
  unfold X11_toThe at hm
  have hB5 : ∀ (x0_5 : Int64) (x2_5 : Int32) (n_5 : Nat) (x3_5 : Int64) (x5_5 : Int32) (H : Heap) (locs : List Loc) (ls : Array Slot) (hm : X11_toThe_b5 x0_5 x2_5 n_5 x3_5 x5_5 = some r0) (hW : q_W D al dt H) (hS : va_S (q_A al) s.heap H locs) (hl : lv_has ls 6 [(0, .long x0_5), (2, .int x2_5), (3, .long x3_5), (5, .int x5_5)]), W p l e { frames := 0, cells := 0, slots := 0, locals := 0 } s m args below meth c H locs 0 0 (MQ below (q_Q (some (.long r0)) (fun H => q_W D al dt H ∧ q_Rk al 0 (some (.long r0))) (q_A al)) args s 0 0 (q_A al)) (F0 m 5 ls []) := by
    intro x0_5 x2_5
    intro n_5
    induction n_5 with
    | zero => intro x3_5 x5_5 H locs ls hm hW hS hl; cases hm
    | succ n_5 ih5 =>
      intro x3_5 x5_5 H locs ls hm hW hS hl
      rw [X11_toThe_b5] at hm
      refine lv_iload hx hb dX11_toThe_5 (lv_at hl 3 rfl) ?_
      refine lv_iload_n hx hb dX11_toThe_7 rfl (lv_at hl 1 rfl) ?_
      refine q_ifc hm (fun c5001 hm => ?_) (fun c5001 hm => ?_)
      · refine lv_icmp_ge (tgt := 21) hx hb dX11_toThe_8 (by decide) (fun _ => ?_) (fun h => absurd c5001 h)
        refine lv_lload_n hx hb dX11_toThe_21 rfl (lv_at hl 2 rfl) ?_
        exact e_l C hW hS hm dX11_toThe_22
      refine lv_icmp_ge (tgt := 21) hx hb dX11_toThe_8 (by decide) (fun h => absurd h c5001) (fun _ => ?_)
      refine lv_lload_n hx hb dX11_toThe_11 rfl (lv_at hl 2 rfl) ?_
      refine lv_lload_n hx hb dX11_toThe_12 rfl (lv_at hl 0 rfl) ?_
      refine lv_lmul hx hb dX11_toThe_13 ?_
      refine lv_lstore_n (i := 3) (lv' := [(3, .long (x3_5 * x0_5)), (0, .long x0_5), (2, .int x2_5), (5, .int x5_5)]) hx hb dX11_toThe_14 rfl hl (by decide) rfl (fun ls hl => ?_)
      refine lv_iinc (v := (x5_5 + 1)) (lv' := [(5, .int (x5_5 + 1)), (3, .long (x3_5 * x0_5)), (0, .long x0_5), (2, .int x2_5)]) hx hb dX11_toThe_15 hl (k := 3) rfl rfl (by decide) rfl (fun ls hl => ?_)
      refine lv_goto (tgt := 5) hx hb dX11_toThe_18 (by decide) ?_
      exact ih5 (x3_5 * x0_5) (x5_5 + 1) _ _ _ hm hW hS (lv_sub hl [2, 3, 1, 0] rfl)
  refine lv_lconst (v := 1) hx hb dX11_toThe_0 rfl ?_
  refine lv_lstore_n (i := 3) (lv' := [(3, .long 1), (0, .long x0), (2, .int x2)]) hx hb dX11_toThe_1 rfl hl (by decide) rfl (fun ls hl => ?_)
  refine lv_iconst (v := 0) hx hb dX11_toThe_2 (by decide) ?_
  refine lv_istore (i := 5) (lv' := [(5, .int 0), (3, .long 1), (0, .long x0), (2, .int x2)]) hx hb dX11_toThe_3 hl (by decide) rfl (fun ls hl => ?_)
  exact hB5 x0 x2 q_FU 1 0 _ _ _ hm hW hS (lv_sub hl [2, 3, 1, 0] rfl)
theorem dX11_over_0 : decode cX11_over 0 = .ok (.iload_n 3, 1) := by decide +kernel
theorem dX11_over_1 : decode cX11_over 1 = .ok (.iconst 1, 1) := by decide +kernel
theorem dX11_over_2 : decode cX11_over 2 = .ok (.if_icmp .lt 23, 3) := by decide +kernel
theorem dX11_over_5 : decode cX11_over 5 = .ok (.iload_n 3, 1) := by decide +kernel
theorem dX11_over_6 : decode cX11_over 6 = .ok (.bipush 10, 2) := by decide +kernel
theorem dX11_over_8 : decode cX11_over 8 = .ok (.if_icmp .gt 17, 3) := by decide +kernel
theorem dX11_over_11 : decode cX11_over 11 = .ok (.iload_n 2, 1) := by decide +kernel
theorem dX11_over_12 : decode cX11_over 12 = .ok (.iconst 1, 1) := by decide +kernel
theorem dX11_over_13 : decode cX11_over 13 = .ok (.if_icmp .lt 12, 3) := by decide +kernel
theorem dX11_over_16 : decode cX11_over 16 = .ok (.iload_n 2, 1) := by decide +kernel
theorem dX11_over_17 : decode cX11_over 17 = .ok (.iload_n 3, 1) := by decide +kernel
theorem dX11_over_18 : decode cX11_over 18 = .ok (.if_icmp .gt 7, 3) := by decide +kernel
theorem dX11_over_21 : decode cX11_over 21 = .ok (.iconst 1, 1) := by decide +kernel
theorem dX11_over_22 : decode cX11_over 22 = .ok (.goto 4, 3) := by decide +kernel
theorem dX11_over_25 : decode cX11_over 25 = .ok (.iconst 0, 1) := by decide +kernel
theorem dX11_over_26 : decode cX11_over 26 = .ok (.istore 6, 2) := by decide +kernel
theorem dX11_over_28 : decode cX11_over 28 = .ok (.iload 6, 2) := by decide +kernel
theorem dX11_over_30 : decode cX11_over 30 = .ok (.ifCond .eq 38, 3) := by decide +kernel
theorem dX11_over_33 : decode cX11_over 33 = .ok (.iload_n 1, 1) := by decide +kernel
theorem dX11_over_34 : decode cX11_over 34 = .ok (.iconst 2, 1) := by decide +kernel
theorem dX11_over_35 : decode cX11_over 35 = .ok (.if_icmp .lt 33, 3) := by decide +kernel
theorem dX11_over_38 : decode cX11_over 38 = .ok (.iload_n 1, 1) := by decide +kernel
theorem dX11_over_39 : decode cX11_over 39 = .ok (.sipush 1000, 3) := by decide +kernel
theorem dX11_over_42 : decode cX11_over 42 = .ok (.if_icmp .gt 26, 3) := by decide +kernel
theorem dX11_over_45 : decode cX11_over 45 = .ok (.iload 4, 2) := by decide +kernel
theorem dX11_over_47 : decode cX11_over 47 = .ok (.ifCond .lt 21, 3) := by decide +kernel
theorem dX11_over_50 : decode cX11_over 50 = .ok (.iload 4, 2) := by decide +kernel
theorem dX11_over_52 : decode cX11_over 52 = .ok (.iload_n 1, 1) := by decide +kernel
theorem dX11_over_53 : decode cX11_over 53 = .ok (.if_icmp .ge 15, 3) := by decide +kernel
theorem dX11_over_56 : decode cX11_over 56 = .ok (.iload 5, 2) := by decide +kernel
theorem dX11_over_58 : decode cX11_over 58 = .ok (.ifCond .lt 10, 3) := by decide +kernel
theorem dX11_over_61 : decode cX11_over 61 = .ok (.iload 5, 2) := by decide +kernel
theorem dX11_over_63 : decode cX11_over 63 = .ok (.bipush 18, 2) := by decide +kernel
theorem dX11_over_65 : decode cX11_over 65 = .ok (.if_icmp .le 7, 3) := by decide +kernel
theorem dX11_over_68 : decode cX11_over 68 = .ok (.ldc2_w 152, 3) := by decide +kernel
theorem dX11_over_71 : decode cX11_over 71 = .ok (.lreturn, 1) := by decide +kernel
theorem dX11_over_72 : decode cX11_over 72 = .ok (.iload 4, 2) := by decide +kernel
theorem dX11_over_74 : decode cX11_over 74 = .ok (.iload 5, 2) := by decide +kernel
theorem dX11_over_76 : decode cX11_over 76 = .ok (.if_icmp .ge 22, 3) := by decide +kernel
theorem dX11_over_79 : decode cX11_over 79 = .ok (.iload 5, 2) := by decide +kernel
theorem dX11_over_81 : decode cX11_over 81 = .ok (.iconst 1, 1) := by decide +kernel
theorem dX11_over_82 : decode cX11_over 82 = .ok (.isub, 1) := by decide +kernel
theorem dX11_over_83 : decode cX11_over 83 = .ok (.iload 4, 2) := by decide +kernel
theorem dX11_over_85 : decode cX11_over 85 = .ok (.isub, 1) := by decide +kernel
theorem dX11_over_86 : decode cX11_over 86 = .ok (.i2l, 1) := by decide +kernel
theorem dX11_over_87 : decode cX11_over 87 = .ok (.iload_n 1, 1) := by decide +kernel
theorem dX11_over_88 : decode cX11_over 88 = .ok (.i2l, 1) := by decide +kernel
theorem dX11_over_89 : decode cX11_over 89 = .ok (.invokestatic 225, 3) := by decide +kernel
theorem dX11_over_92 : decode cX11_over 92 = .ok (.l2i, 1) := by decide +kernel
theorem dX11_over_93 : decode cX11_over 93 = .ok (.iconst 1, 1) := by decide +kernel
theorem dX11_over_94 : decode cX11_over 94 = .ok (.iadd, 1) := by decide +kernel
theorem dX11_over_95 : decode cX11_over 95 = .ok (.goto 4, 3) := by decide +kernel
theorem dX11_over_98 : decode cX11_over 98 = .ok (.iconst 0, 1) := by decide +kernel
theorem dX11_over_99 : decode cX11_over 99 = .ok (.istore 7, 2) := by decide +kernel
theorem dX11_over_101 : decode cX11_over 101 = .ok (.iload_n 3, 1) := by decide +kernel
theorem dX11_over_102 : decode cX11_over 102 = .ok (.i2l, 1) := by decide +kernel
theorem dX11_over_103 : decode cX11_over 103 = .ok (.iload 5, 2) := by decide +kernel
theorem dX11_over_105 : decode cX11_over 105 = .ok (.invokestatic 228, 3) := by decide +kernel
theorem dX11_over_108 : decode cX11_over 108 = .ok (.iload_n 3, 1) := by decide +kernel
theorem dX11_over_109 : decode cX11_over 109 = .ok (.iload_n 2, 1) := by decide +kernel
theorem dX11_over_110 : decode cX11_over 110 = .ok (.isub, 1) := by decide +kernel
theorem dX11_over_111 : decode cX11_over 111 = .ok (.i2l, 1) := by decide +kernel
theorem dX11_over_112 : decode cX11_over 112 = .ok (.iload 7, 2) := by decide +kernel
theorem dX11_over_114 : decode cX11_over 114 = .ok (.invokestatic 228, 3) := by decide +kernel
theorem dX11_over_117 : decode cX11_over 117 = .ok (.iload_n 3, 1) := by decide +kernel
theorem dX11_over_118 : decode cX11_over 118 = .ok (.i2l, 1) := by decide +kernel
theorem dX11_over_119 : decode cX11_over 119 = .ok (.iload 5, 2) := by decide +kernel
theorem dX11_over_121 : decode cX11_over 121 = .ok (.iload 7, 2) := by decide +kernel
theorem dX11_over_123 : decode cX11_over 123 = .ok (.isub, 1) := by decide +kernel
theorem dX11_over_124 : decode cX11_over 124 = .ok (.invokestatic 228, 3) := by decide +kernel
theorem dX11_over_127 : decode cX11_over 127 = .ok (.lmul, 1) := by decide +kernel
theorem dX11_over_128 : decode cX11_over 128 = .ok (.lsub, 1) := by decide +kernel
theorem dX11_over_129 : decode cX11_over 129 = .ok (.lreturn, 1) := by decide +kernel
set_option maxRecDepth 100000 in
theorem c_X11_over (l : Launch) (D : q_D) (al : q_Al) (dt : q_Dt) (x0 : Nat) (x1 : Int32) (x2 : Int32) (x3 : Int32) (x4 : Int32) (x5 : Int32) (kx0 : al.1 x0 = 12) (r0 : Int64) (hm : X11_over x0 x1 x2 x3 x4 x5 = some r0) : q_Mt l yX11_over cX11_over 8 (some FieldType.long) 1 25 D al [.ref x0, .int x1, .int x2, .int x3, .int x4, .int x5] dt 0 (some (.long r0)) dt := by
  refine q_Mt.of (by decide) (Nat.le_of_ble_eq_true rfl) ?_
  intro p e s m args below meth c ls C hargs hW hl
  have hx := C.1
  have hb := C.2.1
  have hown := C.2.2.2.2.2.1
  have hts := C.2.2.2.2.2.2.1
  have hS : va_S (q_A al) s.heap s.heap [] := va_S.rf
  have hl : lv_has ls 8 [(0, .ref x0), (1, .int x1), (2, .int x2), (3, .int x3), (4, .int x4), (5, .int x5)] := hl
  unfold X11_over at hm
  have hB68 : ∀ (H : Heap) (locs : List Loc) (ls : Array Slot) (hm : X11_over_b68 = some r0) (hW : q_W D al dt H) (hS : va_S (q_A al) s.heap H locs) (hl : lv_has ls 8 []), W p l e { frames := 1, cells := 0, slots := 0, locals := 25 } s m args below meth c H locs 0 0 (MQ below (q_Q (some (.long r0)) (fun H => q_W D al dt H ∧ q_Rk al 0 (some (.long r0))) (q_A al)) args s 0 0 (q_A al)) (F0 m 68 ls []) := by
    intro H locs ls hm hW hS hl
    unfold X11_over_b68 at hm
    refine lv_ldc2 (own := RX11) (v := (-1)) hx hb hown (hts _ wc_RX11_152) dX11_over_68 ?_
    exact e_l C hW hS hm dX11_over_71
  have hB99 : ∀ (x2_99 : Int32) (x3_99 : Int32) (x5_99 : Int32) (t0_99 : Int32) (H : Heap) (locs : List Loc) (ls : Array Slot) (hm : X11_over_b99 x2_99 x3_99 x5_99 t0_99 = some r0) (hW : q_W D al dt H) (hS : va_S (q_A al) s.heap H locs) (hl : lv_has ls 8 [(2, .int x2_99), (3, .int x3_99), (5, .int x5_99)]), W p l e { frames := 1, cells := 0, slots := 0, locals := 25 } s m args below meth c H locs 0 0 (MQ below (q_Q (some (.long r0)) (fun H => q_W D al dt H ∧ q_Rk al 0 (some (.long r0))) (q_A al)) args s 0 0 (q_A al)) (F0 m 99 ls [.int t0_99]) := by
    intro x2_99 x3_99 x5_99 t0_99 H locs ls hm hW hS hl
    unfold X11_over_b99 at hm
    refine lv_istore (i := 7) (lv' := [(7, .int t0_99), (2, .int x2_99), (3, .int x3_99), (5, .int x5_99)]) hx hb dX11_over_99 hl (by decide) rfl (fun ls hl => ?_)
    refine lv_iload_n hx hb dX11_over_101 rfl (lv_at hl 2 rfl) ?_
    refine lv_i2l (v := (Int32.toInt64 x3_99)) hx hb dX11_over_102 rfl ?_
    refine lv_iload hx hb dX11_over_103 (lv_at hl 3 rfl) ?_
    obtain ⟨v99002, hc99001, hm⟩ := q_b1i hm
    refine q_callS C hW hS (As := [.long (Int32.toInt64 x3_99), .int x5_99]) (rest := []) (st1 := [.long v99002]) (c_X11_toThe l D al dt (Int32.toInt64 x3_99) x5_99 v99002 hc99001) yl_X11_toThe sl_X11_toThe ml_RX11_228 rfl ⟨Nat.le_of_ble_eq_true rfl, Nat.le_of_ble_eq_true rfl⟩ hl rfl (Nat.le_of_ble_eq_true rfl) dX11_over_105 ⟨Nat.le_refl _, Nat.le_refl _⟩ rfl (fun H locs k99003 hW hS => ?_)
    refine lv_iload_n hx hb dX11_over_108 rfl (lv_at hl 2 rfl) ?_
    refine lv_iload_n hx hb dX11_over_109 rfl (lv_at hl 1 rfl) ?_
    refine lv_isub hx hb dX11_over_110 ?_
    refine lv_i2l (v := (Int32.toInt64 (x3_99 - x2_99))) hx hb dX11_over_111 rfl ?_
    refine lv_iload hx hb dX11_over_112 (lv_at hl 0 rfl) ?_
    obtain ⟨v99005, hc99004, hm⟩ := q_b1i hm
    refine q_callS C hW hS (As := [.long (Int32.toInt64 (x3_99 - x2_99)), .int t0_99]) (rest := [.long v99002]) (st1 := [.long v99005, .long v99002]) (c_X11_toThe l D al dt (Int32.toInt64 (x3_99 - x2_99)) t0_99 v99005 hc99004) yl_X11_toThe sl_X11_toThe ml_RX11_228 rfl ⟨Nat.le_of_ble_eq_true rfl, Nat.le_of_ble_eq_true rfl⟩ hl rfl (Nat.le_of_ble_eq_true rfl) dX11_over_114 ⟨Nat.le_refl _, Nat.le_refl _⟩ rfl (fun H locs k99006 hW hS => ?_)
    refine lv_iload_n hx hb dX11_over_117 rfl (lv_at hl 2 rfl) ?_
    refine lv_i2l (v := (Int32.toInt64 x3_99)) hx hb dX11_over_118 rfl ?_
    refine lv_iload hx hb dX11_over_119 (lv_at hl 3 rfl) ?_
    refine lv_iload hx hb dX11_over_121 (lv_at hl 0 rfl) ?_
    refine lv_isub hx hb dX11_over_123 ?_
    obtain ⟨v99008, hc99007, hm⟩ := q_b1i hm
    refine q_callS C hW hS (As := [.long (Int32.toInt64 x3_99), .int (x5_99 - t0_99)]) (rest := [.long v99005, .long v99002]) (st1 := [.long v99008, .long v99005, .long v99002]) (c_X11_toThe l D al dt (Int32.toInt64 x3_99) (x5_99 - t0_99) v99008 hc99007) yl_X11_toThe sl_X11_toThe ml_RX11_228 rfl ⟨Nat.le_of_ble_eq_true rfl, Nat.le_of_ble_eq_true rfl⟩ hl rfl (Nat.le_of_ble_eq_true rfl) dX11_over_124 ⟨Nat.le_refl _, Nat.le_refl _⟩ rfl (fun H locs k99009 hW hS => ?_)
    refine lv_lmul hx hb dX11_over_127 ?_
    refine lv_lsub hx hb dX11_over_128 ?_
    exact e_l C hW hS hm dX11_over_129
  have hB26 : ∀ (x1_26 : Int32) (x2_26 : Int32) (x3_26 : Int32) (x4_26 : Int32) (x5_26 : Int32) (t0_26 : Int32) (H : Heap) (locs : List Loc) (ls : Array Slot) (hm : X11_over_b26 x1_26 x2_26 x3_26 x4_26 x5_26 t0_26 = some r0) (hW : q_W D al dt H) (hS : va_S (q_A al) s.heap H locs) (hl : lv_has ls 8 [(1, .int x1_26), (2, .int x2_26), (3, .int x3_26), (4, .int x4_26), (5, .int x5_26)]), W p l e { frames := 1, cells := 0, slots := 0, locals := 25 } s m args below meth c H locs 0 0 (MQ below (q_Q (some (.long r0)) (fun H => q_W D al dt H ∧ q_Rk al 0 (some (.long r0))) (q_A al)) args s 0 0 (q_A al)) (F0 m 26 ls [.int t0_26]) := by
    intro x1_26 x2_26 x3_26 x4_26 x5_26 t0_26 H locs ls hm hW hS hl
    unfold X11_over_b26 at hm
    refine lv_istore (i := 6) (lv' := [(6, .int t0_26), (1, .int x1_26), (2, .int x2_26), (3, .int x3_26), (4, .int x4_26), (5, .int x5_26)]) hx hb dX11_over_26 hl (by decide) rfl (fun ls hl => ?_)
    refine lv_iload hx hb dX11_over_28 (lv_at hl 0 rfl) ?_
    refine q_ifc hm (fun c26001 hm => ?_) (fun c26001 hm => ?_)
    · refine lv_if_eq (tgt := 68) hx hb dX11_over_30 (by decide) (fun _ => ?_) (fun h => absurd c26001 h)
      exact hB68 _ _ _ hm hW hS (lv_sub hl [] rfl)
    refine lv_if_eq (tgt := 68) hx hb dX11_over_30 (by decide) (fun h => absurd h c26001) (fun _ => ?_)
    refine lv_iload_n hx hb dX11_over_33 rfl (lv_at hl 1 rfl) ?_
    refine lv_iconst (v := 2) hx hb dX11_over_34 (by decide) ?_
    refine q_ifc hm (fun c26002 hm => ?_) (fun c26002 hm => ?_)
    · refine lv_icmp_lt (tgt := 68) hx hb dX11_over_35 (by decide) (fun _ => ?_) (fun h => absurd c26002 h)
      exact hB68 _ _ _ hm hW hS (lv_sub hl [] rfl)
    refine lv_icmp_lt (tgt := 68) hx hb dX11_over_35 (by decide) (fun h => absurd h c26002) (fun _ => ?_)
    refine lv_iload_n hx hb dX11_over_38 rfl (lv_at hl 1 rfl) ?_
    refine lv_sipush (v := 1000) hx hb dX11_over_39 (by decide) ?_
    refine q_ifc hm (fun c26003 hm => ?_) (fun c26003 hm => ?_)
    · refine lv_icmp_gt (tgt := 68) hx hb dX11_over_42 (by decide) (fun _ => ?_) (fun h => absurd c26003 h)
      exact hB68 _ _ _ hm hW hS (lv_sub hl [] rfl)
    refine lv_icmp_gt (tgt := 68) hx hb dX11_over_42 (by decide) (fun h => absurd h c26003) (fun _ => ?_)
    refine lv_iload hx hb dX11_over_45 (lv_at hl 4 rfl) ?_
    refine q_ifc hm (fun c26004 hm => ?_) (fun c26004 hm => ?_)
    · refine lv_if_lt (tgt := 68) hx hb dX11_over_47 (by decide) (fun _ => ?_) (fun h => absurd c26004 h)
      exact hB68 _ _ _ hm hW hS (lv_sub hl [] rfl)
    refine lv_if_lt (tgt := 68) hx hb dX11_over_47 (by decide) (fun h => absurd h c26004) (fun _ => ?_)
    refine lv_iload hx hb dX11_over_50 (lv_at hl 4 rfl) ?_
    refine lv_iload_n hx hb dX11_over_52 rfl (lv_at hl 1 rfl) ?_
    refine q_ifc hm (fun c26005 hm => ?_) (fun c26005 hm => ?_)
    · refine lv_icmp_ge (tgt := 68) hx hb dX11_over_53 (by decide) (fun _ => ?_) (fun h => absurd c26005 h)
      exact hB68 _ _ _ hm hW hS (lv_sub hl [] rfl)
    refine lv_icmp_ge (tgt := 68) hx hb dX11_over_53 (by decide) (fun h => absurd h c26005) (fun _ => ?_)
    refine lv_iload hx hb dX11_over_56 (lv_at hl 5 rfl) ?_
    refine q_ifc hm (fun c26006 hm => ?_) (fun c26006 hm => ?_)
    · refine lv_if_lt (tgt := 68) hx hb dX11_over_58 (by decide) (fun _ => ?_) (fun h => absurd c26006 h)
      exact hB68 _ _ _ hm hW hS (lv_sub hl [] rfl)
    refine lv_if_lt (tgt := 68) hx hb dX11_over_58 (by decide) (fun h => absurd h c26006) (fun _ => ?_)
    refine lv_iload hx hb dX11_over_61 (lv_at hl 5 rfl) ?_
    refine lv_bipush (v := 18) hx hb dX11_over_63 (by decide) ?_
    refine q_ifc hm (fun c26007 hm => ?_) (fun c26007 hm => ?_)
    · refine lv_icmp_le (tgt := 72) hx hb dX11_over_65 (by decide) (fun _ => ?_) (fun h => absurd c26007 h)
      refine lv_iload hx hb dX11_over_72 (lv_at hl 4 rfl) ?_
      refine lv_iload hx hb dX11_over_74 (lv_at hl 5 rfl) ?_
      refine q_ifc hm (fun c26008 hm => ?_) (fun c26008 hm => ?_)
      · refine lv_icmp_ge (tgt := 98) hx hb dX11_over_76 (by decide) (fun _ => ?_) (fun h => absurd c26008 h)
        refine lv_iconst (v := 0) hx hb dX11_over_98 (by decide) ?_
        exact hB99 x2_26 x3_26 x5_26 0 _ _ _ hm hW hS (lv_sub hl [2, 3, 5] rfl)
      refine lv_icmp_ge (tgt := 98) hx hb dX11_over_76 (by decide) (fun h => absurd h c26008) (fun _ => ?_)
      refine lv_iload hx hb dX11_over_79 (lv_at hl 5 rfl) ?_
      refine lv_iconst (v := 1) hx hb dX11_over_81 (by decide) ?_
      refine lv_isub hx hb dX11_over_82 ?_
      refine lv_iload hx hb dX11_over_83 (lv_at hl 4 rfl) ?_
      refine lv_isub hx hb dX11_over_85 ?_
      refine lv_i2l (v := (Int32.toInt64 ((x5_26 - 1) - x4_26))) hx hb dX11_over_86 rfl ?_
      refine lv_iload_n hx hb dX11_over_87 rfl (lv_at hl 1 rfl) ?_
      refine lv_i2l (v := (Int32.toInt64 x1_26)) hx hb dX11_over_88 rfl ?_
      obtain ⟨v26010, hc26009, hm⟩ := q_b1i hm
      refine q_callS C hW hS (As := [.long (Int32.toInt64 ((x5_26 - 1) - x4_26)), .long (Int32.toInt64 x1_26)]) (rest := []) (st1 := [.long v26010]) (c_X11_quotient l D al dt (Int32.toInt64 ((x5_26 - 1) - x4_26)) (Int32.toInt64 x1_26) v26010 hc26009) yl_X11_quotient sl_X11_quotient ml_RX11_225 rfl ⟨Nat.le_of_ble_eq_true rfl, Nat.le_of_ble_eq_true rfl⟩ hl rfl (Nat.le_of_ble_eq_true rfl) dX11_over_89 ⟨Nat.le_refl _, Nat.le_refl _⟩ rfl (fun H locs k26011 hW hS => ?_)
      refine lv_l2i (v := (Int64.toInt32 v26010)) hx hb dX11_over_92 rfl ?_
      refine lv_iconst (v := 1) hx hb dX11_over_93 (by decide) ?_
      refine lv_iadd hx hb dX11_over_94 ?_
      refine lv_goto (tgt := 99) hx hb dX11_over_95 (by decide) ?_
      exact hB99 x2_26 x3_26 x5_26 ((Int64.toInt32 v26010) + 1) _ _ _ hm hW hS (lv_sub hl [2, 3, 5] rfl)
    refine lv_icmp_le (tgt := 72) hx hb dX11_over_65 (by decide) (fun h => absurd h c26007) (fun _ => ?_)
    exact hB68 _ _ _ hm hW hS (lv_sub hl [] rfl)
  have hB25 : ∀ (x1_25 : Int32) (x2_25 : Int32) (x3_25 : Int32) (x4_25 : Int32) (x5_25 : Int32) (H : Heap) (locs : List Loc) (ls : Array Slot) (hm : X11_over_b25 x1_25 x2_25 x3_25 x4_25 x5_25 = some r0) (hW : q_W D al dt H) (hS : va_S (q_A al) s.heap H locs) (hl : lv_has ls 8 [(1, .int x1_25), (2, .int x2_25), (3, .int x3_25), (4, .int x4_25), (5, .int x5_25)]), W p l e { frames := 1, cells := 0, slots := 0, locals := 25 } s m args below meth c H locs 0 0 (MQ below (q_Q (some (.long r0)) (fun H => q_W D al dt H ∧ q_Rk al 0 (some (.long r0))) (q_A al)) args s 0 0 (q_A al)) (F0 m 25 ls []) := by
    intro x1_25 x2_25 x3_25 x4_25 x5_25 H locs ls hm hW hS hl
    unfold X11_over_b25 at hm
    refine lv_iconst (v := 0) hx hb dX11_over_25 (by decide) ?_
    exact hB26 x1_25 x2_25 x3_25 x4_25 x5_25 0 _ _ _ hm hW hS (lv_sub hl [0, 1, 2, 3, 4] rfl)
  refine lv_iload_n hx hb dX11_over_0 rfl (lv_at hl 3 rfl) ?_
  refine lv_iconst (v := 1) hx hb dX11_over_1 (by decide) ?_
  refine q_ifc hm (fun c1000001 hm => ?_) (fun c1000001 hm => ?_)
  · refine lv_icmp_lt (tgt := 25) hx hb dX11_over_2 (by decide) (fun _ => ?_) (fun h => absurd c1000001 h)
    exact hB25 x1 x2 x3 x4 x5 _ _ _ hm hW hS (lv_sub hl [1, 2, 3, 4, 5] rfl)
  refine lv_icmp_lt (tgt := 25) hx hb dX11_over_2 (by decide) (fun h => absurd h c1000001) (fun _ => ?_)
  refine lv_iload_n hx hb dX11_over_5 rfl (lv_at hl 3 rfl) ?_
  refine lv_bipush (v := 10) hx hb dX11_over_6 (by decide) ?_
  refine q_ifc hm (fun c1000002 hm => ?_) (fun c1000002 hm => ?_)
  · refine lv_icmp_gt (tgt := 25) hx hb dX11_over_8 (by decide) (fun _ => ?_) (fun h => absurd c1000002 h)
    exact hB25 x1 x2 x3 x4 x5 _ _ _ hm hW hS (lv_sub hl [1, 2, 3, 4, 5] rfl)
  refine lv_icmp_gt (tgt := 25) hx hb dX11_over_8 (by decide) (fun h => absurd h c1000002) (fun _ => ?_)
  refine lv_iload_n hx hb dX11_over_11 rfl (lv_at hl 2 rfl) ?_
  refine lv_iconst (v := 1) hx hb dX11_over_12 (by decide) ?_
  refine q_ifc hm (fun c1000003 hm => ?_) (fun c1000003 hm => ?_)
  · refine lv_icmp_lt (tgt := 25) hx hb dX11_over_13 (by decide) (fun _ => ?_) (fun h => absurd c1000003 h)
    exact hB25 x1 x2 x3 x4 x5 _ _ _ hm hW hS (lv_sub hl [1, 2, 3, 4, 5] rfl)
  refine lv_icmp_lt (tgt := 25) hx hb dX11_over_13 (by decide) (fun h => absurd h c1000003) (fun _ => ?_)
  refine lv_iload_n hx hb dX11_over_16 rfl (lv_at hl 2 rfl) ?_
  refine lv_iload_n hx hb dX11_over_17 rfl (lv_at hl 3 rfl) ?_
  refine q_ifc hm (fun c1000004 hm => ?_) (fun c1000004 hm => ?_)
  · refine lv_icmp_gt (tgt := 25) hx hb dX11_over_18 (by decide) (fun _ => ?_) (fun h => absurd c1000004 h)
    exact hB25 x1 x2 x3 x4 x5 _ _ _ hm hW hS (lv_sub hl [1, 2, 3, 4, 5] rfl)
  refine lv_icmp_gt (tgt := 25) hx hb dX11_over_18 (by decide) (fun h => absurd h c1000004) (fun _ => ?_)
  refine lv_iconst (v := 1) hx hb dX11_over_21 (by decide) ?_
  refine lv_goto (tgt := 26) hx hb dX11_over_22 (by decide) ?_
  exact hB26 x1 x2 x3 x4 x5 1 _ _ _ hm hW hS (lv_sub hl [1, 2, 3, 4, 5] rfl)
theorem dX11_bit_0 : decode cX11_bit 0 = .ok (.aload_n 0, 1) := by decide +kernel
theorem dX11_bit_1 : decode cX11_bit 1 = .ok (.getfield 51, 3) := by decide +kernel
theorem dX11_bit_4 : decode cX11_bit 4 = .ok (.iload_n 1, 1) := by decide +kernel
theorem dX11_bit_5 : decode cX11_bit 5 = .ok (.invokevirtual 154, 3) := by decide +kernel
theorem dX11_bit_8 : decode cX11_bit 8 = .ok (.astore_n 3, 1) := by decide +kernel
theorem dX11_bit_9 : decode cX11_bit 9 = .ok (.aload_n 3, 1) := by decide +kernel
theorem dX11_bit_10 : decode cX11_bit 10 = .ok (.ifnull 7, 3) := by decide +kernel
theorem dX11_bit_13 : decode cX11_bit 13 = .ok (.iload_n 2, 1) := by decide +kernel
theorem dX11_bit_14 : decode cX11_bit 14 = .ok (.ifCond .ge 5, 3) := by decide +kernel
theorem dX11_bit_17 : decode cX11_bit 17 = .ok (.iconst (-1), 1) := by decide +kernel
theorem dX11_bit_18 : decode cX11_bit 18 = .ok (.ireturn, 1) := by decide +kernel
theorem dX11_bit_19 : decode cX11_bit 19 = .ok (.iload_n 2, 1) := by decide +kernel
theorem dX11_bit_20 : decode cX11_bit 20 = .ok (.aload_n 3, 1) := by decide +kernel
theorem dX11_bit_21 : decode cX11_bit 21 = .ok (.aload_n 0, 1) := by decide +kernel
theorem dX11_bit_22 : decode cX11_bit 22 = .ok (.getfield 51, 3) := by decide +kernel
theorem dX11_bit_25 : decode cX11_bit 25 = .ok (.getfield 175, 3) := by decide +kernel
theorem dX11_bit_28 : decode cX11_bit 28 = .ok (.invokevirtual 232, 3) := by decide +kernel
theorem dX11_bit_31 : decode cX11_bit 31 = .ok (.if_icmp .lt 6, 3) := by decide +kernel
theorem dX11_bit_34 : decode cX11_bit 34 = .ok (.bipush (-2), 2) := by decide +kernel
theorem dX11_bit_36 : decode cX11_bit 36 = .ok (.ireturn, 1) := by decide +kernel
theorem dX11_bit_37 : decode cX11_bit 37 = .ok (.aload_n 0, 1) := by decide +kernel
theorem dX11_bit_38 : decode cX11_bit 38 = .ok (.getfield 44, 3) := by decide +kernel
theorem dX11_bit_41 : decode cX11_bit 41 = .ok (.aload_n 0, 1) := by decide +kernel
theorem dX11_bit_42 : decode cX11_bit 42 = .ok (.getfield 19, 3) := by decide +kernel
theorem dX11_bit_45 : decode cX11_bit 45 = .ok (.aload_n 3, 1) := by decide +kernel
theorem dX11_bit_46 : decode cX11_bit 46 = .ok (.invokevirtual 235, 3) := by decide +kernel
theorem dX11_bit_49 : decode cX11_bit 49 = .ok (.aload_n 0, 1) := by decide +kernel
theorem dX11_bit_50 : decode cX11_bit 50 = .ok (.getfield 44, 3) := by decide +kernel
theorem dX11_bit_53 : decode cX11_bit 53 = .ok (.iload_n 2, 1) := by decide +kernel
theorem dX11_bit_54 : decode cX11_bit 54 = .ok (.invokevirtual 239, 3) := by decide +kernel
theorem dX11_bit_57 : decode cX11_bit 57 = .ok (.ireturn, 1) := by decide +kernel
set_option maxRecDepth 100000 in
theorem c_X11_bit (l : Launch) (D : q_D) (al : q_Al) (dt : q_Dt) (x0 : Nat) (x1 : Int32) (x2 : Int32) (kx0 : al.1 x0 = 12) (r0 : Int32) (dt0 : q_Dt) (hm : X11_bit al dt x0 x1 x2 = some (r0, dt0)) : q_Mt l yX11_bit cX11_bit 4 (some FieldType.int) 4 92 D al [.ref x0, .int x1, .int x2] dt 0 (some (.int r0)) dt0 := by
  refine q_Mt.of (by decide) (Nat.le_of_ble_eq_true rfl) ?_
  intro p e s m args below meth c ls C hargs hW hl
  have hx := C.1
  have hb := C.2.1
  have hown := C.2.2.2.2.2.1
  have hts := C.2.2.2.2.2.2.1
  have hS : va_S (q_A al) s.heap s.heap [] := va_S.rf
  have hl : lv_has ls 4 [(0, .ref x0), (1, .int x1), (2, .int x2)] := hl
  unfold X11_bit at hm
  refine lv_aload_n hx hb dX11_bit_0 rfl (lv_at hl 0 rfl) ?_
  refine r_getQ C hW hm (ci := 11) kx0 ff_11_6 cl_11 fl_RX11_51 dX11_bit_1 (fun o1000001 eo1000001 k1000002 hm => ?_)
  refine lv_iload_n hx hb dX11_bit_4 rfl (lv_at hl 1 rfl) ?_
  obtain ⟨b1000003, e1000004, hq1000005⟩ := q_mi hm
  subst e1000004
  have hm := hq1000005
  have k1000006 := k1000002 b1000003 rfl
  obtain ⟨v1000008, hc1000007, hm⟩ := q_b1i hm
  refine q_callV C hW hS (As := [.int x1]) (rest := []) (st1 := [va_rf v1000008]) (c_X10_senderAt l D al dt b1000003 x1 k1000006 v1000008 hc1000007) yl_X10_senderAt vl_X10_senderAt ml_RX11_154 (ci := 10) rfl k1000006 (by decide) rfl ⟨Nat.le_of_ble_eq_true rfl, Nat.le_of_ble_eq_true rfl⟩ hl rfl (Nat.le_of_ble_eq_true rfl) dX11_bit_5 ⟨Nat.le_refl _, Nat.le_refl _⟩ rfl (fun H locs k1000009 hW hS => ?_)
  have k1000009 := q_rk k1000009 (by decide)
  refine q_astoreQ_n (i := 3) (lv' := [(3, va_rf v1000008), (0, .ref x0), (1, .int x1), (2, .int x2)]) C dX11_bit_8 rfl hl (by decide) rfl (fun ls hl => ?_)
  refine q_aloadQ_n C dX11_bit_9 rfl (lv_at hl 0 rfl) ?_
  refine q_ifnull C hm (tgt := 17) dX11_bit_10 (by decide) (fun e1000012 hq1000013 => ?_) (fun b1000010 e1000012 hq1000013 => ?_)
  · subst e1000012
    have hm := hq1000013
    refine lv_iconst (v := (-1)) hx hb dX11_bit_17 (by decide) ?_
    exact e_iD C hW hS hm dX11_bit_18
  subst e1000012
  have hm := hq1000013
  have k1000011 := k1000009 b1000010 rfl
  refine lv_iload_n hx hb dX11_bit_13 rfl (lv_at hl 3 rfl) ?_
  refine q_ifc hm (fun c1000014 hm => ?_) (fun c1000014 hm => ?_)
  · refine lv_if_ge (tgt := 19) hx hb dX11_bit_14 (by decide) (fun _ => ?_) (fun h => absurd c1000014 h)
    refine lv_iload_n hx hb dX11_bit_19 rfl (lv_at hl 3 rfl) ?_
    refine lv_aload_n hx hb dX11_bit_20 rfl (lv_at hl 0 rfl) ?_
    refine lv_aload_n hx hb dX11_bit_21 rfl (lv_at hl 1 rfl) ?_
    refine r_getQ C hW hm (ci := 11) kx0 ff_11_6 cl_11 fl_RX11_51 dX11_bit_22 (fun o1000015 eo1000015 k1000016 hm => ?_)
    obtain ⟨b1000017, e1000018, hq1000019⟩ := q_mi hm
    subst e1000018
    have hm := hq1000019
    have k1000020 := k1000016 b1000017 rfl
    refine r_getI C hW (ci := 10) k1000020 ff_10_12 cl_10 fl_RX11_175 dX11_bit_25 ?_
    obtain ⟨v1000022, hc1000021, hm⟩ := q_b1i hm
    refine q_callV C hW hS (As := [.int (dt.1 b1000017 12)]) (rest := [.int x2]) (st1 := [.int v1000022, .int x2]) (c_X7_periods l D al dt b1000010 (dt.1 b1000017 12) k1000011 v1000022 hc1000021) yl_X7_periods vl_X7_periods ml_RX11_232 (ci := 7) rfl k1000011 (by decide) rfl ⟨Nat.le_of_ble_eq_true rfl, Nat.le_of_ble_eq_true rfl⟩ hl rfl (Nat.le_of_ble_eq_true rfl) dX11_bit_28 ⟨Nat.le_refl _, Nat.le_refl _⟩ rfl (fun H locs k1000023 hW hS => ?_)
    refine q_ifc hm (fun c1000024 hm => ?_) (fun c1000024 hm => ?_)
    · refine lv_icmp_lt (tgt := 37) hx hb dX11_bit_31 (by decide) (fun _ => ?_) (fun h => absurd c1000024 h)
      refine lv_aload_n hx hb dX11_bit_37 rfl (lv_at hl 1 rfl) ?_
      refine r_getF C hW (ci := 11) kx0 ff_11_5 cl_11 fl_RX11_44 dX11_bit_38 (fun k1000025 => ?_)
      refine lv_aload_n hx hb dX11_bit_41 rfl (lv_at hl 1 rfl) ?_
      refine r_getF C hW (ci := 11) kx0 ff_11_1 cl_11 fl_RX11_19 dX11_bit_42 (fun k1000026 => ?_)
      refine lv_aload_n hx hb dX11_bit_45 rfl (lv_at hl 0 rfl) ?_
      obtain ⟨dt1000028, hc1000027, hm⟩ := q_b1i hm
      refine q_callV C hW hS (As := [.ref (al.2.2 x0 1), .ref b1000010]) (rest := []) (st1 := []) (c_X4_gather l D al dt (al.2.2 x0 5) (al.2.2 x0 1) b1000010 k1000025 k1000026 k1000011 dt1000028 hc1000027) yl_X4_gather vl_X4_gather ml_RX11_235 (ci := 4) rfl k1000025 (by decide) rfl ⟨Nat.le_of_ble_eq_true rfl, Nat.le_of_ble_eq_true rfl⟩ hl rfl (Nat.le_of_ble_eq_true rfl) dX11_bit_46 ⟨Nat.le_refl _, Nat.le_refl _⟩ rfl (fun H locs k1000029 hW hS => ?_)
      refine lv_aload_n hx hb dX11_bit_49 rfl (lv_at hl 1 rfl) ?_
      refine r_getF C hW (ci := 11) kx0 ff_11_5 cl_11 fl_RX11_44 dX11_bit_50 (fun k1000030 => ?_)
      refine lv_iload_n hx hb dX11_bit_53 rfl (lv_at hl 3 rfl) ?_
      obtain ⟨v1000032, hc1000031, hm⟩ := q_b1i hm
      refine q_callV C hW hS (As := [.int x2]) (rest := []) (st1 := [.int v1000032]) (c_X4_bitRead l D al dt1000028 (al.2.2 x0 5) x2 k1000030 v1000032 hc1000031) yl_X4_bitRead vl_X4_bitRead ml_RX11_239 (ci := 4) rfl k1000030 (by decide) rfl ⟨Nat.le_of_ble_eq_true rfl, Nat.le_of_ble_eq_true rfl⟩ hl rfl (Nat.le_of_ble_eq_true rfl) dX11_bit_54 ⟨Nat.le_refl _, Nat.le_refl _⟩ rfl (fun H locs k1000033 hW hS => ?_)
      exact e_iD C hW hS hm dX11_bit_57
    refine lv_icmp_lt (tgt := 37) hx hb dX11_bit_31 (by decide) (fun h => absurd h c1000024) (fun _ => ?_)
    refine lv_bipush (v := (-2)) hx hb dX11_bit_34 (by decide) ?_
    exact e_iD C hW hS hm dX11_bit_36
  refine lv_if_ge (tgt := 19) hx hb dX11_bit_14 (by decide) (fun h => absurd h c1000014) (fun _ => ?_)
  refine lv_iconst (v := (-1)) hx hb dX11_bit_17 (by decide) ?_
  exact e_iD C hW hS hm dX11_bit_18
theorem dX11_wrong_0 : decode cX11_wrong 0 = .ok (.aload_n 0, 1) := by decide +kernel
theorem dX11_wrong_1 : decode cX11_wrong 1 = .ok (.getfield 51, 3) := by decide +kernel
theorem dX11_wrong_4 : decode cX11_wrong 4 = .ok (.iload_n 1, 1) := by decide +kernel
theorem dX11_wrong_5 : decode cX11_wrong 5 = .ok (.invokevirtual 154, 3) := by decide +kernel
theorem dX11_wrong_8 : decode cX11_wrong 8 = .ok (.astore_n 2, 1) := by decide +kernel
theorem dX11_wrong_9 : decode cX11_wrong 9 = .ok (.aload_n 2, 1) := by decide +kernel
theorem dX11_wrong_10 : decode cX11_wrong 10 = .ok (.ifnonnull 5, 3) := by decide +kernel
theorem dX11_wrong_13 : decode cX11_wrong 13 = .ok (.iconst (-1), 1) := by decide +kernel
theorem dX11_wrong_14 : decode cX11_wrong 14 = .ok (.ireturn, 1) := by decide +kernel
theorem dX11_wrong_15 : decode cX11_wrong 15 = .ok (.aload_n 0, 1) := by decide +kernel
theorem dX11_wrong_16 : decode cX11_wrong 16 = .ok (.getfield 44, 3) := by decide +kernel
theorem dX11_wrong_19 : decode cX11_wrong 19 = .ok (.aload_n 0, 1) := by decide +kernel
theorem dX11_wrong_20 : decode cX11_wrong 20 = .ok (.getfield 19, 3) := by decide +kernel
theorem dX11_wrong_23 : decode cX11_wrong 23 = .ok (.aload_n 2, 1) := by decide +kernel
theorem dX11_wrong_24 : decode cX11_wrong 24 = .ok (.invokevirtual 235, 3) := by decide +kernel
theorem dX11_wrong_27 : decode cX11_wrong 27 = .ok (.aload_n 0, 1) := by decide +kernel
theorem dX11_wrong_28 : decode cX11_wrong 28 = .ok (.getfield 44, 3) := by decide +kernel
theorem dX11_wrong_31 : decode cX11_wrong 31 = .ok (.aload_n 2, 1) := by decide +kernel
theorem dX11_wrong_32 : decode cX11_wrong 32 = .ok (.aload_n 2, 1) := by decide +kernel
theorem dX11_wrong_33 : decode cX11_wrong 33 = .ok (.aload_n 0, 1) := by decide +kernel
theorem dX11_wrong_34 : decode cX11_wrong 34 = .ok (.getfield 51, 3) := by decide +kernel
theorem dX11_wrong_37 : decode cX11_wrong 37 = .ok (.getfield 175, 3) := by decide +kernel
theorem dX11_wrong_40 : decode cX11_wrong 40 = .ok (.invokevirtual 232, 3) := by decide +kernel
theorem dX11_wrong_43 : decode cX11_wrong 43 = .ok (.invokevirtual 242, 3) := by decide +kernel
theorem dX11_wrong_46 : decode cX11_wrong 46 = .ok (.ireturn, 1) := by decide +kernel
set_option maxRecDepth 100000 in
theorem c_X11_wrong (l : Launch) (D : q_D) (al : q_Al) (dt : q_Dt) (x0 : Nat) (x1 : Int32) (kx0 : al.1 x0 = 12) (r0 : Int32) (dt0 : q_Dt) (hm : X11_wrong al dt x0 x1 = some (r0, dt0)) : q_Mt l yX11_wrong cX11_wrong 3 (some FieldType.int) 4 92 D al [.ref x0, .int x1] dt 0 (some (.int r0)) dt0 := by
  refine q_Mt.of (by decide) (Nat.le_of_ble_eq_true rfl) ?_
  intro p e s m args below meth c ls C hargs hW hl
  have hx := C.1
  have hb := C.2.1
  have hown := C.2.2.2.2.2.1
  have hts := C.2.2.2.2.2.2.1
  have hS : va_S (q_A al) s.heap s.heap [] := va_S.rf
  have hl : lv_has ls 3 [(0, .ref x0), (1, .int x1)] := hl
  unfold X11_wrong at hm
  refine lv_aload_n hx hb dX11_wrong_0 rfl (lv_at hl 0 rfl) ?_
  refine r_getQ C hW hm (ci := 11) kx0 ff_11_6 cl_11 fl_RX11_51 dX11_wrong_1 (fun o1000001 eo1000001 k1000002 hm => ?_)
  refine lv_iload_n hx hb dX11_wrong_4 rfl (lv_at hl 1 rfl) ?_
  obtain ⟨b1000003, e1000004, hq1000005⟩ := q_mi hm
  subst e1000004
  have hm := hq1000005
  have k1000006 := k1000002 b1000003 rfl
  obtain ⟨v1000008, hc1000007, hm⟩ := q_b1i hm
  refine q_callV C hW hS (As := [.int x1]) (rest := []) (st1 := [va_rf v1000008]) (c_X10_senderAt l D al dt b1000003 x1 k1000006 v1000008 hc1000007) yl_X10_senderAt vl_X10_senderAt ml_RX11_154 (ci := 10) rfl k1000006 (by decide) rfl ⟨Nat.le_of_ble_eq_true rfl, Nat.le_of_ble_eq_true rfl⟩ hl rfl (Nat.le_of_ble_eq_true rfl) dX11_wrong_5 ⟨Nat.le_refl _, Nat.le_refl _⟩ rfl (fun H locs k1000009 hW hS => ?_)
  have k1000009 := q_rk k1000009 (by decide)
  refine q_astoreQ_n (i := 2) (lv' := [(2, va_rf v1000008), (0, .ref x0), (1, .int x1)]) C dX11_wrong_8 rfl hl (by decide) rfl (fun ls hl => ?_)
  refine q_aloadQ_n C dX11_wrong_9 rfl (lv_at hl 0 rfl) ?_
  refine q_ifnonnull C hm (tgt := 15) dX11_wrong_10 (by decide) (fun e1000012 hq1000013 => ?_) (fun b1000010 e1000012 hq1000013 => ?_)
  · subst e1000012
    have hm := hq1000013
    refine lv_iconst (v := (-1)) hx hb dX11_wrong_13 (by decide) ?_
    exact e_iD C hW hS hm dX11_wrong_14
  subst e1000012
  have hm := hq1000013
  have k1000011 := k1000009 b1000010 rfl
  refine lv_aload_n hx hb dX11_wrong_15 rfl (lv_at hl 1 rfl) ?_
  refine r_getF C hW (ci := 11) kx0 ff_11_5 cl_11 fl_RX11_44 dX11_wrong_16 (fun k1000014 => ?_)
  refine lv_aload_n hx hb dX11_wrong_19 rfl (lv_at hl 1 rfl) ?_
  refine r_getF C hW (ci := 11) kx0 ff_11_1 cl_11 fl_RX11_19 dX11_wrong_20 (fun k1000015 => ?_)
  refine lv_aload_n hx hb dX11_wrong_23 rfl (lv_at hl 0 rfl) ?_
  obtain ⟨dt1000017, hc1000016, hm⟩ := q_b1i hm
  refine q_callV C hW hS (As := [.ref (al.2.2 x0 1), .ref b1000010]) (rest := []) (st1 := []) (c_X4_gather l D al dt (al.2.2 x0 5) (al.2.2 x0 1) b1000010 k1000014 k1000015 k1000011 dt1000017 hc1000016) yl_X4_gather vl_X4_gather ml_RX11_235 (ci := 4) rfl k1000014 (by decide) rfl ⟨Nat.le_of_ble_eq_true rfl, Nat.le_of_ble_eq_true rfl⟩ hl rfl (Nat.le_of_ble_eq_true rfl) dX11_wrong_24 ⟨Nat.le_refl _, Nat.le_refl _⟩ rfl (fun H locs k1000018 hW hS => ?_)
  refine lv_aload_n hx hb dX11_wrong_27 rfl (lv_at hl 1 rfl) ?_
  refine r_getF C hW (ci := 11) kx0 ff_11_5 cl_11 fl_RX11_44 dX11_wrong_28 (fun k1000019 => ?_)
  refine lv_aload_n hx hb dX11_wrong_31 rfl (lv_at hl 0 rfl) ?_
  refine lv_aload_n hx hb dX11_wrong_32 rfl (lv_at hl 0 rfl) ?_
  refine lv_aload_n hx hb dX11_wrong_33 rfl (lv_at hl 1 rfl) ?_
  refine r_getQ C hW hm (ci := 11) kx0 ff_11_6 cl_11 fl_RX11_51 dX11_wrong_34 (fun o1000020 eo1000020 k1000021 hm => ?_)
  obtain ⟨b1000022, e1000023, hq1000024⟩ := q_mi hm
  subst e1000023
  have hm := hq1000024
  have k1000025 := k1000021 b1000022 rfl
  refine r_getI C hW (ci := 10) k1000025 ff_10_12 cl_10 fl_RX11_175 dX11_wrong_37 ?_
  obtain ⟨v1000027, hc1000026, hm⟩ := q_b1i hm
  refine q_callV C hW hS (As := [.int (dt1000017.1 b1000022 12)]) (rest := [.ref b1000010, .ref (al.2.2 x0 5)]) (st1 := [.int v1000027, .ref b1000010, .ref (al.2.2 x0 5)]) (c_X7_periods l D al dt1000017 b1000010 (dt1000017.1 b1000022 12) k1000011 v1000027 hc1000026) yl_X7_periods vl_X7_periods ml_RX11_232 (ci := 7) rfl k1000011 (by decide) rfl ⟨Nat.le_of_ble_eq_true rfl, Nat.le_of_ble_eq_true rfl⟩ hl rfl (Nat.le_of_ble_eq_true rfl) dX11_wrong_40 ⟨Nat.le_refl _, Nat.le_refl _⟩ rfl (fun H locs k1000028 hW hS => ?_)
  obtain ⟨v1000030, hc1000029, hm⟩ := q_b1i hm
  refine q_callV C hW hS (As := [.ref b1000010, .int v1000027]) (rest := []) (st1 := [.int v1000030]) (c_X4_wrongBits l D al dt1000017 (al.2.2 x0 5) b1000010 v1000027 k1000019 k1000011 v1000030 hc1000029) yl_X4_wrongBits vl_X4_wrongBits ml_RX11_242 (ci := 4) rfl k1000019 (by decide) rfl ⟨Nat.le_of_ble_eq_true rfl, Nat.le_of_ble_eq_true rfl⟩ hl rfl (Nat.le_of_ble_eq_true rfl) dX11_wrong_43 ⟨Nat.le_refl _, Nat.le_refl _⟩ rfl (fun H locs k1000031 hW hS => ?_)
  exact e_iD C hW hS hm dX11_wrong_46
theorem dX11_joined_0 : decode cX11_joined 0 = .ok (.aload_n 0, 1) := by decide +kernel
theorem dX11_joined_1 : decode cX11_joined 1 = .ok (.getfield 51, 3) := by decide +kernel
theorem dX11_joined_4 : decode cX11_joined 4 = .ok (.iload_n 1, 1) := by decide +kernel
theorem dX11_joined_5 : decode cX11_joined 5 = .ok (.invokevirtual 154, 3) := by decide +kernel
theorem dX11_joined_8 : decode cX11_joined 8 = .ok (.astore_n 3, 1) := by decide +kernel
theorem dX11_joined_9 : decode cX11_joined 9 = .ok (.aload_n 3, 1) := by decide +kernel
theorem dX11_joined_10 : decode cX11_joined 10 = .ok (.ifnull 7, 3) := by decide +kernel
theorem dX11_joined_13 : decode cX11_joined 13 = .ok (.iload_n 2, 1) := by decide +kernel
theorem dX11_joined_14 : decode cX11_joined 14 = .ok (.ifCond .ge 5, 3) := by decide +kernel
theorem dX11_joined_17 : decode cX11_joined 17 = .ok (.iconst (-1), 1) := by decide +kernel
theorem dX11_joined_18 : decode cX11_joined 18 = .ok (.ireturn, 1) := by decide +kernel
theorem dX11_joined_19 : decode cX11_joined 19 = .ok (.iload_n 2, 1) := by decide +kernel
theorem dX11_joined_20 : decode cX11_joined 20 = .ok (.aload_n 3, 1) := by decide +kernel
theorem dX11_joined_21 : decode cX11_joined 21 = .ok (.aload_n 0, 1) := by decide +kernel
theorem dX11_joined_22 : decode cX11_joined 22 = .ok (.getfield 51, 3) := by decide +kernel
theorem dX11_joined_25 : decode cX11_joined 25 = .ok (.getfield 175, 3) := by decide +kernel
theorem dX11_joined_28 : decode cX11_joined 28 = .ok (.invokevirtual 232, 3) := by decide +kernel
theorem dX11_joined_31 : decode cX11_joined 31 = .ok (.if_icmp .lt 6, 3) := by decide +kernel
theorem dX11_joined_34 : decode cX11_joined 34 = .ok (.bipush (-2), 2) := by decide +kernel
theorem dX11_joined_36 : decode cX11_joined 36 = .ok (.ireturn, 1) := by decide +kernel
theorem dX11_joined_37 : decode cX11_joined 37 = .ok (.aload_n 0, 1) := by decide +kernel
theorem dX11_joined_38 : decode cX11_joined 38 = .ok (.getfield 44, 3) := by decide +kernel
theorem dX11_joined_41 : decode cX11_joined 41 = .ok (.aload_n 0, 1) := by decide +kernel
theorem dX11_joined_42 : decode cX11_joined 42 = .ok (.getfield 19, 3) := by decide +kernel
theorem dX11_joined_45 : decode cX11_joined 45 = .ok (.aload_n 3, 1) := by decide +kernel
theorem dX11_joined_46 : decode cX11_joined 46 = .ok (.iload_n 2, 1) := by decide +kernel
theorem dX11_joined_47 : decode cX11_joined 47 = .ok (.invokevirtual 246, 3) := by decide +kernel
theorem dX11_joined_50 : decode cX11_joined 50 = .ok (.ireturn, 1) := by decide +kernel
set_option maxRecDepth 100000 in
theorem c_X11_joined (l : Launch) (D : q_D) (al : q_Al) (dt : q_Dt) (x0 : Nat) (x1 : Int32) (x2 : Int32) (kx0 : al.1 x0 = 12) (r0 : Int32) (hm : X11_joined al dt x0 x1 x2 = some r0) : q_Mt l yX11_joined cX11_joined 4 (some FieldType.int) 4 95 D al [.ref x0, .int x1, .int x2] dt 0 (some (.int r0)) dt := by
  refine q_Mt.of (by decide) (Nat.le_of_ble_eq_true rfl) ?_
  intro p e s m args below meth c ls C hargs hW hl
  have hx := C.1
  have hb := C.2.1
  have hown := C.2.2.2.2.2.1
  have hts := C.2.2.2.2.2.2.1
  have hS : va_S (q_A al) s.heap s.heap [] := va_S.rf
  have hl : lv_has ls 4 [(0, .ref x0), (1, .int x1), (2, .int x2)] := hl
  unfold X11_joined at hm
  refine lv_aload_n hx hb dX11_joined_0 rfl (lv_at hl 0 rfl) ?_
  refine r_getQ C hW hm (ci := 11) kx0 ff_11_6 cl_11 fl_RX11_51 dX11_joined_1 (fun o1000001 eo1000001 k1000002 hm => ?_)
  refine lv_iload_n hx hb dX11_joined_4 rfl (lv_at hl 1 rfl) ?_
  obtain ⟨b1000003, e1000004, hq1000005⟩ := q_mi hm
  subst e1000004
  have hm := hq1000005
  have k1000006 := k1000002 b1000003 rfl
  obtain ⟨v1000008, hc1000007, hm⟩ := q_b1i hm
  refine q_callV C hW hS (As := [.int x1]) (rest := []) (st1 := [va_rf v1000008]) (c_X10_senderAt l D al dt b1000003 x1 k1000006 v1000008 hc1000007) yl_X10_senderAt vl_X10_senderAt ml_RX11_154 (ci := 10) rfl k1000006 (by decide) rfl ⟨Nat.le_of_ble_eq_true rfl, Nat.le_of_ble_eq_true rfl⟩ hl rfl (Nat.le_of_ble_eq_true rfl) dX11_joined_5 ⟨Nat.le_refl _, Nat.le_refl _⟩ rfl (fun H locs k1000009 hW hS => ?_)
  have k1000009 := q_rk k1000009 (by decide)
  refine q_astoreQ_n (i := 3) (lv' := [(3, va_rf v1000008), (0, .ref x0), (1, .int x1), (2, .int x2)]) C dX11_joined_8 rfl hl (by decide) rfl (fun ls hl => ?_)
  refine q_aloadQ_n C dX11_joined_9 rfl (lv_at hl 0 rfl) ?_
  refine q_ifnull C hm (tgt := 17) dX11_joined_10 (by decide) (fun e1000012 hq1000013 => ?_) (fun b1000010 e1000012 hq1000013 => ?_)
  · subst e1000012
    have hm := hq1000013
    refine lv_iconst (v := (-1)) hx hb dX11_joined_17 (by decide) ?_
    exact e_i C hW hS hm dX11_joined_18
  subst e1000012
  have hm := hq1000013
  have k1000011 := k1000009 b1000010 rfl
  refine lv_iload_n hx hb dX11_joined_13 rfl (lv_at hl 3 rfl) ?_
  refine q_ifc hm (fun c1000014 hm => ?_) (fun c1000014 hm => ?_)
  · refine lv_if_ge (tgt := 19) hx hb dX11_joined_14 (by decide) (fun _ => ?_) (fun h => absurd c1000014 h)
    refine lv_iload_n hx hb dX11_joined_19 rfl (lv_at hl 3 rfl) ?_
    refine lv_aload_n hx hb dX11_joined_20 rfl (lv_at hl 0 rfl) ?_
    refine lv_aload_n hx hb dX11_joined_21 rfl (lv_at hl 1 rfl) ?_
    refine r_getQ C hW hm (ci := 11) kx0 ff_11_6 cl_11 fl_RX11_51 dX11_joined_22 (fun o1000015 eo1000015 k1000016 hm => ?_)
    obtain ⟨b1000017, e1000018, hq1000019⟩ := q_mi hm
    subst e1000018
    have hm := hq1000019
    have k1000020 := k1000016 b1000017 rfl
    refine r_getI C hW (ci := 10) k1000020 ff_10_12 cl_10 fl_RX11_175 dX11_joined_25 ?_
    obtain ⟨v1000022, hc1000021, hm⟩ := q_b1i hm
    refine q_callV C hW hS (As := [.int (dt.1 b1000017 12)]) (rest := [.int x2]) (st1 := [.int v1000022, .int x2]) (c_X7_periods l D al dt b1000010 (dt.1 b1000017 12) k1000011 v1000022 hc1000021) yl_X7_periods vl_X7_periods ml_RX11_232 (ci := 7) rfl k1000011 (by decide) rfl ⟨Nat.le_of_ble_eq_true rfl, Nat.le_of_ble_eq_true rfl⟩ hl rfl (Nat.le_of_ble_eq_true rfl) dX11_joined_28 ⟨Nat.le_refl _, Nat.le_refl _⟩ rfl (fun H locs k1000023 hW hS => ?_)
    refine q_ifc hm (fun c1000024 hm => ?_) (fun c1000024 hm => ?_)
    · refine lv_icmp_lt (tgt := 37) hx hb dX11_joined_31 (by decide) (fun _ => ?_) (fun h => absurd c1000024 h)
      refine lv_aload_n hx hb dX11_joined_37 rfl (lv_at hl 1 rfl) ?_
      refine r_getF C hW (ci := 11) kx0 ff_11_5 cl_11 fl_RX11_44 dX11_joined_38 (fun k1000025 => ?_)
      refine lv_aload_n hx hb dX11_joined_41 rfl (lv_at hl 1 rfl) ?_
      refine r_getF C hW (ci := 11) kx0 ff_11_1 cl_11 fl_RX11_19 dX11_joined_42 (fun k1000026 => ?_)
      refine lv_aload_n hx hb dX11_joined_45 rfl (lv_at hl 0 rfl) ?_
      refine lv_iload_n hx hb dX11_joined_46 rfl (lv_at hl 3 rfl) ?_
      obtain ⟨v1000028, hc1000027, hm⟩ := q_b1i hm
      refine q_callV C hW hS (As := [.ref (al.2.2 x0 1), .ref b1000010, .int x2]) (rest := []) (st1 := [.int v1000028]) (c_X4_bitJoined l D al dt (al.2.2 x0 5) (al.2.2 x0 1) b1000010 x2 k1000025 k1000026 k1000011 v1000028 hc1000027) yl_X4_bitJoined vl_X4_bitJoined ml_RX11_246 (ci := 4) rfl k1000025 (by decide) rfl ⟨Nat.le_of_ble_eq_true rfl, Nat.le_of_ble_eq_true rfl⟩ hl rfl (Nat.le_of_ble_eq_true rfl) dX11_joined_47 ⟨Nat.le_refl _, Nat.le_refl _⟩ rfl (fun H locs k1000029 hW hS => ?_)
      exact e_i C hW hS hm dX11_joined_50
    refine lv_icmp_lt (tgt := 37) hx hb dX11_joined_31 (by decide) (fun h => absurd h c1000024) (fun _ => ?_)
    refine lv_bipush (v := (-2)) hx hb dX11_joined_34 (by decide) ?_
    exact e_i C hW hS hm dX11_joined_36
  refine lv_if_ge (tgt := 19) hx hb dX11_joined_14 (by decide) (fun h => absurd h c1000014) (fun _ => ?_)
  refine lv_iconst (v := (-1)) hx hb dX11_joined_17 (by decide) ?_
  exact e_i C hW hS hm dX11_joined_18
theorem dX11_frame_0 : decode cX11_frame 0 = .ok (.aload_n 0, 1) := by decide +kernel
theorem dX11_frame_1 : decode cX11_frame 1 = .ok (.getfield 51, 3) := by decide +kernel
theorem dX11_frame_4 : decode cX11_frame 4 = .ok (.iload_n 1, 1) := by decide +kernel
theorem dX11_frame_5 : decode cX11_frame 5 = .ok (.invokevirtual 154, 3) := by decide +kernel
theorem dX11_frame_8 : decode cX11_frame 8 = .ok (.astore 4, 2) := by decide +kernel
theorem dX11_frame_10 : decode cX11_frame 10 = .ok (.aload 4, 2) := by decide +kernel
theorem dX11_frame_12 : decode cX11_frame 12 = .ok (.ifnull 25, 3) := by decide +kernel
theorem dX11_frame_15 : decode cX11_frame 15 = .ok (.iload_n 3, 1) := by decide +kernel
theorem dX11_frame_16 : decode cX11_frame 16 = .ok (.iconst 1, 1) := by decide +kernel
theorem dX11_frame_17 : decode cX11_frame 17 = .ok (.if_icmp .lt 20, 3) := by decide +kernel
theorem dX11_frame_20 : decode cX11_frame 20 = .ok (.iload_n 3, 1) := by decide +kernel
theorem dX11_frame_21 : decode cX11_frame 21 = .ok (.bipush 13, 2) := by decide +kernel
theorem dX11_frame_23 : decode cX11_frame 23 = .ok (.if_icmp .gt 14, 3) := by decide +kernel
theorem dX11_frame_26 : decode cX11_frame 26 = .ok (.iload_n 2, 1) := by decide +kernel
theorem dX11_frame_27 : decode cX11_frame 27 = .ok (.ifCond .lt 10, 3) := by decide +kernel
theorem dX11_frame_30 : decode cX11_frame 30 = .ok (.iload_n 2, 1) := by decide +kernel
theorem dX11_frame_31 : decode cX11_frame 31 = .ok (.iconst 1, 1) := by decide +kernel
theorem dX11_frame_32 : decode cX11_frame 32 = .ok (.iload_n 3, 1) := by decide +kernel
theorem dX11_frame_33 : decode cX11_frame 33 = .ok (.ishl, 1) := by decide +kernel
theorem dX11_frame_34 : decode cX11_frame 34 = .ok (.if_icmp .lt 5, 3) := by decide +kernel
theorem dX11_frame_37 : decode cX11_frame 37 = .ok (.iconst (-1), 1) := by decide +kernel
theorem dX11_frame_38 : decode cX11_frame 38 = .ok (.ireturn, 1) := by decide +kernel
theorem dX11_frame_39 : decode cX11_frame 39 = .ok (.aload_n 0, 1) := by decide +kernel
theorem dX11_frame_40 : decode cX11_frame 40 = .ok (.getfield 44, 3) := by decide +kernel
theorem dX11_frame_43 : decode cX11_frame 43 = .ok (.aload_n 0, 1) := by decide +kernel
theorem dX11_frame_44 : decode cX11_frame 44 = .ok (.getfield 19, 3) := by decide +kernel
theorem dX11_frame_47 : decode cX11_frame 47 = .ok (.aload 4, 2) := by decide +kernel
theorem dX11_frame_49 : decode cX11_frame 49 = .ok (.invokevirtual 235, 3) := by decide +kernel
theorem dX11_frame_52 : decode cX11_frame 52 = .ok (.aload_n 0, 1) := by decide +kernel
theorem dX11_frame_53 : decode cX11_frame 53 = .ok (.getfield 44, 3) := by decide +kernel
theorem dX11_frame_56 : decode cX11_frame 56 = .ok (.iload_n 2, 1) := by decide +kernel
theorem dX11_frame_57 : decode cX11_frame 57 = .ok (.iload_n 3, 1) := by decide +kernel
theorem dX11_frame_58 : decode cX11_frame 58 = .ok (.aload 4, 2) := by decide +kernel
theorem dX11_frame_60 : decode cX11_frame 60 = .ok (.aload_n 0, 1) := by decide +kernel
theorem dX11_frame_61 : decode cX11_frame 61 = .ok (.getfield 51, 3) := by decide +kernel
theorem dX11_frame_64 : decode cX11_frame 64 = .ok (.getfield 175, 3) := by decide +kernel
theorem dX11_frame_67 : decode cX11_frame 67 = .ok (.invokevirtual 232, 3) := by decide +kernel
theorem dX11_frame_70 : decode cX11_frame 70 = .ok (.invokevirtual 250, 3) := by decide +kernel
theorem dX11_frame_73 : decode cX11_frame 73 = .ok (.istore 5, 2) := by decide +kernel
theorem dX11_frame_75 : decode cX11_frame 75 = .ok (.iload 5, 2) := by decide +kernel
theorem dX11_frame_77 : decode cX11_frame 77 = .ok (.iconst (-1), 1) := by decide +kernel
theorem dX11_frame_78 : decode cX11_frame 78 = .ok (.if_icmp .ne 8, 3) := by decide +kernel
theorem dX11_frame_81 : decode cX11_frame 81 = .ok (.bipush (-2), 2) := by decide +kernel
theorem dX11_frame_83 : decode cX11_frame 83 = .ok (.goto 5, 3) := by decide +kernel
theorem dX11_frame_86 : decode cX11_frame 86 = .ok (.iload 5, 2) := by decide +kernel
theorem dX11_frame_88 : decode cX11_frame 88 = .ok (.ireturn, 1) := by decide +kernel
set_option maxRecDepth 100000 in
theorem c_X11_frame (l : Launch) (D : q_D) (al : q_Al) (dt : q_Dt) (x0 : Nat) (x1 : Int32) (x2 : Int32) (x3 : Int32) (kx0 : al.1 x0 = 12) (r0 : Int32) (dt0 : q_Dt) (hm : X11_frame al dt x0 x1 x2 x3 = some (r0, dt0)) : q_Mt l yX11_frame cX11_frame 6 (some FieldType.int) 4 92 D al [.ref x0, .int x1, .int x2, .int x3] dt 0 (some (.int r0)) dt0 := by
  refine q_Mt.of (by decide) (Nat.le_of_ble_eq_true rfl) ?_
  intro p e s m args below meth c ls C hargs hW hl
  have hx := C.1
  have hb := C.2.1
  have hown := C.2.2.2.2.2.1
  have hts := C.2.2.2.2.2.2.1
  have hS : va_S (q_A al) s.heap s.heap [] := va_S.rf
  have hl : lv_has ls 6 [(0, .ref x0), (1, .int x1), (2, .int x2), (3, .int x3)] := hl
  unfold X11_frame at hm
  refine lv_aload_n hx hb dX11_frame_0 rfl (lv_at hl 0 rfl) ?_
  refine r_getQ C hW hm (ci := 11) kx0 ff_11_6 cl_11 fl_RX11_51 dX11_frame_1 (fun o1000001 eo1000001 k1000002 hm => ?_)
  refine lv_iload_n hx hb dX11_frame_4 rfl (lv_at hl 1 rfl) ?_
  obtain ⟨b1000003, e1000004, hq1000005⟩ := q_mi hm
  subst e1000004
  have hm := hq1000005
  have k1000006 := k1000002 b1000003 rfl
  obtain ⟨v1000008, hc1000007, hm⟩ := q_b1i hm
  refine q_callV C hW hS (As := [.int x1]) (rest := []) (st1 := [va_rf v1000008]) (c_X10_senderAt l D al dt b1000003 x1 k1000006 v1000008 hc1000007) yl_X10_senderAt vl_X10_senderAt ml_RX11_154 (ci := 10) rfl k1000006 (by decide) rfl ⟨Nat.le_of_ble_eq_true rfl, Nat.le_of_ble_eq_true rfl⟩ hl rfl (Nat.le_of_ble_eq_true rfl) dX11_frame_5 ⟨Nat.le_refl _, Nat.le_refl _⟩ rfl (fun H locs k1000009 hW hS => ?_)
  have k1000009 := q_rk k1000009 (by decide)
  refine q_astoreQ (i := 4) (lv' := [(4, va_rf v1000008), (0, .ref x0), (1, .int x1), (2, .int x2), (3, .int x3)]) C dX11_frame_8 hl (by decide) rfl (fun ls hl => ?_)
  refine q_aloadQ C dX11_frame_10 (lv_at hl 0 rfl) ?_
  refine q_ifnull C hm (tgt := 37) dX11_frame_12 (by decide) (fun e1000012 hq1000013 => ?_) (fun b1000010 e1000012 hq1000013 => ?_)
  · subst e1000012
    have hm := hq1000013
    refine lv_iconst (v := (-1)) hx hb dX11_frame_37 (by decide) ?_
    exact e_iD C hW hS hm dX11_frame_38
  subst e1000012
  have hm := hq1000013
  have k1000011 := k1000009 b1000010 rfl
  refine lv_iload_n hx hb dX11_frame_15 rfl (lv_at hl 4 rfl) ?_
  refine lv_iconst (v := 1) hx hb dX11_frame_16 (by decide) ?_
  refine q_ifc hm (fun c1000014 hm => ?_) (fun c1000014 hm => ?_)
  · refine lv_icmp_lt (tgt := 37) hx hb dX11_frame_17 (by decide) (fun _ => ?_) (fun h => absurd c1000014 h)
    refine lv_iconst (v := (-1)) hx hb dX11_frame_37 (by decide) ?_
    exact e_iD C hW hS hm dX11_frame_38
  refine lv_icmp_lt (tgt := 37) hx hb dX11_frame_17 (by decide) (fun h => absurd h c1000014) (fun _ => ?_)
  refine lv_iload_n hx hb dX11_frame_20 rfl (lv_at hl 4 rfl) ?_
  refine lv_bipush (v := 13) hx hb dX11_frame_21 (by decide) ?_
  refine q_ifc hm (fun c1000015 hm => ?_) (fun c1000015 hm => ?_)
  · refine lv_icmp_gt (tgt := 37) hx hb dX11_frame_23 (by decide) (fun _ => ?_) (fun h => absurd c1000015 h)
    refine lv_iconst (v := (-1)) hx hb dX11_frame_37 (by decide) ?_
    exact e_iD C hW hS hm dX11_frame_38
  refine lv_icmp_gt (tgt := 37) hx hb dX11_frame_23 (by decide) (fun h => absurd h c1000015) (fun _ => ?_)
  refine lv_iload_n hx hb dX11_frame_26 rfl (lv_at hl 3 rfl) ?_
  refine q_ifc hm (fun c1000016 hm => ?_) (fun c1000016 hm => ?_)
  · refine lv_if_lt (tgt := 37) hx hb dX11_frame_27 (by decide) (fun _ => ?_) (fun h => absurd c1000016 h)
    refine lv_iconst (v := (-1)) hx hb dX11_frame_37 (by decide) ?_
    exact e_iD C hW hS hm dX11_frame_38
  refine lv_if_lt (tgt := 37) hx hb dX11_frame_27 (by decide) (fun h => absurd h c1000016) (fun _ => ?_)
  refine lv_iload_n hx hb dX11_frame_30 rfl (lv_at hl 3 rfl) ?_
  refine lv_iconst (v := 1) hx hb dX11_frame_31 (by decide) ?_
  refine lv_iload_n hx hb dX11_frame_32 rfl (lv_at hl 4 rfl) ?_
  refine lv_ishl hx hb dX11_frame_33 ?_
  refine q_ifc hm (fun c1000017 hm => ?_) (fun c1000017 hm => ?_)
  · refine lv_icmp_lt (tgt := 39) hx hb dX11_frame_34 (by decide) (fun _ => ?_) (fun h => absurd c1000017 h)
    refine lv_aload_n hx hb dX11_frame_39 rfl (lv_at hl 1 rfl) ?_
    refine r_getF C hW (ci := 11) kx0 ff_11_5 cl_11 fl_RX11_44 dX11_frame_40 (fun k1000018 => ?_)
    refine lv_aload_n hx hb dX11_frame_43 rfl (lv_at hl 1 rfl) ?_
    refine r_getF C hW (ci := 11) kx0 ff_11_1 cl_11 fl_RX11_19 dX11_frame_44 (fun k1000019 => ?_)
    refine lv_aload hx hb dX11_frame_47 (lv_at hl 0 rfl) ?_
    obtain ⟨dt1000021, hc1000020, hm⟩ := q_b1i hm
    refine q_callV C hW hS (As := [.ref (al.2.2 x0 1), .ref b1000010]) (rest := []) (st1 := []) (c_X4_gather l D al dt (al.2.2 x0 5) (al.2.2 x0 1) b1000010 k1000018 k1000019 k1000011 dt1000021 hc1000020) yl_X4_gather vl_X4_gather ml_RX11_235 (ci := 4) rfl k1000018 (by decide) rfl ⟨Nat.le_of_ble_eq_true rfl, Nat.le_of_ble_eq_true rfl⟩ hl rfl (Nat.le_of_ble_eq_true rfl) dX11_frame_49 ⟨Nat.le_refl _, Nat.le_refl _⟩ rfl (fun H locs k1000022 hW hS => ?_)
    refine lv_aload_n hx hb dX11_frame_52 rfl (lv_at hl 1 rfl) ?_
    refine r_getF C hW (ci := 11) kx0 ff_11_5 cl_11 fl_RX11_44 dX11_frame_53 (fun k1000023 => ?_)
    refine lv_iload_n hx hb dX11_frame_56 rfl (lv_at hl 3 rfl) ?_
    refine lv_iload_n hx hb dX11_frame_57 rfl (lv_at hl 4 rfl) ?_
    refine lv_aload hx hb dX11_frame_58 (lv_at hl 0 rfl) ?_
    refine lv_aload_n hx hb dX11_frame_60 rfl (lv_at hl 1 rfl) ?_
    refine r_getQ C hW hm (ci := 11) kx0 ff_11_6 cl_11 fl_RX11_51 dX11_frame_61 (fun o1000024 eo1000024 k1000025 hm => ?_)
    obtain ⟨b1000026, e1000027, hq1000028⟩ := q_mi hm
    subst e1000027
    have hm := hq1000028
    have k1000029 := k1000025 b1000026 rfl
    refine r_getI C hW (ci := 10) k1000029 ff_10_12 cl_10 fl_RX11_175 dX11_frame_64 ?_
    obtain ⟨v1000031, hc1000030, hm⟩ := q_b1i hm
    refine q_callV C hW hS (As := [.int (dt1000021.1 b1000026 12)]) (rest := [.int x3, .int x2, .ref (al.2.2 x0 5)]) (st1 := [.int v1000031, .int x3, .int x2, .ref (al.2.2 x0 5)]) (c_X7_periods l D al dt1000021 b1000010 (dt1000021.1 b1000026 12) k1000011 v1000031 hc1000030) yl_X7_periods vl_X7_periods ml_RX11_232 (ci := 7) rfl k1000011 (by decide) rfl ⟨Nat.le_of_ble_eq_true rfl, Nat.le_of_ble_eq_true rfl⟩ hl rfl (Nat.le_of_ble_eq_true rfl) dX11_frame_67 ⟨Nat.le_refl _, Nat.le_refl _⟩ rfl (fun H locs k1000032 hW hS => ?_)
    obtain ⟨v1000034, hc1000033, hm⟩ := q_b1i hm
    refine q_callV C hW hS (As := [.int x2, .int x3, .int v1000031]) (rest := []) (st1 := [.int v1000034]) (c_X4_placeOfBits l D al dt1000021 (al.2.2 x0 5) x2 x3 v1000031 k1000023 v1000034 hc1000033) yl_X4_placeOfBits vl_X4_placeOfBits ml_RX11_250 (ci := 4) rfl k1000023 (by decide) rfl ⟨Nat.le_of_ble_eq_true rfl, Nat.le_of_ble_eq_true rfl⟩ hl rfl (Nat.le_of_ble_eq_true rfl) dX11_frame_70 ⟨Nat.le_refl _, Nat.le_refl _⟩ rfl (fun H locs k1000035 hW hS => ?_)
    refine lv_istore (i := 5) (lv' := [(5, .int v1000034), (4, .ref b1000010), (0, .ref x0), (1, .int x1), (2, .int x2), (3, .int x3)]) hx hb dX11_frame_73 hl (by decide) rfl (fun ls hl => ?_)
    refine lv_iload hx hb dX11_frame_75 (lv_at hl 0 rfl) ?_
    refine lv_iconst (v := (-1)) hx hb dX11_frame_77 (by decide) ?_
    refine q_ifc hm (fun c1000036 hm => ?_) (fun c1000036 hm => ?_)
    · refine lv_icmp_ne (tgt := 86) hx hb dX11_frame_78 (by decide) (fun h => absurd c1000036 h) (fun _ => ?_)
      refine lv_bipush (v := (-2)) hx hb dX11_frame_81 (by decide) ?_
      refine lv_goto (tgt := 88) hx hb dX11_frame_83 (by decide) ?_
      exact e_iD C hW hS hm dX11_frame_88
    refine lv_icmp_ne (tgt := 86) hx hb dX11_frame_78 (by decide) (fun _ => ?_) (fun h => absurd h c1000036)
    refine lv_iload hx hb dX11_frame_86 (lv_at hl 0 rfl) ?_
    exact e_iD C hW hS hm dX11_frame_88
  refine lv_icmp_lt (tgt := 39) hx hb dX11_frame_34 (by decide) (fun h => absurd h c1000017) (fun _ => ?_)
  refine lv_iconst (v := (-1)) hx hb dX11_frame_37 (by decide) ?_
  exact e_iD C hW hS hm dX11_frame_38
theorem dX11_hurt_0 : decode cX11_hurt 0 = .ok (.aload_n 0, 1) := by decide +kernel
theorem dX11_hurt_1 : decode cX11_hurt 1 = .ok (.getfield 51, 3) := by decide +kernel
theorem dX11_hurt_4 : decode cX11_hurt 4 = .ok (.iload_n 1, 1) := by decide +kernel
theorem dX11_hurt_5 : decode cX11_hurt 5 = .ok (.invokevirtual 154, 3) := by decide +kernel
theorem dX11_hurt_8 : decode cX11_hurt 8 = .ok (.astore 5, 2) := by decide +kernel
theorem dX11_hurt_10 : decode cX11_hurt 10 = .ok (.iload_n 2, 1) := by decide +kernel
theorem dX11_hurt_11 : decode cX11_hurt 11 = .ok (.iconst 1, 1) := by decide +kernel
theorem dX11_hurt_12 : decode cX11_hurt 12 = .ok (.if_icmp .lt 24, 3) := by decide +kernel
theorem dX11_hurt_15 : decode cX11_hurt 15 = .ok (.iload_n 2, 1) := by decide +kernel
theorem dX11_hurt_16 : decode cX11_hurt 16 = .ok (.bipush 99, 2) := by decide +kernel
theorem dX11_hurt_18 : decode cX11_hurt 18 = .ok (.if_icmp .gt 18, 3) := by decide +kernel
theorem dX11_hurt_21 : decode cX11_hurt 21 = .ok (.iload_n 3, 1) := by decide +kernel
theorem dX11_hurt_22 : decode cX11_hurt 22 = .ok (.iconst 1, 1) := by decide +kernel
theorem dX11_hurt_23 : decode cX11_hurt 23 = .ok (.if_icmp .lt 13, 3) := by decide +kernel
theorem dX11_hurt_26 : decode cX11_hurt 26 = .ok (.iload_n 3, 1) := by decide +kernel
theorem dX11_hurt_27 : decode cX11_hurt 27 = .ok (.bipush 99, 2) := by decide +kernel
theorem dX11_hurt_29 : decode cX11_hurt 29 = .ok (.if_icmp .gt 7, 3) := by decide +kernel
theorem dX11_hurt_32 : decode cX11_hurt 32 = .ok (.iconst 1, 1) := by decide +kernel
theorem dX11_hurt_33 : decode cX11_hurt 33 = .ok (.goto 4, 3) := by decide +kernel
theorem dX11_hurt_36 : decode cX11_hurt 36 = .ok (.iconst 0, 1) := by decide +kernel
theorem dX11_hurt_37 : decode cX11_hurt 37 = .ok (.istore 6, 2) := by decide +kernel
theorem dX11_hurt_39 : decode cX11_hurt 39 = .ok (.aload 5, 2) := by decide +kernel
theorem dX11_hurt_41 : decode cX11_hurt 41 = .ok (.ifnull 19, 3) := by decide +kernel
theorem dX11_hurt_44 : decode cX11_hurt 44 = .ok (.iload 6, 2) := by decide +kernel
theorem dX11_hurt_46 : decode cX11_hurt 46 = .ok (.ifCond .eq 14, 3) := by decide +kernel
theorem dX11_hurt_49 : decode cX11_hurt 49 = .ok (.iload 4, 2) := by decide +kernel
theorem dX11_hurt_51 : decode cX11_hurt 51 = .ok (.ifCond .lt 9, 3) := by decide +kernel
theorem dX11_hurt_54 : decode cX11_hurt 54 = .ok (.iload 4, 2) := by decide +kernel
theorem dX11_hurt_56 : decode cX11_hurt 56 = .ok (.iconst 1, 1) := by decide +kernel
theorem dX11_hurt_57 : decode cX11_hurt 57 = .ok (.if_icmp .le 5, 3) := by decide +kernel
theorem dX11_hurt_60 : decode cX11_hurt 60 = .ok (.iconst (-1), 1) := by decide +kernel
theorem dX11_hurt_61 : decode cX11_hurt 61 = .ok (.ireturn, 1) := by decide +kernel
theorem dX11_hurt_62 : decode cX11_hurt 62 = .ok (.aload_n 0, 1) := by decide +kernel
theorem dX11_hurt_63 : decode cX11_hurt 63 = .ok (.getfield 44, 3) := by decide +kernel
theorem dX11_hurt_66 : decode cX11_hurt 66 = .ok (.aload_n 0, 1) := by decide +kernel
theorem dX11_hurt_67 : decode cX11_hurt 67 = .ok (.getfield 19, 3) := by decide +kernel
theorem dX11_hurt_70 : decode cX11_hurt 70 = .ok (.aload 5, 2) := by decide +kernel
theorem dX11_hurt_72 : decode cX11_hurt 72 = .ok (.iload_n 2, 1) := by decide +kernel
theorem dX11_hurt_73 : decode cX11_hurt 73 = .ok (.iload_n 3, 1) := by decide +kernel
theorem dX11_hurt_74 : decode cX11_hurt 74 = .ok (.invokevirtual 254, 3) := by decide +kernel
theorem dX11_hurt_77 : decode cX11_hurt 77 = .ok (.iload 4, 2) := by decide +kernel
theorem dX11_hurt_79 : decode cX11_hurt 79 = .ok (.ifCond .ne 13, 3) := by decide +kernel
theorem dX11_hurt_82 : decode cX11_hurt 82 = .ok (.aload_n 0, 1) := by decide +kernel
theorem dX11_hurt_83 : decode cX11_hurt 83 = .ok (.getfield 44, 3) := by decide +kernel
theorem dX11_hurt_86 : decode cX11_hurt 86 = .ok (.getfield 258, 3) := by decide +kernel
theorem dX11_hurt_89 : decode cX11_hurt 89 = .ok (.goto 10, 3) := by decide +kernel
theorem dX11_hurt_92 : decode cX11_hurt 92 = .ok (.aload_n 0, 1) := by decide +kernel
theorem dX11_hurt_93 : decode cX11_hurt 93 = .ok (.getfield 44, 3) := by decide +kernel
theorem dX11_hurt_96 : decode cX11_hurt 96 = .ok (.getfield 261, 3) := by decide +kernel
theorem dX11_hurt_99 : decode cX11_hurt 99 = .ok (.ireturn, 1) := by decide +kernel
set_option maxRecDepth 100000 in
theorem c_X11_hurt (l : Launch) (D : q_D) (al : q_Al) (dt : q_Dt) (x0 : Nat) (x1 : Int32) (x2 : Int32) (x3 : Int32) (x4 : Int32) (kx0 : al.1 x0 = 12) (r0 : Int32) (dt0 : q_Dt) (hm : X11_hurt al dt x0 x1 x2 x3 x4 = some (r0, dt0)) : q_Mt l yX11_hurt cX11_hurt 7 (some FieldType.int) 5 122 D al [.ref x0, .int x1, .int x2, .int x3, .int x4] dt 0 (some (.int r0)) dt0 := by
  refine q_Mt.of (by decide) (Nat.le_of_ble_eq_true rfl) ?_
  intro p e s m args below meth c ls C hargs hW hl
  have hx := C.1
  have hb := C.2.1
  have hown := C.2.2.2.2.2.1
  have hts := C.2.2.2.2.2.2.1
  have hS : va_S (q_A al) s.heap s.heap [] := va_S.rf
  have hl : lv_has ls 7 [(0, .ref x0), (1, .int x1), (2, .int x2), (3, .int x3), (4, .int x4)] := hl
  unfold X11_hurt at hm
  have hB37 : ∀ (x0_37 : Nat) (x2_37 : Int32) (x3_37 : Int32) (x4_37 : Int32) (x5_37 : Option Nat) (t0_37 : Int32) (kx0_37 : al.1 x0_37 = 12) (kx5_37 : ∀ b, x5_37 = some b → al.1 b = 8) (dt : q_Dt) (H : Heap) (locs : List Loc) (ls : Array Slot) (hm : X11_hurt_b37 al x0_37 x2_37 x3_37 x4_37 x5_37 t0_37 dt = some (r0, dt0)) (hW : q_W D al dt H) (hS : va_S (q_A al) s.heap H locs) (hl : lv_has ls 7 [(0, .ref x0_37), (2, .int x2_37), (3, .int x3_37), (4, .int x4_37), (5, va_rf x5_37)]), W p l e { frames := 5, cells := 0, slots := 0, locals := 122 } s m args below meth c H locs 0 0 (MQ below (q_Q (some (.int r0)) (fun H => q_W D al dt0 H ∧ q_Rk al 0 (some (.int r0))) (q_A al)) args s 0 0 (q_A al)) (F0 m 37 ls [.int t0_37]) := by
    intro x0_37 x2_37 x3_37 x4_37 x5_37 t0_37 kx0_37 kx5_37 dt H locs ls hm hW hS hl
    unfold X11_hurt_b37 at hm
    refine lv_istore (i := 6) (lv' := [(6, .int t0_37), (0, .ref x0_37), (2, .int x2_37), (3, .int x3_37), (4, .int x4_37), (5, va_rf x5_37)]) hx hb dX11_hurt_37 hl (by decide) (by simp [q_cat, q_catR, q_catI, q_catL] <;> rfl) (fun ls hl => ?_)
    refine q_aloadQ C dX11_hurt_39 (lv_at hl 5 rfl) ?_
    refine q_ifnull C hm (tgt := 60) dX11_hurt_41 (by decide) (fun e37003 hq37004 => ?_) (fun b37001 e37003 hq37004 => ?_)
    · subst e37003
      have hm := hq37004
      refine lv_iconst (v := (-1)) hx hb dX11_hurt_60 (by decide) ?_
      exact e_iD C hW hS hm dX11_hurt_61
    subst e37003
    have hm := hq37004
    have k37002 := kx5_37 b37001 rfl
    refine lv_iload hx hb dX11_hurt_44 (lv_at hl 0 rfl) ?_
    refine q_ifc hm (fun c37005 hm => ?_) (fun c37005 hm => ?_)
    · refine lv_if_eq (tgt := 60) hx hb dX11_hurt_46 (by decide) (fun _ => ?_) (fun h => absurd c37005 h)
      refine lv_iconst (v := (-1)) hx hb dX11_hurt_60 (by decide) ?_
      exact e_iD C hW hS hm dX11_hurt_61
    refine lv_if_eq (tgt := 60) hx hb dX11_hurt_46 (by decide) (fun h => absurd h c37005) (fun _ => ?_)
    refine lv_iload hx hb dX11_hurt_49 (lv_at hl 4 rfl) ?_
    refine q_ifc hm (fun c37006 hm => ?_) (fun c37006 hm => ?_)
    · refine lv_if_lt (tgt := 60) hx hb dX11_hurt_51 (by decide) (fun _ => ?_) (fun h => absurd c37006 h)
      refine lv_iconst (v := (-1)) hx hb dX11_hurt_60 (by decide) ?_
      exact e_iD C hW hS hm dX11_hurt_61
    refine lv_if_lt (tgt := 60) hx hb dX11_hurt_51 (by decide) (fun h => absurd h c37006) (fun _ => ?_)
    refine lv_iload hx hb dX11_hurt_54 (lv_at hl 4 rfl) ?_
    refine lv_iconst (v := 1) hx hb dX11_hurt_56 (by decide) ?_
    refine q_ifc hm (fun c37007 hm => ?_) (fun c37007 hm => ?_)
    · refine lv_icmp_le (tgt := 62) hx hb dX11_hurt_57 (by decide) (fun _ => ?_) (fun h => absurd c37007 h)
      refine lv_aload_n hx hb dX11_hurt_62 rfl (lv_at hl 1 rfl) ?_
      refine r_getF C hW (ci := 11) kx0_37 ff_11_5 cl_11 fl_RX11_44 dX11_hurt_63 (fun k37008 => ?_)
      refine lv_aload_n hx hb dX11_hurt_66 rfl (lv_at hl 1 rfl) ?_
      refine r_getF C hW (ci := 11) kx0_37 ff_11_1 cl_11 fl_RX11_19 dX11_hurt_67 (fun k37009 => ?_)
      refine lv_aload hx hb dX11_hurt_70 (lv_at hl 5 rfl) ?_
      refine lv_iload_n hx hb dX11_hurt_72 rfl (lv_at hl 2 rfl) ?_
      refine lv_iload_n hx hb dX11_hurt_73 rfl (lv_at hl 3 rfl) ?_
      obtain ⟨dt37011, hc37010, hm⟩ := q_b1i hm
      refine q_callV C hW hS (As := [.ref (al.2.2 x0_37 1), .ref b37001, .int x2_37, .int x3_37]) (rest := []) (st1 := []) (c_X4_findWorstPulse l D al dt (al.2.2 x0_37 5) (al.2.2 x0_37 1) b37001 x2_37 x3_37 k37008 k37009 k37002 dt37011 hc37010) yl_X4_findWorstPulse vl_X4_findWorstPulse ml_RX11_254 (ci := 4) rfl k37008 (by decide) rfl ⟨Nat.le_of_ble_eq_true rfl, Nat.le_of_ble_eq_true rfl⟩ hl rfl (Nat.le_of_ble_eq_true rfl) dX11_hurt_74 ⟨Nat.le_refl _, Nat.le_refl _⟩ rfl (fun H locs k37012 hW hS => ?_)
      refine lv_iload hx hb dX11_hurt_77 (lv_at hl 4 rfl) ?_
      refine q_ifc hm (fun c37013 hm => ?_) (fun c37013 hm => ?_)
      · refine lv_if_ne (tgt := 92) hx hb dX11_hurt_79 (by decide) (fun h => absurd c37013 h) (fun _ => ?_)
        refine lv_aload_n hx hb dX11_hurt_82 rfl (lv_at hl 1 rfl) ?_
        refine r_getF C hW (ci := 11) kx0_37 ff_11_5 cl_11 fl_RX11_44 dX11_hurt_83 (fun k37014 => ?_)
        refine r_getI C hW (ci := 4) k37014 ff_4_4 cl_4 fl_RX11_258 dX11_hurt_86 ?_
        refine lv_goto (tgt := 99) hx hb dX11_hurt_89 (by decide) ?_
        exact e_iD C hW hS hm dX11_hurt_99
      refine lv_if_ne (tgt := 92) hx hb dX11_hurt_79 (by decide) (fun _ => ?_) (fun h => absurd h c37013)
      refine lv_aload_n hx hb dX11_hurt_92 rfl (lv_at hl 1 rfl) ?_
      refine r_getF C hW (ci := 11) kx0_37 ff_11_5 cl_11 fl_RX11_44 dX11_hurt_93 (fun k37015 => ?_)
      refine r_getI C hW (ci := 4) k37015 ff_4_5 cl_4 fl_RX11_261 dX11_hurt_96 ?_
      exact e_iD C hW hS hm dX11_hurt_99
    refine lv_icmp_le (tgt := 62) hx hb dX11_hurt_57 (by decide) (fun h => absurd h c37007) (fun _ => ?_)
    refine lv_iconst (v := (-1)) hx hb dX11_hurt_60 (by decide) ?_
    exact e_iD C hW hS hm dX11_hurt_61
  have hB36 : ∀ (x0_36 : Nat) (x2_36 : Int32) (x3_36 : Int32) (x4_36 : Int32) (x5_36 : Option Nat) (kx0_36 : al.1 x0_36 = 12) (kx5_36 : ∀ b, x5_36 = some b → al.1 b = 8) (dt : q_Dt) (H : Heap) (locs : List Loc) (ls : Array Slot) (hm : X11_hurt_b36 al x0_36 x2_36 x3_36 x4_36 x5_36 dt = some (r0, dt0)) (hW : q_W D al dt H) (hS : va_S (q_A al) s.heap H locs) (hl : lv_has ls 7 [(0, .ref x0_36), (2, .int x2_36), (3, .int x3_36), (4, .int x4_36), (5, va_rf x5_36)]), W p l e { frames := 5, cells := 0, slots := 0, locals := 122 } s m args below meth c H locs 0 0 (MQ below (q_Q (some (.int r0)) (fun H => q_W D al dt0 H ∧ q_Rk al 0 (some (.int r0))) (q_A al)) args s 0 0 (q_A al)) (F0 m 36 ls []) := by
    intro x0_36 x2_36 x3_36 x4_36 x5_36 kx0_36 kx5_36 dt H locs ls hm hW hS hl
    unfold X11_hurt_b36 at hm
    refine lv_iconst (v := 0) hx hb dX11_hurt_36 (by decide) ?_
    exact hB37 x0_36 x2_36 x3_36 x4_36 x5_36 0 kx0_36 kx5_36 dt _ _ _ hm hW hS (lv_sub hl [0, 1, 2, 3, 4] rfl)
  refine lv_aload_n hx hb dX11_hurt_0 rfl (lv_at hl 0 rfl) ?_
  refine r_getQ C hW hm (ci := 11) kx0 ff_11_6 cl_11 fl_RX11_51 dX11_hurt_1 (fun o1000001 eo1000001 k1000002 hm => ?_)
  refine lv_iload_n hx hb dX11_hurt_4 rfl (lv_at hl 1 rfl) ?_
  obtain ⟨b1000003, e1000004, hq1000005⟩ := q_mi hm
  subst e1000004
  have hm := hq1000005
  have k1000006 := k1000002 b1000003 rfl
  obtain ⟨v1000008, hc1000007, hm⟩ := q_b1i hm
  refine q_callV C hW hS (As := [.int x1]) (rest := []) (st1 := [va_rf v1000008]) (c_X10_senderAt l D al dt b1000003 x1 k1000006 v1000008 hc1000007) yl_X10_senderAt vl_X10_senderAt ml_RX11_154 (ci := 10) rfl k1000006 (by decide) rfl ⟨Nat.le_of_ble_eq_true rfl, Nat.le_of_ble_eq_true rfl⟩ hl rfl (Nat.le_of_ble_eq_true rfl) dX11_hurt_5 ⟨Nat.le_refl _, Nat.le_refl _⟩ rfl (fun H locs k1000009 hW hS => ?_)
  have k1000009 := q_rk k1000009 (by decide)
  refine q_astoreQ (i := 5) (lv' := [(5, va_rf v1000008), (0, .ref x0), (1, .int x1), (2, .int x2), (3, .int x3), (4, .int x4)]) C dX11_hurt_8 hl (by decide) rfl (fun ls hl => ?_)
  refine lv_iload_n hx hb dX11_hurt_10 rfl (lv_at hl 3 rfl) ?_
  refine lv_iconst (v := 1) hx hb dX11_hurt_11 (by decide) ?_
  refine q_ifc hm (fun c1000010 hm => ?_) (fun c1000010 hm => ?_)
  · refine lv_icmp_lt (tgt := 36) hx hb dX11_hurt_12 (by decide) (fun _ => ?_) (fun h => absurd c1000010 h)
    exact hB36 x0 x2 x3 x4 v1000008 kx0 k1000009 dt _ _ _ hm hW hS (lv_sub hl [1, 3, 4, 5, 0] rfl)
  refine lv_icmp_lt (tgt := 36) hx hb dX11_hurt_12 (by decide) (fun h => absurd h c1000010) (fun _ => ?_)
  refine lv_iload_n hx hb dX11_hurt_15 rfl (lv_at hl 3 rfl) ?_
  refine lv_bipush (v := 99) hx hb dX11_hurt_16 (by decide) ?_
  refine q_ifc hm (fun c1000011 hm => ?_) (fun c1000011 hm => ?_)
  · refine lv_icmp_gt (tgt := 36) hx hb dX11_hurt_18 (by decide) (fun _ => ?_) (fun h => absurd c1000011 h)
    exact hB36 x0 x2 x3 x4 v1000008 kx0 k1000009 dt _ _ _ hm hW hS (lv_sub hl [1, 3, 4, 5, 0] rfl)
  refine lv_icmp_gt (tgt := 36) hx hb dX11_hurt_18 (by decide) (fun h => absurd h c1000011) (fun _ => ?_)
  refine lv_iload_n hx hb dX11_hurt_21 rfl (lv_at hl 4 rfl) ?_
  refine lv_iconst (v := 1) hx hb dX11_hurt_22 (by decide) ?_
  refine q_ifc hm (fun c1000012 hm => ?_) (fun c1000012 hm => ?_)
  · refine lv_icmp_lt (tgt := 36) hx hb dX11_hurt_23 (by decide) (fun _ => ?_) (fun h => absurd c1000012 h)
    exact hB36 x0 x2 x3 x4 v1000008 kx0 k1000009 dt _ _ _ hm hW hS (lv_sub hl [1, 3, 4, 5, 0] rfl)
  refine lv_icmp_lt (tgt := 36) hx hb dX11_hurt_23 (by decide) (fun h => absurd h c1000012) (fun _ => ?_)
  refine lv_iload_n hx hb dX11_hurt_26 rfl (lv_at hl 4 rfl) ?_
  refine lv_bipush (v := 99) hx hb dX11_hurt_27 (by decide) ?_
  refine q_ifc hm (fun c1000013 hm => ?_) (fun c1000013 hm => ?_)
  · refine lv_icmp_gt (tgt := 36) hx hb dX11_hurt_29 (by decide) (fun _ => ?_) (fun h => absurd c1000013 h)
    exact hB36 x0 x2 x3 x4 v1000008 kx0 k1000009 dt _ _ _ hm hW hS (lv_sub hl [1, 3, 4, 5, 0] rfl)
  refine lv_icmp_gt (tgt := 36) hx hb dX11_hurt_29 (by decide) (fun h => absurd h c1000013) (fun _ => ?_)
  refine lv_iconst (v := 1) hx hb dX11_hurt_32 (by decide) ?_
  refine lv_goto (tgt := 37) hx hb dX11_hurt_33 (by decide) ?_
  exact hB37 x0 x2 x3 x4 v1000008 1 kx0 k1000009 dt _ _ _ hm hW hS (lv_sub hl [1, 3, 4, 5, 0] rfl)
theorem dX11_atOnce_0 : decode cX11_atOnce 0 = .ok (.iload_n 1, 1) := by decide +kernel
theorem dX11_atOnce_1 : decode cX11_atOnce 1 = .ok (.iconst 1, 1) := by decide +kernel
theorem dX11_atOnce_2 : decode cX11_atOnce 2 = .ok (.if_icmp .lt 9, 3) := by decide +kernel
theorem dX11_atOnce_5 : decode cX11_atOnce 5 = .ok (.iload_n 1, 1) := by decide +kernel
theorem dX11_atOnce_6 : decode cX11_atOnce 6 = .ok (.bipush 6, 2) := by decide +kernel
theorem dX11_atOnce_8 : decode cX11_atOnce 8 = .ok (.if_icmp .le 7, 3) := by decide +kernel
theorem dX11_atOnce_11 : decode cX11_atOnce 11 = .ok (.iconst (-1), 1) := by decide +kernel
theorem dX11_atOnce_12 : decode cX11_atOnce 12 = .ok (.goto 19, 3) := by decide +kernel
theorem dX11_atOnce_15 : decode cX11_atOnce 15 = .ok (.aload_n 0, 1) := by decide +kernel
theorem dX11_atOnce_16 : decode cX11_atOnce 16 = .ok (.getfield 44, 3) := by decide +kernel
theorem dX11_atOnce_19 : decode cX11_atOnce 19 = .ok (.aload_n 0, 1) := by decide +kernel
theorem dX11_atOnce_20 : decode cX11_atOnce 20 = .ok (.getfield 51, 3) := by decide +kernel
theorem dX11_atOnce_23 : decode cX11_atOnce 23 = .ok (.aload_n 0, 1) := by decide +kernel
theorem dX11_atOnce_24 : decode cX11_atOnce 24 = .ok (.getfield 19, 3) := by decide +kernel
theorem dX11_atOnce_27 : decode cX11_atOnce 27 = .ok (.iload_n 1, 1) := by decide +kernel
theorem dX11_atOnce_28 : decode cX11_atOnce 28 = .ok (.invokevirtual 264, 3) := by decide +kernel
theorem dX11_atOnce_31 : decode cX11_atOnce 31 = .ok (.ireturn, 1) := by decide +kernel
set_option maxRecDepth 100000 in
theorem c_X11_atOnce (l : Launch) (D : q_D) (al : q_Al) (dt : q_Dt) (x0 : Nat) (x1 : Int32) (kx0 : al.1 x0 = 12) (r0 : Int32) (dt0 : q_Dt) (hm : X11_atOnce al dt x0 x1 = some (r0, dt0)) : q_Mt l yX11_atOnce cX11_atOnce 2 (some FieldType.int) 6 148 D al [.ref x0, .int x1] dt 0 (some (.int r0)) dt0 := by
  refine q_Mt.of (by decide) (Nat.le_of_ble_eq_true rfl) ?_
  intro p e s m args below meth c ls C hargs hW hl
  have hx := C.1
  have hb := C.2.1
  have hown := C.2.2.2.2.2.1
  have hts := C.2.2.2.2.2.2.1
  have hS : va_S (q_A al) s.heap s.heap [] := va_S.rf
  have hl : lv_has ls 2 [(0, .ref x0), (1, .int x1)] := hl
  unfold X11_atOnce at hm
  have hB11 : ∀ (dt : q_Dt) (H : Heap) (locs : List Loc) (ls : Array Slot) (hm : X11_atOnce_b11 al dt = some (r0, dt0)) (hW : q_W D al dt H) (hS : va_S (q_A al) s.heap H locs) (hl : lv_has ls 2 []), W p l e { frames := 6, cells := 0, slots := 0, locals := 148 } s m args below meth c H locs 0 0 (MQ below (q_Q (some (.int r0)) (fun H => q_W D al dt0 H ∧ q_Rk al 0 (some (.int r0))) (q_A al)) args s 0 0 (q_A al)) (F0 m 11 ls []) := by
    intro dt H locs ls hm hW hS hl
    unfold X11_atOnce_b11 at hm
    refine lv_iconst (v := (-1)) hx hb dX11_atOnce_11 (by decide) ?_
    refine lv_goto (tgt := 31) hx hb dX11_atOnce_12 (by decide) ?_
    exact e_iD C hW hS hm dX11_atOnce_31
  refine lv_iload_n hx hb dX11_atOnce_0 rfl (lv_at hl 1 rfl) ?_
  refine lv_iconst (v := 1) hx hb dX11_atOnce_1 (by decide) ?_
  refine q_ifc hm (fun c1000001 hm => ?_) (fun c1000001 hm => ?_)
  · refine lv_icmp_lt (tgt := 11) hx hb dX11_atOnce_2 (by decide) (fun _ => ?_) (fun h => absurd c1000001 h)
    exact hB11 dt _ _ _ hm hW hS (lv_sub hl [] rfl)
  refine lv_icmp_lt (tgt := 11) hx hb dX11_atOnce_2 (by decide) (fun h => absurd h c1000001) (fun _ => ?_)
  refine lv_iload_n hx hb dX11_atOnce_5 rfl (lv_at hl 1 rfl) ?_
  refine lv_bipush (v := 6) hx hb dX11_atOnce_6 (by decide) ?_
  refine q_ifc hm (fun c1000002 hm => ?_) (fun c1000002 hm => ?_)
  · refine lv_icmp_le (tgt := 15) hx hb dX11_atOnce_8 (by decide) (fun _ => ?_) (fun h => absurd c1000002 h)
    refine lv_aload_n hx hb dX11_atOnce_15 rfl (lv_at hl 0 rfl) ?_
    refine r_getF C hW (ci := 11) kx0 ff_11_5 cl_11 fl_RX11_44 dX11_atOnce_16 (fun k1000003 => ?_)
    refine lv_aload_n hx hb dX11_atOnce_19 rfl (lv_at hl 0 rfl) ?_
    refine r_getQ C hW hm (ci := 11) kx0 ff_11_6 cl_11 fl_RX11_51 dX11_atOnce_20 (fun o1000004 eo1000004 k1000005 hm => ?_)
    refine lv_aload_n hx hb dX11_atOnce_23 rfl (lv_at hl 0 rfl) ?_
    refine r_getF C hW (ci := 11) kx0 ff_11_1 cl_11 fl_RX11_19 dX11_atOnce_24 (fun k1000006 => ?_)
    refine lv_iload_n hx hb dX11_atOnce_27 rfl (lv_at hl 1 rfl) ?_
    obtain ⟨v1000008, dt1000009, hc1000007, hm⟩ := q_b2i hm
    refine q_callV C hW hS (As := [va_rf o1000004, .ref (al.2.2 x0 1), .int x1]) (rest := []) (st1 := [.int v1000008]) (c_X4_wrongAtOnce l D al dt (al.2.2 x0 5) o1000004 (al.2.2 x0 1) x1 k1000003 k1000005 k1000006 v1000008 dt1000009 hc1000007) yl_X4_wrongAtOnce vl_X4_wrongAtOnce ml_RX11_264 (ci := 4) rfl k1000003 (by decide) rfl ⟨Nat.le_of_ble_eq_true rfl, Nat.le_of_ble_eq_true rfl⟩ hl rfl (Nat.le_of_ble_eq_true rfl) dX11_atOnce_28 ⟨Nat.le_refl _, Nat.le_refl _⟩ rfl (fun H locs k1000010 hW hS => ?_)
    exact e_iD C hW hS hm dX11_atOnce_31
  refine lv_icmp_le (tgt := 15) hx hb dX11_atOnce_8 (by decide) (fun h => absurd h c1000002) (fun _ => ?_)
  exact hB11 dt _ _ _ hm hW hS (lv_sub hl [] rfl)
theorem dX11_taken_0 : decode cX11_taken 0 = .ok (.iload_n 1, 1) := by decide +kernel
theorem dX11_taken_1 : decode cX11_taken 1 = .ok (.ifCond .ne 26, 3) := by decide +kernel
theorem dX11_taken_4 : decode cX11_taken 4 = .ok (.aload_n 0, 1) := by decide +kernel
theorem dX11_taken_5 : decode cX11_taken 5 = .ok (.getfield 44, 3) := by decide +kernel
theorem dX11_taken_8 : decode cX11_taken 8 = .ok (.aload_n 0, 1) := by decide +kernel
theorem dX11_taken_9 : decode cX11_taken 9 = .ok (.getfield 51, 3) := by decide +kernel
theorem dX11_taken_12 : decode cX11_taken 12 = .ok (.aload_n 0, 1) := by decide +kernel
theorem dX11_taken_13 : decode cX11_taken 13 = .ok (.getfield 19, 3) := by decide +kernel
theorem dX11_taken_16 : decode cX11_taken 16 = .ok (.aload_n 0, 1) := by decide +kernel
theorem dX11_taken_17 : decode cX11_taken 17 = .ok (.getfield 51, 3) := by decide +kernel
theorem dX11_taken_20 : decode cX11_taken 20 = .ok (.getfield 268, 3) := by decide +kernel
theorem dX11_taken_23 : decode cX11_taken 23 = .ok (.invokevirtual 271, 3) := by decide +kernel
theorem dX11_taken_26 : decode cX11_taken 26 = .ok (.ireturn, 1) := by decide +kernel
theorem dX11_taken_27 : decode cX11_taken 27 = .ok (.iload_n 1, 1) := by decide +kernel
theorem dX11_taken_28 : decode cX11_taken 28 = .ok (.iconst 1, 1) := by decide +kernel
theorem dX11_taken_29 : decode cX11_taken 29 = .ok (.if_icmp .ne 18, 3) := by decide +kernel
theorem dX11_taken_32 : decode cX11_taken 32 = .ok (.aload_n 0, 1) := by decide +kernel
theorem dX11_taken_33 : decode cX11_taken 33 = .ok (.getfield 44, 3) := by decide +kernel
theorem dX11_taken_36 : decode cX11_taken 36 = .ok (.aload_n 0, 1) := by decide +kernel
theorem dX11_taken_37 : decode cX11_taken 37 = .ok (.getfield 51, 3) := by decide +kernel
theorem dX11_taken_40 : decode cX11_taken 40 = .ok (.iload_n 2, 1) := by decide +kernel
theorem dX11_taken_41 : decode cX11_taken 41 = .ok (.invokevirtual 274, 3) := by decide +kernel
theorem dX11_taken_44 : decode cX11_taken 44 = .ok (.goto 4, 3) := by decide +kernel
theorem dX11_taken_47 : decode cX11_taken 47 = .ok (.iconst (-1), 1) := by decide +kernel
theorem dX11_taken_48 : decode cX11_taken 48 = .ok (.ireturn, 1) := by decide +kernel
set_option maxRecDepth 100000 in
theorem c_X11_taken (l : Launch) (D : q_D) (al : q_Al) (dt : q_Dt) (x0 : Nat) (x1 : Int32) (x2 : Int32) (kx0 : al.1 x0 = 12) (r0 : Int32) (dt0 : q_Dt) (hm : X11_taken al dt x0 x1 x2 = some (r0, dt0)) : q_Mt l yX11_taken cX11_taken 3 (some FieldType.int) 5 124 D al [.ref x0, .int x1, .int x2] dt 0 (some (.int r0)) dt0 := by
  refine q_Mt.of (by decide) (Nat.le_of_ble_eq_true rfl) ?_
  intro p e s m args below meth c ls C hargs hW hl
  have hx := C.1
  have hb := C.2.1
  have hown := C.2.2.2.2.2.1
  have hts := C.2.2.2.2.2.2.1
  have hS : va_S (q_A al) s.heap s.heap [] := va_S.rf
  have hl : lv_has ls 3 [(0, .ref x0), (1, .int x1), (2, .int x2)] := hl
  unfold X11_taken at hm
  refine lv_iload_n hx hb dX11_taken_0 rfl (lv_at hl 1 rfl) ?_
  refine q_ifc hm (fun c1000001 hm => ?_) (fun c1000001 hm => ?_)
  · refine lv_if_ne (tgt := 27) hx hb dX11_taken_1 (by decide) (fun h => absurd c1000001 h) (fun _ => ?_)
    refine lv_aload_n hx hb dX11_taken_4 rfl (lv_at hl 0 rfl) ?_
    refine r_getF C hW (ci := 11) kx0 ff_11_5 cl_11 fl_RX11_44 dX11_taken_5 (fun k1000002 => ?_)
    refine lv_aload_n hx hb dX11_taken_8 rfl (lv_at hl 0 rfl) ?_
    refine r_getQ C hW hm (ci := 11) kx0 ff_11_6 cl_11 fl_RX11_51 dX11_taken_9 (fun o1000003 eo1000003 k1000004 hm => ?_)
    refine lv_aload_n hx hb dX11_taken_12 rfl (lv_at hl 0 rfl) ?_
    refine r_getF C hW (ci := 11) kx0 ff_11_1 cl_11 fl_RX11_19 dX11_taken_13 (fun k1000005 => ?_)
    refine lv_aload_n hx hb dX11_taken_16 rfl (lv_at hl 0 rfl) ?_
    refine r_getQ C hW hm (ci := 11) kx0 ff_11_6 cl_11 fl_RX11_51 dX11_taken_17 (fun o1000006 eo1000006 k1000007 hm => ?_)
    obtain ⟨b1000008, e1000009, hq1000010⟩ := q_mi hm
    subst e1000009
    have hm := hq1000010
    have k1000011 := k1000007 b1000008 rfl
    refine r_getI C hW (ci := 10) k1000011 ff_10_9 cl_10 fl_RX11_268 dX11_taken_20 ?_
    obtain ⟨v1000013, dt1000014, hc1000012, hm⟩ := q_b2i hm
    refine q_callV C hW hS (As := [va_rf o1000003, .ref (al.2.2 x0 1), .int (dt.1 b1000008 9)]) (rest := []) (st1 := [.int v1000013]) (c_X4_takeOut l D al dt (al.2.2 x0 5) o1000003 (al.2.2 x0 1) (dt.1 b1000008 9) k1000002 k1000004 k1000005 v1000013 dt1000014 hc1000012) yl_X4_takeOut vl_X4_takeOut ml_RX11_271 (ci := 4) rfl k1000002 (by decide) rfl ⟨Nat.le_of_ble_eq_true rfl, Nat.le_of_ble_eq_true rfl⟩ hl rfl (Nat.le_of_ble_eq_true rfl) dX11_taken_23 ⟨Nat.le_refl _, Nat.le_refl _⟩ rfl (fun H locs k1000015 hW hS => ?_)
    exact e_iD C hW hS hm dX11_taken_26
  refine lv_if_ne (tgt := 27) hx hb dX11_taken_1 (by decide) (fun _ => ?_) (fun h => absurd h c1000001)
  refine lv_iload_n hx hb dX11_taken_27 rfl (lv_at hl 1 rfl) ?_
  refine lv_iconst (v := 1) hx hb dX11_taken_28 (by decide) ?_
  refine q_ifc hm (fun c1000016 hm => ?_) (fun c1000016 hm => ?_)
  · refine lv_icmp_ne (tgt := 47) hx hb dX11_taken_29 (by decide) (fun h => absurd c1000016 h) (fun _ => ?_)
    refine lv_aload_n hx hb dX11_taken_32 rfl (lv_at hl 0 rfl) ?_
    refine r_getF C hW (ci := 11) kx0 ff_11_5 cl_11 fl_RX11_44 dX11_taken_33 (fun k1000017 => ?_)
    refine lv_aload_n hx hb dX11_taken_36 rfl (lv_at hl 0 rfl) ?_
    refine r_getQ C hW hm (ci := 11) kx0 ff_11_6 cl_11 fl_RX11_51 dX11_taken_37 (fun o1000018 eo1000018 k1000019 hm => ?_)
    refine lv_iload_n hx hb dX11_taken_40 rfl (lv_at hl 2 rfl) ?_
    obtain ⟨v1000021, hc1000020, hm⟩ := q_b1i hm
    refine q_callV C hW hS (As := [va_rf o1000018, .int x2]) (rest := []) (st1 := [.int v1000021]) (c_X4_strongerFirst l D al dt (al.2.2 x0 5) o1000018 x2 k1000017 k1000019 v1000021 hc1000020) yl_X4_strongerFirst vl_X4_strongerFirst ml_RX11_274 (ci := 4) rfl k1000017 (by decide) rfl ⟨Nat.le_of_ble_eq_true rfl, Nat.le_of_ble_eq_true rfl⟩ hl rfl (Nat.le_of_ble_eq_true rfl) dX11_taken_41 ⟨Nat.le_refl _, Nat.le_refl _⟩ rfl (fun H locs k1000022 hW hS => ?_)
    refine lv_goto (tgt := 48) hx hb dX11_taken_44 (by decide) ?_
    exact e_iD C hW hS hm dX11_taken_48
  refine lv_icmp_ne (tgt := 47) hx hb dX11_taken_29 (by decide) (fun _ => ?_) (fun h => absurd h c1000016)
  refine lv_iconst (v := (-1)) hx hb dX11_taken_47 (by decide) ?_
  exact e_iD C hW hS hm dX11_taken_48
