theorem dX11_code_0 : decode cX11_code 0 = .ok (.aload_n 0, 1) := by decide +kernel
theorem dX11_code_1 : decode cX11_code 1 = .ok (.getfield 51, 3) := by decide +kernel
theorem dX11_code_4 : decode cX11_code 4 = .ok (.iload_n 1, 1) := by decide +kernel
theorem dX11_code_5 : decode cX11_code 5 = .ok (.invokevirtual 87, 3) := by decide +kernel
theorem dX11_code_8 : decode cX11_code 8 = .ok (.astore_n 3, 1) := by decide +kernel
theorem dX11_code_9 : decode cX11_code 9 = .ok (.aload_n 3, 1) := by decide +kernel
theorem dX11_code_10 : decode cX11_code 10 = .ok (.ifnonnull 5, 3) := by decide +kernel
theorem dX11_code_13 : decode cX11_code 13 = .ok (.iconst (-1), 1) := by decide +kernel
theorem dX11_code_14 : decode cX11_code 14 = .ok (.ireturn, 1) := by decide +kernel
theorem dX11_code_15 : decode cX11_code 15 = .ok (.iload_n 2, 1) := by decide +kernel
theorem dX11_code_16 : decode cX11_code 16 = .ok (.tableswitch 52 0 3 #[32, 37, 42, 47], 32) := by decide +kernel
theorem dX11_code_48 : decode cX11_code 48 = .ok (.aload_n 3, 1) := by decide +kernel
theorem dX11_code_49 : decode cX11_code 49 = .ok (.getfield 91, 3) := by decide +kernel
theorem dX11_code_52 : decode cX11_code 52 = .ok (.ireturn, 1) := by decide +kernel
theorem dX11_code_53 : decode cX11_code 53 = .ok (.aload_n 3, 1) := by decide +kernel
theorem dX11_code_54 : decode cX11_code 54 = .ok (.invokevirtual 94, 3) := by decide +kernel
theorem dX11_code_57 : decode cX11_code 57 = .ok (.ireturn, 1) := by decide +kernel
theorem dX11_code_58 : decode cX11_code 58 = .ok (.aload_n 3, 1) := by decide +kernel
theorem dX11_code_59 : decode cX11_code 59 = .ok (.invokevirtual 98, 3) := by decide +kernel
theorem dX11_code_62 : decode cX11_code 62 = .ok (.ireturn, 1) := by decide +kernel
theorem dX11_code_63 : decode cX11_code 63 = .ok (.aload_n 3, 1) := by decide +kernel
theorem dX11_code_64 : decode cX11_code 64 = .ok (.invokevirtual 101, 3) := by decide +kernel
theorem dX11_code_67 : decode cX11_code 67 = .ok (.ireturn, 1) := by decide +kernel
theorem dX11_code_68 : decode cX11_code 68 = .ok (.iconst (-1), 1) := by decide +kernel
theorem dX11_code_69 : decode cX11_code 69 = .ok (.ireturn, 1) := by decide +kernel
set_option maxRecDepth 100000 in
theorem c_X11_code (l : Launch) (D : q_D) (al : q_Al) (dt : q_Dt) (x0 : Nat) (x1 : Int32) (x2 : Int32) (kx0 : al.1 x0 = 12) (r0 : Int32) (hm : X11_code al dt x0 x1 x2 = some r0) : q_Mt l yX11_code cX11_code 4 (some FieldType.int) 5 116 D al [.ref x0, .int x1, .int x2] dt 0 (some (.int r0)) dt := by
  refine q_Mt.of (by decide) (Nat.le_of_ble_eq_true rfl) ?_
  intro p e s m args below meth c ls C hargs hW hl
  have hx := C.1
  have hb := C.2.1
  have hown := C.2.2.2.2.2.1
  have hts := C.2.2.2.2.2.2.1
  have hS : va_S (q_A al) s.heap s.heap [] := va_S.rf
  have hl : lv_has ls 4 [(0, .ref x0), (1, .int x1), (2, .int x2)] := hl
  unfold X11_code at hm
  refine lv_aload_n hx hb dX11_code_0 rfl (lv_at hl 0 rfl) ?_
  refine r_getQ C hW hm (ci := 11) kx0 ff_11_6 cl_11 fl_RX11_51 dX11_code_1 (fun o1000001 eo1000001 k1000002 hm => ?_)
  refine lv_iload_n hx hb dX11_code_4 rfl (lv_at hl 1 rfl) ?_
  obtain ⟨b1000003, e1000004, hq1000005⟩ := q_mi hm
  subst e1000004
  have hm := hq1000005
  have k1000006 := k1000002 b1000003 rfl
  obtain ⟨v1000008, hc1000007, hm⟩ := q_b1i hm
  refine q_callV C hW hS (As := [.int x1]) (rest := []) (st1 := [va_rf v1000008]) (c_X10_codeAt l D al dt b1000003 x1 k1000006 v1000008 hc1000007) yl_X10_codeAt vl_X10_codeAt ml_RX11_87 (ci := 10) rfl k1000006 (by decide) rfl ⟨Nat.le_of_ble_eq_true rfl, Nat.le_of_ble_eq_true rfl⟩ hl rfl (Nat.le_of_ble_eq_true rfl) dX11_code_5 ⟨Nat.le_refl _, Nat.le_refl _⟩ rfl (fun H locs k1000009 hW hS => ?_)
  have k1000009 := q_rk k1000009 (by decide)
  refine q_astoreQ_n (i := 3) (lv' := [(3, va_rf v1000008), (0, .ref x0), (1, .int x1), (2, .int x2)]) C dX11_code_8 rfl hl (by decide) rfl (fun ls hl => ?_)
  refine q_aloadQ_n C dX11_code_9 rfl (lv_at hl 0 rfl) ?_
  refine q_ifnonnull C hm (tgt := 15) dX11_code_10 (by decide) (fun e1000012 hq1000013 => ?_) (fun b1000010 e1000012 hq1000013 => ?_)
  · subst e1000012
    have hm := hq1000013
    refine lv_iconst (v := (-1)) hx hb dX11_code_13 (by decide) ?_
    exact e_i C hW hS hm dX11_code_14
  subst e1000012
  have hm := hq1000013
  have k1000011 := k1000009 b1000010 rfl
  refine lv_iload_n hx hb dX11_code_15 rfl (lv_at hl 3 rfl) ?_
  refine q_ifc hm (fun c1000014 hm => ?_) (fun c1000014 hm => ?_)
  · refine lv_tableIn (tgt := 48) hx hb dX11_code_16 (by rw [c1000014]; decide) (by rw [c1000014]; decide) (by rw [c1000014]; rfl) (by decide) ?_
    refine lv_aload_n hx hb dX11_code_48 rfl (lv_at hl 0 rfl) ?_
    refine r_getI C hW (ci := 0) k1000011 ff_0_1 cl_0 fl_RX11_91 dX11_code_49 ?_
    exact e_i C hW hS hm dX11_code_52
  refine q_ifc hm (fun c1000015 hm => ?_) (fun c1000015 hm => ?_)
  · refine lv_tableIn (tgt := 53) hx hb dX11_code_16 (by rw [c1000015]; decide) (by rw [c1000015]; decide) (by rw [c1000015]; rfl) (by decide) ?_
    refine lv_aload_n hx hb dX11_code_53 rfl (lv_at hl 0 rfl) ?_
    obtain ⟨v1000017, hc1000016, hm⟩ := q_b1i hm
    refine q_callV C hW hS (As := []) (rest := []) (st1 := [.int v1000017]) (c_X0_minuses l D al dt b1000010 k1000011 v1000017 hc1000016) yl_X0_minuses vl_X0_minuses ml_RX11_94 (ci := 0) rfl k1000011 (by decide) rfl ⟨Nat.le_of_ble_eq_true rfl, Nat.le_of_ble_eq_true rfl⟩ hl rfl (Nat.le_of_ble_eq_true rfl) dX11_code_54 ⟨Nat.le_refl _, Nat.le_refl _⟩ rfl (fun H locs k1000018 hW hS => ?_)
    exact e_i C hW hS hm dX11_code_57
  refine q_ifc hm (fun c1000019 hm => ?_) (fun c1000019 hm => ?_)
  · refine lv_tableIn (tgt := 58) hx hb dX11_code_16 (by rw [c1000019]; decide) (by rw [c1000019]; decide) (by rw [c1000019]; rfl) (by decide) ?_
    refine lv_aload_n hx hb dX11_code_58 rfl (lv_at hl 0 rfl) ?_
    obtain ⟨v1000021, hc1000020, hm⟩ := q_b1i hm
    refine q_callV C hW hS (As := []) (rest := []) (st1 := [.int v1000021]) (c_X0_ownShift l D al dt b1000010 k1000011 v1000021 hc1000020) yl_X0_ownShift vl_X0_ownShift ml_RX11_98 (ci := 0) rfl k1000011 (by decide) rfl ⟨Nat.le_of_ble_eq_true rfl, Nat.le_of_ble_eq_true rfl⟩ hl rfl (Nat.le_of_ble_eq_true rfl) dX11_code_59 ⟨Nat.le_refl _, Nat.le_refl _⟩ rfl (fun H locs k1000022 hW hS => ?_)
    exact e_i C hW hS hm dX11_code_62
  refine q_ifc hm (fun c1000023 hm => ?_) (fun c1000023 hm => ?_)
  · refine lv_tableIn (tgt := 63) hx hb dX11_code_16 (by rw [c1000023]; decide) (by rw [c1000023]; decide) (by rw [c1000023]; rfl) (by decide) ?_
    refine lv_aload_n hx hb dX11_code_63 rfl (lv_at hl 0 rfl) ?_
    obtain ⟨v1000025, hc1000024, hm⟩ := q_b1i hm
    refine q_callV C hW hS (As := []) (rest := []) (st1 := [.int v1000025]) (c_X0_changes l D al dt b1000010 k1000011 v1000025 hc1000024) yl_X0_changes vl_X0_changes ml_RX11_101 (ci := 0) rfl k1000011 (by decide) rfl ⟨Nat.le_of_ble_eq_true rfl, Nat.le_of_ble_eq_true rfl⟩ hl rfl (Nat.le_of_ble_eq_true rfl) dX11_code_64 ⟨Nat.le_refl _, Nat.le_refl _⟩ rfl (fun H locs k1000026 hW hS => ?_)
    exact e_i C hW hS hm dX11_code_67
  have c1000014_z := lv_neT c1000014 (a := 0) rfl
  have c1000015_z := lv_neT c1000015 (a := 1) rfl
  have c1000019_z := lv_neT c1000019 (a := 2) rfl
  have c1000023_z := lv_neT c1000023 (a := 3) rfl
  refine lv_tableOut (tgt := 68) hx hb dX11_code_16 (by omega) (by decide) ?_
  refine lv_iconst (v := (-1)) hx hb dX11_code_68 (by decide) ?_
  exact e_i C hW hS hm dX11_code_69
theorem dX11_chip_0 : decode cX11_chip 0 = .ok (.aload_n 0, 1) := by decide +kernel
theorem dX11_chip_1 : decode cX11_chip 1 = .ok (.getfield 51, 3) := by decide +kernel
theorem dX11_chip_4 : decode cX11_chip 4 = .ok (.iload_n 1, 1) := by decide +kernel
theorem dX11_chip_5 : decode cX11_chip 5 = .ok (.invokevirtual 87, 3) := by decide +kernel
theorem dX11_chip_8 : decode cX11_chip 8 = .ok (.astore_n 3, 1) := by decide +kernel
theorem dX11_chip_9 : decode cX11_chip 9 = .ok (.aload_n 3, 1) := by decide +kernel
theorem dX11_chip_10 : decode cX11_chip 10 = .ok (.ifnull 15, 3) := by decide +kernel
theorem dX11_chip_13 : decode cX11_chip 13 = .ok (.iload_n 2, 1) := by decide +kernel
theorem dX11_chip_14 : decode cX11_chip 14 = .ok (.ifCond .lt 11, 3) := by decide +kernel
theorem dX11_chip_17 : decode cX11_chip 17 = .ok (.iload_n 2, 1) := by decide +kernel
theorem dX11_chip_18 : decode cX11_chip 18 = .ok (.aload_n 3, 1) := by decide +kernel
theorem dX11_chip_19 : decode cX11_chip 19 = .ok (.getfield 91, 3) := by decide +kernel
theorem dX11_chip_22 : decode cX11_chip 22 = .ok (.if_icmp .lt 7, 3) := by decide +kernel
theorem dX11_chip_25 : decode cX11_chip 25 = .ok (.iconst 0, 1) := by decide +kernel
theorem dX11_chip_26 : decode cX11_chip 26 = .ok (.goto 8, 3) := by decide +kernel
theorem dX11_chip_29 : decode cX11_chip 29 = .ok (.aload_n 3, 1) := by decide +kernel
theorem dX11_chip_30 : decode cX11_chip 30 = .ok (.iload_n 2, 1) := by decide +kernel
theorem dX11_chip_31 : decode cX11_chip 31 = .ok (.invokevirtual 104, 3) := by decide +kernel
theorem dX11_chip_34 : decode cX11_chip 34 = .ok (.ireturn, 1) := by decide +kernel
set_option maxRecDepth 100000 in
theorem c_X11_chip (l : Launch) (D : q_D) (al : q_Al) (dt : q_Dt) (x0 : Nat) (x1 : Int32) (x2 : Int32) (kx0 : al.1 x0 = 12) (r0 : Int32) (hm : X11_chip al dt x0 x1 x2 = some r0) : q_Mt l yX11_chip cX11_chip 4 (some FieldType.int) 2 42 D al [.ref x0, .int x1, .int x2] dt 0 (some (.int r0)) dt := by
  refine q_Mt.of (by decide) (Nat.le_of_ble_eq_true rfl) ?_
  intro p e s m args below meth c ls C hargs hW hl
  have hx := C.1
  have hb := C.2.1
  have hown := C.2.2.2.2.2.1
  have hts := C.2.2.2.2.2.2.1
  have hS : va_S (q_A al) s.heap s.heap [] := va_S.rf
  have hl : lv_has ls 4 [(0, .ref x0), (1, .int x1), (2, .int x2)] := hl
  unfold X11_chip at hm
  have hB25 : ∀ (H : Heap) (locs : List Loc) (ls : Array Slot) (hm : X11_chip_b25 al dt = some r0) (hW : q_W D al dt H) (hS : va_S (q_A al) s.heap H locs) (hl : lv_has ls 4 []), W p l e { frames := 2, cells := 0, slots := 0, locals := 42 } s m args below meth c H locs 0 0 (MQ below (q_Q (some (.int r0)) (fun H => q_W D al dt H ∧ q_Rk al 0 (some (.int r0))) (q_A al)) args s 0 0 (q_A al)) (F0 m 25 ls []) := by
    intro H locs ls hm hW hS hl
    unfold X11_chip_b25 at hm
    refine lv_iconst (v := 0) hx hb dX11_chip_25 (by decide) ?_
    refine lv_goto (tgt := 34) hx hb dX11_chip_26 (by decide) ?_
    exact e_i C hW hS hm dX11_chip_34
  refine lv_aload_n hx hb dX11_chip_0 rfl (lv_at hl 0 rfl) ?_
  refine r_getQ C hW hm (ci := 11) kx0 ff_11_6 cl_11 fl_RX11_51 dX11_chip_1 (fun o1000001 eo1000001 k1000002 hm => ?_)
  refine lv_iload_n hx hb dX11_chip_4 rfl (lv_at hl 1 rfl) ?_
  obtain ⟨b1000003, e1000004, hq1000005⟩ := q_mi hm
  subst e1000004
  have hm := hq1000005
  have k1000006 := k1000002 b1000003 rfl
  obtain ⟨v1000008, hc1000007, hm⟩ := q_b1i hm
  refine q_callV C hW hS (As := [.int x1]) (rest := []) (st1 := [va_rf v1000008]) (c_X10_codeAt l D al dt b1000003 x1 k1000006 v1000008 hc1000007) yl_X10_codeAt vl_X10_codeAt ml_RX11_87 (ci := 10) rfl k1000006 (by decide) rfl ⟨Nat.le_of_ble_eq_true rfl, Nat.le_of_ble_eq_true rfl⟩ hl rfl (Nat.le_of_ble_eq_true rfl) dX11_chip_5 ⟨Nat.le_refl _, Nat.le_refl _⟩ rfl (fun H locs k1000009 hW hS => ?_)
  have k1000009 := q_rk k1000009 (by decide)
  refine q_astoreQ_n (i := 3) (lv' := [(3, va_rf v1000008), (0, .ref x0), (1, .int x1), (2, .int x2)]) C dX11_chip_8 rfl hl (by decide) rfl (fun ls hl => ?_)
  refine q_aloadQ_n C dX11_chip_9 rfl (lv_at hl 0 rfl) ?_
  refine q_ifnull C hm (tgt := 25) dX11_chip_10 (by decide) (fun e1000012 hq1000013 => ?_) (fun b1000010 e1000012 hq1000013 => ?_)
  · subst e1000012
    have hm := hq1000013
    exact hB25 _ _ _ hm hW hS (lv_sub hl [] rfl)
  subst e1000012
  have hm := hq1000013
  have k1000011 := k1000009 b1000010 rfl
  refine lv_iload_n hx hb dX11_chip_13 rfl (lv_at hl 3 rfl) ?_
  refine q_ifc hm (fun c1000014 hm => ?_) (fun c1000014 hm => ?_)
  · refine lv_if_lt (tgt := 25) hx hb dX11_chip_14 (by decide) (fun _ => ?_) (fun h => absurd c1000014 h)
    exact hB25 _ _ _ hm hW hS (lv_sub hl [] rfl)
  refine lv_if_lt (tgt := 25) hx hb dX11_chip_14 (by decide) (fun h => absurd h c1000014) (fun _ => ?_)
  refine lv_iload_n hx hb dX11_chip_17 rfl (lv_at hl 3 rfl) ?_
  refine lv_aload_n hx hb dX11_chip_18 rfl (lv_at hl 0 rfl) ?_
  refine r_getI C hW (ci := 0) k1000011 ff_0_1 cl_0 fl_RX11_91 dX11_chip_19 ?_
  refine q_ifc hm (fun c1000015 hm => ?_) (fun c1000015 hm => ?_)
  · refine lv_icmp_lt (tgt := 29) hx hb dX11_chip_22 (by decide) (fun _ => ?_) (fun h => absurd c1000015 h)
    refine lv_aload_n hx hb dX11_chip_29 rfl (lv_at hl 0 rfl) ?_
    refine lv_iload_n hx hb dX11_chip_30 rfl (lv_at hl 3 rfl) ?_
    obtain ⟨v1000017, hc1000016, hm⟩ := q_b1i hm
    refine q_callV C hW hS (As := [.int x2]) (rest := []) (st1 := [.int v1000017]) (c_X0_chipAt l D al dt b1000010 x2 k1000011 v1000017 hc1000016) yl_X0_chipAt vl_X0_chipAt ml_RX11_104 (ci := 0) rfl k1000011 (by decide) rfl ⟨Nat.le_of_ble_eq_true rfl, Nat.le_of_ble_eq_true rfl⟩ hl rfl (Nat.le_of_ble_eq_true rfl) dX11_chip_31 ⟨Nat.le_refl _, Nat.le_refl _⟩ rfl (fun H locs k1000018 hW hS => ?_)
    exact e_i C hW hS hm dX11_chip_34
  refine lv_icmp_lt (tgt := 29) hx hb dX11_chip_22 (by decide) (fun h => absurd h c1000015) (fun _ => ?_)
  exact hB25 _ _ _ hm hW hS (lv_sub hl [] rfl)
theorem dX11_alike_0 : decode cX11_alike 0 = .ok (.aload_n 0, 1) := by decide +kernel
theorem dX11_alike_1 : decode cX11_alike 1 = .ok (.getfield 51, 3) := by decide +kernel
theorem dX11_alike_4 : decode cX11_alike 4 = .ok (.iload_n 1, 1) := by decide +kernel
theorem dX11_alike_5 : decode cX11_alike 5 = .ok (.invokevirtual 87, 3) := by decide +kernel
theorem dX11_alike_8 : decode cX11_alike 8 = .ok (.astore 4, 2) := by decide +kernel
theorem dX11_alike_10 : decode cX11_alike 10 = .ok (.aload_n 0, 1) := by decide +kernel
theorem dX11_alike_11 : decode cX11_alike 11 = .ok (.getfield 51, 3) := by decide +kernel
theorem dX11_alike_14 : decode cX11_alike 14 = .ok (.iload_n 2, 1) := by decide +kernel
theorem dX11_alike_15 : decode cX11_alike 15 = .ok (.invokevirtual 87, 3) := by decide +kernel
theorem dX11_alike_18 : decode cX11_alike 18 = .ok (.astore 5, 2) := by decide +kernel
theorem dX11_alike_20 : decode cX11_alike 20 = .ok (.aload 4, 2) := by decide +kernel
theorem dX11_alike_22 : decode cX11_alike 22 = .ok (.aload 5, 2) := by decide +kernel
theorem dX11_alike_24 : decode cX11_alike 24 = .ok (.invokestatic 108, 3) := by decide +kernel
theorem dX11_alike_27 : decode cX11_alike 27 = .ok (.ifCond .eq 16, 3) := by decide +kernel
theorem dX11_alike_30 : decode cX11_alike 30 = .ok (.iload_n 3, 1) := by decide +kernel
theorem dX11_alike_31 : decode cX11_alike 31 = .ok (.ifCond .lt 12, 3) := by decide +kernel
theorem dX11_alike_34 : decode cX11_alike 34 = .ok (.iload_n 3, 1) := by decide +kernel
theorem dX11_alike_35 : decode cX11_alike 35 = .ok (.aload 4, 2) := by decide +kernel
theorem dX11_alike_37 : decode cX11_alike 37 = .ok (.getfield 91, 3) := by decide +kernel
theorem dX11_alike_40 : decode cX11_alike 40 = .ok (.if_icmp .lt 7, 3) := by decide +kernel
theorem dX11_alike_43 : decode cX11_alike 43 = .ok (.sipush (-1000), 3) := by decide +kernel
theorem dX11_alike_46 : decode cX11_alike 46 = .ok (.ireturn, 1) := by decide +kernel
theorem dX11_alike_47 : decode cX11_alike 47 = .ok (.aload 4, 2) := by decide +kernel
theorem dX11_alike_49 : decode cX11_alike 49 = .ok (.aload 5, 2) := by decide +kernel
theorem dX11_alike_51 : decode cX11_alike 51 = .ok (.iload_n 3, 1) := by decide +kernel
theorem dX11_alike_52 : decode cX11_alike 52 = .ok (.invokevirtual 112, 3) := by decide +kernel
theorem dX11_alike_55 : decode cX11_alike 55 = .ok (.ireturn, 1) := by decide +kernel
set_option maxRecDepth 100000 in
theorem c_X11_alike (l : Launch) (D : q_D) (al : q_Al) (dt : q_Dt) (x0 : Nat) (x1 : Int32) (x2 : Int32) (x3 : Int32) (kx0 : al.1 x0 = 12) (r0 : Int32) (hm : X11_alike al dt x0 x1 x2 x3 = some r0) : q_Mt l yX11_alike cX11_alike 6 (some FieldType.int) 4 95 D al [.ref x0, .int x1, .int x2, .int x3] dt 0 (some (.int r0)) dt := by
  refine q_Mt.of (by decide) (Nat.le_of_ble_eq_true rfl) ?_
  intro p e s m args below meth c ls C hargs hW hl
  have hx := C.1
  have hb := C.2.1
  have hown := C.2.2.2.2.2.1
  have hts := C.2.2.2.2.2.2.1
  have hS : va_S (q_A al) s.heap s.heap [] := va_S.rf
  have hl : lv_has ls 6 [(0, .ref x0), (1, .int x1), (2, .int x2), (3, .int x3)] := hl
  unfold X11_alike at hm
  refine lv_aload_n hx hb dX11_alike_0 rfl (lv_at hl 0 rfl) ?_
  refine r_getQ C hW hm (ci := 11) kx0 ff_11_6 cl_11 fl_RX11_51 dX11_alike_1 (fun o1000001 eo1000001 k1000002 hm => ?_)
  refine lv_iload_n hx hb dX11_alike_4 rfl (lv_at hl 1 rfl) ?_
  obtain ⟨b1000003, e1000004, hq1000005⟩ := q_mi hm
  subst e1000004
  have hm := hq1000005
  have k1000006 := k1000002 b1000003 rfl
  obtain ⟨v1000008, hc1000007, hm⟩ := q_b1i hm
  refine q_callV C hW hS (As := [.int x1]) (rest := []) (st1 := [va_rf v1000008]) (c_X10_codeAt l D al dt b1000003 x1 k1000006 v1000008 hc1000007) yl_X10_codeAt vl_X10_codeAt ml_RX11_87 (ci := 10) rfl k1000006 (by decide) rfl ⟨Nat.le_of_ble_eq_true rfl, Nat.le_of_ble_eq_true rfl⟩ hl rfl (Nat.le_of_ble_eq_true rfl) dX11_alike_5 ⟨Nat.le_refl _, Nat.le_refl _⟩ rfl (fun H locs k1000009 hW hS => ?_)
  have k1000009 := q_rk k1000009 (by decide)
  refine q_astoreQ (i := 4) (lv' := [(4, va_rf v1000008), (0, .ref x0), (1, .int x1), (2, .int x2), (3, .int x3)]) C dX11_alike_8 hl (by decide) rfl (fun ls hl => ?_)
  refine lv_aload_n hx hb dX11_alike_10 rfl (lv_at hl 1 rfl) ?_
  refine r_getQ C hW hm (ci := 11) kx0 ff_11_6 cl_11 fl_RX11_51 dX11_alike_11 (fun o1000010 eo1000010 k1000011 hm => ?_)
  refine lv_iload_n hx hb dX11_alike_14 rfl (lv_at hl 3 rfl) ?_
  obtain ⟨b1000012, e1000013, hq1000014⟩ := q_mi hm
  subst e1000013
  have hm := hq1000014
  have k1000015 := k1000011 b1000012 rfl
  obtain ⟨v1000017, hc1000016, hm⟩ := q_b1i hm
  refine q_callV C hW hS (As := [.int x2]) (rest := []) (st1 := [va_rf v1000017]) (c_X10_codeAt l D al dt b1000012 x2 k1000015 v1000017 hc1000016) yl_X10_codeAt vl_X10_codeAt ml_RX11_87 (ci := 10) rfl k1000015 (by decide) rfl ⟨Nat.le_of_ble_eq_true rfl, Nat.le_of_ble_eq_true rfl⟩ hl rfl (Nat.le_of_ble_eq_true rfl) dX11_alike_15 ⟨Nat.le_refl _, Nat.le_refl _⟩ rfl (fun H locs k1000018 hW hS => ?_)
  have k1000018 := q_rk k1000018 (by decide)
  refine q_astoreQ (i := 5) (lv' := [(5, va_rf v1000017), (4, va_rf v1000008), (0, .ref x0), (1, .int x1), (2, .int x2), (3, .int x3)]) C dX11_alike_18 hl (by decide) (by simp [q_cat, q_catR, q_catI, q_catL] <;> rfl) (fun ls hl => ?_)
  refine q_aloadQ C dX11_alike_20 (lv_at hl 1 rfl) ?_
  refine q_aloadQ C dX11_alike_22 (lv_at hl 0 rfl) ?_
  obtain ⟨v1000020, hc1000019, hm⟩ := q_b1i hm
  refine q_callS C hW hS (As := [va_rf v1000008, va_rf v1000017]) (rest := []) (st1 := [.int v1000020]) (c_X11_likeLong l D al dt v1000008 v1000017 k1000009 k1000018 v1000020 hc1000019) yl_X11_likeLong sl_X11_likeLong ml_RX11_108 rfl ⟨Nat.le_of_ble_eq_true rfl, Nat.le_of_ble_eq_true rfl⟩ hl rfl (Nat.le_of_ble_eq_true rfl) dX11_alike_24 ⟨Nat.le_refl _, Nat.le_refl _⟩ rfl (fun H locs k1000021 hW hS => ?_)
  refine q_ifc hm (fun c1000022 hm => ?_) (fun c1000022 hm => ?_)
  · refine lv_if_eq (tgt := 43) hx hb dX11_alike_27 (by decide) (fun _ => ?_) (fun h => absurd c1000022 h)
    refine lv_sipush (v := (-1000)) hx hb dX11_alike_43 (by decide) ?_
    exact e_i C hW hS hm dX11_alike_46
  refine lv_if_eq (tgt := 43) hx hb dX11_alike_27 (by decide) (fun h => absurd h c1000022) (fun _ => ?_)
  refine lv_iload_n hx hb dX11_alike_30 rfl (lv_at hl 5 rfl) ?_
  refine q_ifc hm (fun c1000023 hm => ?_) (fun c1000023 hm => ?_)
  · refine lv_if_lt (tgt := 43) hx hb dX11_alike_31 (by decide) (fun _ => ?_) (fun h => absurd c1000023 h)
    refine lv_sipush (v := (-1000)) hx hb dX11_alike_43 (by decide) ?_
    exact e_i C hW hS hm dX11_alike_46
  refine lv_if_lt (tgt := 43) hx hb dX11_alike_31 (by decide) (fun h => absurd h c1000023) (fun _ => ?_)
  refine lv_iload_n hx hb dX11_alike_34 rfl (lv_at hl 5 rfl) ?_
  refine q_aloadQ C dX11_alike_35 (lv_at hl 1 rfl) ?_
  obtain ⟨b1000024, e1000025, hq1000026⟩ := q_mi hm
  subst e1000025
  have hm := hq1000026
  have k1000027 := k1000009 b1000024 rfl
  refine r_getI C hW (ci := 0) k1000027 ff_0_1 cl_0 fl_RX11_91 dX11_alike_37 ?_
  refine q_ifc hm (fun c1000028 hm => ?_) (fun c1000028 hm => ?_)
  · refine lv_icmp_lt (tgt := 47) hx hb dX11_alike_40 (by decide) (fun _ => ?_) (fun h => absurd c1000028 h)
    refine lv_aload hx hb dX11_alike_47 (lv_at hl 1 rfl) ?_
    refine q_aloadQ C dX11_alike_49 (lv_at hl 0 rfl) ?_
    refine lv_iload_n hx hb dX11_alike_51 rfl (lv_at hl 5 rfl) ?_
    obtain ⟨v1000030, hc1000029, hm⟩ := q_b1i hm
    refine q_callV C hW hS (As := [va_rf v1000017, .int x3]) (rest := []) (st1 := [.int v1000030]) (c_X0_alikeness l D al dt b1000024 v1000017 x3 k1000027 k1000018 v1000030 hc1000029) yl_X0_alikeness vl_X0_alikeness ml_RX11_112 (ci := 0) rfl k1000027 (by decide) rfl ⟨Nat.le_of_ble_eq_true rfl, Nat.le_of_ble_eq_true rfl⟩ hl rfl (Nat.le_of_ble_eq_true rfl) dX11_alike_52 ⟨Nat.le_refl _, Nat.le_refl _⟩ rfl (fun H locs k1000031 hW hS => ?_)
    exact e_i C hW hS hm dX11_alike_55
  refine lv_icmp_lt (tgt := 47) hx hb dX11_alike_40 (by decide) (fun h => absurd h c1000028) (fun _ => ?_)
  refine lv_sipush (v := (-1000)) hx hb dX11_alike_43 (by decide) ?_
  exact e_i C hW hS hm dX11_alike_46
theorem dX11_worst_0 : decode cX11_worst 0 = .ok (.aload_n 0, 1) := by decide +kernel
theorem dX11_worst_1 : decode cX11_worst 1 = .ok (.getfield 51, 3) := by decide +kernel
theorem dX11_worst_4 : decode cX11_worst 4 = .ok (.iload_n 1, 1) := by decide +kernel
theorem dX11_worst_5 : decode cX11_worst 5 = .ok (.invokevirtual 87, 3) := by decide +kernel
theorem dX11_worst_8 : decode cX11_worst 8 = .ok (.astore_n 3, 1) := by decide +kernel
theorem dX11_worst_9 : decode cX11_worst 9 = .ok (.aload_n 0, 1) := by decide +kernel
theorem dX11_worst_10 : decode cX11_worst 10 = .ok (.getfield 51, 3) := by decide +kernel
theorem dX11_worst_13 : decode cX11_worst 13 = .ok (.iload_n 2, 1) := by decide +kernel
theorem dX11_worst_14 : decode cX11_worst 14 = .ok (.invokevirtual 87, 3) := by decide +kernel
theorem dX11_worst_17 : decode cX11_worst 17 = .ok (.astore 4, 2) := by decide +kernel
theorem dX11_worst_19 : decode cX11_worst 19 = .ok (.aload_n 3, 1) := by decide +kernel
theorem dX11_worst_20 : decode cX11_worst 20 = .ok (.aload 4, 2) := by decide +kernel
theorem dX11_worst_22 : decode cX11_worst 22 = .ok (.invokestatic 108, 3) := by decide +kernel
theorem dX11_worst_25 : decode cX11_worst 25 = .ok (.ifCond .eq 22, 3) := by decide +kernel
theorem dX11_worst_28 : decode cX11_worst 28 = .ok (.aload_n 3, 1) := by decide +kernel
theorem dX11_worst_29 : decode cX11_worst 29 = .ok (.aload 4, 2) := by decide +kernel
theorem dX11_worst_31 : decode cX11_worst 31 = .ok (.iload_n 1, 1) := by decide +kernel
theorem dX11_worst_32 : decode cX11_worst 32 = .ok (.iload_n 2, 1) := by decide +kernel
theorem dX11_worst_33 : decode cX11_worst 33 = .ok (.if_icmp .ne 7, 3) := by decide +kernel
theorem dX11_worst_36 : decode cX11_worst 36 = .ok (.iconst 1, 1) := by decide +kernel
theorem dX11_worst_37 : decode cX11_worst 37 = .ok (.goto 4, 3) := by decide +kernel
theorem dX11_worst_40 : decode cX11_worst 40 = .ok (.iconst 0, 1) := by decide +kernel
theorem dX11_worst_41 : decode cX11_worst 41 = .ok (.invokevirtual 116, 3) := by decide +kernel
theorem dX11_worst_44 : decode cX11_worst 44 = .ok (.goto 4, 3) := by decide +kernel
theorem dX11_worst_47 : decode cX11_worst 47 = .ok (.iconst (-1), 1) := by decide +kernel
theorem dX11_worst_48 : decode cX11_worst 48 = .ok (.ireturn, 1) := by decide +kernel
set_option maxRecDepth 100000 in
theorem c_X11_worst (l : Launch) (D : q_D) (al : q_Al) (dt : q_Dt) (x0 : Nat) (x1 : Int32) (x2 : Int32) (kx0 : al.1 x0 = 12) (r0 : Int32) (hm : X11_worst al dt x0 x1 x2 = some r0) : q_Mt l yX11_worst cX11_worst 5 (some FieldType.int) 5 119 D al [.ref x0, .int x1, .int x2] dt 0 (some (.int r0)) dt := by
  refine q_Mt.of (by decide) (Nat.le_of_ble_eq_true rfl) ?_
  intro p e s m args below meth c ls C hargs hW hl
  have hx := C.1
  have hb := C.2.1
  have hown := C.2.2.2.2.2.1
  have hts := C.2.2.2.2.2.2.1
  have hS : va_S (q_A al) s.heap s.heap [] := va_S.rf
  have hl : lv_has ls 5 [(0, .ref x0), (1, .int x1), (2, .int x2)] := hl
  unfold X11_worst at hm
  have hB41 : ∀ (t0_41 : Option Nat) (t1_41 : Option Nat) (t2_41 : Int32) (kt0_41 : ∀ b, t0_41 = some b → al.1 b = 1) (kt1_41 : ∀ b, t1_41 = some b → al.1 b = 1) (H : Heap) (locs : List Loc) (ls : Array Slot) (hm : X11_worst_b41 al dt t0_41 t1_41 t2_41 = some r0) (hW : q_W D al dt H) (hS : va_S (q_A al) s.heap H locs) (hl : lv_has ls 5 []), W p l e { frames := 5, cells := 0, slots := 0, locals := 119 } s m args below meth c H locs 0 0 (MQ below (q_Q (some (.int r0)) (fun H => q_W D al dt H ∧ q_Rk al 0 (some (.int r0))) (q_A al)) args s 0 0 (q_A al)) (F0 m 41 ls [.int t2_41, va_rf t1_41, va_rf t0_41]) := by
    intro t0_41 t1_41 t2_41 kt0_41 kt1_41 H locs ls hm hW hS hl
    unfold X11_worst_b41 at hm
    obtain ⟨b41001, e41002, hq41003⟩ := q_mi hm
    subst e41002
    have hm := hq41003
    have k41004 := kt0_41 b41001 rfl
    obtain ⟨v41006, hc41005, hm⟩ := q_b1i hm
    refine q_callV C hW hS (As := [va_rf t1_41, .int t2_41]) (rest := []) (st1 := [.int v41006]) (c_X0_worstLikeness l D al dt b41001 t1_41 t2_41 k41004 kt1_41 v41006 hc41005) yl_X0_worstLikeness vl_X0_worstLikeness ml_RX11_116 (ci := 0) rfl k41004 (by decide) rfl ⟨Nat.le_of_ble_eq_true rfl, Nat.le_of_ble_eq_true rfl⟩ hl rfl (Nat.le_of_ble_eq_true rfl) dX11_worst_41 ⟨Nat.le_refl _, Nat.le_refl _⟩ rfl (fun H locs k41007 hW hS => ?_)
    refine lv_goto (tgt := 48) hx hb dX11_worst_44 (by decide) ?_
    exact e_i C hW hS hm dX11_worst_48
  refine lv_aload_n hx hb dX11_worst_0 rfl (lv_at hl 0 rfl) ?_
  refine r_getQ C hW hm (ci := 11) kx0 ff_11_6 cl_11 fl_RX11_51 dX11_worst_1 (fun o1000001 eo1000001 k1000002 hm => ?_)
  refine lv_iload_n hx hb dX11_worst_4 rfl (lv_at hl 1 rfl) ?_
  obtain ⟨b1000003, e1000004, hq1000005⟩ := q_mi hm
  subst e1000004
  have hm := hq1000005
  have k1000006 := k1000002 b1000003 rfl
  obtain ⟨v1000008, hc1000007, hm⟩ := q_b1i hm
  refine q_callV C hW hS (As := [.int x1]) (rest := []) (st1 := [va_rf v1000008]) (c_X10_codeAt l D al dt b1000003 x1 k1000006 v1000008 hc1000007) yl_X10_codeAt vl_X10_codeAt ml_RX11_87 (ci := 10) rfl k1000006 (by decide) rfl ⟨Nat.le_of_ble_eq_true rfl, Nat.le_of_ble_eq_true rfl⟩ hl rfl (Nat.le_of_ble_eq_true rfl) dX11_worst_5 ⟨Nat.le_refl _, Nat.le_refl _⟩ rfl (fun H locs k1000009 hW hS => ?_)
  have k1000009 := q_rk k1000009 (by decide)
  refine q_astoreQ_n (i := 3) (lv' := [(3, va_rf v1000008), (0, .ref x0), (1, .int x1), (2, .int x2)]) C dX11_worst_8 rfl hl (by decide) rfl (fun ls hl => ?_)
  refine lv_aload_n hx hb dX11_worst_9 rfl (lv_at hl 1 rfl) ?_
  refine r_getQ C hW hm (ci := 11) kx0 ff_11_6 cl_11 fl_RX11_51 dX11_worst_10 (fun o1000010 eo1000010 k1000011 hm => ?_)
  refine lv_iload_n hx hb dX11_worst_13 rfl (lv_at hl 3 rfl) ?_
  obtain ⟨b1000012, e1000013, hq1000014⟩ := q_mi hm
  subst e1000013
  have hm := hq1000014
  have k1000015 := k1000011 b1000012 rfl
  obtain ⟨v1000017, hc1000016, hm⟩ := q_b1i hm
  refine q_callV C hW hS (As := [.int x2]) (rest := []) (st1 := [va_rf v1000017]) (c_X10_codeAt l D al dt b1000012 x2 k1000015 v1000017 hc1000016) yl_X10_codeAt vl_X10_codeAt ml_RX11_87 (ci := 10) rfl k1000015 (by decide) rfl ⟨Nat.le_of_ble_eq_true rfl, Nat.le_of_ble_eq_true rfl⟩ hl rfl (Nat.le_of_ble_eq_true rfl) dX11_worst_14 ⟨Nat.le_refl _, Nat.le_refl _⟩ rfl (fun H locs k1000018 hW hS => ?_)
  have k1000018 := q_rk k1000018 (by decide)
  refine q_astoreQ (i := 4) (lv' := [(4, va_rf v1000017), (3, va_rf v1000008), (0, .ref x0), (1, .int x1), (2, .int x2)]) C dX11_worst_17 hl (by decide) (by simp [q_cat, q_catR, q_catI, q_catL] <;> rfl) (fun ls hl => ?_)
  refine q_aloadQ_n C dX11_worst_19 rfl (lv_at hl 1 rfl) ?_
  refine q_aloadQ C dX11_worst_20 (lv_at hl 0 rfl) ?_
  obtain ⟨v1000020, hc1000019, hm⟩ := q_b1i hm
  refine q_callS C hW hS (As := [va_rf v1000008, va_rf v1000017]) (rest := []) (st1 := [.int v1000020]) (c_X11_likeLong l D al dt v1000008 v1000017 k1000009 k1000018 v1000020 hc1000019) yl_X11_likeLong sl_X11_likeLong ml_RX11_108 rfl ⟨Nat.le_of_ble_eq_true rfl, Nat.le_of_ble_eq_true rfl⟩ hl rfl (Nat.le_of_ble_eq_true rfl) dX11_worst_22 ⟨Nat.le_refl _, Nat.le_refl _⟩ rfl (fun H locs k1000021 hW hS => ?_)
  refine q_ifc hm (fun c1000022 hm => ?_) (fun c1000022 hm => ?_)
  · refine lv_if_eq (tgt := 47) hx hb dX11_worst_25 (by decide) (fun _ => ?_) (fun h => absurd c1000022 h)
    refine lv_iconst (v := (-1)) hx hb dX11_worst_47 (by decide) ?_
    exact e_i C hW hS hm dX11_worst_48
  refine lv_if_eq (tgt := 47) hx hb dX11_worst_25 (by decide) (fun h => absurd h c1000022) (fun _ => ?_)
  refine q_aloadQ_n C dX11_worst_28 rfl (lv_at hl 1 rfl) ?_
  refine q_aloadQ C dX11_worst_29 (lv_at hl 0 rfl) ?_
  refine lv_iload_n hx hb dX11_worst_31 rfl (lv_at hl 3 rfl) ?_
  refine lv_iload_n hx hb dX11_worst_32 rfl (lv_at hl 4 rfl) ?_
  refine q_ifc hm (fun c1000023 hm => ?_) (fun c1000023 hm => ?_)
  · refine lv_icmp_ne (tgt := 40) hx hb dX11_worst_33 (by decide) (fun h => absurd c1000023 h) (fun _ => ?_)
    refine lv_iconst (v := 1) hx hb dX11_worst_36 (by decide) ?_
    refine lv_goto (tgt := 41) hx hb dX11_worst_37 (by decide) ?_
    exact hB41 v1000008 v1000017 1 k1000009 k1000018 _ _ _ hm hW hS (lv_sub hl [] rfl)
  refine lv_icmp_ne (tgt := 40) hx hb dX11_worst_33 (by decide) (fun _ => ?_) (fun h => absurd h c1000023)
  refine lv_iconst (v := 0) hx hb dX11_worst_40 (by decide) ?_
  exact hB41 v1000008 v1000017 0 k1000009 k1000018 _ _ _ hm hW hS (lv_sub hl [] rfl)
theorem dX11_times_0 : decode cX11_times 0 = .ok (.aload_n 0, 1) := by decide +kernel
theorem dX11_times_1 : decode cX11_times 1 = .ok (.getfield 51, 3) := by decide +kernel
theorem dX11_times_4 : decode cX11_times 4 = .ok (.iload_n 1, 1) := by decide +kernel
theorem dX11_times_5 : decode cX11_times 5 = .ok (.invokevirtual 87, 3) := by decide +kernel
theorem dX11_times_8 : decode cX11_times 8 = .ok (.astore 4, 2) := by decide +kernel
theorem dX11_times_10 : decode cX11_times 10 = .ok (.aload_n 0, 1) := by decide +kernel
theorem dX11_times_11 : decode cX11_times 11 = .ok (.getfield 51, 3) := by decide +kernel
theorem dX11_times_14 : decode cX11_times 14 = .ok (.iload_n 2, 1) := by decide +kernel
theorem dX11_times_15 : decode cX11_times 15 = .ok (.invokevirtual 87, 3) := by decide +kernel
theorem dX11_times_18 : decode cX11_times 18 = .ok (.astore 5, 2) := by decide +kernel
theorem dX11_times_20 : decode cX11_times 20 = .ok (.aload 4, 2) := by decide +kernel
theorem dX11_times_22 : decode cX11_times 22 = .ok (.aload 5, 2) := by decide +kernel
theorem dX11_times_24 : decode cX11_times 24 = .ok (.invokestatic 108, 3) := by decide +kernel
theorem dX11_times_27 : decode cX11_times 27 = .ok (.ifCond .eq 14, 3) := by decide +kernel
theorem dX11_times_30 : decode cX11_times 30 = .ok (.aload 4, 2) := by decide +kernel
theorem dX11_times_32 : decode cX11_times 32 = .ok (.aload 5, 2) := by decide +kernel
theorem dX11_times_34 : decode cX11_times 34 = .ok (.iload_n 3, 1) := by decide +kernel
theorem dX11_times_35 : decode cX11_times 35 = .ok (.invokevirtual 120, 3) := by decide +kernel
theorem dX11_times_38 : decode cX11_times 38 = .ok (.goto 4, 3) := by decide +kernel
theorem dX11_times_41 : decode cX11_times 41 = .ok (.iconst (-1), 1) := by decide +kernel
theorem dX11_times_42 : decode cX11_times 42 = .ok (.ireturn, 1) := by decide +kernel
set_option maxRecDepth 100000 in
theorem c_X11_times (l : Launch) (D : q_D) (al : q_Al) (dt : q_Dt) (x0 : Nat) (x1 : Int32) (x2 : Int32) (x3 : Int32) (kx0 : al.1 x0 = 12) (r0 : Int32) (hm : X11_times al dt x0 x1 x2 x3 = some r0) : q_Mt l yX11_times cX11_times 6 (some FieldType.int) 5 119 D al [.ref x0, .int x1, .int x2, .int x3] dt 0 (some (.int r0)) dt := by
  refine q_Mt.of (by decide) (Nat.le_of_ble_eq_true rfl) ?_
  intro p e s m args below meth c ls C hargs hW hl
  have hx := C.1
  have hb := C.2.1
  have hown := C.2.2.2.2.2.1
  have hts := C.2.2.2.2.2.2.1
  have hS : va_S (q_A al) s.heap s.heap [] := va_S.rf
  have hl : lv_has ls 6 [(0, .ref x0), (1, .int x1), (2, .int x2), (3, .int x3)] := hl
  unfold X11_times at hm
  refine lv_aload_n hx hb dX11_times_0 rfl (lv_at hl 0 rfl) ?_
  refine r_getQ C hW hm (ci := 11) kx0 ff_11_6 cl_11 fl_RX11_51 dX11_times_1 (fun o1000001 eo1000001 k1000002 hm => ?_)
  refine lv_iload_n hx hb dX11_times_4 rfl (lv_at hl 1 rfl) ?_
  obtain ⟨b1000003, e1000004, hq1000005⟩ := q_mi hm
  subst e1000004
  have hm := hq1000005
  have k1000006 := k1000002 b1000003 rfl
  obtain ⟨v1000008, hc1000007, hm⟩ := q_b1i hm
  refine q_callV C hW hS (As := [.int x1]) (rest := []) (st1 := [va_rf v1000008]) (c_X10_codeAt l D al dt b1000003 x1 k1000006 v1000008 hc1000007) yl_X10_codeAt vl_X10_codeAt ml_RX11_87 (ci := 10) rfl k1000006 (by decide) rfl ⟨Nat.le_of_ble_eq_true rfl, Nat.le_of_ble_eq_true rfl⟩ hl rfl (Nat.le_of_ble_eq_true rfl) dX11_times_5 ⟨Nat.le_refl _, Nat.le_refl _⟩ rfl (fun H locs k1000009 hW hS => ?_)
  have k1000009 := q_rk k1000009 (by decide)
  refine q_astoreQ (i := 4) (lv' := [(4, va_rf v1000008), (0, .ref x0), (1, .int x1), (2, .int x2), (3, .int x3)]) C dX11_times_8 hl (by decide) rfl (fun ls hl => ?_)
  refine lv_aload_n hx hb dX11_times_10 rfl (lv_at hl 1 rfl) ?_
  refine r_getQ C hW hm (ci := 11) kx0 ff_11_6 cl_11 fl_RX11_51 dX11_times_11 (fun o1000010 eo1000010 k1000011 hm => ?_)
  refine lv_iload_n hx hb dX11_times_14 rfl (lv_at hl 3 rfl) ?_
  obtain ⟨b1000012, e1000013, hq1000014⟩ := q_mi hm
  subst e1000013
  have hm := hq1000014
  have k1000015 := k1000011 b1000012 rfl
  obtain ⟨v1000017, hc1000016, hm⟩ := q_b1i hm
  refine q_callV C hW hS (As := [.int x2]) (rest := []) (st1 := [va_rf v1000017]) (c_X10_codeAt l D al dt b1000012 x2 k1000015 v1000017 hc1000016) yl_X10_codeAt vl_X10_codeAt ml_RX11_87 (ci := 10) rfl k1000015 (by decide) rfl ⟨Nat.le_of_ble_eq_true rfl, Nat.le_of_ble_eq_true rfl⟩ hl rfl (Nat.le_of_ble_eq_true rfl) dX11_times_15 ⟨Nat.le_refl _, Nat.le_refl _⟩ rfl (fun H locs k1000018 hW hS => ?_)
  have k1000018 := q_rk k1000018 (by decide)
  refine q_astoreQ (i := 5) (lv' := [(5, va_rf v1000017), (4, va_rf v1000008), (0, .ref x0), (1, .int x1), (2, .int x2), (3, .int x3)]) C dX11_times_18 hl (by decide) (by simp [q_cat, q_catR, q_catI, q_catL] <;> rfl) (fun ls hl => ?_)
  refine q_aloadQ C dX11_times_20 (lv_at hl 1 rfl) ?_
  refine q_aloadQ C dX11_times_22 (lv_at hl 0 rfl) ?_
  obtain ⟨v1000020, hc1000019, hm⟩ := q_b1i hm
  refine q_callS C hW hS (As := [va_rf v1000008, va_rf v1000017]) (rest := []) (st1 := [.int v1000020]) (c_X11_likeLong l D al dt v1000008 v1000017 k1000009 k1000018 v1000020 hc1000019) yl_X11_likeLong sl_X11_likeLong ml_RX11_108 rfl ⟨Nat.le_of_ble_eq_true rfl, Nat.le_of_ble_eq_true rfl⟩ hl rfl (Nat.le_of_ble_eq_true rfl) dX11_times_24 ⟨Nat.le_refl _, Nat.le_refl _⟩ rfl (fun H locs k1000021 hW hS => ?_)
  refine q_ifc hm (fun c1000022 hm => ?_) (fun c1000022 hm => ?_)
  · refine lv_if_eq (tgt := 41) hx hb dX11_times_27 (by decide) (fun _ => ?_) (fun h => absurd c1000022 h)
    refine lv_iconst (v := (-1)) hx hb dX11_times_41 (by decide) ?_
    exact e_i C hW hS hm dX11_times_42
  refine lv_if_eq (tgt := 41) hx hb dX11_times_27 (by decide) (fun h => absurd h c1000022) (fun _ => ?_)
  refine q_aloadQ C dX11_times_30 (lv_at hl 1 rfl) ?_
  refine q_aloadQ C dX11_times_32 (lv_at hl 0 rfl) ?_
  refine lv_iload_n hx hb dX11_times_34 rfl (lv_at hl 5 rfl) ?_
  obtain ⟨b1000023, e1000024, hq1000025⟩ := q_mi hm
  subst e1000024
  have hm := hq1000025
  have k1000026 := k1000009 b1000023 rfl
  obtain ⟨v1000028, hc1000027, hm⟩ := q_b1i hm
  refine q_callV C hW hS (As := [va_rf v1000017, .int x3]) (rest := []) (st1 := [.int v1000028]) (c_X0_shiftsAlikeBy l D al dt b1000023 v1000017 x3 k1000026 k1000018 v1000028 hc1000027) yl_X0_shiftsAlikeBy vl_X0_shiftsAlikeBy ml_RX11_120 (ci := 0) rfl k1000026 (by decide) rfl ⟨Nat.le_of_ble_eq_true rfl, Nat.le_of_ble_eq_true rfl⟩ hl rfl (Nat.le_of_ble_eq_true rfl) dX11_times_35 ⟨Nat.le_refl _, Nat.le_refl _⟩ rfl (fun H locs k1000029 hW hS => ?_)
  refine lv_goto (tgt := 42) hx hb dX11_times_38 (by decide) ?_
  exact e_i C hW hS hm dX11_times_42
theorem dX11_depth_0 : decode cX11_depth 0 = .ok (.aload_n 0, 1) := by decide +kernel
theorem dX11_depth_1 : decode cX11_depth 1 = .ok (.getfield 51, 3) := by decide +kernel
theorem dX11_depth_4 : decode cX11_depth 4 = .ok (.iload_n 1, 1) := by decide +kernel
theorem dX11_depth_5 : decode cX11_depth 5 = .ok (.invokevirtual 87, 3) := by decide +kernel
theorem dX11_depth_8 : decode cX11_depth 8 = .ok (.astore_n 2, 1) := by decide +kernel
theorem dX11_depth_9 : decode cX11_depth 9 = .ok (.aload_n 2, 1) := by decide +kernel
theorem dX11_depth_10 : decode cX11_depth 10 = .ok (.ifnonnull 7, 3) := by decide +kernel
theorem dX11_depth_13 : decode cX11_depth 13 = .ok (.iconst (-1), 1) := by decide +kernel
theorem dX11_depth_14 : decode cX11_depth 14 = .ok (.goto 11, 3) := by decide +kernel
theorem dX11_depth_17 : decode cX11_depth 17 = .ok (.aload_n 0, 1) := by decide +kernel
theorem dX11_depth_18 : decode cX11_depth 18 = .ok (.getfield 30, 3) := by decide +kernel
theorem dX11_depth_21 : decode cX11_depth 21 = .ok (.aload_n 2, 1) := by decide +kernel
theorem dX11_depth_22 : decode cX11_depth 22 = .ok (.invokevirtual 123, 3) := by decide +kernel
theorem dX11_depth_25 : decode cX11_depth 25 = .ok (.ireturn, 1) := by decide +kernel
set_option maxRecDepth 100000 in
theorem c_X11_depth (l : Launch) (D : q_D) (al : q_Al) (dt : q_Dt) (x0 : Nat) (x1 : Int32) (kx0 : al.1 x0 = 12) (r0 : Int32) (dt0 : q_Dt) (hm : X11_depth al dt x0 x1 = some (r0, dt0)) : q_Mt l yX11_depth cX11_depth 3 (some FieldType.int) 4 97 D al [.ref x0, .int x1] dt 0 (some (.int r0)) dt0 := by
  refine q_Mt.of (by decide) (Nat.le_of_ble_eq_true rfl) ?_
  intro p e s m args below meth c ls C hargs hW hl
  have hx := C.1
  have hb := C.2.1
  have hown := C.2.2.2.2.2.1
  have hts := C.2.2.2.2.2.2.1
  have hS : va_S (q_A al) s.heap s.heap [] := va_S.rf
  have hl : lv_has ls 3 [(0, .ref x0), (1, .int x1)] := hl
  unfold X11_depth at hm
  refine lv_aload_n hx hb dX11_depth_0 rfl (lv_at hl 0 rfl) ?_
  refine r_getQ C hW hm (ci := 11) kx0 ff_11_6 cl_11 fl_RX11_51 dX11_depth_1 (fun o1000001 eo1000001 k1000002 hm => ?_)
  refine lv_iload_n hx hb dX11_depth_4 rfl (lv_at hl 1 rfl) ?_
  obtain ⟨b1000003, e1000004, hq1000005⟩ := q_mi hm
  subst e1000004
  have hm := hq1000005
  have k1000006 := k1000002 b1000003 rfl
  obtain ⟨v1000008, hc1000007, hm⟩ := q_b1i hm
  refine q_callV C hW hS (As := [.int x1]) (rest := []) (st1 := [va_rf v1000008]) (c_X10_codeAt l D al dt b1000003 x1 k1000006 v1000008 hc1000007) yl_X10_codeAt vl_X10_codeAt ml_RX11_87 (ci := 10) rfl k1000006 (by decide) rfl ⟨Nat.le_of_ble_eq_true rfl, Nat.le_of_ble_eq_true rfl⟩ hl rfl (Nat.le_of_ble_eq_true rfl) dX11_depth_5 ⟨Nat.le_refl _, Nat.le_refl _⟩ rfl (fun H locs k1000009 hW hS => ?_)
  have k1000009 := q_rk k1000009 (by decide)
  refine q_astoreQ_n (i := 2) (lv' := [(2, va_rf v1000008), (0, .ref x0), (1, .int x1)]) C dX11_depth_8 rfl hl (by decide) rfl (fun ls hl => ?_)
  refine q_aloadQ_n C dX11_depth_9 rfl (lv_at hl 0 rfl) ?_
  refine q_ifnonnull C hm (tgt := 17) dX11_depth_10 (by decide) (fun e1000012 hq1000013 => ?_) (fun b1000010 e1000012 hq1000013 => ?_)
  · subst e1000012
    have hm := hq1000013
    refine lv_iconst (v := (-1)) hx hb dX11_depth_13 (by decide) ?_
    refine lv_goto (tgt := 25) hx hb dX11_depth_14 (by decide) ?_
    exact e_iD C hW hS hm dX11_depth_25
  subst e1000012
  have hm := hq1000013
  have k1000011 := k1000009 b1000010 rfl
  refine lv_aload_n hx hb dX11_depth_17 rfl (lv_at hl 1 rfl) ?_
  refine r_getF C hW (ci := 11) kx0 ff_11_3 cl_11 fl_RX11_30 dX11_depth_18 (fun k1000014 => ?_)
  refine lv_aload_n hx hb dX11_depth_21 rfl (lv_at hl 0 rfl) ?_
  obtain ⟨v1000016, dt1000017, hc1000015, hm⟩ := q_b2i hm
  refine q_callV C hW hS (As := [.ref b1000010]) (rest := []) (st1 := [.int v1000016]) (c_X2_depthOf l D al dt (al.2.2 x0 3) b1000010 k1000014 k1000011 v1000016 dt1000017 hc1000015) yl_X2_depthOf vl_X2_depthOf ml_RX11_123 (ci := 2) rfl k1000014 (by decide) rfl ⟨Nat.le_of_ble_eq_true rfl, Nat.le_of_ble_eq_true rfl⟩ hl rfl (Nat.le_of_ble_eq_true rfl) dX11_depth_22 ⟨Nat.le_refl _, Nat.le_refl _⟩ rfl (fun H locs k1000018 hW hS => ?_)
  exact e_iD C hW hS hm dX11_depth_25
theorem dX11_family_0 : decode cX11_family 0 = .ok (.iload_n 1, 1) := by decide +kernel
theorem dX11_family_1 : decode cX11_family 1 = .ok (.ifCond .lt 12, 3) := by decide +kernel
theorem dX11_family_4 : decode cX11_family 4 = .ok (.iload_n 2, 1) := by decide +kernel
theorem dX11_family_5 : decode cX11_family 5 = .ok (.ifCond .lt 8, 3) := by decide +kernel
theorem dX11_family_8 : decode cX11_family 8 = .ok (.iload_n 2, 1) := by decide +kernel
theorem dX11_family_9 : decode cX11_family 9 = .ok (.iconst 1, 1) := by decide +kernel
theorem dX11_family_10 : decode cX11_family 10 = .ok (.if_icmp .le 5, 3) := by decide +kernel
theorem dX11_family_13 : decode cX11_family 13 = .ok (.iconst (-1), 1) := by decide +kernel
theorem dX11_family_14 : decode cX11_family 14 = .ok (.ireturn, 1) := by decide +kernel
theorem dX11_family_15 : decode cX11_family 15 = .ok (.aload_n 0, 1) := by decide +kernel
theorem dX11_family_16 : decode cX11_family 16 = .ok (.getfield 30, 3) := by decide +kernel
theorem dX11_family_19 : decode cX11_family 19 = .ok (.aload_n 0, 1) := by decide +kernel
theorem dX11_family_20 : decode cX11_family 20 = .ok (.getfield 51, 3) := by decide +kernel
theorem dX11_family_23 : decode cX11_family 23 = .ok (.iload_n 1, 1) := by decide +kernel
theorem dX11_family_24 : decode cX11_family 24 = .ok (.invokevirtual 127, 3) := by decide +kernel
theorem dX11_family_27 : decode cX11_family 27 = .ok (.istore_n 3, 1) := by decide +kernel
theorem dX11_family_28 : decode cX11_family 28 = .ok (.iload_n 2, 1) := by decide +kernel
theorem dX11_family_29 : decode cX11_family 29 = .ok (.ifCond .ne 10, 3) := by decide +kernel
theorem dX11_family_32 : decode cX11_family 32 = .ok (.iload_n 3, 1) := by decide +kernel
theorem dX11_family_33 : decode cX11_family 33 = .ok (.invokestatic 131, 3) := by decide +kernel
theorem dX11_family_36 : decode cX11_family 36 = .ok (.goto 4, 3) := by decide +kernel
theorem dX11_family_39 : decode cX11_family 39 = .ok (.iload_n 3, 1) := by decide +kernel
theorem dX11_family_40 : decode cX11_family 40 = .ok (.ireturn, 1) := by decide +kernel
set_option maxRecDepth 100000 in
theorem c_X11_family (l : Launch) (D : q_D) (al : q_Al) (dt : q_Dt) (x0 : Nat) (x1 : Int32) (x2 : Int32) (kx0 : al.1 x0 = 12) (r0 : Int32) (dt0 : q_Dt) (hm : X11_family al dt x0 x1 x2 = some (r0, dt0)) : q_Mt l yX11_family cX11_family 4 (some FieldType.int) 7 169 D al [.ref x0, .int x1, .int x2] dt 0 (some (.int r0)) dt0 := by
  refine q_Mt.of (by decide) (Nat.le_of_ble_eq_true rfl) ?_
  intro p e s m args below meth c ls C hargs hW hl
  have hx := C.1
  have hb := C.2.1
  have hown := C.2.2.2.2.2.1
  have hts := C.2.2.2.2.2.2.1
  have hS : va_S (q_A al) s.heap s.heap [] := va_S.rf
  have hl : lv_has ls 4 [(0, .ref x0), (1, .int x1), (2, .int x2)] := hl
  unfold X11_family at hm
  refine lv_iload_n hx hb dX11_family_0 rfl (lv_at hl 1 rfl) ?_
  refine q_ifc hm (fun c1000001 hm => ?_) (fun c1000001 hm => ?_)
  · refine lv_if_lt (tgt := 13) hx hb dX11_family_1 (by decide) (fun _ => ?_) (fun h => absurd c1000001 h)
    refine lv_iconst (v := (-1)) hx hb dX11_family_13 (by decide) ?_
    exact e_iD C hW hS hm dX11_family_14
  refine lv_if_lt (tgt := 13) hx hb dX11_family_1 (by decide) (fun h => absurd h c1000001) (fun _ => ?_)
  refine lv_iload_n hx hb dX11_family_4 rfl (lv_at hl 2 rfl) ?_
  refine q_ifc hm (fun c1000002 hm => ?_) (fun c1000002 hm => ?_)
  · refine lv_if_lt (tgt := 13) hx hb dX11_family_5 (by decide) (fun _ => ?_) (fun h => absurd c1000002 h)
    refine lv_iconst (v := (-1)) hx hb dX11_family_13 (by decide) ?_
    exact e_iD C hW hS hm dX11_family_14
  refine lv_if_lt (tgt := 13) hx hb dX11_family_5 (by decide) (fun h => absurd h c1000002) (fun _ => ?_)
  refine lv_iload_n hx hb dX11_family_8 rfl (lv_at hl 2 rfl) ?_
  refine lv_iconst (v := 1) hx hb dX11_family_9 (by decide) ?_
  refine q_ifc hm (fun c1000003 hm => ?_) (fun c1000003 hm => ?_)
  · refine lv_icmp_le (tgt := 15) hx hb dX11_family_10 (by decide) (fun _ => ?_) (fun h => absurd c1000003 h)
    refine lv_aload_n hx hb dX11_family_15 rfl (lv_at hl 0 rfl) ?_
    refine r_getF C hW (ci := 11) kx0 ff_11_3 cl_11 fl_RX11_30 dX11_family_16 (fun k1000004 => ?_)
    refine lv_aload_n hx hb dX11_family_19 rfl (lv_at hl 0 rfl) ?_
    refine r_getQ C hW hm (ci := 11) kx0 ff_11_6 cl_11 fl_RX11_51 dX11_family_20 (fun o1000005 eo1000005 k1000006 hm => ?_)
    refine lv_iload_n hx hb dX11_family_23 rfl (lv_at hl 1 rfl) ?_
    obtain ⟨v1000008, dt1000009, hc1000007, hm⟩ := q_b2i hm
    refine q_callV C hW hS (As := [va_rf o1000005, .int x1]) (rest := []) (st1 := [.int v1000008]) (c_X2_familyOf l D al dt (al.2.2 x0 3) o1000005 x1 k1000004 k1000006 v1000008 dt1000009 hc1000007) yl_X2_familyOf vl_X2_familyOf ml_RX11_127 (ci := 2) rfl k1000004 (by decide) rfl ⟨Nat.le_of_ble_eq_true rfl, Nat.le_of_ble_eq_true rfl⟩ hl rfl (Nat.le_of_ble_eq_true rfl) dX11_family_24 ⟨Nat.le_refl _, Nat.le_refl _⟩ rfl (fun H locs k1000010 hW hS => ?_)
    refine lv_istore_n (i := 3) (lv' := [(3, .int v1000008), (0, .ref x0), (1, .int x1), (2, .int x2)]) hx hb dX11_family_27 rfl hl (by decide) rfl (fun ls hl => ?_)
    refine lv_iload_n hx hb dX11_family_28 rfl (lv_at hl 3 rfl) ?_
    refine q_ifc hm (fun c1000011 hm => ?_) (fun c1000011 hm => ?_)
    · refine lv_if_ne (tgt := 39) hx hb dX11_family_29 (by decide) (fun h => absurd c1000011 h) (fun _ => ?_)
      refine lv_iload_n hx hb dX11_family_32 rfl (lv_at hl 0 rfl) ?_
      obtain ⟨v1000013, hc1000012, hm⟩ := q_b1i hm
      refine q_callS C hW hS (As := [.int v1000008]) (rest := []) (st1 := [.int v1000013]) (c_J6_bitCount_0f7a4 l D al dt1000009 v1000008 v1000013 hc1000012) yl_J6_bitCount_0f7a4 sl_J6_bitCount_0f7a4 ml_RX11_131 rfl ⟨Nat.le_of_ble_eq_true rfl, Nat.le_of_ble_eq_true rfl⟩ hl rfl (Nat.le_of_ble_eq_true rfl) dX11_family_33 ⟨Nat.le_refl _, Nat.le_refl _⟩ rfl (fun H locs k1000014 hW hS => ?_)
      refine lv_goto (tgt := 40) hx hb dX11_family_36 (by decide) ?_
      exact e_iD C hW hS hm dX11_family_40
    refine lv_if_ne (tgt := 39) hx hb dX11_family_29 (by decide) (fun _ => ?_) (fun h => absurd h c1000011)
    refine lv_iload_n hx hb dX11_family_39 rfl (lv_at hl 0 rfl) ?_
    exact e_iD C hW hS hm dX11_family_40
  refine lv_icmp_le (tgt := 15) hx hb dX11_family_10 (by decide) (fun h => absurd h c1000003) (fun _ => ?_)
  refine lv_iconst (v := (-1)) hx hb dX11_family_13 (by decide) ?_
  exact e_iD C hW hS hm dX11_family_14
theorem dX11_isSample_0 : decode cX11_isSample 0 = .ok (.iload_n 1, 1) := by decide +kernel
theorem dX11_isSample_1 : decode cX11_isSample 1 = .ok (.ifCond .lt 18, 3) := by decide +kernel
theorem dX11_isSample_4 : decode cX11_isSample 4 = .ok (.iload_n 1, 1) := by decide +kernel
theorem dX11_isSample_5 : decode cX11_isSample 5 = .ok (.aload_n 0, 1) := by decide +kernel
theorem dX11_isSample_6 : decode cX11_isSample 6 = .ok (.getfield 51, 3) := by decide +kernel
theorem dX11_isSample_9 : decode cX11_isSample 9 = .ok (.getfield 175, 3) := by decide +kernel
theorem dX11_isSample_12 : decode cX11_isSample 12 = .ok (.if_icmp .ge 7, 3) := by decide +kernel
theorem dX11_isSample_15 : decode cX11_isSample 15 = .ok (.iconst 1, 1) := by decide +kernel
theorem dX11_isSample_16 : decode cX11_isSample 16 = .ok (.goto 4, 3) := by decide +kernel
theorem dX11_isSample_19 : decode cX11_isSample 19 = .ok (.iconst 0, 1) := by decide +kernel
theorem dX11_isSample_20 : decode cX11_isSample 20 = .ok (.ireturn, 1) := by decide +kernel
set_option maxRecDepth 100000 in
theorem c_X11_isSample (l : Launch) (D : q_D) (al : q_Al) (dt : q_Dt) (x0 : Nat) (x1 : Int32) (kx0 : al.1 x0 = 12) (r0 : Int32) (hm : X11_isSample al dt x0 x1 = some r0) : q_Mt l yX11_isSample cX11_isSample 2 (some FieldType.boolean) 0 0 D al [.ref x0, .int x1] dt 0 (some (.int r0)) dt := by
  refine q_Mt.of (by decide) (Nat.le_of_ble_eq_true rfl) ?_
  intro p e s m args below meth c ls C hargs hW hl
  have hx := C.1
  have hb := C.2.1
  have hown := C.2.2.2.2.2.1
  have hts := C.2.2.2.2.2.2.1
  have hS : va_S (q_A al) s.heap s.heap [] := va_S.rf
  have hl : lv_has ls 2 [(0, .ref x0), (1, .int x1)] := hl
  unfold X11_isSample at hm
  refine lv_iload_n hx hb dX11_isSample_0 rfl (lv_at hl 1 rfl) ?_
  refine q_ifc hm (fun c1000001 hm => ?_) (fun c1000001 hm => ?_)
  · refine lv_if_lt (tgt := 19) hx hb dX11_isSample_1 (by decide) (fun _ => ?_) (fun h => absurd c1000001 h)
    refine lv_iconst (v := 0) hx hb dX11_isSample_19 (by decide) ?_
    exact e_zl C hW hS (Or.inl rfl) hm dX11_isSample_20
  refine lv_if_lt (tgt := 19) hx hb dX11_isSample_1 (by decide) (fun h => absurd h c1000001) (fun _ => ?_)
  refine lv_iload_n hx hb dX11_isSample_4 rfl (lv_at hl 1 rfl) ?_
  refine lv_aload_n hx hb dX11_isSample_5 rfl (lv_at hl 0 rfl) ?_
  refine r_getQ C hW hm (ci := 11) kx0 ff_11_6 cl_11 fl_RX11_51 dX11_isSample_6 (fun o1000002 eo1000002 k1000003 hm => ?_)
  obtain ⟨b1000004, e1000005, hq1000006⟩ := q_mi hm
  subst e1000005
  have hm := hq1000006
  have k1000007 := k1000003 b1000004 rfl
  refine r_getI C hW (ci := 10) k1000007 ff_10_12 cl_10 fl_RX11_175 dX11_isSample_9 ?_
  refine q_ifc hm (fun c1000008 hm => ?_) (fun c1000008 hm => ?_)
  · refine lv_icmp_ge (tgt := 19) hx hb dX11_isSample_12 (by decide) (fun _ => ?_) (fun h => absurd c1000008 h)
    refine lv_iconst (v := 0) hx hb dX11_isSample_19 (by decide) ?_
    exact e_zl C hW hS (Or.inl rfl) hm dX11_isSample_20
  refine lv_icmp_ge (tgt := 19) hx hb dX11_isSample_12 (by decide) (fun h => absurd h c1000008) (fun _ => ?_)
  refine lv_iconst (v := 1) hx hb dX11_isSample_15 (by decide) ?_
  refine lv_goto (tgt := 20) hx hb dX11_isSample_16 (by decide) ?_
  exact e_zl C hW hS (Or.inr rfl) hm dX11_isSample_20
theorem dX11_axis_0 : decode cX11_axis 0 = .ok (.iload_n 0, 1) := by decide +kernel
theorem dX11_axis_1 : decode cX11_axis 1 = .ok (.ifCond .eq 7, 3) := by decide +kernel
theorem dX11_axis_4 : decode cX11_axis 4 = .ok (.iconst 1, 1) := by decide +kernel
theorem dX11_axis_5 : decode cX11_axis 5 = .ok (.goto 4, 3) := by decide +kernel
theorem dX11_axis_8 : decode cX11_axis 8 = .ok (.iconst 0, 1) := by decide +kernel
theorem dX11_axis_9 : decode cX11_axis 9 = .ok (.ireturn, 1) := by decide +kernel
set_option maxRecDepth 100000 in
theorem c_X11_axis (l : Launch) (D : q_D) (al : q_Al) (dt : q_Dt) (x0 : Int32) (r0 : Int32) (hm : X11_axis x0 = some r0) : q_Mt l yX11_axis cX11_axis 1 (some FieldType.int) 0 0 D al [.int x0] dt 0 (some (.int r0)) dt := by
  refine q_Mt.of (by decide) (Nat.le_of_ble_eq_true rfl) ?_
  intro p e s m args below meth c ls C hargs hW hl
  have hx := C.1
  have hb := C.2.1
  have hown := C.2.2.2.2.2.1
  have hts := C.2.2.2.2.2.2.1
  have hS : va_S (q_A al) s.heap s.heap [] := va_S.rf
  have hl : lv_has ls 1 [(0, .int x0)] := hl
  unfold X11_axis at hm
  refine lv_iload_n hx hb dX11_axis_0 rfl (lv_at hl 0 rfl) ?_
  refine q_ifc hm (fun c1000001 hm => ?_) (fun c1000001 hm => ?_)
  · refine lv_if_eq (tgt := 8) hx hb dX11_axis_1 (by decide) (fun _ => ?_) (fun h => absurd c1000001 h)
    refine lv_iconst (v := 0) hx hb dX11_axis_8 (by decide) ?_
    exact e_i C hW hS hm dX11_axis_9
  refine lv_if_eq (tgt := 8) hx hb dX11_axis_1 (by decide) (fun h => absurd h c1000001) (fun _ => ?_)
  refine lv_iconst (v := 1) hx hb dX11_axis_4 (by decide) ?_
  refine lv_goto (tgt := 9) hx hb dX11_axis_5 (by decide) ?_
  exact e_i C hW hS hm dX11_axis_9
theorem dX11_sample_0 : decode cX11_sample 0 = .ok (.aload_n 0, 1) := by decide +kernel
theorem dX11_sample_1 : decode cX11_sample 1 = .ok (.iload_n 1, 1) := by decide +kernel
theorem dX11_sample_2 : decode cX11_sample 2 = .ok (.invokevirtual 136, 3) := by decide +kernel
theorem dX11_sample_5 : decode cX11_sample 5 = .ok (.ifCond .eq 19, 3) := by decide +kernel
theorem dX11_sample_8 : decode cX11_sample 8 = .ok (.aload_n 0, 1) := by decide +kernel
theorem dX11_sample_9 : decode cX11_sample 9 = .ok (.getfield 19, 3) := by decide +kernel
theorem dX11_sample_12 : decode cX11_sample 12 = .ok (.iload_n 1, 1) := by decide +kernel
theorem dX11_sample_13 : decode cX11_sample 13 = .ok (.iload_n 2, 1) := by decide +kernel
theorem dX11_sample_14 : decode cX11_sample 14 = .ok (.invokestatic 140, 3) := by decide +kernel
theorem dX11_sample_17 : decode cX11_sample 17 = .ok (.invokevirtual 144, 3) := by decide +kernel
theorem dX11_sample_20 : decode cX11_sample 20 = .ok (.l2i, 1) := by decide +kernel
theorem dX11_sample_21 : decode cX11_sample 21 = .ok (.goto 5, 3) := by decide +kernel
theorem dX11_sample_24 : decode cX11_sample 24 = .ok (.ldc 148, 2) := by decide +kernel
theorem dX11_sample_26 : decode cX11_sample 26 = .ok (.ireturn, 1) := by decide +kernel
set_option maxRecDepth 100000 in
theorem c_X11_sample (l : Launch) (D : q_D) (al : q_Al) (dt : q_Dt) (x0 : Nat) (x1 : Int32) (x2 : Int32) (kx0 : al.1 x0 = 12) (r0 : Int32) (hm : X11_sample al dt x0 x1 x2 = some r0) : q_Mt l yX11_sample cX11_sample 3 (some FieldType.int) 2 43 D al [.ref x0, .int x1, .int x2] dt 0 (some (.int r0)) dt := by
  refine q_Mt.of (by decide) (Nat.le_of_ble_eq_true rfl) ?_
  intro p e s m args below meth c ls C hargs hW hl
  have hx := C.1
  have hb := C.2.1
  have hown := C.2.2.2.2.2.1
  have hts := C.2.2.2.2.2.2.1
  have hS : va_S (q_A al) s.heap s.heap [] := va_S.rf
  have hl : lv_has ls 3 [(0, .ref x0), (1, .int x1), (2, .int x2)] := hl
  unfold X11_sample at hm
  refine lv_aload_n hx hb dX11_sample_0 rfl (lv_at hl 0 rfl) ?_
  refine lv_iload_n hx hb dX11_sample_1 rfl (lv_at hl 1 rfl) ?_
  obtain ⟨v1000002, hc1000001, hm⟩ := q_b1i hm
  refine q_callV C hW hS (As := [.int x1]) (rest := []) (st1 := [.int v1000002]) (c_X11_isSample l D al dt x0 x1 kx0 v1000002 hc1000001) yl_X11_isSample vl_X11_isSample ml_RX11_136 (ci := 11) rfl kx0 (by decide) rfl ⟨Nat.le_of_ble_eq_true rfl, Nat.le_of_ble_eq_true rfl⟩ hl rfl (Nat.le_of_ble_eq_true rfl) dX11_sample_2 ⟨Nat.le_refl _, Nat.le_refl _⟩ rfl (fun H locs k1000003 hW hS => ?_)
  refine q_ifc hm (fun c1000004 hm => ?_) (fun c1000004 hm => ?_)
  · refine lv_if_eq (tgt := 24) hx hb dX11_sample_5 (by decide) (fun _ => ?_) (fun h => absurd c1000004 h)
    refine lv_ldc (own := RX11) (v := (-1000000)) hx hb hown (hts _ wc_RX11_148) dX11_sample_24 ?_
    exact e_i C hW hS hm dX11_sample_26
  refine lv_if_eq (tgt := 24) hx hb dX11_sample_5 (by decide) (fun h => absurd h c1000004) (fun _ => ?_)
  refine lv_aload_n hx hb dX11_sample_8 rfl (lv_at hl 0 rfl) ?_
  refine r_getF C hW (ci := 11) kx0 ff_11_1 cl_11 fl_RX11_19 dX11_sample_9 (fun k1000005 => ?_)
  refine lv_iload_n hx hb dX11_sample_12 rfl (lv_at hl 1 rfl) ?_
  refine lv_iload_n hx hb dX11_sample_13 rfl (lv_at hl 2 rfl) ?_
  obtain ⟨v1000007, hc1000006, hm⟩ := q_b1i hm
  refine q_callS C hW hS (As := [.int x2]) (rest := [.int x1, .ref (al.2.2 x0 1)]) (st1 := [.int v1000007, .int x1, .ref (al.2.2 x0 1)]) (c_X11_axis l D al dt x2 v1000007 hc1000006) yl_X11_axis sl_X11_axis ml_RX11_140 rfl ⟨Nat.le_of_ble_eq_true rfl, Nat.le_of_ble_eq_true rfl⟩ hl rfl (Nat.le_of_ble_eq_true rfl) dX11_sample_14 ⟨Nat.le_refl _, Nat.le_refl _⟩ rfl (fun H locs k1000008 hW hS => ?_)
  obtain ⟨v1000010, hc1000009, hm⟩ := q_b1i hm
  refine q_callV C hW hS (As := [.int x1, .int v1000007]) (rest := []) (st1 := [.long v1000010]) (c_X8_value l D al dt (al.2.2 x0 1) x1 v1000007 k1000005 v1000010 hc1000009) yl_X8_value vl_X8_value ml_RX11_144 (ci := 8) rfl k1000005 (by decide) rfl ⟨Nat.le_of_ble_eq_true rfl, Nat.le_of_ble_eq_true rfl⟩ hl rfl (Nat.le_of_ble_eq_true rfl) dX11_sample_17 ⟨Nat.le_refl _, Nat.le_refl _⟩ rfl (fun H locs k1000011 hW hS => ?_)
  refine lv_l2i (v := (Int64.toInt32 v1000010)) hx hb dX11_sample_20 rfl ?_
  refine lv_goto (tgt := 26) hx hb dX11_sample_21 (by decide) ?_
  exact e_i C hW hS hm dX11_sample_26
theorem dX11_power_0 : decode cX11_power 0 = .ok (.aload_n 0, 1) := by decide +kernel
theorem dX11_power_1 : decode cX11_power 1 = .ok (.iload_n 1, 1) := by decide +kernel
theorem dX11_power_2 : decode cX11_power 2 = .ok (.invokevirtual 136, 3) := by decide +kernel
theorem dX11_power_5 : decode cX11_power 5 = .ok (.ifCond .eq 28, 3) := by decide +kernel
theorem dX11_power_8 : decode cX11_power 8 = .ok (.aload_n 0, 1) := by decide +kernel
theorem dX11_power_9 : decode cX11_power 9 = .ok (.iload_n 2, 1) := by decide +kernel
theorem dX11_power_10 : decode cX11_power 10 = .ok (.invokevirtual 136, 3) := by decide +kernel
theorem dX11_power_13 : decode cX11_power 13 = .ok (.ifCond .eq 20, 3) := by decide +kernel
theorem dX11_power_16 : decode cX11_power 16 = .ok (.iload_n 1, 1) := by decide +kernel
theorem dX11_power_17 : decode cX11_power 17 = .ok (.iload_n 2, 1) := by decide +kernel
theorem dX11_power_18 : decode cX11_power 18 = .ok (.if_icmp .gt 15, 3) := by decide +kernel
theorem dX11_power_21 : decode cX11_power 21 = .ok (.aload_n 0, 1) := by decide +kernel
theorem dX11_power_22 : decode cX11_power 22 = .ok (.getfield 19, 3) := by decide +kernel
theorem dX11_power_25 : decode cX11_power 25 = .ok (.iload_n 1, 1) := by decide +kernel
theorem dX11_power_26 : decode cX11_power 26 = .ok (.iload_n 2, 1) := by decide +kernel
theorem dX11_power_27 : decode cX11_power 27 = .ok (.invokevirtual 149, 3) := by decide +kernel
theorem dX11_power_30 : decode cX11_power 30 = .ok (.goto 6, 3) := by decide +kernel
theorem dX11_power_33 : decode cX11_power 33 = .ok (.ldc2_w 152, 3) := by decide +kernel
theorem dX11_power_36 : decode cX11_power 36 = .ok (.lreturn, 1) := by decide +kernel
set_option maxRecDepth 100000 in
theorem c_X11_power (l : Launch) (D : q_D) (al : q_Al) (dt : q_Dt) (x0 : Nat) (x1 : Int32) (x2 : Int32) (kx0 : al.1 x0 = 12) (r0 : Int64) (hm : X11_power al dt x0 x1 x2 = some r0) : q_Mt l yX11_power cX11_power 3 (some FieldType.long) 2 46 D al [.ref x0, .int x1, .int x2] dt 0 (some (.long r0)) dt := by
  refine q_Mt.of (by decide) (Nat.le_of_ble_eq_true rfl) ?_
  intro p e s m args below meth c ls C hargs hW hl
  have hx := C.1
  have hb := C.2.1
  have hown := C.2.2.2.2.2.1
  have hts := C.2.2.2.2.2.2.1
  have hS : va_S (q_A al) s.heap s.heap [] := va_S.rf
  have hl : lv_has ls 3 [(0, .ref x0), (1, .int x1), (2, .int x2)] := hl
  unfold X11_power at hm
  have hB33 : ∀ (H : Heap) (locs : List Loc) (ls : Array Slot) (hm : X11_power_b33 al dt = some r0) (hW : q_W D al dt H) (hS : va_S (q_A al) s.heap H locs) (hl : lv_has ls 3 []), W p l e { frames := 2, cells := 0, slots := 0, locals := 46 } s m args below meth c H locs 0 0 (MQ below (q_Q (some (.long r0)) (fun H => q_W D al dt H ∧ q_Rk al 0 (some (.long r0))) (q_A al)) args s 0 0 (q_A al)) (F0 m 33 ls []) := by
    intro H locs ls hm hW hS hl
    unfold X11_power_b33 at hm
    refine lv_ldc2 (own := RX11) (v := (-1)) hx hb hown (hts _ wc_RX11_152) dX11_power_33 ?_
    exact e_l C hW hS hm dX11_power_36
  refine lv_aload_n hx hb dX11_power_0 rfl (lv_at hl 0 rfl) ?_
  refine lv_iload_n hx hb dX11_power_1 rfl (lv_at hl 1 rfl) ?_
  obtain ⟨v1000002, hc1000001, hm⟩ := q_b1i hm
  refine q_callV C hW hS (As := [.int x1]) (rest := []) (st1 := [.int v1000002]) (c_X11_isSample l D al dt x0 x1 kx0 v1000002 hc1000001) yl_X11_isSample vl_X11_isSample ml_RX11_136 (ci := 11) rfl kx0 (by decide) rfl ⟨Nat.le_of_ble_eq_true rfl, Nat.le_of_ble_eq_true rfl⟩ hl rfl (Nat.le_of_ble_eq_true rfl) dX11_power_2 ⟨Nat.le_refl _, Nat.le_refl _⟩ rfl (fun H locs k1000003 hW hS => ?_)
  refine q_ifc hm (fun c1000004 hm => ?_) (fun c1000004 hm => ?_)
  · refine lv_if_eq (tgt := 33) hx hb dX11_power_5 (by decide) (fun _ => ?_) (fun h => absurd c1000004 h)
    exact hB33 _ _ _ hm hW hS (lv_sub hl [] rfl)
  refine lv_if_eq (tgt := 33) hx hb dX11_power_5 (by decide) (fun h => absurd h c1000004) (fun _ => ?_)
  refine lv_aload_n hx hb dX11_power_8 rfl (lv_at hl 0 rfl) ?_
  refine lv_iload_n hx hb dX11_power_9 rfl (lv_at hl 2 rfl) ?_
  obtain ⟨v1000006, hc1000005, hm⟩ := q_b1i hm
  refine q_callV C hW hS (As := [.int x2]) (rest := []) (st1 := [.int v1000006]) (c_X11_isSample l D al dt x0 x2 kx0 v1000006 hc1000005) yl_X11_isSample vl_X11_isSample ml_RX11_136 (ci := 11) rfl kx0 (by decide) rfl ⟨Nat.le_of_ble_eq_true rfl, Nat.le_of_ble_eq_true rfl⟩ hl rfl (Nat.le_of_ble_eq_true rfl) dX11_power_10 ⟨Nat.le_refl _, Nat.le_refl _⟩ rfl (fun H locs k1000007 hW hS => ?_)
  refine q_ifc hm (fun c1000008 hm => ?_) (fun c1000008 hm => ?_)
  · refine lv_if_eq (tgt := 33) hx hb dX11_power_13 (by decide) (fun _ => ?_) (fun h => absurd c1000008 h)
    exact hB33 _ _ _ hm hW hS (lv_sub hl [] rfl)
  refine lv_if_eq (tgt := 33) hx hb dX11_power_13 (by decide) (fun h => absurd h c1000008) (fun _ => ?_)
  refine lv_iload_n hx hb dX11_power_16 rfl (lv_at hl 1 rfl) ?_
  refine lv_iload_n hx hb dX11_power_17 rfl (lv_at hl 2 rfl) ?_
  refine q_ifc hm (fun c1000009 hm => ?_) (fun c1000009 hm => ?_)
  · refine lv_icmp_gt (tgt := 33) hx hb dX11_power_18 (by decide) (fun _ => ?_) (fun h => absurd c1000009 h)
    exact hB33 _ _ _ hm hW hS (lv_sub hl [] rfl)
  refine lv_icmp_gt (tgt := 33) hx hb dX11_power_18 (by decide) (fun h => absurd h c1000009) (fun _ => ?_)
  refine lv_aload_n hx hb dX11_power_21 rfl (lv_at hl 0 rfl) ?_
  refine r_getF C hW (ci := 11) kx0 ff_11_1 cl_11 fl_RX11_19 dX11_power_22 (fun k1000010 => ?_)
  refine lv_iload_n hx hb dX11_power_25 rfl (lv_at hl 1 rfl) ?_
  refine lv_iload_n hx hb dX11_power_26 rfl (lv_at hl 2 rfl) ?_
  obtain ⟨v1000012, hc1000011, hm⟩ := q_b1i hm
  refine q_callV C hW hS (As := [.int x1, .int x2]) (rest := []) (st1 := [.long v1000012]) (c_X8_squares l D al dt (al.2.2 x0 1) x1 x2 k1000010 v1000012 hc1000011) yl_X8_squares vl_X8_squares ml_RX11_149 (ci := 8) rfl k1000010 (by decide) rfl ⟨Nat.le_of_ble_eq_true rfl, Nat.le_of_ble_eq_true rfl⟩ hl rfl (Nat.le_of_ble_eq_true rfl) dX11_power_27 ⟨Nat.le_refl _, Nat.le_refl _⟩ rfl (fun H locs k1000013 hW hS => ?_)
  refine lv_goto (tgt := 36) hx hb dX11_power_30 (by decide) ?_
  exact e_l C hW hS hm dX11_power_36
theorem dX11_wave_0 : decode cX11_wave 0 = .ok (.aload_n 0, 1) := by decide +kernel
theorem dX11_wave_1 : decode cX11_wave 1 = .ok (.getfield 51, 3) := by decide +kernel
theorem dX11_wave_4 : decode cX11_wave 4 = .ok (.iload_n 1, 1) := by decide +kernel
theorem dX11_wave_5 : decode cX11_wave 5 = .ok (.invokevirtual 154, 3) := by decide +kernel
theorem dX11_wave_8 : decode cX11_wave 8 = .ok (.astore 4, 2) := by decide +kernel
theorem dX11_wave_10 : decode cX11_wave 10 = .ok (.aload 4, 2) := by decide +kernel
theorem dX11_wave_12 : decode cX11_wave 12 = .ok (.ifnull 11, 3) := by decide +kernel
theorem dX11_wave_15 : decode cX11_wave 15 = .ok (.aload_n 0, 1) := by decide +kernel
theorem dX11_wave_16 : decode cX11_wave 16 = .ok (.iload_n 2, 1) := by decide +kernel
theorem dX11_wave_17 : decode cX11_wave 17 = .ok (.invokevirtual 136, 3) := by decide +kernel
theorem dX11_wave_20 : decode cX11_wave 20 = .ok (.ifCond .ne 6, 3) := by decide +kernel
theorem dX11_wave_23 : decode cX11_wave 23 = .ok (.ldc 148, 2) := by decide +kernel
theorem dX11_wave_25 : decode cX11_wave 25 = .ok (.ireturn, 1) := by decide +kernel
theorem dX11_wave_26 : decode cX11_wave 26 = .ok (.aload 4, 2) := by decide +kernel
theorem dX11_wave_28 : decode cX11_wave 28 = .ok (.getfield 158, 3) := by decide +kernel
theorem dX11_wave_31 : decode cX11_wave 31 = .ok (.aload 4, 2) := by decide +kernel
theorem dX11_wave_33 : decode cX11_wave 33 = .ok (.iload_n 2, 1) := by decide +kernel
theorem dX11_wave_34 : decode cX11_wave 34 = .ok (.iload_n 3, 1) := by decide +kernel
theorem dX11_wave_35 : decode cX11_wave 35 = .ok (.invokestatic 140, 3) := by decide +kernel
theorem dX11_wave_38 : decode cX11_wave 38 = .ok (.invokevirtual 163, 3) := by decide +kernel
theorem dX11_wave_41 : decode cX11_wave 41 = .ok (.imul, 1) := by decide +kernel
theorem dX11_wave_42 : decode cX11_wave 42 = .ok (.ireturn, 1) := by decide +kernel
set_option maxRecDepth 100000 in
theorem c_X11_wave (l : Launch) (D : q_D) (al : q_Al) (dt : q_Dt) (x0 : Nat) (x1 : Int32) (x2 : Int32) (x3 : Int32) (kx0 : al.1 x0 = 12) (r0 : Int32) (hm : X11_wave al dt x0 x1 x2 x3 = some r0) : q_Mt l yX11_wave cX11_wave 5 (some FieldType.int) 4 91 D al [.ref x0, .int x1, .int x2, .int x3] dt 0 (some (.int r0)) dt := by
  refine q_Mt.of (by decide) (Nat.le_of_ble_eq_true rfl) ?_
  intro p e s m args below meth c ls C hargs hW hl
  have hx := C.1
  have hb := C.2.1
  have hown := C.2.2.2.2.2.1
  have hts := C.2.2.2.2.2.2.1
  have hS : va_S (q_A al) s.heap s.heap [] := va_S.rf
  have hl : lv_has ls 5 [(0, .ref x0), (1, .int x1), (2, .int x2), (3, .int x3)] := hl
  unfold X11_wave at hm
  refine lv_aload_n hx hb dX11_wave_0 rfl (lv_at hl 0 rfl) ?_
  refine r_getQ C hW hm (ci := 11) kx0 ff_11_6 cl_11 fl_RX11_51 dX11_wave_1 (fun o1000001 eo1000001 k1000002 hm => ?_)
  refine lv_iload_n hx hb dX11_wave_4 rfl (lv_at hl 1 rfl) ?_
  obtain ⟨b1000003, e1000004, hq1000005⟩ := q_mi hm
  subst e1000004
  have hm := hq1000005
  have k1000006 := k1000002 b1000003 rfl
  obtain ⟨v1000008, hc1000007, hm⟩ := q_b1i hm
  refine q_callV C hW hS (As := [.int x1]) (rest := []) (st1 := [va_rf v1000008]) (c_X10_senderAt l D al dt b1000003 x1 k1000006 v1000008 hc1000007) yl_X10_senderAt vl_X10_senderAt ml_RX11_154 (ci := 10) rfl k1000006 (by decide) rfl ⟨Nat.le_of_ble_eq_true rfl, Nat.le_of_ble_eq_true rfl⟩ hl rfl (Nat.le_of_ble_eq_true rfl) dX11_wave_5 ⟨Nat.le_refl _, Nat.le_refl _⟩ rfl (fun H locs k1000009 hW hS => ?_)
  have k1000009 := q_rk k1000009 (by decide)
  refine q_astoreQ (i := 4) (lv' := [(4, va_rf v1000008), (0, .ref x0), (1, .int x1), (2, .int x2), (3, .int x3)]) C dX11_wave_8 hl (by decide) rfl (fun ls hl => ?_)
  refine q_aloadQ C dX11_wave_10 (lv_at hl 0 rfl) ?_
  refine q_ifnull C hm (tgt := 23) dX11_wave_12 (by decide) (fun e1000012 hq1000013 => ?_) (fun b1000010 e1000012 hq1000013 => ?_)
  · subst e1000012
    have hm := hq1000013
    refine lv_ldc (own := RX11) (v := (-1000000)) hx hb hown (hts _ wc_RX11_148) dX11_wave_23 ?_
    exact e_i C hW hS hm dX11_wave_25
  subst e1000012
  have hm := hq1000013
  have k1000011 := k1000009 b1000010 rfl
  refine lv_aload_n hx hb dX11_wave_15 rfl (lv_at hl 1 rfl) ?_
  refine lv_iload_n hx hb dX11_wave_16 rfl (lv_at hl 3 rfl) ?_
  obtain ⟨v1000015, hc1000014, hm⟩ := q_b1i hm
  refine q_callV C hW hS (As := [.int x2]) (rest := []) (st1 := [.int v1000015]) (c_X11_isSample l D al dt x0 x2 kx0 v1000015 hc1000014) yl_X11_isSample vl_X11_isSample ml_RX11_136 (ci := 11) rfl kx0 (by decide) rfl ⟨Nat.le_of_ble_eq_true rfl, Nat.le_of_ble_eq_true rfl⟩ hl rfl (Nat.le_of_ble_eq_true rfl) dX11_wave_17 ⟨Nat.le_refl _, Nat.le_refl _⟩ rfl (fun H locs k1000016 hW hS => ?_)
  refine q_ifc hm (fun c1000017 hm => ?_) (fun c1000017 hm => ?_)
  · refine lv_if_ne (tgt := 26) hx hb dX11_wave_20 (by decide) (fun h => absurd c1000017 h) (fun _ => ?_)
    refine lv_ldc (own := RX11) (v := (-1000000)) hx hb hown (hts _ wc_RX11_148) dX11_wave_23 ?_
    exact e_i C hW hS hm dX11_wave_25
  refine lv_if_ne (tgt := 26) hx hb dX11_wave_20 (by decide) (fun _ => ?_) (fun h => absurd h c1000017)
  refine lv_aload hx hb dX11_wave_26 (lv_at hl 0 rfl) ?_
  refine r_getI C hW (ci := 7) k1000011 ff_7_4 cl_7 fl_RX11_158 dX11_wave_28 ?_
  refine lv_aload hx hb dX11_wave_31 (lv_at hl 0 rfl) ?_
  refine lv_iload_n hx hb dX11_wave_33 rfl (lv_at hl 3 rfl) ?_
  refine lv_iload_n hx hb dX11_wave_34 rfl (lv_at hl 4 rfl) ?_
  obtain ⟨v1000019, hc1000018, hm⟩ := q_b1i hm
  refine q_callS C hW hS (As := [.int x3]) (rest := [.int x2, .ref b1000010, .int (dt.1 b1000010 4)]) (st1 := [.int v1000019, .int x2, .ref b1000010, .int (dt.1 b1000010 4)]) (c_X11_axis l D al dt x3 v1000019 hc1000018) yl_X11_axis sl_X11_axis ml_RX11_140 rfl ⟨Nat.le_of_ble_eq_true rfl, Nat.le_of_ble_eq_true rfl⟩ hl rfl (Nat.le_of_ble_eq_true rfl) dX11_wave_35 ⟨Nat.le_refl _, Nat.le_refl _⟩ rfl (fun H locs k1000020 hW hS => ?_)
  obtain ⟨v1000022, hc1000021, hm⟩ := q_b1i hm
  refine q_callV C hW hS (As := [.int x2, .int v1000019]) (rest := [.int (dt.1 b1000010 4)]) (st1 := [.int v1000022, .int (dt.1 b1000010 4)]) (c_X7_unitAt l D al dt b1000010 x2 v1000019 k1000011 v1000022 hc1000021) yl_X7_unitAt vl_X7_unitAt ml_RX11_163 (ci := 7) rfl k1000011 (by decide) rfl ⟨Nat.le_of_ble_eq_true rfl, Nat.le_of_ble_eq_true rfl⟩ hl rfl (Nat.le_of_ble_eq_true rfl) dX11_wave_38 ⟨Nat.le_refl _, Nat.le_refl _⟩ rfl (fun H locs k1000023 hW hS => ?_)
  refine lv_imul hx hb dX11_wave_41 ?_
  exact e_i C hW hS hm dX11_wave_42
theorem dX11_add_0 : decode cX11_add 0 = .ok (.aload_n 0, 1) := by decide +kernel
theorem dX11_add_1 : decode cX11_add 1 = .ok (.getfield 51, 3) := by decide +kernel
theorem dX11_add_4 : decode cX11_add 4 = .ok (.iload_n 1, 1) := by decide +kernel
theorem dX11_add_5 : decode cX11_add 5 = .ok (.invokevirtual 154, 3) := by decide +kernel
theorem dX11_add_8 : decode cX11_add 8 = .ok (.astore_n 3, 1) := by decide +kernel
theorem dX11_add_9 : decode cX11_add 9 = .ok (.aload_n 3, 1) := by decide +kernel
theorem dX11_add_10 : decode cX11_add 10 = .ok (.ifnull 15, 3) := by decide +kernel
theorem dX11_add_13 : decode cX11_add 13 = .ok (.iload_n 2, 1) := by decide +kernel
theorem dX11_add_14 : decode cX11_add 14 = .ok (.bipush (-9), 2) := by decide +kernel
theorem dX11_add_16 : decode cX11_add 16 = .ok (.if_icmp .lt 9, 3) := by decide +kernel
theorem dX11_add_19 : decode cX11_add 19 = .ok (.iload_n 2, 1) := by decide +kernel
theorem dX11_add_20 : decode cX11_add 20 = .ok (.bipush 9, 2) := by decide +kernel
theorem dX11_add_22 : decode cX11_add 22 = .ok (.if_icmp .le 5, 3) := by decide +kernel
theorem dX11_add_25 : decode cX11_add 25 = .ok (.iconst 0, 1) := by decide +kernel
theorem dX11_add_26 : decode cX11_add 26 = .ok (.ireturn, 1) := by decide +kernel
theorem dX11_add_27 : decode cX11_add 27 = .ok (.aload_n 0, 1) := by decide +kernel
theorem dX11_add_28 : decode cX11_add 28 = .ok (.getfield 19, 3) := by decide +kernel
theorem dX11_add_31 : decode cX11_add 31 = .ok (.aload_n 3, 1) := by decide +kernel
theorem dX11_add_32 : decode cX11_add 32 = .ok (.aconst_null, 1) := by decide +kernel
theorem dX11_add_33 : decode cX11_add 33 = .ok (.iload_n 2, 1) := by decide +kernel
theorem dX11_add_34 : decode cX11_add 34 = .ok (.invokevirtual 167, 3) := by decide +kernel
theorem dX11_add_37 : decode cX11_add 37 = .ok (.iconst 1, 1) := by decide +kernel
theorem dX11_add_38 : decode cX11_add 38 = .ok (.ireturn, 1) := by decide +kernel
set_option maxRecDepth 100000 in
theorem c_X11_add (l : Launch) (D : q_D) (al : q_Al) (dt : q_Dt) (x0 : Nat) (x1 : Int32) (x2 : Int32) (kx0 : al.1 x0 = 12) (r0 : Int32) (dt0 : q_Dt) (hm : X11_add al dt x0 x1 x2 = some (r0, dt0)) : q_Mt l yX11_add cX11_add 4 (some FieldType.boolean) 4 98 D al [.ref x0, .int x1, .int x2] dt 0 (some (.int r0)) dt0 := by
  refine q_Mt.of (by decide) (Nat.le_of_ble_eq_true rfl) ?_
  intro p e s m args below meth c ls C hargs hW hl
  have hx := C.1
  have hb := C.2.1
  have hown := C.2.2.2.2.2.1
  have hts := C.2.2.2.2.2.2.1
  have hS : va_S (q_A al) s.heap s.heap [] := va_S.rf
  have hl : lv_has ls 4 [(0, .ref x0), (1, .int x1), (2, .int x2)] := hl
  unfold X11_add at hm
  refine lv_aload_n hx hb dX11_add_0 rfl (lv_at hl 0 rfl) ?_
  refine r_getQ C hW hm (ci := 11) kx0 ff_11_6 cl_11 fl_RX11_51 dX11_add_1 (fun o1000001 eo1000001 k1000002 hm => ?_)
  refine lv_iload_n hx hb dX11_add_4 rfl (lv_at hl 1 rfl) ?_
  obtain ⟨b1000003, e1000004, hq1000005⟩ := q_mi hm
  subst e1000004
  have hm := hq1000005
  have k1000006 := k1000002 b1000003 rfl
  obtain ⟨v1000008, hc1000007, hm⟩ := q_b1i hm
  refine q_callV C hW hS (As := [.int x1]) (rest := []) (st1 := [va_rf v1000008]) (c_X10_senderAt l D al dt b1000003 x1 k1000006 v1000008 hc1000007) yl_X10_senderAt vl_X10_senderAt ml_RX11_154 (ci := 10) rfl k1000006 (by decide) rfl ⟨Nat.le_of_ble_eq_true rfl, Nat.le_of_ble_eq_true rfl⟩ hl rfl (Nat.le_of_ble_eq_true rfl) dX11_add_5 ⟨Nat.le_refl _, Nat.le_refl _⟩ rfl (fun H locs k1000009 hW hS => ?_)
  have k1000009 := q_rk k1000009 (by decide)
  refine q_astoreQ_n (i := 3) (lv' := [(3, va_rf v1000008), (0, .ref x0), (1, .int x1), (2, .int x2)]) C dX11_add_8 rfl hl (by decide) rfl (fun ls hl => ?_)
  refine q_aloadQ_n C dX11_add_9 rfl (lv_at hl 0 rfl) ?_
  refine q_ifnull C hm (tgt := 25) dX11_add_10 (by decide) (fun e1000012 hq1000013 => ?_) (fun b1000010 e1000012 hq1000013 => ?_)
  · subst e1000012
    have hm := hq1000013
    refine lv_iconst (v := 0) hx hb dX11_add_25 (by decide) ?_
    exact e_zlD C hW hS (Or.inl rfl) hm dX11_add_26
  subst e1000012
  have hm := hq1000013
  have k1000011 := k1000009 b1000010 rfl
  refine lv_iload_n hx hb dX11_add_13 rfl (lv_at hl 3 rfl) ?_
  refine lv_bipush (v := (-9)) hx hb dX11_add_14 (by decide) ?_
  refine q_ifc hm (fun c1000014 hm => ?_) (fun c1000014 hm => ?_)
  · refine lv_icmp_lt (tgt := 25) hx hb dX11_add_16 (by decide) (fun _ => ?_) (fun h => absurd c1000014 h)
    refine lv_iconst (v := 0) hx hb dX11_add_25 (by decide) ?_
    exact e_zlD C hW hS (Or.inl rfl) hm dX11_add_26
  refine lv_icmp_lt (tgt := 25) hx hb dX11_add_16 (by decide) (fun h => absurd h c1000014) (fun _ => ?_)
  refine lv_iload_n hx hb dX11_add_19 rfl (lv_at hl 3 rfl) ?_
  refine lv_bipush (v := 9) hx hb dX11_add_20 (by decide) ?_
  refine q_ifc hm (fun c1000015 hm => ?_) (fun c1000015 hm => ?_)
  · refine lv_icmp_le (tgt := 27) hx hb dX11_add_22 (by decide) (fun _ => ?_) (fun h => absurd c1000015 h)
    refine lv_aload_n hx hb dX11_add_27 rfl (lv_at hl 1 rfl) ?_
    refine r_getF C hW (ci := 11) kx0 ff_11_1 cl_11 fl_RX11_19 dX11_add_28 (fun k1000016 => ?_)
    refine lv_aload_n hx hb dX11_add_31 rfl (lv_at hl 0 rfl) ?_
    refine q_null C dX11_add_32 ?_
    refine lv_iload_n hx hb dX11_add_33 rfl (lv_at hl 3 rfl) ?_
    obtain ⟨dt1000018, hc1000017, hm⟩ := q_b1i hm
    refine q_callV C hW hS (As := [.ref b1000010, va_rf none, .int x2]) (rest := []) (st1 := []) (c_X8_layWave l D al dt (al.2.2 x0 1) b1000010 none x2 k1000016 k1000011 q_kn dt1000018 hc1000017) yl_X8_layWave vl_X8_layWave ml_RX11_167 (ci := 8) rfl k1000016 (by decide) rfl ⟨Nat.le_of_ble_eq_true rfl, Nat.le_of_ble_eq_true rfl⟩ hl rfl (Nat.le_of_ble_eq_true rfl) dX11_add_34 ⟨Nat.le_refl _, Nat.le_refl _⟩ rfl (fun H locs k1000019 hW hS => ?_)
    refine lv_iconst (v := 1) hx hb dX11_add_37 (by decide) ?_
    exact e_zlD C hW hS (Or.inr rfl) hm dX11_add_38
  refine lv_icmp_le (tgt := 27) hx hb dX11_add_22 (by decide) (fun h => absurd h c1000015) (fun _ => ?_)
  refine lv_iconst (v := 0) hx hb dX11_add_25 (by decide) ?_
  exact e_zlD C hW hS (Or.inl rfl) hm dX11_add_26
theorem dX11_noise_0 : decode cX11_noise 0 = .ok (.iload_n 1, 1) := by decide +kernel
theorem dX11_noise_1 : decode cX11_noise 1 = .ok (.ifCond .lt 9, 3) := by decide +kernel
theorem dX11_noise_4 : decode cX11_noise 4 = .ok (.iload_n 1, 1) := by decide +kernel
theorem dX11_noise_5 : decode cX11_noise 5 = .ok (.bipush 50, 2) := by decide +kernel
theorem dX11_noise_7 : decode cX11_noise 7 = .ok (.if_icmp .le 5, 3) := by decide +kernel
theorem dX11_noise_10 : decode cX11_noise 10 = .ok (.iconst 0, 1) := by decide +kernel
theorem dX11_noise_11 : decode cX11_noise 11 = .ok (.ireturn, 1) := by decide +kernel
theorem dX11_noise_12 : decode cX11_noise 12 = .ok (.aload_n 0, 1) := by decide +kernel
theorem dX11_noise_13 : decode cX11_noise 13 = .ok (.getfield 19, 3) := by decide +kernel
theorem dX11_noise_16 : decode cX11_noise 16 = .ok (.iload_n 1, 1) := by decide +kernel
theorem dX11_noise_17 : decode cX11_noise 17 = .ok (.iload_n 2, 1) := by decide +kernel
theorem dX11_noise_18 : decode cX11_noise 18 = .ok (.invokevirtual 171, 3) := by decide +kernel
theorem dX11_noise_21 : decode cX11_noise 21 = .ok (.iconst 1, 1) := by decide +kernel
theorem dX11_noise_22 : decode cX11_noise 22 = .ok (.ireturn, 1) := by decide +kernel
set_option maxRecDepth 100000 in
theorem c_X11_noise (l : Launch) (D : q_D) (al : q_Al) (dt : q_Dt) (x0 : Nat) (x1 : Int32) (x2 : Int32) (kx0 : al.1 x0 = 12) (r0 : Int32) (dt0 : q_Dt) (hm : X11_noise al dt x0 x1 x2 = some (r0, dt0)) : q_Mt l yX11_noise cX11_noise 3 (some FieldType.boolean) 3 68 D al [.ref x0, .int x1, .int x2] dt 0 (some (.int r0)) dt0 := by
  refine q_Mt.of (by decide) (Nat.le_of_ble_eq_true rfl) ?_
  intro p e s m args below meth c ls C hargs hW hl
  have hx := C.1
  have hb := C.2.1
  have hown := C.2.2.2.2.2.1
  have hts := C.2.2.2.2.2.2.1
  have hS : va_S (q_A al) s.heap s.heap [] := va_S.rf
  have hl : lv_has ls 3 [(0, .ref x0), (1, .int x1), (2, .int x2)] := hl
  unfold X11_noise at hm
  refine lv_iload_n hx hb dX11_noise_0 rfl (lv_at hl 1 rfl) ?_
  refine q_ifc hm (fun c1000001 hm => ?_) (fun c1000001 hm => ?_)
  · refine lv_if_lt (tgt := 10) hx hb dX11_noise_1 (by decide) (fun _ => ?_) (fun h => absurd c1000001 h)
    refine lv_iconst (v := 0) hx hb dX11_noise_10 (by decide) ?_
    exact e_zlD C hW hS (Or.inl rfl) hm dX11_noise_11
  refine lv_if_lt (tgt := 10) hx hb dX11_noise_1 (by decide) (fun h => absurd h c1000001) (fun _ => ?_)
  refine lv_iload_n hx hb dX11_noise_4 rfl (lv_at hl 1 rfl) ?_
  refine lv_bipush (v := 50) hx hb dX11_noise_5 (by decide) ?_
  refine q_ifc hm (fun c1000002 hm => ?_) (fun c1000002 hm => ?_)
  · refine lv_icmp_le (tgt := 12) hx hb dX11_noise_7 (by decide) (fun _ => ?_) (fun h => absurd c1000002 h)
    refine lv_aload_n hx hb dX11_noise_12 rfl (lv_at hl 0 rfl) ?_
    refine r_getF C hW (ci := 11) kx0 ff_11_1 cl_11 fl_RX11_19 dX11_noise_13 (fun k1000003 => ?_)
    refine lv_iload_n hx hb dX11_noise_16 rfl (lv_at hl 1 rfl) ?_
    refine lv_iload_n hx hb dX11_noise_17 rfl (lv_at hl 2 rfl) ?_
    obtain ⟨dt1000005, hc1000004, hm⟩ := q_b1i hm
    refine q_callV C hW hS (As := [.int x1, .int x2]) (rest := []) (st1 := []) (c_X8_layNoise l D al dt (al.2.2 x0 1) x1 x2 k1000003 dt1000005 hc1000004) yl_X8_layNoise vl_X8_layNoise ml_RX11_171 (ci := 8) rfl k1000003 (by decide) rfl ⟨Nat.le_of_ble_eq_true rfl, Nat.le_of_ble_eq_true rfl⟩ hl rfl (Nat.le_of_ble_eq_true rfl) dX11_noise_18 ⟨Nat.le_refl _, Nat.le_refl _⟩ rfl (fun H locs k1000006 hW hS => ?_)
    refine lv_iconst (v := 1) hx hb dX11_noise_21 (by decide) ?_
    exact e_zlD C hW hS (Or.inr rfl) hm dX11_noise_22
  refine lv_icmp_le (tgt := 12) hx hb dX11_noise_7 (by decide) (fun h => absurd h c1000002) (fun _ => ?_)
  refine lv_iconst (v := 0) hx hb dX11_noise_10 (by decide) ?_
  exact e_zlD C hW hS (Or.inl rfl) hm dX11_noise_11
theorem dX11_anew_0 : decode cX11_anew 0 = .ok (.aload_n 0, 1) := by decide +kernel
theorem dX11_anew_1 : decode cX11_anew 1 = .ok (.getfield 19, 3) := by decide +kernel
theorem dX11_anew_4 : decode cX11_anew 4 = .ok (.aload_n 0, 1) := by decide +kernel
theorem dX11_anew_5 : decode cX11_anew 5 = .ok (.getfield 51, 3) := by decide +kernel
theorem dX11_anew_8 : decode cX11_anew 8 = .ok (.invokevirtual 83, 3) := by decide +kernel
theorem dX11_anew_11 : decode cX11_anew 11 = .ok (.iconst 1, 1) := by decide +kernel
theorem dX11_anew_12 : decode cX11_anew 12 = .ok (.ireturn, 1) := by decide +kernel
set_option maxRecDepth 100000 in
theorem c_X11_anew (l : Launch) (D : q_D) (al : q_Al) (dt : q_Dt) (x0 : Nat) (kx0 : al.1 x0 = 12) (r0 : Int32) (dt0 : q_Dt) (hm : X11_anew al dt x0 = some (r0, dt0)) : q_Mt l yX11_anew cX11_anew 1 (some FieldType.boolean) 5 121 D al [.ref x0] dt 0 (some (.int r0)) dt0 := by
  refine q_Mt.of (by decide) (Nat.le_of_ble_eq_true rfl) ?_
  intro p e s m args below meth c ls C hargs hW hl
  have hx := C.1
  have hb := C.2.1
  have hown := C.2.2.2.2.2.1
  have hts := C.2.2.2.2.2.2.1
  have hS : va_S (q_A al) s.heap s.heap [] := va_S.rf
  have hl : lv_has ls 1 [(0, .ref x0)] := hl
  unfold X11_anew at hm
  refine lv_aload_n hx hb dX11_anew_0 rfl (lv_at hl 0 rfl) ?_
  refine r_getF C hW (ci := 11) kx0 ff_11_1 cl_11 fl_RX11_19 dX11_anew_1 (fun k1000001 => ?_)
  refine lv_aload_n hx hb dX11_anew_4 rfl (lv_at hl 0 rfl) ?_
  refine r_getQ C hW hm (ci := 11) kx0 ff_11_6 cl_11 fl_RX11_51 dX11_anew_5 (fun o1000002 eo1000002 k1000003 hm => ?_)
  obtain ⟨dt1000005, hc1000004, hm⟩ := q_b1i hm
  refine q_callV C hW hS (As := [va_rf o1000002]) (rest := []) (st1 := []) (c_X8_layAnew l D al dt (al.2.2 x0 1) o1000002 k1000001 k1000003 dt1000005 hc1000004) yl_X8_layAnew vl_X8_layAnew ml_RX11_83 (ci := 8) rfl k1000001 (by decide) rfl ⟨Nat.le_of_ble_eq_true rfl, Nat.le_of_ble_eq_true rfl⟩ hl rfl (Nat.le_of_ble_eq_true rfl) dX11_anew_8 ⟨Nat.le_refl _, Nat.le_refl _⟩ rfl (fun H locs k1000006 hW hS => ?_)
  refine lv_iconst (v := 1) hx hb dX11_anew_11 (by decide) ?_
  exact e_zlD C hW hS (Or.inr rfl) hm dX11_anew_12
theorem dX11_isCell_0 : decode cX11_isCell 0 = .ok (.aload_n 0, 1) := by decide +kernel
theorem dX11_isCell_1 : decode cX11_isCell 1 = .ok (.ifnull 28, 3) := by decide +kernel
theorem dX11_isCell_4 : decode cX11_isCell 4 = .ok (.iload_n 1, 1) := by decide +kernel
theorem dX11_isCell_5 : decode cX11_isCell 5 = .ok (.ifCond .lt 24, 3) := by decide +kernel
theorem dX11_isCell_8 : decode cX11_isCell 8 = .ok (.iload_n 1, 1) := by decide +kernel
theorem dX11_isCell_9 : decode cX11_isCell 9 = .ok (.aload_n 0, 1) := by decide +kernel
theorem dX11_isCell_10 : decode cX11_isCell 10 = .ok (.getfield 91, 3) := by decide +kernel
theorem dX11_isCell_13 : decode cX11_isCell 13 = .ok (.if_icmp .ge 16, 3) := by decide +kernel
theorem dX11_isCell_16 : decode cX11_isCell 16 = .ok (.iload_n 2, 1) := by decide +kernel
theorem dX11_isCell_17 : decode cX11_isCell 17 = .ok (.ifCond .lt 12, 3) := by decide +kernel
theorem dX11_isCell_20 : decode cX11_isCell 20 = .ok (.iload_n 2, 1) := by decide +kernel
theorem dX11_isCell_21 : decode cX11_isCell 21 = .ok (.iconst 4, 1) := by decide +kernel
theorem dX11_isCell_22 : decode cX11_isCell 22 = .ok (.if_icmp .ge 7, 3) := by decide +kernel
theorem dX11_isCell_25 : decode cX11_isCell 25 = .ok (.iconst 1, 1) := by decide +kernel
theorem dX11_isCell_26 : decode cX11_isCell 26 = .ok (.goto 4, 3) := by decide +kernel
theorem dX11_isCell_29 : decode cX11_isCell 29 = .ok (.iconst 0, 1) := by decide +kernel
theorem dX11_isCell_30 : decode cX11_isCell 30 = .ok (.ireturn, 1) := by decide +kernel
set_option maxRecDepth 100000 in
theorem c_X11_isCell (l : Launch) (D : q_D) (al : q_Al) (dt : q_Dt) (x0 : Option Nat) (x1 : Int32) (x2 : Int32) (kx0 : ∀ b, x0 = some b → al.1 b = 1) (r0 : Int32) (hm : X11_isCell al dt x0 x1 x2 = some r0) : q_Mt l yX11_isCell cX11_isCell 3 (some FieldType.boolean) 0 0 D al [va_rf x0, .int x1, .int x2] dt 0 (some (.int r0)) dt := by
  refine q_Mt.of (by decide) (by simp [lg_sl, q_cat, q_catR, q_catI, q_catL]) ?_
  intro p e s m args below meth c ls C hargs hW hl
  have hx := C.1
  have hb := C.2.1
  have hown := C.2.2.2.2.2.1
  have hts := C.2.2.2.2.2.2.1
  have hS : va_S (q_A al) s.heap s.heap [] := va_S.rf
  have hl : lv_has ls 3 [(0, va_rf x0), (1, .int x1), (2, .int x2)] := by simpa [lv_args, q_cat, q_catR, q_catI, q_catL] using hl
  unfold X11_isCell at hm
  refine q_aloadQ_n C dX11_isCell_0 rfl (lv_at hl 0 rfl) ?_
  refine q_ifnull C hm (tgt := 29) dX11_isCell_1 (by decide) (fun e1000003 hq1000004 => ?_) (fun b1000001 e1000003 hq1000004 => ?_)
  · subst e1000003
    have hm := hq1000004
    refine lv_iconst (v := 0) hx hb dX11_isCell_29 (by decide) ?_
    exact e_zl C hW hS (Or.inl rfl) hm dX11_isCell_30
  subst e1000003
  have hm := hq1000004
  have k1000002 := kx0 b1000001 rfl
  refine lv_iload_n hx hb dX11_isCell_4 rfl (lv_at hl 1 rfl) ?_
  refine q_ifc hm (fun c1000005 hm => ?_) (fun c1000005 hm => ?_)
  · refine lv_if_lt (tgt := 29) hx hb dX11_isCell_5 (by decide) (fun _ => ?_) (fun h => absurd c1000005 h)
    refine lv_iconst (v := 0) hx hb dX11_isCell_29 (by decide) ?_
    exact e_zl C hW hS (Or.inl rfl) hm dX11_isCell_30
  refine lv_if_lt (tgt := 29) hx hb dX11_isCell_5 (by decide) (fun h => absurd h c1000005) (fun _ => ?_)
  refine lv_iload_n hx hb dX11_isCell_8 rfl (lv_at hl 1 rfl) ?_
  refine lv_aload_n hx hb dX11_isCell_9 rfl (lv_at hl 0 rfl) ?_
  refine r_getI C hW (ci := 0) k1000002 ff_0_1 cl_0 fl_RX11_91 dX11_isCell_10 ?_
  refine q_ifc hm (fun c1000006 hm => ?_) (fun c1000006 hm => ?_)
  · refine lv_icmp_ge (tgt := 29) hx hb dX11_isCell_13 (by decide) (fun _ => ?_) (fun h => absurd c1000006 h)
    refine lv_iconst (v := 0) hx hb dX11_isCell_29 (by decide) ?_
    exact e_zl C hW hS (Or.inl rfl) hm dX11_isCell_30
  refine lv_icmp_ge (tgt := 29) hx hb dX11_isCell_13 (by decide) (fun h => absurd h c1000006) (fun _ => ?_)
  refine lv_iload_n hx hb dX11_isCell_16 rfl (lv_at hl 2 rfl) ?_
  refine q_ifc hm (fun c1000007 hm => ?_) (fun c1000007 hm => ?_)
  · refine lv_if_lt (tgt := 29) hx hb dX11_isCell_17 (by decide) (fun _ => ?_) (fun h => absurd c1000007 h)
    refine lv_iconst (v := 0) hx hb dX11_isCell_29 (by decide) ?_
    exact e_zl C hW hS (Or.inl rfl) hm dX11_isCell_30
  refine lv_if_lt (tgt := 29) hx hb dX11_isCell_17 (by decide) (fun h => absurd h c1000007) (fun _ => ?_)
  refine lv_iload_n hx hb dX11_isCell_20 rfl (lv_at hl 2 rfl) ?_
  refine lv_iconst (v := 4) hx hb dX11_isCell_21 (by decide) ?_
  refine q_ifc hm (fun c1000008 hm => ?_) (fun c1000008 hm => ?_)
  · refine lv_icmp_ge (tgt := 29) hx hb dX11_isCell_22 (by decide) (fun _ => ?_) (fun h => absurd c1000008 h)
    refine lv_iconst (v := 0) hx hb dX11_isCell_29 (by decide) ?_
    exact e_zl C hW hS (Or.inl rfl) hm dX11_isCell_30
  refine lv_icmp_ge (tgt := 29) hx hb dX11_isCell_22 (by decide) (fun h => absurd h c1000008) (fun _ => ?_)
  refine lv_iconst (v := 1) hx hb dX11_isCell_25 (by decide) ?_
  refine lv_goto (tgt := 30) hx hb dX11_isCell_26 (by decide) ?_
  exact e_zl C hW hS (Or.inr rfl) hm dX11_isCell_30
theorem dX11_sum_0 : decode cX11_sum 0 = .ok (.aload_n 0, 1) := by decide +kernel
theorem dX11_sum_1 : decode cX11_sum 1 = .ok (.getfield 51, 3) := by decide +kernel
theorem dX11_sum_4 : decode cX11_sum 4 = .ok (.iload_n 1, 1) := by decide +kernel
theorem dX11_sum_5 : decode cX11_sum 5 = .ok (.invokevirtual 87, 3) := by decide +kernel
theorem dX11_sum_8 : decode cX11_sum 8 = .ok (.astore 6, 2) := by decide +kernel
theorem dX11_sum_10 : decode cX11_sum 10 = .ok (.aload 6, 2) := by decide +kernel
theorem dX11_sum_12 : decode cX11_sum 12 = .ok (.iload_n 2, 1) := by decide +kernel
theorem dX11_sum_13 : decode cX11_sum 13 = .ok (.iload_n 3, 1) := by decide +kernel
theorem dX11_sum_14 : decode cX11_sum 14 = .ok (.invokestatic 178, 3) := by decide +kernel
theorem dX11_sum_17 : decode cX11_sum 17 = .ok (.ifCond .eq 12, 3) := by decide +kernel
theorem dX11_sum_20 : decode cX11_sum 20 = .ok (.aload_n 0, 1) := by decide +kernel
theorem dX11_sum_21 : decode cX11_sum 21 = .ok (.iload 4, 2) := by decide +kernel
theorem dX11_sum_23 : decode cX11_sum 23 = .ok (.invokevirtual 136, 3) := by decide +kernel
theorem dX11_sum_26 : decode cX11_sum 26 = .ok (.ifCond .ne 6, 3) := by decide +kernel
theorem dX11_sum_29 : decode cX11_sum 29 = .ok (.ldc 182, 2) := by decide +kernel
theorem dX11_sum_31 : decode cX11_sum 31 = .ok (.ireturn, 1) := by decide +kernel
theorem dX11_sum_32 : decode cX11_sum 32 = .ok (.aload_n 0, 1) := by decide +kernel
theorem dX11_sum_33 : decode cX11_sum 33 = .ok (.getfield 37, 3) := by decide +kernel
theorem dX11_sum_36 : decode cX11_sum 36 = .ok (.aload 6, 2) := by decide +kernel
theorem dX11_sum_38 : decode cX11_sum 38 = .ok (.iload_n 2, 1) := by decide +kernel
theorem dX11_sum_39 : decode cX11_sum 39 = .ok (.iload_n 3, 1) := by decide +kernel
theorem dX11_sum_40 : decode cX11_sum 40 = .ok (.aload_n 0, 1) := by decide +kernel
theorem dX11_sum_41 : decode cX11_sum 41 = .ok (.getfield 19, 3) := by decide +kernel
theorem dX11_sum_44 : decode cX11_sum 44 = .ok (.iload 4, 2) := by decide +kernel
theorem dX11_sum_46 : decode cX11_sum 46 = .ok (.iload 5, 2) := by decide +kernel
theorem dX11_sum_48 : decode cX11_sum 48 = .ok (.invokestatic 140, 3) := by decide +kernel
theorem dX11_sum_51 : decode cX11_sum 51 = .ok (.invokevirtual 183, 3) := by decide +kernel
theorem dX11_sum_54 : decode cX11_sum 54 = .ok (.l2i, 1) := by decide +kernel
theorem dX11_sum_55 : decode cX11_sum 55 = .ok (.ireturn, 1) := by decide +kernel
set_option maxRecDepth 100000 in
theorem c_X11_sum (l : Launch) (D : q_D) (al : q_Al) (dt : q_Dt) (x0 : Nat) (x1 : Int32) (x2 : Int32) (x3 : Int32) (x4 : Int32) (x5 : Int32) (kx0 : al.1 x0 = 12) (r0 : Int32) (dt0 : q_Dt) (hm : X11_sum al dt x0 x1 x2 x3 x4 x5 = some (r0, dt0)) : q_Mt l yX11_sum cX11_sum 7 (some FieldType.int) 4 103 D al [.ref x0, .int x1, .int x2, .int x3, .int x4, .int x5] dt 0 (some (.int r0)) dt0 := by
  refine q_Mt.of (by decide) (Nat.le_of_ble_eq_true rfl) ?_
  intro p e s m args below meth c ls C hargs hW hl
  have hx := C.1
  have hb := C.2.1
  have hown := C.2.2.2.2.2.1
  have hts := C.2.2.2.2.2.2.1
  have hS : va_S (q_A al) s.heap s.heap [] := va_S.rf
  have hl : lv_has ls 7 [(0, .ref x0), (1, .int x1), (2, .int x2), (3, .int x3), (4, .int x4), (5, .int x5)] := hl
  unfold X11_sum at hm
  refine lv_aload_n hx hb dX11_sum_0 rfl (lv_at hl 0 rfl) ?_
  refine r_getQ C hW hm (ci := 11) kx0 ff_11_6 cl_11 fl_RX11_51 dX11_sum_1 (fun o1000001 eo1000001 k1000002 hm => ?_)
  refine lv_iload_n hx hb dX11_sum_4 rfl (lv_at hl 1 rfl) ?_
  obtain ⟨b1000003, e1000004, hq1000005⟩ := q_mi hm
  subst e1000004
  have hm := hq1000005
  have k1000006 := k1000002 b1000003 rfl
  obtain ⟨v1000008, hc1000007, hm⟩ := q_b1i hm
  refine q_callV C hW hS (As := [.int x1]) (rest := []) (st1 := [va_rf v1000008]) (c_X10_codeAt l D al dt b1000003 x1 k1000006 v1000008 hc1000007) yl_X10_codeAt vl_X10_codeAt ml_RX11_87 (ci := 10) rfl k1000006 (by decide) rfl ⟨Nat.le_of_ble_eq_true rfl, Nat.le_of_ble_eq_true rfl⟩ hl rfl (Nat.le_of_ble_eq_true rfl) dX11_sum_5 ⟨Nat.le_refl _, Nat.le_refl _⟩ rfl (fun H locs k1000009 hW hS => ?_)
  have k1000009 := q_rk k1000009 (by decide)
  refine q_astoreQ (i := 6) (lv' := [(6, va_rf v1000008), (0, .ref x0), (1, .int x1), (2, .int x2), (3, .int x3), (4, .int x4), (5, .int x5)]) C dX11_sum_8 hl (by decide) rfl (fun ls hl => ?_)
  refine q_aloadQ C dX11_sum_10 (lv_at hl 0 rfl) ?_
  refine lv_iload_n hx hb dX11_sum_12 rfl (lv_at hl 3 rfl) ?_
  refine lv_iload_n hx hb dX11_sum_13 rfl (lv_at hl 4 rfl) ?_
  obtain ⟨v1000011, hc1000010, hm⟩ := q_b1i hm
  refine q_callS C hW hS (As := [va_rf v1000008, .int x2, .int x3]) (rest := []) (st1 := [.int v1000011]) (c_X11_isCell l D al dt v1000008 x2 x3 k1000009 v1000011 hc1000010) yl_X11_isCell sl_X11_isCell ml_RX11_178 rfl ⟨Nat.le_of_ble_eq_true rfl, Nat.le_of_ble_eq_true rfl⟩ hl rfl (Nat.le_of_ble_eq_true rfl) dX11_sum_14 ⟨Nat.le_refl _, Nat.le_refl _⟩ rfl (fun H locs k1000012 hW hS => ?_)
  refine q_ifc hm (fun c1000013 hm => ?_) (fun c1000013 hm => ?_)
  · refine lv_if_eq (tgt := 29) hx hb dX11_sum_17 (by decide) (fun _ => ?_) (fun h => absurd c1000013 h)
    refine lv_ldc (own := RX11) (v := (-1000000000)) hx hb hown (hts _ wc_RX11_182) dX11_sum_29 ?_
    exact e_iD C hW hS hm dX11_sum_31
  refine lv_if_eq (tgt := 29) hx hb dX11_sum_17 (by decide) (fun h => absurd h c1000013) (fun _ => ?_)
  refine lv_aload_n hx hb dX11_sum_20 rfl (lv_at hl 1 rfl) ?_
  refine lv_iload hx hb dX11_sum_21 (lv_at hl 5 rfl) ?_
  obtain ⟨v1000015, hc1000014, hm⟩ := q_b1i hm
  refine q_callV C hW hS (As := [.int x4]) (rest := []) (st1 := [.int v1000015]) (c_X11_isSample l D al dt x0 x4 kx0 v1000015 hc1000014) yl_X11_isSample vl_X11_isSample ml_RX11_136 (ci := 11) rfl kx0 (by decide) rfl ⟨Nat.le_of_ble_eq_true rfl, Nat.le_of_ble_eq_true rfl⟩ hl rfl (Nat.le_of_ble_eq_true rfl) dX11_sum_23 ⟨Nat.le_refl _, Nat.le_refl _⟩ rfl (fun H locs k1000016 hW hS => ?_)
  refine q_ifc hm (fun c1000017 hm => ?_) (fun c1000017 hm => ?_)
  · refine lv_if_ne (tgt := 32) hx hb dX11_sum_26 (by decide) (fun h => absurd c1000017 h) (fun _ => ?_)
    refine lv_ldc (own := RX11) (v := (-1000000000)) hx hb hown (hts _ wc_RX11_182) dX11_sum_29 ?_
    exact e_iD C hW hS hm dX11_sum_31
  refine lv_if_ne (tgt := 32) hx hb dX11_sum_26 (by decide) (fun _ => ?_) (fun h => absurd h c1000017)
  refine lv_aload_n hx hb dX11_sum_32 rfl (lv_at hl 1 rfl) ?_
  refine r_getF C hW (ci := 11) kx0 ff_11_4 cl_11 fl_RX11_37 dX11_sum_33 (fun k1000018 => ?_)
  refine q_aloadQ C dX11_sum_36 (lv_at hl 0 rfl) ?_
  refine lv_iload_n hx hb dX11_sum_38 rfl (lv_at hl 3 rfl) ?_
  refine lv_iload_n hx hb dX11_sum_39 rfl (lv_at hl 4 rfl) ?_
  refine lv_aload_n hx hb dX11_sum_40 rfl (lv_at hl 1 rfl) ?_
  refine r_getF C hW (ci := 11) kx0 ff_11_1 cl_11 fl_RX11_19 dX11_sum_41 (fun k1000019 => ?_)
  refine lv_iload hx hb dX11_sum_44 (lv_at hl 5 rfl) ?_
  refine lv_iload hx hb dX11_sum_46 (lv_at hl 6 rfl) ?_
  obtain ⟨v1000021, hc1000020, hm⟩ := q_b1i hm
  refine q_callS C hW hS (As := [.int x5]) (rest := [.int x4, .ref (al.2.2 x0 1), .int x3, .int x2, va_rf v1000008, .ref (al.2.2 x0 4)]) (st1 := [.int v1000021, .int x4, .ref (al.2.2 x0 1), .int x3, .int x2, va_rf v1000008, .ref (al.2.2 x0 4)]) (c_X11_axis l D al dt x5 v1000021 hc1000020) yl_X11_axis sl_X11_axis ml_RX11_140 rfl ⟨Nat.le_of_ble_eq_true rfl, Nat.le_of_ble_eq_true rfl⟩ hl rfl (by simp [q_cat, q_catR, q_catI, q_catL]) dX11_sum_48 ⟨Nat.le_refl _, Nat.le_refl _⟩ rfl (fun H locs k1000022 hW hS => ?_)
  obtain ⟨v1000024, dt1000025, hc1000023, hm⟩ := q_b2i hm
  refine q_callV C hW hS (As := [va_rf v1000008, .int x2, .int x3, .ref (al.2.2 x0 1), .int x4, .int v1000021]) (rest := []) (st1 := [.long v1000024]) (c_X6_sumOf l D al dt (al.2.2 x0 4) v1000008 x2 x3 (al.2.2 x0 1) x4 v1000021 k1000018 k1000009 k1000019 v1000024 dt1000025 hc1000023) yl_X6_sumOf vl_X6_sumOf ml_RX11_183 (ci := 6) rfl k1000018 (by decide) rfl ⟨Nat.le_of_ble_eq_true rfl, Nat.le_of_ble_eq_true rfl⟩ hl rfl (Nat.le_of_ble_eq_true rfl) dX11_sum_51 ⟨Nat.le_refl _, Nat.le_refl _⟩ rfl (fun H locs k1000026 hW hS => ?_)
  refine lv_l2i (v := (Int64.toInt32 v1000024)) hx hb dX11_sum_54 rfl ?_
  exact e_iD C hW hS hm dX11_sum_55
theorem dX11_searched_0 : decode cX11_searched 0 = .ok (.aload_n 0, 1) := by decide +kernel
theorem dX11_searched_1 : decode cX11_searched 1 = .ok (.iload_n 2, 1) := by decide +kernel
theorem dX11_searched_2 : decode cX11_searched 2 = .ok (.invokevirtual 136, 3) := by decide +kernel
theorem dX11_searched_5 : decode cX11_searched 5 = .ok (.ifCond .eq 25, 3) := by decide +kernel
theorem dX11_searched_8 : decode cX11_searched 8 = .ok (.iload_n 3, 1) := by decide +kernel
theorem dX11_searched_9 : decode cX11_searched 9 = .ok (.iconst 1, 1) := by decide +kernel
theorem dX11_searched_10 : decode cX11_searched 10 = .ok (.if_icmp .lt 20, 3) := by decide +kernel
theorem dX11_searched_13 : decode cX11_searched 13 = .ok (.iload_n 3, 1) := by decide +kernel
theorem dX11_searched_14 : decode cX11_searched 14 = .ok (.bipush 9, 2) := by decide +kernel
theorem dX11_searched_16 : decode cX11_searched 16 = .ok (.if_icmp .gt 14, 3) := by decide +kernel
theorem dX11_searched_19 : decode cX11_searched 19 = .ok (.aload_n 0, 1) := by decide +kernel
theorem dX11_searched_20 : decode cX11_searched 20 = .ok (.getfield 51, 3) := by decide +kernel
theorem dX11_searched_23 : decode cX11_searched 23 = .ok (.iload_n 1, 1) := by decide +kernel
theorem dX11_searched_24 : decode cX11_searched 24 = .ok (.invokevirtual 87, 3) := by decide +kernel
theorem dX11_searched_27 : decode cX11_searched 27 = .ok (.goto 4, 3) := by decide +kernel
theorem dX11_searched_30 : decode cX11_searched 30 = .ok (.aconst_null, 1) := by decide +kernel
theorem dX11_searched_31 : decode cX11_searched 31 = .ok (.areturn, 1) := by decide +kernel
set_option maxRecDepth 100000 in
theorem c_X11_searched (l : Launch) (D : q_D) (al : q_Al) (dt : q_Dt) (x0 : Nat) (x1 : Int32) (x2 : Int32) (x3 : Int32) (kx0 : al.1 x0 = 12) (r0 : Option Nat) (hm : X11_searched al dt x0 x1 x2 x3 = some r0) : q_Mt l yX11_searched cX11_searched 4 (some (FieldType.object "SpreadRows$Code")) 1 21 D al [.ref x0, .int x1, .int x2, .int x3] dt 1 (some (va_rf r0)) dt := by
  refine q_Mt.of (by decide) (Nat.le_of_ble_eq_true rfl) ?_
  intro p e s m args below meth c ls C hargs hW hl
  have hx := C.1
  have hb := C.2.1
  have hown := C.2.2.2.2.2.1
  have hts := C.2.2.2.2.2.2.1
  have hS : va_S (q_A al) s.heap s.heap [] := va_S.rf
  have hl : lv_has ls 4 [(0, .ref x0), (1, .int x1), (2, .int x2), (3, .int x3)] := hl
  unfold X11_searched at hm
  refine lv_aload_n hx hb dX11_searched_0 rfl (lv_at hl 0 rfl) ?_
  refine lv_iload_n hx hb dX11_searched_1 rfl (lv_at hl 2 rfl) ?_
  obtain ⟨v1000002, hc1000001, hm⟩ := q_b1i hm
  refine q_callV C hW hS (As := [.int x2]) (rest := []) (st1 := [.int v1000002]) (c_X11_isSample l D al dt x0 x2 kx0 v1000002 hc1000001) yl_X11_isSample vl_X11_isSample ml_RX11_136 (ci := 11) rfl kx0 (by decide) rfl ⟨Nat.le_of_ble_eq_true rfl, Nat.le_of_ble_eq_true rfl⟩ hl rfl (Nat.le_of_ble_eq_true rfl) dX11_searched_2 ⟨Nat.le_refl _, Nat.le_refl _⟩ rfl (fun H locs k1000003 hW hS => ?_)
  refine q_ifc hm (fun c1000004 hm => ?_) (fun c1000004 hm => ?_)
  · refine lv_if_eq (tgt := 30) hx hb dX11_searched_5 (by decide) (fun _ => ?_) (fun h => absurd c1000004 h)
    refine q_null C dX11_searched_30 ?_
    exact e_a C hW hS (v := none) hm (Or.inr q_kn) dX11_searched_31
  refine lv_if_eq (tgt := 30) hx hb dX11_searched_5 (by decide) (fun h => absurd h c1000004) (fun _ => ?_)
  refine lv_iload_n hx hb dX11_searched_8 rfl (lv_at hl 3 rfl) ?_
  refine lv_iconst (v := 1) hx hb dX11_searched_9 (by decide) ?_
  refine q_ifc hm (fun c1000005 hm => ?_) (fun c1000005 hm => ?_)
  · refine lv_icmp_lt (tgt := 30) hx hb dX11_searched_10 (by decide) (fun _ => ?_) (fun h => absurd c1000005 h)
    refine q_null C dX11_searched_30 ?_
    exact e_a C hW hS (v := none) hm (Or.inr q_kn) dX11_searched_31
  refine lv_icmp_lt (tgt := 30) hx hb dX11_searched_10 (by decide) (fun h => absurd h c1000005) (fun _ => ?_)
  refine lv_iload_n hx hb dX11_searched_13 rfl (lv_at hl 3 rfl) ?_
  refine lv_bipush (v := 9) hx hb dX11_searched_14 (by decide) ?_
  refine q_ifc hm (fun c1000006 hm => ?_) (fun c1000006 hm => ?_)
  · refine lv_icmp_gt (tgt := 30) hx hb dX11_searched_16 (by decide) (fun _ => ?_) (fun h => absurd c1000006 h)
    refine q_null C dX11_searched_30 ?_
    exact e_a C hW hS (v := none) hm (Or.inr q_kn) dX11_searched_31
  refine lv_icmp_gt (tgt := 30) hx hb dX11_searched_16 (by decide) (fun h => absurd h c1000006) (fun _ => ?_)
  refine lv_aload_n hx hb dX11_searched_19 rfl (lv_at hl 0 rfl) ?_
  refine r_getQ C hW hm (ci := 11) kx0 ff_11_6 cl_11 fl_RX11_51 dX11_searched_20 (fun o1000007 eo1000007 k1000008 hm => ?_)
  refine lv_iload_n hx hb dX11_searched_23 rfl (lv_at hl 1 rfl) ?_
  obtain ⟨b1000009, e1000010, hq1000011⟩ := q_mi hm
  subst e1000010
  have hm := hq1000011
  have k1000012 := k1000008 b1000009 rfl
  obtain ⟨v1000014, hc1000013, hm⟩ := q_b1i hm
  refine q_callV C hW hS (As := [.int x1]) (rest := []) (st1 := [va_rf v1000014]) (c_X10_codeAt l D al dt b1000009 x1 k1000012 v1000014 hc1000013) yl_X10_codeAt vl_X10_codeAt ml_RX11_87 (ci := 10) rfl k1000012 (by decide) rfl ⟨Nat.le_of_ble_eq_true rfl, Nat.le_of_ble_eq_true rfl⟩ hl rfl (Nat.le_of_ble_eq_true rfl) dX11_searched_24 ⟨Nat.le_refl _, Nat.le_refl _⟩ rfl (fun H locs k1000015 hW hS => ?_)
  have k1000015 := q_rk k1000015 (by decide)
  refine lv_goto (tgt := 31) hx hb dX11_searched_27 (by decide) ?_
  exact e_a C hW hS (v := v1000014) hm (Or.inr k1000015) dX11_searched_31
theorem dX11_metric_0 : decode cX11_metric 0 = .ok (.aload_n 0, 1) := by decide +kernel
theorem dX11_metric_1 : decode cX11_metric 1 = .ok (.iload_n 1, 1) := by decide +kernel
theorem dX11_metric_2 : decode cX11_metric 2 = .ok (.iload_n 3, 1) := by decide +kernel
theorem dX11_metric_3 : decode cX11_metric 3 = .ok (.iload 4, 2) := by decide +kernel
theorem dX11_metric_5 : decode cX11_metric 5 = .ok (.invokevirtual 187, 3) := by decide +kernel
theorem dX11_metric_8 : decode cX11_metric 8 = .ok (.astore 5, 2) := by decide +kernel
theorem dX11_metric_10 : decode cX11_metric 10 = .ok (.aload 5, 2) := by decide +kernel
theorem dX11_metric_12 : decode cX11_metric 12 = .ok (.ifnull 16, 3) := by decide +kernel
theorem dX11_metric_15 : decode cX11_metric 15 = .ok (.iload_n 2, 1) := by decide +kernel
theorem dX11_metric_16 : decode cX11_metric 16 = .ok (.ifCond .lt 12, 3) := by decide +kernel
theorem dX11_metric_19 : decode cX11_metric 19 = .ok (.iload_n 2, 1) := by decide +kernel
theorem dX11_metric_20 : decode cX11_metric 20 = .ok (.aload 5, 2) := by decide +kernel
theorem dX11_metric_22 : decode cX11_metric 22 = .ok (.invokevirtual 191, 3) := by decide +kernel
theorem dX11_metric_25 : decode cX11_metric 25 = .ok (.if_icmp .lt 7, 3) := by decide +kernel
theorem dX11_metric_28 : decode cX11_metric 28 = .ok (.ldc2_w 152, 3) := by decide +kernel
theorem dX11_metric_31 : decode cX11_metric 31 = .ok (.lreturn, 1) := by decide +kernel
theorem dX11_metric_32 : decode cX11_metric 32 = .ok (.aload_n 0, 1) := by decide +kernel
theorem dX11_metric_33 : decode cX11_metric 33 = .ok (.getfield 37, 3) := by decide +kernel
theorem dX11_metric_36 : decode cX11_metric 36 = .ok (.aload 5, 2) := by decide +kernel
theorem dX11_metric_38 : decode cX11_metric 38 = .ok (.iload_n 2, 1) := by decide +kernel
theorem dX11_metric_39 : decode cX11_metric 39 = .ok (.aload_n 0, 1) := by decide +kernel
theorem dX11_metric_40 : decode cX11_metric 40 = .ok (.getfield 19, 3) := by decide +kernel
theorem dX11_metric_43 : decode cX11_metric 43 = .ok (.iload_n 3, 1) := by decide +kernel
theorem dX11_metric_44 : decode cX11_metric 44 = .ok (.iload 4, 2) := by decide +kernel
theorem dX11_metric_46 : decode cX11_metric 46 = .ok (.invokevirtual 194, 3) := by decide +kernel
theorem dX11_metric_49 : decode cX11_metric 49 = .ok (.lreturn, 1) := by decide +kernel
set_option maxRecDepth 100000 in
theorem c_X11_metric (l : Launch) (D : q_D) (al : q_Al) (dt : q_Dt) (x0 : Nat) (x1 : Int32) (x2 : Int32) (x3 : Int32) (x4 : Int32) (kx0 : al.1 x0 = 12) (r0 : Int64) (dt0 : q_Dt) (hm : X11_metric al dt x0 x1 x2 x3 x4 = some (r0, dt0)) : q_Mt l yX11_metric cX11_metric 6 (some FieldType.long) 5 127 D al [.ref x0, .int x1, .int x2, .int x3, .int x4] dt 0 (some (.long r0)) dt0 := by
  refine q_Mt.of (by decide) (Nat.le_of_ble_eq_true rfl) ?_
  intro p e s m args below meth c ls C hargs hW hl
  have hx := C.1
  have hb := C.2.1
  have hown := C.2.2.2.2.2.1
  have hts := C.2.2.2.2.2.2.1
  have hS : va_S (q_A al) s.heap s.heap [] := va_S.rf
  have hl : lv_has ls 6 [(0, .ref x0), (1, .int x1), (2, .int x2), (3, .int x3), (4, .int x4)] := hl
  unfold X11_metric at hm
  have hB28 : ∀ (dt : q_Dt) (H : Heap) (locs : List Loc) (ls : Array Slot) (hm : X11_metric_b28 al dt = some (r0, dt0)) (hW : q_W D al dt H) (hS : va_S (q_A al) s.heap H locs) (hl : lv_has ls 6 []), W p l e { frames := 5, cells := 0, slots := 0, locals := 127 } s m args below meth c H locs 0 0 (MQ below (q_Q (some (.long r0)) (fun H => q_W D al dt0 H ∧ q_Rk al 0 (some (.long r0))) (q_A al)) args s 0 0 (q_A al)) (F0 m 28 ls []) := by
    intro dt H locs ls hm hW hS hl
    unfold X11_metric_b28 at hm
    refine lv_ldc2 (own := RX11) (v := (-1)) hx hb hown (hts _ wc_RX11_152) dX11_metric_28 ?_
    exact e_lD C hW hS hm dX11_metric_31
  refine lv_aload_n hx hb dX11_metric_0 rfl (lv_at hl 0 rfl) ?_
  refine lv_iload_n hx hb dX11_metric_1 rfl (lv_at hl 1 rfl) ?_
  refine lv_iload_n hx hb dX11_metric_2 rfl (lv_at hl 3 rfl) ?_
  refine lv_iload hx hb dX11_metric_3 (lv_at hl 4 rfl) ?_
  obtain ⟨v1000002, hc1000001, hm⟩ := q_b1i hm
  refine q_callV C hW hS (As := [.int x1, .int x3, .int x4]) (rest := []) (st1 := [va_rf v1000002]) (c_X11_searched l D al dt x0 x1 x3 x4 kx0 v1000002 hc1000001) yl_X11_searched vl_X11_searched ml_RX11_187 (ci := 11) rfl kx0 (by decide) rfl ⟨Nat.le_of_ble_eq_true rfl, Nat.le_of_ble_eq_true rfl⟩ hl rfl (Nat.le_of_ble_eq_true rfl) dX11_metric_5 ⟨Nat.le_refl _, Nat.le_refl _⟩ rfl (fun H locs k1000003 hW hS => ?_)
  have k1000003 := q_rk k1000003 (by decide)
  refine q_astoreQ (i := 5) (lv' := [(5, va_rf v1000002), (0, .ref x0), (1, .int x1), (2, .int x2), (3, .int x3), (4, .int x4)]) C dX11_metric_8 hl (by decide) rfl (fun ls hl => ?_)
  refine q_aloadQ C dX11_metric_10 (lv_at hl 0 rfl) ?_
  refine q_ifnull C hm (tgt := 28) dX11_metric_12 (by decide) (fun e1000006 hq1000007 => ?_) (fun b1000004 e1000006 hq1000007 => ?_)
  · subst e1000006
    have hm := hq1000007
    exact hB28 dt _ _ _ hm hW hS (lv_sub hl [] rfl)
  subst e1000006
  have hm := hq1000007
  have k1000005 := k1000003 b1000004 rfl
  refine lv_iload_n hx hb dX11_metric_15 rfl (lv_at hl 3 rfl) ?_
  refine q_ifc hm (fun c1000008 hm => ?_) (fun c1000008 hm => ?_)
  · refine lv_if_lt (tgt := 28) hx hb dX11_metric_16 (by decide) (fun _ => ?_) (fun h => absurd c1000008 h)
    exact hB28 dt _ _ _ hm hW hS (lv_sub hl [] rfl)
  refine lv_if_lt (tgt := 28) hx hb dX11_metric_16 (by decide) (fun h => absurd h c1000008) (fun _ => ?_)
  refine lv_iload_n hx hb dX11_metric_19 rfl (lv_at hl 3 rfl) ?_
  refine lv_aload hx hb dX11_metric_20 (lv_at hl 0 rfl) ?_
  obtain ⟨v1000010, hc1000009, hm⟩ := q_b1i hm
  refine q_callV C hW hS (As := []) (rest := [.int x2]) (st1 := [.int v1000010, .int x2]) (c_X0_cells l D al dt b1000004 k1000005 v1000010 hc1000009) yl_X0_cells vl_X0_cells ml_RX11_191 (ci := 0) rfl k1000005 (by decide) rfl ⟨Nat.le_of_ble_eq_true rfl, Nat.le_of_ble_eq_true rfl⟩ hl rfl (Nat.le_of_ble_eq_true rfl) dX11_metric_22 ⟨Nat.le_refl _, Nat.le_refl _⟩ rfl (fun H locs k1000011 hW hS => ?_)
  refine q_ifc hm (fun c1000012 hm => ?_) (fun c1000012 hm => ?_)
  · refine lv_icmp_lt (tgt := 32) hx hb dX11_metric_25 (by decide) (fun _ => ?_) (fun h => absurd c1000012 h)
    refine lv_aload_n hx hb dX11_metric_32 rfl (lv_at hl 1 rfl) ?_
    refine r_getF C hW (ci := 11) kx0 ff_11_4 cl_11 fl_RX11_37 dX11_metric_33 (fun k1000013 => ?_)
    refine lv_aload hx hb dX11_metric_36 (lv_at hl 0 rfl) ?_
    refine lv_iload_n hx hb dX11_metric_38 rfl (lv_at hl 3 rfl) ?_
    refine lv_aload_n hx hb dX11_metric_39 rfl (lv_at hl 1 rfl) ?_
    refine r_getF C hW (ci := 11) kx0 ff_11_1 cl_11 fl_RX11_19 dX11_metric_40 (fun k1000014 => ?_)
    refine lv_iload_n hx hb dX11_metric_43 rfl (lv_at hl 4 rfl) ?_
    refine lv_iload hx hb dX11_metric_44 (lv_at hl 5 rfl) ?_
    obtain ⟨v1000016, dt1000017, hc1000015, hm⟩ := q_b2i hm
    refine q_callV C hW hS (As := [.ref b1000004, .int x2, .ref (al.2.2 x0 1), .int x3, .int x4]) (rest := []) (st1 := [.long v1000016]) (c_X6_metricOf l D al dt (al.2.2 x0 4) b1000004 x2 (al.2.2 x0 1) x3 x4 k1000013 k1000005 k1000014 v1000016 dt1000017 hc1000015) yl_X6_metricOf vl_X6_metricOf ml_RX11_194 (ci := 6) rfl k1000013 (by decide) rfl ⟨Nat.le_of_ble_eq_true rfl, Nat.le_of_ble_eq_true rfl⟩ hl rfl (Nat.le_of_ble_eq_true rfl) dX11_metric_46 ⟨Nat.le_refl _, Nat.le_refl _⟩ rfl (fun H locs k1000018 hW hS => ?_)
    exact e_lD C hW hS hm dX11_metric_49
  refine lv_icmp_lt (tgt := 32) hx hb dX11_metric_25 (by decide) (fun h => absurd h c1000012) (fun _ => ?_)
  exact hB28 dt _ _ _ hm hW hS (lv_sub hl [] rfl)
theorem dX11_best_0 : decode cX11_best 0 = .ok (.aload_n 0, 1) := by decide +kernel
theorem dX11_best_1 : decode cX11_best 1 = .ok (.iload_n 1, 1) := by decide +kernel
theorem dX11_best_2 : decode cX11_best 2 = .ok (.iload_n 2, 1) := by decide +kernel
theorem dX11_best_3 : decode cX11_best 3 = .ok (.iload_n 3, 1) := by decide +kernel
theorem dX11_best_4 : decode cX11_best 4 = .ok (.invokevirtual 187, 3) := by decide +kernel
theorem dX11_best_7 : decode cX11_best 7 = .ok (.astore 4, 2) := by decide +kernel
theorem dX11_best_9 : decode cX11_best 9 = .ok (.aload 4, 2) := by decide +kernel
theorem dX11_best_11 : decode cX11_best 11 = .ok (.ifnonnull 5, 3) := by decide +kernel
theorem dX11_best_14 : decode cX11_best 14 = .ok (.iconst (-1), 1) := by decide +kernel
theorem dX11_best_15 : decode cX11_best 15 = .ok (.ireturn, 1) := by decide +kernel
theorem dX11_best_16 : decode cX11_best 16 = .ok (.aload_n 0, 1) := by decide +kernel
theorem dX11_best_17 : decode cX11_best 17 = .ok (.getfield 37, 3) := by decide +kernel
theorem dX11_best_20 : decode cX11_best 20 = .ok (.aload 4, 2) := by decide +kernel
theorem dX11_best_22 : decode cX11_best 22 = .ok (.aload_n 0, 1) := by decide +kernel
theorem dX11_best_23 : decode cX11_best 23 = .ok (.getfield 19, 3) := by decide +kernel
theorem dX11_best_26 : decode cX11_best 26 = .ok (.iload_n 2, 1) := by decide +kernel
theorem dX11_best_27 : decode cX11_best 27 = .ok (.iload_n 3, 1) := by decide +kernel
theorem dX11_best_28 : decode cX11_best 28 = .ok (.invokevirtual 198, 3) := by decide +kernel
theorem dX11_best_31 : decode cX11_best 31 = .ok (.aload_n 0, 1) := by decide +kernel
theorem dX11_best_32 : decode cX11_best 32 = .ok (.getfield 37, 3) := by decide +kernel
theorem dX11_best_35 : decode cX11_best 35 = .ok (.invokevirtual 202, 3) := by decide +kernel
theorem dX11_best_38 : decode cX11_best 38 = .ok (.ireturn, 1) := by decide +kernel
set_option maxRecDepth 100000 in
theorem c_X11_best (l : Launch) (D : q_D) (al : q_Al) (dt : q_Dt) (x0 : Nat) (x1 : Int32) (x2 : Int32) (x3 : Int32) (kx0 : al.1 x0 = 12) (r0 : Int32) (dt0 : q_Dt) (hm : X11_best al dt x0 x1 x2 x3 = some (r0, dt0)) : q_Mt l yX11_best cX11_best 5 (some FieldType.int) 5 126 D al [.ref x0, .int x1, .int x2, .int x3] dt 0 (some (.int r0)) dt0 := by
  refine q_Mt.of (by decide) (Nat.le_of_ble_eq_true rfl) ?_
  intro p e s m args below meth c ls C hargs hW hl
  have hx := C.1
  have hb := C.2.1
  have hown := C.2.2.2.2.2.1
  have hts := C.2.2.2.2.2.2.1
  have hS : va_S (q_A al) s.heap s.heap [] := va_S.rf
  have hl : lv_has ls 5 [(0, .ref x0), (1, .int x1), (2, .int x2), (3, .int x3)] := hl
  unfold X11_best at hm
  refine lv_aload_n hx hb dX11_best_0 rfl (lv_at hl 0 rfl) ?_
  refine lv_iload_n hx hb dX11_best_1 rfl (lv_at hl 1 rfl) ?_
  refine lv_iload_n hx hb dX11_best_2 rfl (lv_at hl 2 rfl) ?_
  refine lv_iload_n hx hb dX11_best_3 rfl (lv_at hl 3 rfl) ?_
  obtain ⟨v1000002, hc1000001, hm⟩ := q_b1i hm
  refine q_callV C hW hS (As := [.int x1, .int x2, .int x3]) (rest := []) (st1 := [va_rf v1000002]) (c_X11_searched l D al dt x0 x1 x2 x3 kx0 v1000002 hc1000001) yl_X11_searched vl_X11_searched ml_RX11_187 (ci := 11) rfl kx0 (by decide) rfl ⟨Nat.le_of_ble_eq_true rfl, Nat.le_of_ble_eq_true rfl⟩ hl rfl (Nat.le_of_ble_eq_true rfl) dX11_best_4 ⟨Nat.le_refl _, Nat.le_refl _⟩ rfl (fun H locs k1000003 hW hS => ?_)
  have k1000003 := q_rk k1000003 (by decide)
  refine q_astoreQ (i := 4) (lv' := [(4, va_rf v1000002), (0, .ref x0), (1, .int x1), (2, .int x2), (3, .int x3)]) C dX11_best_7 hl (by decide) rfl (fun ls hl => ?_)
  refine q_aloadQ C dX11_best_9 (lv_at hl 0 rfl) ?_
  refine q_ifnonnull C hm (tgt := 16) dX11_best_11 (by decide) (fun e1000006 hq1000007 => ?_) (fun b1000004 e1000006 hq1000007 => ?_)
  · subst e1000006
    have hm := hq1000007
    refine lv_iconst (v := (-1)) hx hb dX11_best_14 (by decide) ?_
    exact e_iD C hW hS hm dX11_best_15
  subst e1000006
  have hm := hq1000007
  have k1000005 := k1000003 b1000004 rfl
  refine lv_aload_n hx hb dX11_best_16 rfl (lv_at hl 1 rfl) ?_
  refine r_getF C hW (ci := 11) kx0 ff_11_4 cl_11 fl_RX11_37 dX11_best_17 (fun k1000008 => ?_)
  refine lv_aload hx hb dX11_best_20 (lv_at hl 0 rfl) ?_
  refine lv_aload_n hx hb dX11_best_22 rfl (lv_at hl 1 rfl) ?_
  refine r_getF C hW (ci := 11) kx0 ff_11_1 cl_11 fl_RX11_19 dX11_best_23 (fun k1000009 => ?_)
  refine lv_iload_n hx hb dX11_best_26 rfl (lv_at hl 3 rfl) ?_
  refine lv_iload_n hx hb dX11_best_27 rfl (lv_at hl 4 rfl) ?_
  obtain ⟨dt1000011, hc1000010, hm⟩ := q_b1i hm
  refine q_callV C hW hS (As := [.ref b1000004, .ref (al.2.2 x0 1), .int x2, .int x3]) (rest := []) (st1 := []) (c_X6_survey l D al dt (al.2.2 x0 4) (some b1000004) (al.2.2 x0 1) x2 x3 k1000008 (q_ks k1000005) k1000009 dt1000011 hc1000010) yl_X6_survey vl_X6_survey ml_RX11_198 (ci := 6) rfl k1000008 (by decide) rfl ⟨Nat.le_of_ble_eq_true rfl, Nat.le_of_ble_eq_true rfl⟩ hl rfl (Nat.le_of_ble_eq_true rfl) dX11_best_28 ⟨Nat.le_refl _, Nat.le_refl _⟩ rfl (fun H locs k1000012 hW hS => ?_)
  refine lv_aload_n hx hb dX11_best_31 rfl (lv_at hl 1 rfl) ?_
  refine r_getF C hW (ci := 11) kx0 ff_11_4 cl_11 fl_RX11_37 dX11_best_32 (fun k1000013 => ?_)
  obtain ⟨v1000015, hc1000014, hm⟩ := q_b1i hm
  refine q_callV C hW hS (As := []) (rest := []) (st1 := [.int v1000015]) (c_X6_greatestCell l D al dt1000011 (al.2.2 x0 4) k1000013 v1000015 hc1000014) yl_X6_greatestCell vl_X6_greatestCell ml_RX11_202 (ci := 6) rfl k1000013 (by decide) rfl ⟨Nat.le_of_ble_eq_true rfl, Nat.le_of_ble_eq_true rfl⟩ hl rfl (Nat.le_of_ble_eq_true rfl) dX11_best_35 ⟨Nat.le_refl _, Nat.le_refl _⟩ rfl (fun H locs k1000016 hW hS => ?_)
  exact e_iD C hW hS hm dX11_best_38
theorem dX11_second_0 : decode cX11_second 0 = .ok (.aload_n 0, 1) := by decide +kernel
theorem dX11_second_1 : decode cX11_second 1 = .ok (.iload_n 1, 1) := by decide +kernel
theorem dX11_second_2 : decode cX11_second 2 = .ok (.iload_n 2, 1) := by decide +kernel
theorem dX11_second_3 : decode cX11_second 3 = .ok (.iload_n 3, 1) := by decide +kernel
theorem dX11_second_4 : decode cX11_second 4 = .ok (.invokevirtual 187, 3) := by decide +kernel
theorem dX11_second_7 : decode cX11_second 7 = .ok (.astore 5, 2) := by decide +kernel
theorem dX11_second_9 : decode cX11_second 9 = .ok (.aload 5, 2) := by decide +kernel
theorem dX11_second_11 : decode cX11_second 11 = .ok (.ifnull 15, 3) := by decide +kernel
theorem dX11_second_14 : decode cX11_second 14 = .ok (.iload 4, 2) := by decide +kernel
theorem dX11_second_16 : decode cX11_second 16 = .ok (.ifCond .lt 10, 3) := by decide +kernel
theorem dX11_second_19 : decode cX11_second 19 = .ok (.iload 4, 2) := by decide +kernel
theorem dX11_second_21 : decode cX11_second 21 = .ok (.bipush 60, 2) := by decide +kernel
theorem dX11_second_23 : decode cX11_second 23 = .ok (.if_icmp .le 5, 3) := by decide +kernel
theorem dX11_second_26 : decode cX11_second 26 = .ok (.iconst (-1), 1) := by decide +kernel
theorem dX11_second_27 : decode cX11_second 27 = .ok (.ireturn, 1) := by decide +kernel
theorem dX11_second_28 : decode cX11_second 28 = .ok (.aload_n 0, 1) := by decide +kernel
theorem dX11_second_29 : decode cX11_second 29 = .ok (.getfield 37, 3) := by decide +kernel
theorem dX11_second_32 : decode cX11_second 32 = .ok (.aload 5, 2) := by decide +kernel
theorem dX11_second_34 : decode cX11_second 34 = .ok (.aload_n 0, 1) := by decide +kernel
theorem dX11_second_35 : decode cX11_second 35 = .ok (.getfield 19, 3) := by decide +kernel
theorem dX11_second_38 : decode cX11_second 38 = .ok (.iload_n 2, 1) := by decide +kernel
theorem dX11_second_39 : decode cX11_second 39 = .ok (.iload_n 3, 1) := by decide +kernel
theorem dX11_second_40 : decode cX11_second 40 = .ok (.invokevirtual 198, 3) := by decide +kernel
theorem dX11_second_43 : decode cX11_second 43 = .ok (.aload_n 0, 1) := by decide +kernel
theorem dX11_second_44 : decode cX11_second 44 = .ok (.getfield 37, 3) := by decide +kernel
theorem dX11_second_47 : decode cX11_second 47 = .ok (.aload_n 0, 1) := by decide +kernel
theorem dX11_second_48 : decode cX11_second 48 = .ok (.getfield 37, 3) := by decide +kernel
theorem dX11_second_51 : decode cX11_second 51 = .ok (.invokevirtual 202, 3) := by decide +kernel
theorem dX11_second_54 : decode cX11_second 54 = .ok (.iload 4, 2) := by decide +kernel
theorem dX11_second_56 : decode cX11_second 56 = .ok (.invokevirtual 205, 3) := by decide +kernel
theorem dX11_second_59 : decode cX11_second 59 = .ok (.ireturn, 1) := by decide +kernel
set_option maxRecDepth 100000 in
theorem c_X11_second (l : Launch) (D : q_D) (al : q_Al) (dt : q_Dt) (x0 : Nat) (x1 : Int32) (x2 : Int32) (x3 : Int32) (x4 : Int32) (kx0 : al.1 x0 = 12) (r0 : Int32) (dt0 : q_Dt) (hm : X11_second al dt x0 x1 x2 x3 x4 = some (r0, dt0)) : q_Mt l yX11_second cX11_second 6 (some FieldType.int) 5 126 D al [.ref x0, .int x1, .int x2, .int x3, .int x4] dt 0 (some (.int r0)) dt0 := by
  refine q_Mt.of (by decide) (Nat.le_of_ble_eq_true rfl) ?_
  intro p e s m args below meth c ls C hargs hW hl
  have hx := C.1
  have hb := C.2.1
  have hown := C.2.2.2.2.2.1
  have hts := C.2.2.2.2.2.2.1
  have hS : va_S (q_A al) s.heap s.heap [] := va_S.rf
  have hl : lv_has ls 6 [(0, .ref x0), (1, .int x1), (2, .int x2), (3, .int x3), (4, .int x4)] := hl
  unfold X11_second at hm
  refine lv_aload_n hx hb dX11_second_0 rfl (lv_at hl 0 rfl) ?_
  refine lv_iload_n hx hb dX11_second_1 rfl (lv_at hl 1 rfl) ?_
  refine lv_iload_n hx hb dX11_second_2 rfl (lv_at hl 2 rfl) ?_
  refine lv_iload_n hx hb dX11_second_3 rfl (lv_at hl 3 rfl) ?_
  obtain ⟨v1000002, hc1000001, hm⟩ := q_b1i hm
  refine q_callV C hW hS (As := [.int x1, .int x2, .int x3]) (rest := []) (st1 := [va_rf v1000002]) (c_X11_searched l D al dt x0 x1 x2 x3 kx0 v1000002 hc1000001) yl_X11_searched vl_X11_searched ml_RX11_187 (ci := 11) rfl kx0 (by decide) rfl ⟨Nat.le_of_ble_eq_true rfl, Nat.le_of_ble_eq_true rfl⟩ hl rfl (Nat.le_of_ble_eq_true rfl) dX11_second_4 ⟨Nat.le_refl _, Nat.le_refl _⟩ rfl (fun H locs k1000003 hW hS => ?_)
  have k1000003 := q_rk k1000003 (by decide)
  refine q_astoreQ (i := 5) (lv' := [(5, va_rf v1000002), (0, .ref x0), (1, .int x1), (2, .int x2), (3, .int x3), (4, .int x4)]) C dX11_second_7 hl (by decide) rfl (fun ls hl => ?_)
  refine q_aloadQ C dX11_second_9 (lv_at hl 0 rfl) ?_
  refine q_ifnull C hm (tgt := 26) dX11_second_11 (by decide) (fun e1000006 hq1000007 => ?_) (fun b1000004 e1000006 hq1000007 => ?_)
  · subst e1000006
    have hm := hq1000007
    refine lv_iconst (v := (-1)) hx hb dX11_second_26 (by decide) ?_
    exact e_iD C hW hS hm dX11_second_27
  subst e1000006
  have hm := hq1000007
  have k1000005 := k1000003 b1000004 rfl
  refine lv_iload hx hb dX11_second_14 (lv_at hl 5 rfl) ?_
  refine q_ifc hm (fun c1000008 hm => ?_) (fun c1000008 hm => ?_)
  · refine lv_if_lt (tgt := 26) hx hb dX11_second_16 (by decide) (fun _ => ?_) (fun h => absurd c1000008 h)
    refine lv_iconst (v := (-1)) hx hb dX11_second_26 (by decide) ?_
    exact e_iD C hW hS hm dX11_second_27
  refine lv_if_lt (tgt := 26) hx hb dX11_second_16 (by decide) (fun h => absurd h c1000008) (fun _ => ?_)
  refine lv_iload hx hb dX11_second_19 (lv_at hl 5 rfl) ?_
  refine lv_bipush (v := 60) hx hb dX11_second_21 (by decide) ?_
  refine q_ifc hm (fun c1000009 hm => ?_) (fun c1000009 hm => ?_)
  · refine lv_icmp_le (tgt := 28) hx hb dX11_second_23 (by decide) (fun _ => ?_) (fun h => absurd c1000009 h)
    refine lv_aload_n hx hb dX11_second_28 rfl (lv_at hl 1 rfl) ?_
    refine r_getF C hW (ci := 11) kx0 ff_11_4 cl_11 fl_RX11_37 dX11_second_29 (fun k1000010 => ?_)
    refine lv_aload hx hb dX11_second_32 (lv_at hl 0 rfl) ?_
    refine lv_aload_n hx hb dX11_second_34 rfl (lv_at hl 1 rfl) ?_
    refine r_getF C hW (ci := 11) kx0 ff_11_1 cl_11 fl_RX11_19 dX11_second_35 (fun k1000011 => ?_)
    refine lv_iload_n hx hb dX11_second_38 rfl (lv_at hl 3 rfl) ?_
    refine lv_iload_n hx hb dX11_second_39 rfl (lv_at hl 4 rfl) ?_
    obtain ⟨dt1000013, hc1000012, hm⟩ := q_b1i hm
    refine q_callV C hW hS (As := [.ref b1000004, .ref (al.2.2 x0 1), .int x2, .int x3]) (rest := []) (st1 := []) (c_X6_survey l D al dt (al.2.2 x0 4) (some b1000004) (al.2.2 x0 1) x2 x3 k1000010 (q_ks k1000005) k1000011 dt1000013 hc1000012) yl_X6_survey vl_X6_survey ml_RX11_198 (ci := 6) rfl k1000010 (by decide) rfl ⟨Nat.le_of_ble_eq_true rfl, Nat.le_of_ble_eq_true rfl⟩ hl rfl (Nat.le_of_ble_eq_true rfl) dX11_second_40 ⟨Nat.le_refl _, Nat.le_refl _⟩ rfl (fun H locs k1000014 hW hS => ?_)
    refine lv_aload_n hx hb dX11_second_43 rfl (lv_at hl 1 rfl) ?_
    refine r_getF C hW (ci := 11) kx0 ff_11_4 cl_11 fl_RX11_37 dX11_second_44 (fun k1000015 => ?_)
    refine lv_aload_n hx hb dX11_second_47 rfl (lv_at hl 1 rfl) ?_
    refine r_getF C hW (ci := 11) kx0 ff_11_4 cl_11 fl_RX11_37 dX11_second_48 (fun k1000016 => ?_)
    obtain ⟨v1000018, hc1000017, hm⟩ := q_b1i hm
    refine q_callV C hW hS (As := []) (rest := [.ref (al.2.2 x0 4)]) (st1 := [.int v1000018, .ref (al.2.2 x0 4)]) (c_X6_greatestCell l D al dt1000013 (al.2.2 x0 4) k1000016 v1000018 hc1000017) yl_X6_greatestCell vl_X6_greatestCell ml_RX11_202 (ci := 6) rfl k1000016 (by decide) rfl ⟨Nat.le_of_ble_eq_true rfl, Nat.le_of_ble_eq_true rfl⟩ hl rfl (Nat.le_of_ble_eq_true rfl) dX11_second_51 ⟨Nat.le_refl _, Nat.le_refl _⟩ rfl (fun H locs k1000019 hW hS => ?_)
    refine lv_iload hx hb dX11_second_54 (lv_at hl 5 rfl) ?_
    obtain ⟨v1000021, hc1000020, hm⟩ := q_b1i hm
    refine q_callV C hW hS (As := [.int v1000018, .int x4]) (rest := []) (st1 := [.int v1000021]) (c_X6_cellBeside l D al dt1000013 (al.2.2 x0 4) v1000018 x4 k1000015 v1000021 hc1000020) yl_X6_cellBeside vl_X6_cellBeside ml_RX11_205 (ci := 6) rfl k1000015 (by decide) rfl ⟨Nat.le_of_ble_eq_true rfl, Nat.le_of_ble_eq_true rfl⟩ hl rfl (Nat.le_of_ble_eq_true rfl) dX11_second_56 ⟨Nat.le_refl _, Nat.le_refl _⟩ rfl (fun H locs k1000022 hW hS => ?_)
    exact e_iD C hW hS hm dX11_second_59
  refine lv_icmp_le (tgt := 28) hx hb dX11_second_23 (by decide) (fun h => absurd h c1000009) (fun _ => ?_)
  refine lv_iconst (v := (-1)) hx hb dX11_second_26 (by decide) ?_
  exact e_iD C hW hS hm dX11_second_27
theorem dX11_peak_0 : decode cX11_peak 0 = .ok (.aload_n 0, 1) := by decide +kernel
theorem dX11_peak_1 : decode cX11_peak 1 = .ok (.iload_n 1, 1) := by decide +kernel
theorem dX11_peak_2 : decode cX11_peak 2 = .ok (.iload_n 3, 1) := by decide +kernel
theorem dX11_peak_3 : decode cX11_peak 3 = .ok (.iload 4, 2) := by decide +kernel
theorem dX11_peak_5 : decode cX11_peak 5 = .ok (.invokevirtual 187, 3) := by decide +kernel
theorem dX11_peak_8 : decode cX11_peak 8 = .ok (.astore 6, 2) := by decide +kernel
theorem dX11_peak_10 : decode cX11_peak 10 = .ok (.aload 6, 2) := by decide +kernel
theorem dX11_peak_12 : decode cX11_peak 12 = .ok (.iload 5, 2) := by decide +kernel
theorem dX11_peak_14 : decode cX11_peak 14 = .ok (.iload_n 2, 1) := by decide +kernel
theorem dX11_peak_15 : decode cX11_peak 15 = .ok (.invokestatic 178, 3) := by decide +kernel
theorem dX11_peak_18 : decode cX11_peak 18 = .ok (.ifCond .ne 5, 3) := by decide +kernel
theorem dX11_peak_21 : decode cX11_peak 21 = .ok (.iconst (-1), 1) := by decide +kernel
theorem dX11_peak_22 : decode cX11_peak 22 = .ok (.ireturn, 1) := by decide +kernel
theorem dX11_peak_23 : decode cX11_peak 23 = .ok (.aload_n 0, 1) := by decide +kernel
theorem dX11_peak_24 : decode cX11_peak 24 = .ok (.getfield 37, 3) := by decide +kernel
theorem dX11_peak_27 : decode cX11_peak 27 = .ok (.aload 6, 2) := by decide +kernel
theorem dX11_peak_29 : decode cX11_peak 29 = .ok (.aload_n 0, 1) := by decide +kernel
theorem dX11_peak_30 : decode cX11_peak 30 = .ok (.getfield 19, 3) := by decide +kernel
theorem dX11_peak_33 : decode cX11_peak 33 = .ok (.iload_n 3, 1) := by decide +kernel
theorem dX11_peak_34 : decode cX11_peak 34 = .ok (.iload 4, 2) := by decide +kernel
theorem dX11_peak_36 : decode cX11_peak 36 = .ok (.invokevirtual 198, 3) := by decide +kernel
theorem dX11_peak_39 : decode cX11_peak 39 = .ok (.aload_n 0, 1) := by decide +kernel
theorem dX11_peak_40 : decode cX11_peak 40 = .ok (.getfield 37, 3) := by decide +kernel
theorem dX11_peak_43 : decode cX11_peak 43 = .ok (.iload_n 2, 1) := by decide +kernel
theorem dX11_peak_44 : decode cX11_peak 44 = .ok (.iload 5, 2) := by decide +kernel
theorem dX11_peak_46 : decode cX11_peak 46 = .ok (.invokevirtual 208, 3) := by decide +kernel
theorem dX11_peak_49 : decode cX11_peak 49 = .ok (.ireturn, 1) := by decide +kernel
set_option maxRecDepth 100000 in
theorem c_X11_peak (l : Launch) (D : q_D) (al : q_Al) (dt : q_Dt) (x0 : Nat) (x1 : Int32) (x2 : Int32) (x3 : Int32) (x4 : Int32) (x5 : Int32) (kx0 : al.1 x0 = 12) (r0 : Int32) (dt0 : q_Dt) (hm : X11_peak al dt x0 x1 x2 x3 x4 x5 = some (r0, dt0)) : q_Mt l yX11_peak cX11_peak 7 (some FieldType.int) 5 126 D al [.ref x0, .int x1, .int x2, .int x3, .int x4, .int x5] dt 0 (some (.int r0)) dt0 := by
  refine q_Mt.of (by decide) (Nat.le_of_ble_eq_true rfl) ?_
  intro p e s m args below meth c ls C hargs hW hl
  have hx := C.1
  have hb := C.2.1
  have hown := C.2.2.2.2.2.1
  have hts := C.2.2.2.2.2.2.1
  have hS : va_S (q_A al) s.heap s.heap [] := va_S.rf
  have hl : lv_has ls 7 [(0, .ref x0), (1, .int x1), (2, .int x2), (3, .int x3), (4, .int x4), (5, .int x5)] := hl
  unfold X11_peak at hm
  refine lv_aload_n hx hb dX11_peak_0 rfl (lv_at hl 0 rfl) ?_
  refine lv_iload_n hx hb dX11_peak_1 rfl (lv_at hl 1 rfl) ?_
  refine lv_iload_n hx hb dX11_peak_2 rfl (lv_at hl 3 rfl) ?_
  refine lv_iload hx hb dX11_peak_3 (lv_at hl 4 rfl) ?_
  obtain ⟨v1000002, hc1000001, hm⟩ := q_b1i hm
  refine q_callV C hW hS (As := [.int x1, .int x3, .int x4]) (rest := []) (st1 := [va_rf v1000002]) (c_X11_searched l D al dt x0 x1 x3 x4 kx0 v1000002 hc1000001) yl_X11_searched vl_X11_searched ml_RX11_187 (ci := 11) rfl kx0 (by decide) rfl ⟨Nat.le_of_ble_eq_true rfl, Nat.le_of_ble_eq_true rfl⟩ hl rfl (Nat.le_of_ble_eq_true rfl) dX11_peak_5 ⟨Nat.le_refl _, Nat.le_refl _⟩ rfl (fun H locs k1000003 hW hS => ?_)
  have k1000003 := q_rk k1000003 (by decide)
  refine q_astoreQ (i := 6) (lv' := [(6, va_rf v1000002), (0, .ref x0), (1, .int x1), (2, .int x2), (3, .int x3), (4, .int x4), (5, .int x5)]) C dX11_peak_8 hl (by decide) rfl (fun ls hl => ?_)
  refine q_aloadQ C dX11_peak_10 (lv_at hl 0 rfl) ?_
  refine lv_iload hx hb dX11_peak_12 (lv_at hl 6 rfl) ?_
  refine lv_iload_n hx hb dX11_peak_14 rfl (lv_at hl 3 rfl) ?_
  obtain ⟨v1000005, hc1000004, hm⟩ := q_b1i hm
  refine q_callS C hW hS (As := [va_rf v1000002, .int x5, .int x2]) (rest := []) (st1 := [.int v1000005]) (c_X11_isCell l D al dt v1000002 x5 x2 k1000003 v1000005 hc1000004) yl_X11_isCell sl_X11_isCell ml_RX11_178 rfl ⟨Nat.le_of_ble_eq_true rfl, Nat.le_of_ble_eq_true rfl⟩ hl rfl (Nat.le_of_ble_eq_true rfl) dX11_peak_15 ⟨Nat.le_refl _, Nat.le_refl _⟩ rfl (fun H locs k1000006 hW hS => ?_)
  refine q_ifc hm (fun c1000007 hm => ?_) (fun c1000007 hm => ?_)
  · refine lv_if_ne (tgt := 23) hx hb dX11_peak_18 (by decide) (fun h => absurd c1000007 h) (fun _ => ?_)
    refine lv_iconst (v := (-1)) hx hb dX11_peak_21 (by decide) ?_
    exact e_iD C hW hS hm dX11_peak_22
  refine lv_if_ne (tgt := 23) hx hb dX11_peak_18 (by decide) (fun _ => ?_) (fun h => absurd h c1000007)
  refine lv_aload_n hx hb dX11_peak_23 rfl (lv_at hl 1 rfl) ?_
  refine r_getF C hW (ci := 11) kx0 ff_11_4 cl_11 fl_RX11_37 dX11_peak_24 (fun k1000008 => ?_)
  refine q_aloadQ C dX11_peak_27 (lv_at hl 0 rfl) ?_
  refine lv_aload_n hx hb dX11_peak_29 rfl (lv_at hl 1 rfl) ?_
  refine r_getF C hW (ci := 11) kx0 ff_11_1 cl_11 fl_RX11_19 dX11_peak_30 (fun k1000009 => ?_)
  refine lv_iload_n hx hb dX11_peak_33 rfl (lv_at hl 4 rfl) ?_
  refine lv_iload hx hb dX11_peak_34 (lv_at hl 5 rfl) ?_
  obtain ⟨dt1000011, hc1000010, hm⟩ := q_b1i hm
  refine q_callV C hW hS (As := [va_rf v1000002, .ref (al.2.2 x0 1), .int x3, .int x4]) (rest := []) (st1 := []) (c_X6_survey l D al dt (al.2.2 x0 4) v1000002 (al.2.2 x0 1) x3 x4 k1000008 k1000003 k1000009 dt1000011 hc1000010) yl_X6_survey vl_X6_survey ml_RX11_198 (ci := 6) rfl k1000008 (by decide) rfl ⟨Nat.le_of_ble_eq_true rfl, Nat.le_of_ble_eq_true rfl⟩ hl rfl (Nat.le_of_ble_eq_true rfl) dX11_peak_36 ⟨Nat.le_refl _, Nat.le_refl _⟩ rfl (fun H locs k1000012 hW hS => ?_)
  refine lv_aload_n hx hb dX11_peak_39 rfl (lv_at hl 1 rfl) ?_
  refine r_getF C hW (ci := 11) kx0 ff_11_4 cl_11 fl_RX11_37 dX11_peak_40 (fun k1000013 => ?_)
  refine lv_iload_n hx hb dX11_peak_43 rfl (lv_at hl 3 rfl) ?_
  refine lv_iload hx hb dX11_peak_44 (lv_at hl 6 rfl) ?_
  obtain ⟨v1000015, hc1000014, hm⟩ := q_b1i hm
  refine q_callV C hW hS (As := [.int x2, .int x5]) (rest := []) (st1 := [.int v1000015]) (c_X6_delayOfRank l D al dt1000011 (al.2.2 x0 4) x2 x5 k1000013 v1000015 hc1000014) yl_X6_delayOfRank vl_X6_delayOfRank ml_RX11_208 (ci := 6) rfl k1000013 (by decide) rfl ⟨Nat.le_of_ble_eq_true rfl, Nat.le_of_ble_eq_true rfl⟩ hl rfl (Nat.le_of_ble_eq_true rfl) dX11_peak_46 ⟨Nat.le_refl _, Nat.le_refl _⟩ rfl (fun H locs k1000016 hW hS => ?_)
  exact e_iD C hW hS hm dX11_peak_49
