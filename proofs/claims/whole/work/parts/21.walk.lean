theorem dX11_jammed_0 : decode cX11_jammed 0 = .ok (.aload_n 0, 1) := by decide +kernel
theorem dX11_jammed_1 : decode cX11_jammed 1 = .ok (.getfield 51, 3) := by decide +kernel
theorem dX11_jammed_4 : decode cX11_jammed 4 = .ok (.iload_n 1, 1) := by decide +kernel
theorem dX11_jammed_5 : decode cX11_jammed 5 = .ok (.invokevirtual 317, 3) := by decide +kernel
theorem dX11_jammed_8 : decode cX11_jammed 8 = .ok (.astore_n 3, 1) := by decide +kernel
theorem dX11_jammed_9 : decode cX11_jammed 9 = .ok (.aload_n 3, 1) := by decide +kernel
theorem dX11_jammed_10 : decode cX11_jammed 10 = .ok (.ifnonnull 7, 3) := by decide +kernel
theorem dX11_jammed_13 : decode cX11_jammed 13 = .ok (.iconst (-1), 1) := by decide +kernel
theorem dX11_jammed_14 : decode cX11_jammed 14 = .ok (.goto 8, 3) := by decide +kernel
theorem dX11_jammed_17 : decode cX11_jammed 17 = .ok (.aload_n 3, 1) := by decide +kernel
theorem dX11_jammed_18 : decode cX11_jammed 18 = .ok (.iload_n 2, 1) := by decide +kernel
theorem dX11_jammed_19 : decode cX11_jammed 19 = .ok (.invokevirtual 348, 3) := by decide +kernel
theorem dX11_jammed_22 : decode cX11_jammed 22 = .ok (.ireturn, 1) := by decide +kernel
set_option maxRecDepth 100000 in
theorem c_X11_jammed (l : Launch) (D : q_D) (al : q_Al) (dt : q_Dt) (x0 : Nat) (x1 : Int32) (x2 : Int32) (kx0 : al.1 x0 = 12) (r0 : Int32) (hm : X11_jammed al dt x0 x1 x2 = some r0) : q_Mt l yX11_jammed cX11_jammed 4 (some FieldType.int) 3 70 D al [.ref x0, .int x1, .int x2] dt 0 (some (.int r0)) dt := by
  refine q_Mt.of (by decide) (Nat.le_of_ble_eq_true rfl) ?_
  intro p e s m args below meth c ls C hargs hW hl
  have hx := C.1
  have hb := C.2.1
  have hown := C.2.2.2.2.2.1
  have hts := C.2.2.2.2.2.2.1
  have hS : va_S (q_A al) s.heap s.heap [] := va_S.rf
  have hl : lv_has ls 4 [(0, .ref x0), (1, .int x1), (2, .int x2)] := hl
  unfold X11_jammed at hm
  refine lv_aload_n hx hb dX11_jammed_0 rfl (lv_at hl 0 rfl) ?_
  refine r_getQ C hW hm (ci := 11) kx0 ff_11_6 cl_11 fl_RX11_51 dX11_jammed_1 (fun o1000001 eo1000001 k1000002 hm => ?_)
  refine lv_iload_n hx hb dX11_jammed_4 rfl (lv_at hl 1 rfl) ?_
  obtain ⟨b1000003, e1000004, hq1000005⟩ := q_mi hm
  subst e1000004
  have hm := hq1000005
  have k1000006 := k1000002 b1000003 rfl
  obtain ⟨v1000008, hc1000007, hm⟩ := q_b1i hm
  refine q_callV C hW hS (As := [.int x1]) (rest := []) (st1 := [va_rf v1000008]) (c_X10_hopAt l D al dt b1000003 x1 k1000006 v1000008 hc1000007) yl_X10_hopAt vl_X10_hopAt ml_RX11_317 (ci := 10) rfl k1000006 (by decide) rfl ⟨Nat.le_of_ble_eq_true rfl, Nat.le_of_ble_eq_true rfl⟩ hl rfl (Nat.le_of_ble_eq_true rfl) dX11_jammed_5 ⟨Nat.le_refl _, Nat.le_refl _⟩ rfl (fun H locs k1000009 hW hS => ?_)
  have k1000009 := q_rk k1000009 (by decide)
  refine q_astoreQ_n (i := 3) (lv' := [(3, va_rf v1000008), (0, .ref x0), (1, .int x1), (2, .int x2)]) C dX11_jammed_8 rfl hl (by decide) rfl (fun ls hl => ?_)
  refine q_aloadQ_n C dX11_jammed_9 rfl (lv_at hl 0 rfl) ?_
  refine q_ifnonnull C hm (tgt := 17) dX11_jammed_10 (by decide) (fun e1000012 hq1000013 => ?_) (fun b1000010 e1000012 hq1000013 => ?_)
  · subst e1000012
    have hm := hq1000013
    refine lv_iconst (v := (-1)) hx hb dX11_jammed_13 (by decide) ?_
    refine lv_goto (tgt := 22) hx hb dX11_jammed_14 (by decide) ?_
    exact e_i C hW hS hm dX11_jammed_22
  subst e1000012
  have hm := hq1000013
  have k1000011 := k1000009 b1000010 rfl
  refine lv_aload_n hx hb dX11_jammed_17 rfl (lv_at hl 0 rfl) ?_
  refine lv_iload_n hx hb dX11_jammed_18 rfl (lv_at hl 3 rfl) ?_
  obtain ⟨v1000015, hc1000014, hm⟩ := q_b1i hm
  refine q_callV C hW hS (As := [.int x2]) (rest := []) (st1 := [.int v1000015]) (c_X1_slotsIn l D al dt b1000010 x2 k1000011 v1000015 hc1000014) yl_X1_slotsIn vl_X1_slotsIn ml_RX11_348 (ci := 1) rfl k1000011 (by decide) rfl ⟨Nat.le_of_ble_eq_true rfl, Nat.le_of_ble_eq_true rfl⟩ hl rfl (Nat.le_of_ble_eq_true rfl) dX11_jammed_19 ⟨Nat.le_refl _, Nat.le_refl _⟩ rfl (fun H locs k1000016 hW hS => ?_)
  exact e_i C hW hS hm dX11_jammed_22
theorem dX11_strongest_0 : decode cX11_strongest 0 = .ok (.aload_n 0, 1) := by decide +kernel
theorem dX11_strongest_1 : decode cX11_strongest 1 = .ok (.getfield 51, 3) := by decide +kernel
theorem dX11_strongest_4 : decode cX11_strongest 4 = .ok (.iload_n 1, 1) := by decide +kernel
theorem dX11_strongest_5 : decode cX11_strongest 5 = .ok (.invokevirtual 317, 3) := by decide +kernel
theorem dX11_strongest_8 : decode cX11_strongest 8 = .ok (.astore_n 3, 1) := by decide +kernel
theorem dX11_strongest_9 : decode cX11_strongest 9 = .ok (.aload_n 3, 1) := by decide +kernel
theorem dX11_strongest_10 : decode cX11_strongest 10 = .ok (.ifnull 15, 3) := by decide +kernel
theorem dX11_strongest_13 : decode cX11_strongest 13 = .ok (.iload_n 2, 1) := by decide +kernel
theorem dX11_strongest_14 : decode cX11_strongest 14 = .ok (.ifCond .lt 11, 3) := by decide +kernel
theorem dX11_strongest_17 : decode cX11_strongest 17 = .ok (.iload_n 2, 1) := by decide +kernel
theorem dX11_strongest_18 : decode cX11_strongest 18 = .ok (.aload_n 3, 1) := by decide +kernel
theorem dX11_strongest_19 : decode cX11_strongest 19 = .ok (.getfield 330, 3) := by decide +kernel
theorem dX11_strongest_22 : decode cX11_strongest 22 = .ok (.if_icmp .le 7, 3) := by decide +kernel
theorem dX11_strongest_25 : decode cX11_strongest 25 = .ok (.iconst (-1), 1) := by decide +kernel
theorem dX11_strongest_26 : decode cX11_strongest 26 = .ok (.goto 8, 3) := by decide +kernel
theorem dX11_strongest_29 : decode cX11_strongest 29 = .ok (.aload_n 3, 1) := by decide +kernel
theorem dX11_strongest_30 : decode cX11_strongest 30 = .ok (.iload_n 2, 1) := by decide +kernel
theorem dX11_strongest_31 : decode cX11_strongest 31 = .ok (.invokevirtual 351, 3) := by decide +kernel
theorem dX11_strongest_34 : decode cX11_strongest 34 = .ok (.ireturn, 1) := by decide +kernel
set_option maxRecDepth 100000 in
theorem c_X11_strongest (l : Launch) (D : q_D) (al : q_Al) (dt : q_Dt) (x0 : Nat) (x1 : Int32) (x2 : Int32) (kx0 : al.1 x0 = 12) (r0 : Int32) (hm : X11_strongest al dt x0 x1 x2 = some r0) : q_Mt l yX11_strongest cX11_strongest 4 (some FieldType.int) 5 118 D al [.ref x0, .int x1, .int x2] dt 0 (some (.int r0)) dt := by
  refine q_Mt.of (by decide) (Nat.le_of_ble_eq_true rfl) ?_
  intro p e s m args below meth c ls C hargs hW hl
  have hx := C.1
  have hb := C.2.1
  have hown := C.2.2.2.2.2.1
  have hts := C.2.2.2.2.2.2.1
  have hS : va_S (q_A al) s.heap s.heap [] := va_S.rf
  have hl : lv_has ls 4 [(0, .ref x0), (1, .int x1), (2, .int x2)] := hl
  unfold X11_strongest at hm
  have hB25 : ∀ (H : Heap) (locs : List Loc) (ls : Array Slot) (hm : X11_strongest_b25 al dt = some r0) (hW : q_W D al dt H) (hS : va_S (q_A al) s.heap H locs) (hl : lv_has ls 4 []), W p l e { frames := 5, cells := 0, slots := 0, locals := 118 } s m args below meth c H locs 0 0 (MQ below (q_Q (some (.int r0)) (fun H => q_W D al dt H ∧ q_Rk al 0 (some (.int r0))) (q_A al)) args s 0 0 (q_A al)) (F0 m 25 ls []) := by
    intro H locs ls hm hW hS hl
    unfold X11_strongest_b25 at hm
    refine lv_iconst (v := (-1)) hx hb dX11_strongest_25 (by decide) ?_
    refine lv_goto (tgt := 34) hx hb dX11_strongest_26 (by decide) ?_
    exact e_i C hW hS hm dX11_strongest_34
  refine lv_aload_n hx hb dX11_strongest_0 rfl (lv_at hl 0 rfl) ?_
  refine r_getQ C hW hm (ci := 11) kx0 ff_11_6 cl_11 fl_RX11_51 dX11_strongest_1 (fun o1000001 eo1000001 k1000002 hm => ?_)
  refine lv_iload_n hx hb dX11_strongest_4 rfl (lv_at hl 1 rfl) ?_
  obtain ⟨b1000003, e1000004, hq1000005⟩ := q_mi hm
  subst e1000004
  have hm := hq1000005
  have k1000006 := k1000002 b1000003 rfl
  obtain ⟨v1000008, hc1000007, hm⟩ := q_b1i hm
  refine q_callV C hW hS (As := [.int x1]) (rest := []) (st1 := [va_rf v1000008]) (c_X10_hopAt l D al dt b1000003 x1 k1000006 v1000008 hc1000007) yl_X10_hopAt vl_X10_hopAt ml_RX11_317 (ci := 10) rfl k1000006 (by decide) rfl ⟨Nat.le_of_ble_eq_true rfl, Nat.le_of_ble_eq_true rfl⟩ hl rfl (Nat.le_of_ble_eq_true rfl) dX11_strongest_5 ⟨Nat.le_refl _, Nat.le_refl _⟩ rfl (fun H locs k1000009 hW hS => ?_)
  have k1000009 := q_rk k1000009 (by decide)
  refine q_astoreQ_n (i := 3) (lv' := [(3, va_rf v1000008), (0, .ref x0), (1, .int x1), (2, .int x2)]) C dX11_strongest_8 rfl hl (by decide) rfl (fun ls hl => ?_)
  refine q_aloadQ_n C dX11_strongest_9 rfl (lv_at hl 0 rfl) ?_
  refine q_ifnull C hm (tgt := 25) dX11_strongest_10 (by decide) (fun e1000012 hq1000013 => ?_) (fun b1000010 e1000012 hq1000013 => ?_)
  · subst e1000012
    have hm := hq1000013
    exact hB25 _ _ _ hm hW hS (lv_sub hl [] rfl)
  subst e1000012
  have hm := hq1000013
  have k1000011 := k1000009 b1000010 rfl
  refine lv_iload_n hx hb dX11_strongest_13 rfl (lv_at hl 3 rfl) ?_
  refine q_ifc hm (fun c1000014 hm => ?_) (fun c1000014 hm => ?_)
  · refine lv_if_lt (tgt := 25) hx hb dX11_strongest_14 (by decide) (fun _ => ?_) (fun h => absurd c1000014 h)
    exact hB25 _ _ _ hm hW hS (lv_sub hl [] rfl)
  refine lv_if_lt (tgt := 25) hx hb dX11_strongest_14 (by decide) (fun h => absurd h c1000014) (fun _ => ?_)
  refine lv_iload_n hx hb dX11_strongest_17 rfl (lv_at hl 3 rfl) ?_
  refine lv_aload_n hx hb dX11_strongest_18 rfl (lv_at hl 0 rfl) ?_
  refine r_getI C hW (ci := 1) k1000011 ff_1_0 cl_1 fl_RX11_330 dX11_strongest_19 ?_
  refine q_ifc hm (fun c1000015 hm => ?_) (fun c1000015 hm => ?_)
  · refine lv_icmp_le (tgt := 29) hx hb dX11_strongest_22 (by decide) (fun _ => ?_) (fun h => absurd c1000015 h)
    refine lv_aload_n hx hb dX11_strongest_29 rfl (lv_at hl 0 rfl) ?_
    refine lv_iload_n hx hb dX11_strongest_30 rfl (lv_at hl 3 rfl) ?_
    obtain ⟨v1000017, hc1000016, hm⟩ := q_b1i hm
    refine q_callV C hW hS (As := [.int x2]) (rest := []) (st1 := [.int v1000017]) (c_X1_strongestChannels l D al dt b1000010 x2 k1000011 v1000017 hc1000016) yl_X1_strongestChannels vl_X1_strongestChannels ml_RX11_351 (ci := 1) rfl k1000011 (by decide) rfl ⟨Nat.le_of_ble_eq_true rfl, Nat.le_of_ble_eq_true rfl⟩ hl rfl (Nat.le_of_ble_eq_true rfl) dX11_strongest_31 ⟨Nat.le_refl _, Nat.le_refl _⟩ rfl (fun H locs k1000018 hW hS => ?_)
    exact e_i C hW hS hm dX11_strongest_34
  refine lv_icmp_le (tgt := 29) hx hb dX11_strongest_22 (by decide) (fun h => absurd h c1000015) (fun _ => ?_)
  exact hB25 _ _ _ hm hW hS (lv_sub hl [] rfl)
theorem dX11_slotAt_0 : decode cX11_slotAt 0 = .ok (.iload_n 1, 1) := by decide +kernel
theorem dX11_slotAt_1 : decode cX11_slotAt 1 = .ok (.ifCond .lt 21, 3) := by decide +kernel
theorem dX11_slotAt_4 : decode cX11_slotAt 4 = .ok (.iload_n 1, 1) := by decide +kernel
theorem dX11_slotAt_5 : decode cX11_slotAt 5 = .ok (.aload_n 0, 1) := by decide +kernel
theorem dX11_slotAt_6 : decode cX11_slotAt 6 = .ok (.getfield 23, 3) := by decide +kernel
theorem dX11_slotAt_9 : decode cX11_slotAt 9 = .ok (.arraylength, 1) := by decide +kernel
theorem dX11_slotAt_10 : decode cX11_slotAt 10 = .ok (.if_icmp .ge 12, 3) := by decide +kernel
theorem dX11_slotAt_13 : decode cX11_slotAt 13 = .ok (.aload_n 0, 1) := by decide +kernel
theorem dX11_slotAt_14 : decode cX11_slotAt 14 = .ok (.getfield 23, 3) := by decide +kernel
theorem dX11_slotAt_17 : decode cX11_slotAt 17 = .ok (.iload_n 1, 1) := by decide +kernel
theorem dX11_slotAt_18 : decode cX11_slotAt 18 = .ok (.aaload, 1) := by decide +kernel
theorem dX11_slotAt_19 : decode cX11_slotAt 19 = .ok (.goto 4, 3) := by decide +kernel
theorem dX11_slotAt_22 : decode cX11_slotAt 22 = .ok (.aconst_null, 1) := by decide +kernel
theorem dX11_slotAt_23 : decode cX11_slotAt 23 = .ok (.areturn, 1) := by decide +kernel
set_option maxRecDepth 100000 in
theorem c_X11_slotAt (l : Launch) (D : q_D) (al : q_Al) (dt : q_Dt) (x0 : Nat) (x1 : Int32) (kx0 : al.1 x0 = 12) (r0 : Option Nat) (hm : X11_slotAt al dt x0 x1 = some r0) : q_Mt l yX11_slotAt cX11_slotAt 2 (some (FieldType.object "SpreadRows$Signal")) 0 0 D al [.ref x0, .int x1] dt 9 (some (va_rf r0)) dt := by
  refine q_Mt.of (by decide) (Nat.le_of_ble_eq_true rfl) ?_
  intro p e s m args below meth c ls C hargs hW hl
  have hx := C.1
  have hb := C.2.1
  have hown := C.2.2.2.2.2.1
  have hts := C.2.2.2.2.2.2.1
  have hS : va_S (q_A al) s.heap s.heap [] := va_S.rf
  have hl : lv_has ls 2 [(0, .ref x0), (1, .int x1)] := hl
  unfold X11_slotAt at hm
  refine lv_iload_n hx hb dX11_slotAt_0 rfl (lv_at hl 1 rfl) ?_
  refine q_ifc hm (fun c1000001 hm => ?_) (fun c1000001 hm => ?_)
  · refine lv_if_lt (tgt := 22) hx hb dX11_slotAt_1 (by decide) (fun _ => ?_) (fun h => absurd c1000001 h)
    refine q_null C dX11_slotAt_22 ?_
    exact e_a C hW hS (v := none) hm (Or.inr q_kn) dX11_slotAt_23
  refine lv_if_lt (tgt := 22) hx hb dX11_slotAt_1 (by decide) (fun h => absurd h c1000001) (fun _ => ?_)
  refine lv_iload_n hx hb dX11_slotAt_4 rfl (lv_at hl 1 rfl) ?_
  refine lv_aload_n hx hb dX11_slotAt_5 rfl (lv_at hl 0 rfl) ?_
  refine r_getF C hW (ci := 11) kx0 ff_11_2 cl_11 fl_RX11_23 dX11_slotAt_6 (fun k1000002 => ?_)
  refine q_alenR C hW (ci := 8) (t0 := 8) k1000002 (by decide) rfl dX11_slotAt_9 ?_
  refine q_ifc hm (fun c1000003 hm => ?_) (fun c1000003 hm => ?_)
  · refine lv_icmp_ge (tgt := 22) hx hb dX11_slotAt_10 (by decide) (fun _ => ?_) (fun h => absurd c1000003 h)
    refine q_null C dX11_slotAt_22 ?_
    exact e_a C hW hS (v := none) hm (Or.inr q_kn) dX11_slotAt_23
  refine lv_icmp_ge (tgt := 22) hx hb dX11_slotAt_10 (by decide) (fun h => absurd h c1000003) (fun _ => ?_)
  refine lv_aload_n hx hb dX11_slotAt_13 rfl (lv_at hl 0 rfl) ?_
  refine r_getF C hW (ci := 11) kx0 ff_11_2 cl_11 fl_RX11_23 dX11_slotAt_14 (fun k1000004 => ?_)
  refine lv_iload_n hx hb dX11_slotAt_17 rfl (lv_at hl 1 rfl) ?_
  refine r_aald C hW hm (ci := 8) (t0 := 8) k1000004 (by decide) rfl dX11_slotAt_18 (fun k1000005 hm => ?_)
  refine lv_goto (tgt := 23) hx hb dX11_slotAt_19 (by decide) ?_
  exact e_a C hW hS (v := (some (al.2.2 (al.2.2 x0 2) (Int32.toNatClampNeg x1)))) hm (Or.inr (q_ks k1000005)) dX11_slotAt_23
theorem dX11_hold_0 : decode cX11_hold 0 = .ok (.aload_n 0, 1) := by decide +kernel
theorem dX11_hold_1 : decode cX11_hold 1 = .ok (.iload_n 1, 1) := by decide +kernel
theorem dX11_hold_2 : decode cX11_hold 2 = .ok (.invokevirtual 354, 3) := by decide +kernel
theorem dX11_hold_5 : decode cX11_hold 5 = .ok (.astore_n 2, 1) := by decide +kernel
theorem dX11_hold_6 : decode cX11_hold 6 = .ok (.aload_n 2, 1) := by decide +kernel
theorem dX11_hold_7 : decode cX11_hold 7 = .ok (.ifnonnull 5, 3) := by decide +kernel
theorem dX11_hold_10 : decode cX11_hold 10 = .ok (.iconst 0, 1) := by decide +kernel
theorem dX11_hold_11 : decode cX11_hold 11 = .ok (.ireturn, 1) := by decide +kernel
theorem dX11_hold_12 : decode cX11_hold 12 = .ok (.aload_n 2, 1) := by decide +kernel
theorem dX11_hold_13 : decode cX11_hold 13 = .ok (.aload_n 0, 1) := by decide +kernel
theorem dX11_hold_14 : decode cX11_hold 14 = .ok (.getfield 19, 3) := by decide +kernel
theorem dX11_hold_17 : decode cX11_hold 17 = .ok (.invokevirtual 358, 3) := by decide +kernel
theorem dX11_hold_20 : decode cX11_hold 20 = .ok (.aload_n 0, 1) := by decide +kernel
theorem dX11_hold_21 : decode cX11_hold 21 = .ok (.dup, 1) := by decide +kernel
theorem dX11_hold_22 : decode cX11_hold 22 = .ok (.getfield 62, 3) := by decide +kernel
theorem dX11_hold_25 : decode cX11_hold 25 = .ok (.iconst 1, 1) := by decide +kernel
theorem dX11_hold_26 : decode cX11_hold 26 = .ok (.iload_n 1, 1) := by decide +kernel
theorem dX11_hold_27 : decode cX11_hold 27 = .ok (.ishl, 1) := by decide +kernel
theorem dX11_hold_28 : decode cX11_hold 28 = .ok (.ior, 1) := by decide +kernel
theorem dX11_hold_29 : decode cX11_hold 29 = .ok (.putfield 62, 3) := by decide +kernel
theorem dX11_hold_32 : decode cX11_hold 32 = .ok (.iconst 1, 1) := by decide +kernel
theorem dX11_hold_33 : decode cX11_hold 33 = .ok (.ireturn, 1) := by decide +kernel
set_option maxRecDepth 100000 in
theorem c_X11_hold (l : Launch) (D : q_D) (al : q_Al) (dt : q_Dt) (x0 : Nat) (x1 : Int32) (kx0 : al.1 x0 = 12) (r0 : Int32) (dt0 : q_Dt) (hm : X11_hold al dt x0 x1 = some (r0, dt0)) : q_Mt l yX11_hold cX11_hold 3 (some FieldType.boolean) 3 64 D al [.ref x0, .int x1] dt 0 (some (.int r0)) dt0 := by
  refine q_Mt.of (by decide) (Nat.le_of_ble_eq_true rfl) ?_
  intro p e s m args below meth c ls C hargs hW hl
  have hx := C.1
  have hb := C.2.1
  have hown := C.2.2.2.2.2.1
  have hts := C.2.2.2.2.2.2.1
  have hS : va_S (q_A al) s.heap s.heap [] := va_S.rf
  have hl : lv_has ls 3 [(0, .ref x0), (1, .int x1)] := hl
  unfold X11_hold at hm
  refine lv_aload_n hx hb dX11_hold_0 rfl (lv_at hl 0 rfl) ?_
  refine lv_iload_n hx hb dX11_hold_1 rfl (lv_at hl 1 rfl) ?_
  obtain ⟨v1000002, hc1000001, hm⟩ := q_b1i hm
  refine q_callV C hW hS (As := [.int x1]) (rest := []) (st1 := [va_rf v1000002]) (c_X11_slotAt l D al dt x0 x1 kx0 v1000002 hc1000001) yl_X11_slotAt vl_X11_slotAt ml_RX11_354 (ci := 11) rfl kx0 (by decide) rfl ⟨Nat.le_of_ble_eq_true rfl, Nat.le_of_ble_eq_true rfl⟩ hl rfl (Nat.le_of_ble_eq_true rfl) dX11_hold_2 ⟨Nat.le_refl _, Nat.le_refl _⟩ rfl (fun H locs k1000003 hW hS => ?_)
  have k1000003 := q_rk k1000003 (by decide)
  refine q_astoreQ_n (i := 2) (lv' := [(2, va_rf v1000002), (0, .ref x0), (1, .int x1)]) C dX11_hold_5 rfl hl (by decide) rfl (fun ls hl => ?_)
  refine q_aloadQ_n C dX11_hold_6 rfl (lv_at hl 0 rfl) ?_
  refine q_ifnonnull C hm (tgt := 12) dX11_hold_7 (by decide) (fun e1000006 hq1000007 => ?_) (fun b1000004 e1000006 hq1000007 => ?_)
  · subst e1000006
    have hm := hq1000007
    refine lv_iconst (v := 0) hx hb dX11_hold_10 (by decide) ?_
    exact e_zlD C hW hS (Or.inl rfl) hm dX11_hold_11
  subst e1000006
  have hm := hq1000007
  have k1000005 := k1000003 b1000004 rfl
  refine lv_aload_n hx hb dX11_hold_12 rfl (lv_at hl 0 rfl) ?_
  refine lv_aload_n hx hb dX11_hold_13 rfl (lv_at hl 1 rfl) ?_
  refine r_getF C hW (ci := 11) kx0 ff_11_1 cl_11 fl_RX11_19 dX11_hold_14 (fun k1000008 => ?_)
  obtain ⟨dt1000010, hc1000009, hm⟩ := q_b1i hm
  refine q_callV C hW hS (As := [.ref (al.2.2 x0 1)]) (rest := []) (st1 := []) (c_X8_takeOver l D al dt b1000004 (al.2.2 x0 1) k1000005 k1000008 dt1000010 hc1000009) yl_X8_takeOver vl_X8_takeOver ml_RX11_358 (ci := 8) rfl k1000005 (by decide) rfl ⟨Nat.le_of_ble_eq_true rfl, Nat.le_of_ble_eq_true rfl⟩ hl rfl (Nat.le_of_ble_eq_true rfl) dX11_hold_17 ⟨Nat.le_refl _, Nat.le_refl _⟩ rfl (fun H locs k1000011 hW hS => ?_)
  refine lv_aload_n hx hb dX11_hold_20 rfl (lv_at hl 1 rfl) ?_
  refine lv_dup hx hb dX11_hold_21 rfl ?_
  refine r_getI C hW (ci := 11) kx0 ff_11_9 cl_11 fl_RX11_62 dX11_hold_22 ?_
  refine lv_iconst (v := 1) hx hb dX11_hold_25 (by decide) ?_
  refine lv_iload_n hx hb dX11_hold_26 rfl (lv_at hl 2 rfl) ?_
  refine lv_ishl hx hb dX11_hold_27 ?_
  refine lv_ior hx hb dX11_hold_28 ?_
  refine r_putI C hW hS hm (ci := 11) kx0 ff_11_9 cl_11 fl_RX11_62 (nf_11_9) rfl dX11_hold_29 (fun dt1000012 H locs hm hW hS => ?_)
  refine lv_iconst (v := 1) hx hb dX11_hold_32 (by decide) ?_
  exact e_zlD C hW hS (Or.inr rfl) hm dX11_hold_33
theorem dX11_restore_0 : decode cX11_restore 0 = .ok (.aload_n 0, 1) := by decide +kernel
theorem dX11_restore_1 : decode cX11_restore 1 = .ok (.iload_n 1, 1) := by decide +kernel
theorem dX11_restore_2 : decode cX11_restore 2 = .ok (.invokevirtual 354, 3) := by decide +kernel
theorem dX11_restore_5 : decode cX11_restore 5 = .ok (.astore_n 2, 1) := by decide +kernel
theorem dX11_restore_6 : decode cX11_restore 6 = .ok (.aload_n 2, 1) := by decide +kernel
theorem dX11_restore_7 : decode cX11_restore 7 = .ok (.ifnull 14, 3) := by decide +kernel
theorem dX11_restore_10 : decode cX11_restore 10 = .ok (.aload_n 0, 1) := by decide +kernel
theorem dX11_restore_11 : decode cX11_restore 11 = .ok (.getfield 62, 3) := by decide +kernel
theorem dX11_restore_14 : decode cX11_restore 14 = .ok (.iload_n 1, 1) := by decide +kernel
theorem dX11_restore_15 : decode cX11_restore 15 = .ok (.ishr, 1) := by decide +kernel
theorem dX11_restore_16 : decode cX11_restore 16 = .ok (.iconst 1, 1) := by decide +kernel
theorem dX11_restore_17 : decode cX11_restore 17 = .ok (.iand, 1) := by decide +kernel
theorem dX11_restore_18 : decode cX11_restore 18 = .ok (.ifCond .ne 5, 3) := by decide +kernel
theorem dX11_restore_21 : decode cX11_restore 21 = .ok (.iconst 0, 1) := by decide +kernel
theorem dX11_restore_22 : decode cX11_restore 22 = .ok (.ireturn, 1) := by decide +kernel
theorem dX11_restore_23 : decode cX11_restore 23 = .ok (.aload_n 0, 1) := by decide +kernel
theorem dX11_restore_24 : decode cX11_restore 24 = .ok (.getfield 19, 3) := by decide +kernel
theorem dX11_restore_27 : decode cX11_restore 27 = .ok (.aload_n 2, 1) := by decide +kernel
theorem dX11_restore_28 : decode cX11_restore 28 = .ok (.invokevirtual 358, 3) := by decide +kernel
theorem dX11_restore_31 : decode cX11_restore 31 = .ok (.iconst 1, 1) := by decide +kernel
theorem dX11_restore_32 : decode cX11_restore 32 = .ok (.ireturn, 1) := by decide +kernel
set_option maxRecDepth 100000 in
theorem c_X11_restore (l : Launch) (D : q_D) (al : q_Al) (dt : q_Dt) (x0 : Nat) (x1 : Int32) (kx0 : al.1 x0 = 12) (r0 : Int32) (dt0 : q_Dt) (hm : X11_restore al dt x0 x1 = some (r0, dt0)) : q_Mt l yX11_restore cX11_restore 3 (some FieldType.boolean) 3 64 D al [.ref x0, .int x1] dt 0 (some (.int r0)) dt0 := by
  refine q_Mt.of (by decide) (Nat.le_of_ble_eq_true rfl) ?_
  intro p e s m args below meth c ls C hargs hW hl
  have hx := C.1
  have hb := C.2.1
  have hown := C.2.2.2.2.2.1
  have hts := C.2.2.2.2.2.2.1
  have hS : va_S (q_A al) s.heap s.heap [] := va_S.rf
  have hl : lv_has ls 3 [(0, .ref x0), (1, .int x1)] := hl
  unfold X11_restore at hm
  refine lv_aload_n hx hb dX11_restore_0 rfl (lv_at hl 0 rfl) ?_
  refine lv_iload_n hx hb dX11_restore_1 rfl (lv_at hl 1 rfl) ?_
  obtain ⟨v1000002, hc1000001, hm⟩ := q_b1i hm
  refine q_callV C hW hS (As := [.int x1]) (rest := []) (st1 := [va_rf v1000002]) (c_X11_slotAt l D al dt x0 x1 kx0 v1000002 hc1000001) yl_X11_slotAt vl_X11_slotAt ml_RX11_354 (ci := 11) rfl kx0 (by decide) rfl ⟨Nat.le_of_ble_eq_true rfl, Nat.le_of_ble_eq_true rfl⟩ hl rfl (Nat.le_of_ble_eq_true rfl) dX11_restore_2 ⟨Nat.le_refl _, Nat.le_refl _⟩ rfl (fun H locs k1000003 hW hS => ?_)
  have k1000003 := q_rk k1000003 (by decide)
  refine q_astoreQ_n (i := 2) (lv' := [(2, va_rf v1000002), (0, .ref x0), (1, .int x1)]) C dX11_restore_5 rfl hl (by decide) rfl (fun ls hl => ?_)
  refine q_aloadQ_n C dX11_restore_6 rfl (lv_at hl 0 rfl) ?_
  refine q_ifnull C hm (tgt := 21) dX11_restore_7 (by decide) (fun e1000006 hq1000007 => ?_) (fun b1000004 e1000006 hq1000007 => ?_)
  · subst e1000006
    have hm := hq1000007
    refine lv_iconst (v := 0) hx hb dX11_restore_21 (by decide) ?_
    exact e_zlD C hW hS (Or.inl rfl) hm dX11_restore_22
  subst e1000006
  have hm := hq1000007
  have k1000005 := k1000003 b1000004 rfl
  refine lv_aload_n hx hb dX11_restore_10 rfl (lv_at hl 1 rfl) ?_
  refine r_getI C hW (ci := 11) kx0 ff_11_9 cl_11 fl_RX11_62 dX11_restore_11 ?_
  refine lv_iload_n hx hb dX11_restore_14 rfl (lv_at hl 2 rfl) ?_
  refine lv_ishr hx hb dX11_restore_15 ?_
  refine lv_iconst (v := 1) hx hb dX11_restore_16 (by decide) ?_
  refine lv_iand hx hb dX11_restore_17 ?_
  refine q_ifc hm (fun c1000008 hm => ?_) (fun c1000008 hm => ?_)
  · refine lv_if_ne (tgt := 23) hx hb dX11_restore_18 (by decide) (fun h => absurd c1000008 h) (fun _ => ?_)
    refine lv_iconst (v := 0) hx hb dX11_restore_21 (by decide) ?_
    exact e_zlD C hW hS (Or.inl rfl) hm dX11_restore_22
  refine lv_if_ne (tgt := 23) hx hb dX11_restore_18 (by decide) (fun _ => ?_) (fun h => absurd h c1000008)
  refine lv_aload_n hx hb dX11_restore_23 rfl (lv_at hl 1 rfl) ?_
  refine r_getF C hW (ci := 11) kx0 ff_11_1 cl_11 fl_RX11_19 dX11_restore_24 (fun k1000009 => ?_)
  refine lv_aload_n hx hb dX11_restore_27 rfl (lv_at hl 0 rfl) ?_
  obtain ⟨dt1000011, hc1000010, hm⟩ := q_b1i hm
  refine q_callV C hW hS (As := [.ref b1000004]) (rest := []) (st1 := []) (c_X8_takeOver l D al dt (al.2.2 x0 1) b1000004 k1000009 k1000005 dt1000011 hc1000010) yl_X8_takeOver vl_X8_takeOver ml_RX11_358 (ci := 8) rfl k1000009 (by decide) rfl ⟨Nat.le_of_ble_eq_true rfl, Nat.le_of_ble_eq_true rfl⟩ hl rfl (Nat.le_of_ble_eq_true rfl) dX11_restore_28 ⟨Nat.le_refl _, Nat.le_refl _⟩ rfl (fun H locs k1000012 hW hS => ?_)
  refine lv_iconst (v := 1) hx hb dX11_restore_31 (by decide) ?_
  exact e_zlD C hW hS (Or.inr rfl) hm dX11_restore_32
theorem dX11_countOfOne_0 : decode cX11_countOfOne 0 = .ok (.iload_n 1, 1) := by decide +kernel
theorem dX11_countOfOne_1 : decode cX11_countOfOne 1 = .ok (.bipush 10, 2) := by decide +kernel
theorem dX11_countOfOne_3 : decode cX11_countOfOne 3 = .ok (.if_icmp .ge 7, 3) := by decide +kernel
theorem dX11_countOfOne_6 : decode cX11_countOfOne 6 = .ok (.aconst_null, 1) := by decide +kernel
theorem dX11_countOfOne_7 : decode cX11_countOfOne 7 = .ok (.goto 14, 3) := by decide +kernel
theorem dX11_countOfOne_10 : decode cX11_countOfOne 10 = .ok (.aload_n 0, 1) := by decide +kernel
theorem dX11_countOfOne_11 : decode cX11_countOfOne 11 = .ok (.getfield 51, 3) := by decide +kernel
theorem dX11_countOfOne_14 : decode cX11_countOfOne 14 = .ok (.iload_n 1, 1) := by decide +kernel
theorem dX11_countOfOne_15 : decode cX11_countOfOne 15 = .ok (.bipush 10, 2) := by decide +kernel
theorem dX11_countOfOne_17 : decode cX11_countOfOne 17 = .ok (.isub, 1) := by decide +kernel
theorem dX11_countOfOne_18 : decode cX11_countOfOne 18 = .ok (.invokevirtual 154, 3) := by decide +kernel
theorem dX11_countOfOne_21 : decode cX11_countOfOne 21 = .ok (.astore_n 2, 1) := by decide +kernel
theorem dX11_countOfOne_22 : decode cX11_countOfOne 22 = .ok (.iload_n 1, 1) := by decide +kernel
theorem dX11_countOfOne_23 : decode cX11_countOfOne 23 = .ok (.bipush 20, 2) := by decide +kernel
theorem dX11_countOfOne_25 : decode cX11_countOfOne 25 = .ok (.if_icmp .ge 7, 3) := by decide +kernel
theorem dX11_countOfOne_28 : decode cX11_countOfOne 28 = .ok (.aconst_null, 1) := by decide +kernel
theorem dX11_countOfOne_29 : decode cX11_countOfOne 29 = .ok (.goto 14, 3) := by decide +kernel
theorem dX11_countOfOne_32 : decode cX11_countOfOne 32 = .ok (.aload_n 0, 1) := by decide +kernel
theorem dX11_countOfOne_33 : decode cX11_countOfOne 33 = .ok (.getfield 51, 3) := by decide +kernel
theorem dX11_countOfOne_36 : decode cX11_countOfOne 36 = .ok (.iload_n 1, 1) := by decide +kernel
theorem dX11_countOfOne_37 : decode cX11_countOfOne 37 = .ok (.bipush 20, 2) := by decide +kernel
theorem dX11_countOfOne_39 : decode cX11_countOfOne 39 = .ok (.isub, 1) := by decide +kernel
theorem dX11_countOfOne_40 : decode cX11_countOfOne 40 = .ok (.invokevirtual 317, 3) := by decide +kernel
theorem dX11_countOfOne_43 : decode cX11_countOfOne 43 = .ok (.astore_n 3, 1) := by decide +kernel
theorem dX11_countOfOne_44 : decode cX11_countOfOne 44 = .ok (.aload_n 2, 1) := by decide +kernel
theorem dX11_countOfOne_45 : decode cX11_countOfOne 45 = .ok (.ifnull 15, 3) := by decide +kernel
theorem dX11_countOfOne_48 : decode cX11_countOfOne 48 = .ok (.aload_n 2, 1) := by decide +kernel
theorem dX11_countOfOne_49 : decode cX11_countOfOne 49 = .ok (.aload_n 0, 1) := by decide +kernel
theorem dX11_countOfOne_50 : decode cX11_countOfOne 50 = .ok (.getfield 51, 3) := by decide +kernel
theorem dX11_countOfOne_53 : decode cX11_countOfOne 53 = .ok (.getfield 175, 3) := by decide +kernel
theorem dX11_countOfOne_56 : decode cX11_countOfOne 56 = .ok (.invokevirtual 232, 3) := by decide +kernel
theorem dX11_countOfOne_59 : decode cX11_countOfOne 59 = .ok (.ireturn, 1) := by decide +kernel
theorem dX11_countOfOne_60 : decode cX11_countOfOne 60 = .ok (.aload_n 3, 1) := by decide +kernel
theorem dX11_countOfOne_61 : decode cX11_countOfOne 61 = .ok (.ifnonnull 7, 3) := by decide +kernel
theorem dX11_countOfOne_64 : decode cX11_countOfOne 64 = .ok (.iconst (-1), 1) := by decide +kernel
theorem dX11_countOfOne_65 : decode cX11_countOfOne 65 = .ok (.goto 7, 3) := by decide +kernel
theorem dX11_countOfOne_68 : decode cX11_countOfOne 68 = .ok (.aload_n 3, 1) := by decide +kernel
theorem dX11_countOfOne_69 : decode cX11_countOfOne 69 = .ok (.getfield 330, 3) := by decide +kernel
theorem dX11_countOfOne_72 : decode cX11_countOfOne 72 = .ok (.ireturn, 1) := by decide +kernel
set_option maxRecDepth 100000 in
theorem c_X11_countOfOne (l : Launch) (D : q_D) (al : q_Al) (dt : q_Dt) (x0 : Nat) (x1 : Int32) (kx0 : al.1 x0 = 12) (r0 : Int32) (hm : X11_countOfOne al dt x0 x1 = some r0) : q_Mt l yX11_countOfOne cX11_countOfOne 4 (some FieldType.int) 4 87 D al [.ref x0, .int x1] dt 0 (some (.int r0)) dt := by
  refine q_Mt.of (by decide) (Nat.le_of_ble_eq_true rfl) ?_
  intro p e s m args below meth c ls C hargs hW hl
  have hx := C.1
  have hb := C.2.1
  have hown := C.2.2.2.2.2.1
  have hts := C.2.2.2.2.2.2.1
  have hS : va_S (q_A al) s.heap s.heap [] := va_S.rf
  have hl : lv_has ls 4 [(0, .ref x0), (1, .int x1)] := hl
  unfold X11_countOfOne at hm
  have hB43 : ∀ (x0_43 : Nat) (x2_43 : Option Nat) (t0_43 : Option Nat) (kx0_43 : al.1 x0_43 = 12) (kx2_43 : ∀ b, x2_43 = some b → al.1 b = 8) (kt0_43 : ∀ b, t0_43 = some b → al.1 b = 2) (H : Heap) (locs : List Loc) (ls : Array Slot) (hm : X11_countOfOne_b43 al dt x0_43 x2_43 t0_43 = some r0) (hW : q_W D al dt H) (hS : va_S (q_A al) s.heap H locs) (hl : lv_has ls 4 [(0, .ref x0_43), (2, va_rf x2_43)]), W p l e { frames := 4, cells := 0, slots := 0, locals := 87 } s m args below meth c H locs 0 0 (MQ below (q_Q (some (.int r0)) (fun H => q_W D al dt H ∧ q_Rk al 0 (some (.int r0))) (q_A al)) args s 0 0 (q_A al)) (F0 m 43 ls [va_rf t0_43]) := by
    intro x0_43 x2_43 t0_43 kx0_43 kx2_43 kt0_43 H locs ls hm hW hS hl
    unfold X11_countOfOne_b43 at hm
    refine q_astoreQ_n (i := 3) (lv' := [(3, va_rf t0_43), (0, .ref x0_43), (2, va_rf x2_43)]) C dX11_countOfOne_43 rfl hl (by decide) (by simp [q_cat, q_catR, q_catI, q_catL] <;> rfl) (fun ls hl => ?_)
    refine q_aloadQ_n C dX11_countOfOne_44 rfl (lv_at hl 2 rfl) ?_
    refine q_ifnull C hm (tgt := 60) dX11_countOfOne_45 (by decide) (fun e43003 hq43004 => ?_) (fun b43001 e43003 hq43004 => ?_)
    · subst e43003
      have hm := hq43004
      refine q_aloadQ_n C dX11_countOfOne_60 rfl (lv_at hl 0 rfl) ?_
      refine q_ifnonnull C hm (tgt := 68) dX11_countOfOne_61 (by decide) (fun e43007 hq43008 => ?_) (fun b43005 e43007 hq43008 => ?_)
      · subst e43007
        have hm := hq43008
        refine lv_iconst (v := (-1)) hx hb dX11_countOfOne_64 (by decide) ?_
        refine lv_goto (tgt := 72) hx hb dX11_countOfOne_65 (by decide) ?_
        exact e_i C hW hS hm dX11_countOfOne_72
      subst e43007
      have hm := hq43008
      have k43006 := kt0_43 b43005 rfl
      refine lv_aload_n hx hb dX11_countOfOne_68 rfl (lv_at hl 0 rfl) ?_
      refine r_getI C hW (ci := 1) k43006 ff_1_0 cl_1 fl_RX11_330 dX11_countOfOne_69 ?_
      exact e_i C hW hS hm dX11_countOfOne_72
    subst e43003
    have hm := hq43004
    have k43002 := kx2_43 b43001 rfl
    refine lv_aload_n hx hb dX11_countOfOne_48 rfl (lv_at hl 2 rfl) ?_
    refine lv_aload_n hx hb dX11_countOfOne_49 rfl (lv_at hl 1 rfl) ?_
    refine r_getQ C hW hm (ci := 11) kx0_43 ff_11_6 cl_11 fl_RX11_51 dX11_countOfOne_50 (fun o43009 eo43009 k43010 hm => ?_)
    obtain ⟨b43011, e43012, hq43013⟩ := q_mi hm
    subst e43012
    have hm := hq43013
    have k43014 := k43010 b43011 rfl
    refine r_getI C hW (ci := 10) k43014 ff_10_12 cl_10 fl_RX11_175 dX11_countOfOne_53 ?_
    obtain ⟨v43016, hc43015, hm⟩ := q_b1i hm
    refine q_callV C hW hS (As := [.int (dt.1 b43011 12)]) (rest := []) (st1 := [.int v43016]) (c_X7_periods l D al dt b43001 (dt.1 b43011 12) k43002 v43016 hc43015) yl_X7_periods vl_X7_periods ml_RX11_232 (ci := 7) rfl k43002 (by decide) rfl ⟨Nat.le_of_ble_eq_true rfl, Nat.le_of_ble_eq_true rfl⟩ hl rfl (Nat.le_of_ble_eq_true rfl) dX11_countOfOne_56 ⟨Nat.le_refl _, Nat.le_refl _⟩ rfl (fun H locs k43017 hW hS => ?_)
    exact e_i C hW hS hm dX11_countOfOne_59
  have hB21 : ∀ (x0_21 : Nat) (x1_21 : Int32) (t0_21 : Option Nat) (kx0_21 : al.1 x0_21 = 12) (kt0_21 : ∀ b, t0_21 = some b → al.1 b = 8) (H : Heap) (locs : List Loc) (ls : Array Slot) (hm : X11_countOfOne_b21 al dt x0_21 x1_21 t0_21 = some r0) (hW : q_W D al dt H) (hS : va_S (q_A al) s.heap H locs) (hl : lv_has ls 4 [(0, .ref x0_21), (1, .int x1_21)]), W p l e { frames := 4, cells := 0, slots := 0, locals := 87 } s m args below meth c H locs 0 0 (MQ below (q_Q (some (.int r0)) (fun H => q_W D al dt H ∧ q_Rk al 0 (some (.int r0))) (q_A al)) args s 0 0 (q_A al)) (F0 m 21 ls [va_rf t0_21]) := by
    intro x0_21 x1_21 t0_21 kx0_21 kt0_21 H locs ls hm hW hS hl
    unfold X11_countOfOne_b21 at hm
    refine q_astoreQ_n (i := 2) (lv' := [(2, va_rf t0_21), (0, .ref x0_21), (1, .int x1_21)]) C dX11_countOfOne_21 rfl hl (by decide) rfl (fun ls hl => ?_)
    refine lv_iload_n hx hb dX11_countOfOne_22 rfl (lv_at hl 2 rfl) ?_
    refine lv_bipush (v := 20) hx hb dX11_countOfOne_23 (by decide) ?_
    refine q_ifc hm (fun c21001 hm => ?_) (fun c21001 hm => ?_)
    · refine lv_icmp_ge (tgt := 32) hx hb dX11_countOfOne_25 (by decide) (fun _ => ?_) (fun h => absurd c21001 h)
      refine lv_aload_n hx hb dX11_countOfOne_32 rfl (lv_at hl 1 rfl) ?_
      refine r_getQ C hW hm (ci := 11) kx0_21 ff_11_6 cl_11 fl_RX11_51 dX11_countOfOne_33 (fun o21002 eo21002 k21003 hm => ?_)
      refine lv_iload_n hx hb dX11_countOfOne_36 rfl (lv_at hl 2 rfl) ?_
      refine lv_bipush (v := 20) hx hb dX11_countOfOne_37 (by decide) ?_
      refine lv_isub hx hb dX11_countOfOne_39 ?_
      obtain ⟨b21004, e21005, hq21006⟩ := q_mi hm
      subst e21005
      have hm := hq21006
      have k21007 := k21003 b21004 rfl
      obtain ⟨v21009, hc21008, hm⟩ := q_b1i hm
      refine q_callV C hW hS (As := [.int (x1_21 - 20)]) (rest := []) (st1 := [va_rf v21009]) (c_X10_hopAt l D al dt b21004 (x1_21 - 20) k21007 v21009 hc21008) yl_X10_hopAt vl_X10_hopAt ml_RX11_317 (ci := 10) rfl k21007 (by decide) rfl ⟨Nat.le_of_ble_eq_true rfl, Nat.le_of_ble_eq_true rfl⟩ hl rfl (Nat.le_of_ble_eq_true rfl) dX11_countOfOne_40 ⟨Nat.le_refl _, Nat.le_refl _⟩ rfl (fun H locs k21010 hW hS => ?_)
      have k21010 := q_rk k21010 (by decide)
      exact hB43 x0_21 t0_21 v21009 kx0_21 kt0_21 k21010 _ _ _ hm hW hS (lv_sub hl [1, 0] rfl)
    refine lv_icmp_ge (tgt := 32) hx hb dX11_countOfOne_25 (by decide) (fun h => absurd h c21001) (fun _ => ?_)
    refine q_null C dX11_countOfOne_28 ?_
    refine lv_goto (tgt := 43) hx hb dX11_countOfOne_29 (by decide) ?_
    exact hB43 x0_21 t0_21 none kx0_21 kt0_21 q_kn _ _ _ hm hW hS (lv_sub hl [1, 0] rfl)
  refine lv_iload_n hx hb dX11_countOfOne_0 rfl (lv_at hl 1 rfl) ?_
  refine lv_bipush (v := 10) hx hb dX11_countOfOne_1 (by decide) ?_
  refine q_ifc hm (fun c1000001 hm => ?_) (fun c1000001 hm => ?_)
  · refine lv_icmp_ge (tgt := 10) hx hb dX11_countOfOne_3 (by decide) (fun _ => ?_) (fun h => absurd c1000001 h)
    refine lv_aload_n hx hb dX11_countOfOne_10 rfl (lv_at hl 0 rfl) ?_
    refine r_getQ C hW hm (ci := 11) kx0 ff_11_6 cl_11 fl_RX11_51 dX11_countOfOne_11 (fun o1000002 eo1000002 k1000003 hm => ?_)
    refine lv_iload_n hx hb dX11_countOfOne_14 rfl (lv_at hl 1 rfl) ?_
    refine lv_bipush (v := 10) hx hb dX11_countOfOne_15 (by decide) ?_
    refine lv_isub hx hb dX11_countOfOne_17 ?_
    obtain ⟨b1000004, e1000005, hq1000006⟩ := q_mi hm
    subst e1000005
    have hm := hq1000006
    have k1000007 := k1000003 b1000004 rfl
    obtain ⟨v1000009, hc1000008, hm⟩ := q_b1i hm
    refine q_callV C hW hS (As := [.int (x1 - 10)]) (rest := []) (st1 := [va_rf v1000009]) (c_X10_senderAt l D al dt b1000004 (x1 - 10) k1000007 v1000009 hc1000008) yl_X10_senderAt vl_X10_senderAt ml_RX11_154 (ci := 10) rfl k1000007 (by decide) rfl ⟨Nat.le_of_ble_eq_true rfl, Nat.le_of_ble_eq_true rfl⟩ hl rfl (Nat.le_of_ble_eq_true rfl) dX11_countOfOne_18 ⟨Nat.le_refl _, Nat.le_refl _⟩ rfl (fun H locs k1000010 hW hS => ?_)
    have k1000010 := q_rk k1000010 (by decide)
    exact hB21 x0 x1 v1000009 kx0 k1000010 _ _ _ hm hW hS (lv_sub hl [0, 1] rfl)
  refine lv_icmp_ge (tgt := 10) hx hb dX11_countOfOne_3 (by decide) (fun h => absurd h c1000001) (fun _ => ?_)
  refine q_null C dX11_countOfOne_6 ?_
  refine lv_goto (tgt := 21) hx hb dX11_countOfOne_7 (by decide) ?_
  exact hB21 x0 x1 none kx0 q_kn _ _ _ hm hW hS (lv_sub hl [0, 1] rfl)
theorem dX11_count_0 : decode cX11_count 0 = .ok (.iload_n 1, 1) := by decide +kernel
theorem dX11_count_1 : decode cX11_count 1 = .ok (.tableswitch 126 0 8 #[51, 59, 67, 75, 83, 91, 99, 110, 118], 51) := by decide +kernel
theorem dX11_count_52 : decode cX11_count 52 = .ok (.aload_n 0, 1) := by decide +kernel
theorem dX11_count_53 : decode cX11_count 53 = .ok (.getfield 51, 3) := by decide +kernel
theorem dX11_count_56 : decode cX11_count 56 = .ok (.getfield 362, 3) := by decide +kernel
theorem dX11_count_59 : decode cX11_count 59 = .ok (.ireturn, 1) := by decide +kernel
theorem dX11_count_60 : decode cX11_count 60 = .ok (.aload_n 0, 1) := by decide +kernel
theorem dX11_count_61 : decode cX11_count 61 = .ok (.getfield 51, 3) := by decide +kernel
theorem dX11_count_64 : decode cX11_count 64 = .ok (.getfield 342, 3) := by decide +kernel
theorem dX11_count_67 : decode cX11_count 67 = .ok (.ireturn, 1) := by decide +kernel
theorem dX11_count_68 : decode cX11_count 68 = .ok (.aload_n 0, 1) := by decide +kernel
theorem dX11_count_69 : decode cX11_count 69 = .ok (.getfield 51, 3) := by decide +kernel
theorem dX11_count_72 : decode cX11_count 72 = .ok (.getfield 268, 3) := by decide +kernel
theorem dX11_count_75 : decode cX11_count 75 = .ok (.ireturn, 1) := by decide +kernel
theorem dX11_count_76 : decode cX11_count 76 = .ok (.aload_n 0, 1) := by decide +kernel
theorem dX11_count_77 : decode cX11_count 77 = .ok (.getfield 51, 3) := by decide +kernel
theorem dX11_count_80 : decode cX11_count 80 = .ok (.getfield 365, 3) := by decide +kernel
theorem dX11_count_83 : decode cX11_count 83 = .ok (.ireturn, 1) := by decide +kernel
theorem dX11_count_84 : decode cX11_count 84 = .ok (.aload_n 0, 1) := by decide +kernel
theorem dX11_count_85 : decode cX11_count 85 = .ok (.getfield 51, 3) := by decide +kernel
theorem dX11_count_88 : decode cX11_count 88 = .ok (.getfield 368, 3) := by decide +kernel
theorem dX11_count_91 : decode cX11_count 91 = .ok (.ireturn, 1) := by decide +kernel
theorem dX11_count_92 : decode cX11_count 92 = .ok (.aload_n 0, 1) := by decide +kernel
theorem dX11_count_93 : decode cX11_count 93 = .ok (.getfield 51, 3) := by decide +kernel
theorem dX11_count_96 : decode cX11_count 96 = .ok (.getfield 175, 3) := by decide +kernel
theorem dX11_count_99 : decode cX11_count 99 = .ok (.ireturn, 1) := by decide +kernel
theorem dX11_count_100 : decode cX11_count 100 = .ok (.aload_n 0, 1) := by decide +kernel
theorem dX11_count_101 : decode cX11_count 101 = .ok (.getfield 10, 3) := by decide +kernel
theorem dX11_count_104 : decode cX11_count 104 = .ok (.getfield 65, 3) := by decide +kernel
theorem dX11_count_107 : decode cX11_count 107 = .ok (.getfield 69, 3) := by decide +kernel
theorem dX11_count_110 : decode cX11_count 110 = .ok (.ireturn, 1) := by decide +kernel
theorem dX11_count_111 : decode cX11_count 111 = .ok (.aload_n 0, 1) := by decide +kernel
theorem dX11_count_112 : decode cX11_count 112 = .ok (.getfield 62, 3) := by decide +kernel
theorem dX11_count_115 : decode cX11_count 115 = .ok (.invokestatic 131, 3) := by decide +kernel
theorem dX11_count_118 : decode cX11_count 118 = .ok (.ireturn, 1) := by decide +kernel
theorem dX11_count_119 : decode cX11_count 119 = .ok (.aload_n 0, 1) := by decide +kernel
theorem dX11_count_120 : decode cX11_count 120 = .ok (.getfield 51, 3) := by decide +kernel
theorem dX11_count_123 : decode cX11_count 123 = .ok (.getfield 371, 3) := by decide +kernel
theorem dX11_count_126 : decode cX11_count 126 = .ok (.ireturn, 1) := by decide +kernel
theorem dX11_count_127 : decode cX11_count 127 = .ok (.aload_n 0, 1) := by decide +kernel
theorem dX11_count_128 : decode cX11_count 128 = .ok (.iload_n 1, 1) := by decide +kernel
theorem dX11_count_129 : decode cX11_count 129 = .ok (.invokevirtual 374, 3) := by decide +kernel
theorem dX11_count_132 : decode cX11_count 132 = .ok (.ireturn, 1) := by decide +kernel
set_option maxRecDepth 100000 in
theorem c_X11_count (l : Launch) (D : q_D) (al : q_Al) (dt : q_Dt) (x0 : Nat) (x1 : Int32) (kx0 : al.1 x0 = 12) (r0 : Int32) (hm : X11_count al dt x0 x1 = some r0) : q_Mt l yX11_count cX11_count 2 (some FieldType.int) 5 110 D al [.ref x0, .int x1] dt 0 (some (.int r0)) dt := by
  refine q_Mt.of (by decide) (Nat.le_of_ble_eq_true rfl) ?_
  intro p e s m args below meth c ls C hargs hW hl
  have hx := C.1
  have hb := C.2.1
  have hown := C.2.2.2.2.2.1
  have hts := C.2.2.2.2.2.2.1
  have hS : va_S (q_A al) s.heap s.heap [] := va_S.rf
  have hl : lv_has ls 2 [(0, .ref x0), (1, .int x1)] := hl
  unfold X11_count at hm
  refine lv_iload_n hx hb dX11_count_0 rfl (lv_at hl 1 rfl) ?_
  refine q_ifc hm (fun c1000001 hm => ?_) (fun c1000001 hm => ?_)
  · refine lv_tableIn (tgt := 52) hx hb dX11_count_1 (by rw [c1000001]; decide) (by rw [c1000001]; decide) (by rw [c1000001]; rfl) (by decide) ?_
    refine lv_aload_n hx hb dX11_count_52 rfl (lv_at hl 0 rfl) ?_
    refine r_getQ C hW hm (ci := 11) kx0 ff_11_6 cl_11 fl_RX11_51 dX11_count_53 (fun o1000002 eo1000002 k1000003 hm => ?_)
    obtain ⟨b1000004, e1000005, hq1000006⟩ := q_mi hm
    subst e1000005
    have hm := hq1000006
    have k1000007 := k1000003 b1000004 rfl
    refine r_getI C hW (ci := 10) k1000007 ff_10_7 cl_10 fl_RX11_362 dX11_count_56 ?_
    exact e_i C hW hS hm dX11_count_59
  refine q_ifc hm (fun c1000008 hm => ?_) (fun c1000008 hm => ?_)
  · refine lv_tableIn (tgt := 60) hx hb dX11_count_1 (by rw [c1000008]; decide) (by rw [c1000008]; decide) (by rw [c1000008]; rfl) (by decide) ?_
    refine lv_aload_n hx hb dX11_count_60 rfl (lv_at hl 0 rfl) ?_
    refine r_getQ C hW hm (ci := 11) kx0 ff_11_6 cl_11 fl_RX11_51 dX11_count_61 (fun o1000009 eo1000009 k1000010 hm => ?_)
    obtain ⟨b1000011, e1000012, hq1000013⟩ := q_mi hm
    subst e1000012
    have hm := hq1000013
    have k1000014 := k1000010 b1000011 rfl
    refine r_getI C hW (ci := 10) k1000014 ff_10_8 cl_10 fl_RX11_342 dX11_count_64 ?_
    exact e_i C hW hS hm dX11_count_67
  refine q_ifc hm (fun c1000015 hm => ?_) (fun c1000015 hm => ?_)
  · refine lv_tableIn (tgt := 68) hx hb dX11_count_1 (by rw [c1000015]; decide) (by rw [c1000015]; decide) (by rw [c1000015]; rfl) (by decide) ?_
    refine lv_aload_n hx hb dX11_count_68 rfl (lv_at hl 0 rfl) ?_
    refine r_getQ C hW hm (ci := 11) kx0 ff_11_6 cl_11 fl_RX11_51 dX11_count_69 (fun o1000016 eo1000016 k1000017 hm => ?_)
    obtain ⟨b1000018, e1000019, hq1000020⟩ := q_mi hm
    subst e1000019
    have hm := hq1000020
    have k1000021 := k1000017 b1000018 rfl
    refine r_getI C hW (ci := 10) k1000021 ff_10_9 cl_10 fl_RX11_268 dX11_count_72 ?_
    exact e_i C hW hS hm dX11_count_75
  refine q_ifc hm (fun c1000022 hm => ?_) (fun c1000022 hm => ?_)
  · refine lv_tableIn (tgt := 76) hx hb dX11_count_1 (by rw [c1000022]; decide) (by rw [c1000022]; decide) (by rw [c1000022]; rfl) (by decide) ?_
    refine lv_aload_n hx hb dX11_count_76 rfl (lv_at hl 0 rfl) ?_
    refine r_getQ C hW hm (ci := 11) kx0 ff_11_6 cl_11 fl_RX11_51 dX11_count_77 (fun o1000023 eo1000023 k1000024 hm => ?_)
    obtain ⟨b1000025, e1000026, hq1000027⟩ := q_mi hm
    subst e1000026
    have hm := hq1000027
    have k1000028 := k1000024 b1000025 rfl
    refine r_getI C hW (ci := 10) k1000028 ff_10_10 cl_10 fl_RX11_365 dX11_count_80 ?_
    exact e_i C hW hS hm dX11_count_83
  refine q_ifc hm (fun c1000029 hm => ?_) (fun c1000029 hm => ?_)
  · refine lv_tableIn (tgt := 84) hx hb dX11_count_1 (by rw [c1000029]; decide) (by rw [c1000029]; decide) (by rw [c1000029]; rfl) (by decide) ?_
    refine lv_aload_n hx hb dX11_count_84 rfl (lv_at hl 0 rfl) ?_
    refine r_getQ C hW hm (ci := 11) kx0 ff_11_6 cl_11 fl_RX11_51 dX11_count_85 (fun o1000030 eo1000030 k1000031 hm => ?_)
    obtain ⟨b1000032, e1000033, hq1000034⟩ := q_mi hm
    subst e1000033
    have hm := hq1000034
    have k1000035 := k1000031 b1000032 rfl
    refine r_getI C hW (ci := 10) k1000035 ff_10_11 cl_10 fl_RX11_368 dX11_count_88 ?_
    exact e_i C hW hS hm dX11_count_91
  refine q_ifc hm (fun c1000036 hm => ?_) (fun c1000036 hm => ?_)
  · refine lv_tableIn (tgt := 92) hx hb dX11_count_1 (by rw [c1000036]; decide) (by rw [c1000036]; decide) (by rw [c1000036]; rfl) (by decide) ?_
    refine lv_aload_n hx hb dX11_count_92 rfl (lv_at hl 0 rfl) ?_
    refine r_getQ C hW hm (ci := 11) kx0 ff_11_6 cl_11 fl_RX11_51 dX11_count_93 (fun o1000037 eo1000037 k1000038 hm => ?_)
    obtain ⟨b1000039, e1000040, hq1000041⟩ := q_mi hm
    subst e1000040
    have hm := hq1000041
    have k1000042 := k1000038 b1000039 rfl
    refine r_getI C hW (ci := 10) k1000042 ff_10_12 cl_10 fl_RX11_175 dX11_count_96 ?_
    exact e_i C hW hS hm dX11_count_99
  refine q_ifc hm (fun c1000043 hm => ?_) (fun c1000043 hm => ?_)
  · refine lv_tableIn (tgt := 100) hx hb dX11_count_1 (by rw [c1000043]; decide) (by rw [c1000043]; decide) (by rw [c1000043]; rfl) (by decide) ?_
    refine lv_aload_n hx hb dX11_count_100 rfl (lv_at hl 0 rfl) ?_
    refine r_getF C hW (ci := 11) kx0 ff_11_0 cl_11 fl_RX11_10 dX11_count_101 (fun k1000044 => ?_)
    refine r_getF C hW (ci := 3) k1000044 ff_3_0 cl_3 fl_RX11_65 dX11_count_104 (fun k1000045 => ?_)
    refine r_getI C hW (ci := 9) k1000045 ff_9_6 cl_9 fl_RX11_69 dX11_count_107 ?_
    exact e_i C hW hS hm dX11_count_110
  refine q_ifc hm (fun c1000046 hm => ?_) (fun c1000046 hm => ?_)
  · refine lv_tableIn (tgt := 111) hx hb dX11_count_1 (by rw [c1000046]; decide) (by rw [c1000046]; decide) (by rw [c1000046]; rfl) (by decide) ?_
    refine lv_aload_n hx hb dX11_count_111 rfl (lv_at hl 0 rfl) ?_
    refine r_getI C hW (ci := 11) kx0 ff_11_9 cl_11 fl_RX11_62 dX11_count_112 ?_
    obtain ⟨v1000048, hc1000047, hm⟩ := q_b1i hm
    refine q_callS C hW hS (As := [.int (dt.1 x0 9)]) (rest := []) (st1 := [.int v1000048]) (c_J6_bitCount_0f7a4 l D al dt (dt.1 x0 9) v1000048 hc1000047) yl_J6_bitCount_0f7a4 sl_J6_bitCount_0f7a4 ml_RX11_131 rfl ⟨Nat.le_of_ble_eq_true rfl, Nat.le_of_ble_eq_true rfl⟩ hl rfl (Nat.le_of_ble_eq_true rfl) dX11_count_115 ⟨Nat.le_refl _, Nat.le_refl _⟩ rfl (fun H locs k1000049 hW hS => ?_)
    exact e_i C hW hS hm dX11_count_118
  refine q_ifc hm (fun c1000050 hm => ?_) (fun c1000050 hm => ?_)
  · refine lv_tableIn (tgt := 119) hx hb dX11_count_1 (by rw [c1000050]; decide) (by rw [c1000050]; decide) (by rw [c1000050]; rfl) (by decide) ?_
    refine lv_aload_n hx hb dX11_count_119 rfl (lv_at hl 0 rfl) ?_
    refine r_getQ C hW hm (ci := 11) kx0 ff_11_6 cl_11 fl_RX11_51 dX11_count_120 (fun o1000051 eo1000051 k1000052 hm => ?_)
    obtain ⟨b1000053, e1000054, hq1000055⟩ := q_mi hm
    subst e1000054
    have hm := hq1000055
    have k1000056 := k1000052 b1000053 rfl
    refine r_getI C hW (ci := 10) k1000056 ff_10_13 cl_10 fl_RX11_371 dX11_count_123 ?_
    exact e_i C hW hS hm dX11_count_126
  have c1000001_z := lv_neT c1000001 (a := 0) rfl
  have c1000008_z := lv_neT c1000008 (a := 1) rfl
  have c1000015_z := lv_neT c1000015 (a := 2) rfl
  have c1000022_z := lv_neT c1000022 (a := 3) rfl
  have c1000029_z := lv_neT c1000029 (a := 4) rfl
  have c1000036_z := lv_neT c1000036 (a := 5) rfl
  have c1000043_z := lv_neT c1000043 (a := 6) rfl
  have c1000046_z := lv_neT c1000046 (a := 7) rfl
  have c1000050_z := lv_neT c1000050 (a := 8) rfl
  refine lv_tableOut (tgt := 127) hx hb dX11_count_1 (by omega) (by decide) ?_
  refine lv_aload_n hx hb dX11_count_127 rfl (lv_at hl 0 rfl) ?_
  refine lv_iload_n hx hb dX11_count_128 rfl (lv_at hl 1 rfl) ?_
  obtain ⟨v1000058, hc1000057, hm⟩ := q_b1i hm
  refine q_callV C hW hS (As := [.int x1]) (rest := []) (st1 := [.int v1000058]) (c_X11_countOfOne l D al dt x0 x1 kx0 v1000058 hc1000057) yl_X11_countOfOne vl_X11_countOfOne ml_RX11_374 (ci := 11) rfl kx0 (by decide) rfl ⟨Nat.le_of_ble_eq_true rfl, Nat.le_of_ble_eq_true rfl⟩ hl rfl (Nat.le_of_ble_eq_true rfl) dX11_count_129 ⟨Nat.le_refl _, Nat.le_refl _⟩ rfl (fun H locs k1000059 hW hS => ?_)
  exact e_i C hW hS hm dX11_count_132
theorem dX12_put_0 : decode cX12_put 0 = .ok (.bipush 24, 2) := by decide +kernel
theorem dX12_put_2 : decode cX12_put 2 = .ok (.istore_n 2, 1) := by decide +kernel
theorem dX12_put_3 : decode cX12_put 3 = .ok (.iload_n 2, 1) := by decide +kernel
theorem dX12_put_4 : decode cX12_put 4 = .ok (.ifCond .lt 32, 3) := by decide +kernel
theorem dX12_put_7 : decode cX12_put 7 = .ok (.aload_n 0, 1) := by decide +kernel
theorem dX12_put_8 : decode cX12_put 8 = .ok (.getfield 13, 3) := by decide +kernel
theorem dX12_put_11 : decode cX12_put 11 = .ok (.aload_n 0, 1) := by decide +kernel
theorem dX12_put_12 : decode cX12_put 12 = .ok (.getfield 174, 3) := by decide +kernel
theorem dX12_put_15 : decode cX12_put 15 = .ok (.iload_n 1, 1) := by decide +kernel
theorem dX12_put_16 : decode cX12_put 16 = .ok (.iload_n 2, 1) := by decide +kernel
theorem dX12_put_17 : decode cX12_put 17 = .ok (.ishr, 1) := by decide +kernel
theorem dX12_put_18 : decode cX12_put 18 = .ok (.i2b, 1) := by decide +kernel
theorem dX12_put_19 : decode cX12_put 19 = .ok (.bastore, 1) := by decide +kernel
theorem dX12_put_20 : decode cX12_put 20 = .ok (.aload_n 0, 1) := by decide +kernel
theorem dX12_put_21 : decode cX12_put 21 = .ok (.dup, 1) := by decide +kernel
theorem dX12_put_22 : decode cX12_put 22 = .ok (.getfield 174, 3) := by decide +kernel
theorem dX12_put_25 : decode cX12_put 25 = .ok (.iconst 1, 1) := by decide +kernel
theorem dX12_put_26 : decode cX12_put 26 = .ok (.iadd, 1) := by decide +kernel
theorem dX12_put_27 : decode cX12_put 27 = .ok (.putfield 174, 3) := by decide +kernel
theorem dX12_put_30 : decode cX12_put 30 = .ok (.iinc 2 (-8), 3) := by decide +kernel
theorem dX12_put_33 : decode cX12_put 33 = .ok (.goto (-30), 3) := by decide +kernel
theorem dX12_put_36 : decode cX12_put 36 = .ok (.return_, 1) := by decide +kernel
set_option maxRecDepth 100000 in
theorem c_X12_put (l : Launch) (D : q_D) (al : q_Al) (dt : q_Dt) (x0 : Nat) (x1 : Int32) (kx0 : al.1 x0 = 13) (dt0 : q_Dt) (hm : X12_put al dt x0 x1 = some dt0) : q_Mt l yX12_put cX12_put 3 (none) 0 0 D al [.ref x0, .int x1] dt 0 none dt0 := by
  refine q_Mt.of (by decide) (Nat.le_of_ble_eq_true rfl) ?_
  intro p e s m args below meth c ls C hargs hW hl
  have hx := C.1
  have hb := C.2.1
  have hown := C.2.2.2.2.2.1
  have hts := C.2.2.2.2.2.2.1
  have hS : va_S (q_A al) s.heap s.heap [] := va_S.rf
  have hl : lv_has ls 3 [(0, .ref x0), (1, .int x1)] := hl
  unfold X12_put at hm
  have hB3 : ∀ (x0_3 : Nat) (x1_3 : Int32) (kx0_3 : al.1 x0_3 = 13) (n_3 : Nat) (x2_3 : Int32) (dt : q_Dt) (H : Heap) (locs : List Loc) (ls : Array Slot) (hm : X12_put_b3 al x0_3 x1_3 n_3 x2_3 dt = some dt0) (hW : q_W D al dt H) (hS : va_S (q_A al) s.heap H locs) (hl : lv_has ls 3 [(0, .ref x0_3), (1, .int x1_3), (2, .int x2_3)]), W p l e { frames := 0, cells := 0, slots := 0, locals := 0 } s m args below meth c H locs 0 0 (MQ below (q_Q none (fun H => q_W D al dt0 H ∧ q_Rk al 0 none) (q_A al)) args s 0 0 (q_A al)) (F0 m 3 ls []) := by
    intro x0_3 x1_3 kx0_3
    intro n_3
    induction n_3 with
    | zero => intro x2_3 dt H locs ls hm hW hS hl; cases hm
    | succ n_3 ih3 =>
      intro x2_3 dt H locs ls hm hW hS hl
      rw [X12_put_b3] at hm
      refine lv_iload_n hx hb dX12_put_3 rfl (lv_at hl 2 rfl) ?_
      refine q_ifc hm (fun c3001 hm => ?_) (fun c3001 hm => ?_)
      · refine lv_if_lt (tgt := 36) hx hb dX12_put_4 (by decide) (fun _ => ?_) (fun h => absurd c3001 h)
        exact e_vD C hW hS hm dX12_put_36
      refine lv_if_lt (tgt := 36) hx hb dX12_put_4 (by decide) (fun h => absurd h c3001) (fun _ => ?_)
      refine lv_aload_n hx hb dX12_put_7 rfl (lv_at hl 0 rfl) ?_
      refine r_getF C hW (ci := 12) kx0_3 ff_12_1 cl_12 fl_RX12_13 dX12_put_8 (fun k3002 => ?_)
      refine lv_aload_n hx hb dX12_put_11 rfl (lv_at hl 0 rfl) ?_
      refine r_getI C hW (ci := 12) kx0_3 ff_12_2 cl_12 fl_RX12_174 dX12_put_12 ?_
      refine lv_iload_n hx hb dX12_put_15 rfl (lv_at hl 1 rfl) ?_
      refine lv_iload_n hx hb dX12_put_16 rfl (lv_at hl 2 rfl) ?_
      refine lv_ishr hx hb dX12_put_17 ?_
      refine lv_i2b (v := (Int8.toInt32 (Int32.toInt8 (x1_3 >>> (x2_3 &&& 31))))) hx hb dX12_put_18 rfl ?_
      refine r_bast C hW hS hm k3002 dX12_put_19 (fun dt3003 H locs hm hW hS => ?_)
      refine lv_aload_n hx hb dX12_put_20 rfl (lv_at hl 0 rfl) ?_
      refine lv_dup hx hb dX12_put_21 rfl ?_
      refine r_getI C hW (ci := 12) kx0_3 ff_12_2 cl_12 fl_RX12_174 dX12_put_22 ?_
      refine lv_iconst (v := 1) hx hb dX12_put_25 (by decide) ?_
      refine lv_iadd hx hb dX12_put_26 ?_
      refine r_putI C hW hS hm (ci := 12) kx0_3 ff_12_2 cl_12 fl_RX12_174 (nf_12_2) rfl dX12_put_27 (fun dt3004 H locs hm hW hS => ?_)
      refine lv_iinc (v := (x2_3 + (-8))) (lv' := [(2, .int (x2_3 + (-8))), (0, .ref x0_3), (1, .int x1_3)]) hx hb dX12_put_30 hl (k := 2) rfl rfl (by decide) rfl (fun ls hl => ?_)
      refine lv_goto (tgt := 3) hx hb dX12_put_33 (by decide) ?_
      exact ih3 (x2_3 + (-8)) dt3004 _ _ _ hm hW hS (lv_sub hl [1, 2, 0] rfl)
  refine lv_bipush (v := 24) hx hb dX12_put_0 (by decide) ?_
  refine lv_istore_n (i := 2) (lv' := [(2, .int 24), (0, .ref x0), (1, .int x1)]) hx hb dX12_put_2 rfl hl (by decide) rfl (fun ls hl => ?_)
  exact hB3 x0 x1 kx0 q_FU 24 dt _ _ _ hm hW hS (lv_sub hl [1, 2, 0] rfl)
theorem dX12_feed_0 : decode cX12_feed 0 = .ok (.aload_n 0, 1) := by decide +kernel
theorem dX12_feed_1 : decode cX12_feed 1 = .ok (.getfield 174, 3) := by decide +kernel
theorem dX12_feed_4 : decode cX12_feed 4 = .ok (.bipush 20, 2) := by decide +kernel
theorem dX12_feed_6 : decode cX12_feed 6 = .ok (.iadd, 1) := by decide +kernel
theorem dX12_feed_7 : decode cX12_feed 7 = .ok (.sipush 2000, 3) := by decide +kernel
theorem dX12_feed_10 : decode cX12_feed 10 = .ok (.if_icmp .le 5, 3) := by decide +kernel
theorem dX12_feed_13 : decode cX12_feed 13 = .ok (.iconst (-1), 1) := by decide +kernel
theorem dX12_feed_14 : decode cX12_feed 14 = .ok (.ireturn, 1) := by decide +kernel
theorem dX12_feed_15 : decode cX12_feed 15 = .ok (.aload_n 0, 1) := by decide +kernel
theorem dX12_feed_16 : decode cX12_feed 16 = .ok (.iload_n 1, 1) := by decide +kernel
theorem dX12_feed_17 : decode cX12_feed 17 = .ok (.invokevirtual 177, 3) := by decide +kernel
theorem dX12_feed_20 : decode cX12_feed 20 = .ok (.aload_n 0, 1) := by decide +kernel
theorem dX12_feed_21 : decode cX12_feed 21 = .ok (.iload_n 2, 1) := by decide +kernel
theorem dX12_feed_22 : decode cX12_feed 22 = .ok (.invokevirtual 177, 3) := by decide +kernel
theorem dX12_feed_25 : decode cX12_feed 25 = .ok (.aload_n 0, 1) := by decide +kernel
theorem dX12_feed_26 : decode cX12_feed 26 = .ok (.iload_n 3, 1) := by decide +kernel
theorem dX12_feed_27 : decode cX12_feed 27 = .ok (.invokevirtual 177, 3) := by decide +kernel
theorem dX12_feed_30 : decode cX12_feed 30 = .ok (.aload_n 0, 1) := by decide +kernel
theorem dX12_feed_31 : decode cX12_feed 31 = .ok (.iload 4, 2) := by decide +kernel
theorem dX12_feed_33 : decode cX12_feed 33 = .ok (.invokevirtual 177, 3) := by decide +kernel
theorem dX12_feed_36 : decode cX12_feed 36 = .ok (.aload_n 0, 1) := by decide +kernel
theorem dX12_feed_37 : decode cX12_feed 37 = .ok (.iload 5, 2) := by decide +kernel
theorem dX12_feed_39 : decode cX12_feed 39 = .ok (.invokevirtual 177, 3) := by decide +kernel
theorem dX12_feed_42 : decode cX12_feed 42 = .ok (.aload_n 0, 1) := by decide +kernel
theorem dX12_feed_43 : decode cX12_feed 43 = .ok (.getfield 174, 3) := by decide +kernel
theorem dX12_feed_46 : decode cX12_feed 46 = .ok (.ireturn, 1) := by decide +kernel
set_option maxRecDepth 100000 in
theorem c_X12_feed (l : Launch) (D : q_D) (al : q_Al) (dt : q_Dt) (x0 : Nat) (x1 : Int32) (x2 : Int32) (x3 : Int32) (x4 : Int32) (x5 : Int32) (kx0 : al.1 x0 = 13) (r0 : Int32) (dt0 : q_Dt) (hm : X12_feed al dt x0 x1 x2 x3 x4 x5 = some (r0, dt0)) : q_Mt l yX12_feed cX12_feed 6 (some FieldType.int) 1 22 D al [.ref x0, .int x1, .int x2, .int x3, .int x4, .int x5] dt 0 (some (.int r0)) dt0 := by
  refine q_Mt.of (by decide) (Nat.le_of_ble_eq_true rfl) ?_
  intro p e s m args below meth c ls C hargs hW hl
  have hx := C.1
  have hb := C.2.1
  have hown := C.2.2.2.2.2.1
  have hts := C.2.2.2.2.2.2.1
  have hS : va_S (q_A al) s.heap s.heap [] := va_S.rf
  have hl : lv_has ls 6 [(0, .ref x0), (1, .int x1), (2, .int x2), (3, .int x3), (4, .int x4), (5, .int x5)] := hl
  unfold X12_feed at hm
  refine lv_aload_n hx hb dX12_feed_0 rfl (lv_at hl 0 rfl) ?_
  refine r_getI C hW (ci := 12) kx0 ff_12_2 cl_12 fl_RX12_174 dX12_feed_1 ?_
  refine lv_bipush (v := 20) hx hb dX12_feed_4 (by decide) ?_
  refine lv_iadd hx hb dX12_feed_6 ?_
  refine lv_sipush (v := 2000) hx hb dX12_feed_7 (by decide) ?_
  refine q_ifc hm (fun c1000001 hm => ?_) (fun c1000001 hm => ?_)
  · refine lv_icmp_le (tgt := 15) hx hb dX12_feed_10 (by decide) (fun _ => ?_) (fun h => absurd c1000001 h)
    refine lv_aload_n hx hb dX12_feed_15 rfl (lv_at hl 0 rfl) ?_
    refine lv_iload_n hx hb dX12_feed_16 rfl (lv_at hl 1 rfl) ?_
    obtain ⟨dt1000003, hc1000002, hm⟩ := q_b1i hm
    refine q_callV C hW hS (As := [.int x1]) (rest := []) (st1 := []) (c_X12_put l D al dt x0 x1 kx0 dt1000003 hc1000002) yl_X12_put vl_X12_put ml_RX12_177 (ci := 12) rfl kx0 (by decide) rfl ⟨Nat.le_of_ble_eq_true rfl, Nat.le_of_ble_eq_true rfl⟩ hl rfl (Nat.le_of_ble_eq_true rfl) dX12_feed_17 ⟨Nat.le_refl _, Nat.le_refl _⟩ rfl (fun H locs k1000004 hW hS => ?_)
    refine lv_aload_n hx hb dX12_feed_20 rfl (lv_at hl 0 rfl) ?_
    refine lv_iload_n hx hb dX12_feed_21 rfl (lv_at hl 2 rfl) ?_
    obtain ⟨dt1000006, hc1000005, hm⟩ := q_b1i hm
    refine q_callV C hW hS (As := [.int x2]) (rest := []) (st1 := []) (c_X12_put l D al dt1000003 x0 x2 kx0 dt1000006 hc1000005) yl_X12_put vl_X12_put ml_RX12_177 (ci := 12) rfl kx0 (by decide) rfl ⟨Nat.le_of_ble_eq_true rfl, Nat.le_of_ble_eq_true rfl⟩ hl rfl (Nat.le_of_ble_eq_true rfl) dX12_feed_22 ⟨Nat.le_refl _, Nat.le_refl _⟩ rfl (fun H locs k1000007 hW hS => ?_)
    refine lv_aload_n hx hb dX12_feed_25 rfl (lv_at hl 0 rfl) ?_
    refine lv_iload_n hx hb dX12_feed_26 rfl (lv_at hl 3 rfl) ?_
    obtain ⟨dt1000009, hc1000008, hm⟩ := q_b1i hm
    refine q_callV C hW hS (As := [.int x3]) (rest := []) (st1 := []) (c_X12_put l D al dt1000006 x0 x3 kx0 dt1000009 hc1000008) yl_X12_put vl_X12_put ml_RX12_177 (ci := 12) rfl kx0 (by decide) rfl ⟨Nat.le_of_ble_eq_true rfl, Nat.le_of_ble_eq_true rfl⟩ hl rfl (Nat.le_of_ble_eq_true rfl) dX12_feed_27 ⟨Nat.le_refl _, Nat.le_refl _⟩ rfl (fun H locs k1000010 hW hS => ?_)
    refine lv_aload_n hx hb dX12_feed_30 rfl (lv_at hl 0 rfl) ?_
    refine lv_iload hx hb dX12_feed_31 (lv_at hl 4 rfl) ?_
    obtain ⟨dt1000012, hc1000011, hm⟩ := q_b1i hm
    refine q_callV C hW hS (As := [.int x4]) (rest := []) (st1 := []) (c_X12_put l D al dt1000009 x0 x4 kx0 dt1000012 hc1000011) yl_X12_put vl_X12_put ml_RX12_177 (ci := 12) rfl kx0 (by decide) rfl ⟨Nat.le_of_ble_eq_true rfl, Nat.le_of_ble_eq_true rfl⟩ hl rfl (Nat.le_of_ble_eq_true rfl) dX12_feed_33 ⟨Nat.le_refl _, Nat.le_refl _⟩ rfl (fun H locs k1000013 hW hS => ?_)
    refine lv_aload_n hx hb dX12_feed_36 rfl (lv_at hl 0 rfl) ?_
    refine lv_iload hx hb dX12_feed_37 (lv_at hl 5 rfl) ?_
    obtain ⟨dt1000015, hc1000014, hm⟩ := q_b1i hm
    refine q_callV C hW hS (As := [.int x5]) (rest := []) (st1 := []) (c_X12_put l D al dt1000012 x0 x5 kx0 dt1000015 hc1000014) yl_X12_put vl_X12_put ml_RX12_177 (ci := 12) rfl kx0 (by decide) rfl ⟨Nat.le_of_ble_eq_true rfl, Nat.le_of_ble_eq_true rfl⟩ hl rfl (Nat.le_of_ble_eq_true rfl) dX12_feed_39 ⟨Nat.le_refl _, Nat.le_refl _⟩ rfl (fun H locs k1000016 hW hS => ?_)
    refine lv_aload_n hx hb dX12_feed_42 rfl (lv_at hl 0 rfl) ?_
    refine r_getI C hW (ci := 12) kx0 ff_12_2 cl_12 fl_RX12_174 dX12_feed_43 ?_
    exact e_iD C hW hS hm dX12_feed_46
  refine lv_icmp_le (tgt := 15) hx hb dX12_feed_10 (by decide) (fun h => absurd h c1000001) (fun _ => ?_)
  refine lv_iconst (v := (-1)) hx hb dX12_feed_13 (by decide) ?_
  exact e_iD C hW hS hm dX12_feed_14
theorem dX12_back_0 : decode cX12_back 0 = .ok (.iload_n 1, 1) := by decide +kernel
theorem dX12_back_1 : decode cX12_back 1 = .ok (.ifCond .lt 11, 3) := by decide +kernel
theorem dX12_back_4 : decode cX12_back 4 = .ok (.iload_n 1, 1) := by decide +kernel
theorem dX12_back_5 : decode cX12_back 5 = .ok (.aload_n 0, 1) := by decide +kernel
theorem dX12_back_6 : decode cX12_back 6 = .ok (.getfield 174, 3) := by decide +kernel
theorem dX12_back_9 : decode cX12_back 9 = .ok (.if_icmp .le 5, 3) := by decide +kernel
theorem dX12_back_12 : decode cX12_back 12 = .ok (.iconst (-1), 1) := by decide +kernel
theorem dX12_back_13 : decode cX12_back 13 = .ok (.ireturn, 1) := by decide +kernel
theorem dX12_back_14 : decode cX12_back 14 = .ok (.aload_n 0, 1) := by decide +kernel
theorem dX12_back_15 : decode cX12_back 15 = .ok (.dup, 1) := by decide +kernel
theorem dX12_back_16 : decode cX12_back 16 = .ok (.getfield 174, 3) := by decide +kernel
theorem dX12_back_19 : decode cX12_back 19 = .ok (.iload_n 1, 1) := by decide +kernel
theorem dX12_back_20 : decode cX12_back 20 = .ok (.isub, 1) := by decide +kernel
theorem dX12_back_21 : decode cX12_back 21 = .ok (.putfield 174, 3) := by decide +kernel
theorem dX12_back_24 : decode cX12_back 24 = .ok (.aload_n 0, 1) := by decide +kernel
theorem dX12_back_25 : decode cX12_back 25 = .ok (.getfield 174, 3) := by decide +kernel
theorem dX12_back_28 : decode cX12_back 28 = .ok (.ireturn, 1) := by decide +kernel
set_option maxRecDepth 100000 in
theorem c_X12_back (l : Launch) (D : q_D) (al : q_Al) (dt : q_Dt) (x0 : Nat) (x1 : Int32) (kx0 : al.1 x0 = 13) (r0 : Int32) (dt0 : q_Dt) (hm : X12_back al dt x0 x1 = some (r0, dt0)) : q_Mt l yX12_back cX12_back 2 (some FieldType.int) 0 0 D al [.ref x0, .int x1] dt 0 (some (.int r0)) dt0 := by
  refine q_Mt.of (by decide) (Nat.le_of_ble_eq_true rfl) ?_
  intro p e s m args below meth c ls C hargs hW hl
  have hx := C.1
  have hb := C.2.1
  have hown := C.2.2.2.2.2.1
  have hts := C.2.2.2.2.2.2.1
  have hS : va_S (q_A al) s.heap s.heap [] := va_S.rf
  have hl : lv_has ls 2 [(0, .ref x0), (1, .int x1)] := hl
  unfold X12_back at hm
  refine lv_iload_n hx hb dX12_back_0 rfl (lv_at hl 1 rfl) ?_
  refine q_ifc hm (fun c1000001 hm => ?_) (fun c1000001 hm => ?_)
  · refine lv_if_lt (tgt := 12) hx hb dX12_back_1 (by decide) (fun _ => ?_) (fun h => absurd c1000001 h)
    refine lv_iconst (v := (-1)) hx hb dX12_back_12 (by decide) ?_
    exact e_iD C hW hS hm dX12_back_13
  refine lv_if_lt (tgt := 12) hx hb dX12_back_1 (by decide) (fun h => absurd h c1000001) (fun _ => ?_)
  refine lv_iload_n hx hb dX12_back_4 rfl (lv_at hl 1 rfl) ?_
  refine lv_aload_n hx hb dX12_back_5 rfl (lv_at hl 0 rfl) ?_
  refine r_getI C hW (ci := 12) kx0 ff_12_2 cl_12 fl_RX12_174 dX12_back_6 ?_
  refine q_ifc hm (fun c1000002 hm => ?_) (fun c1000002 hm => ?_)
  · refine lv_icmp_le (tgt := 14) hx hb dX12_back_9 (by decide) (fun _ => ?_) (fun h => absurd c1000002 h)
    refine lv_aload_n hx hb dX12_back_14 rfl (lv_at hl 0 rfl) ?_
    refine lv_dup hx hb dX12_back_15 rfl ?_
    refine r_getI C hW (ci := 12) kx0 ff_12_2 cl_12 fl_RX12_174 dX12_back_16 ?_
    refine lv_iload_n hx hb dX12_back_19 rfl (lv_at hl 1 rfl) ?_
    refine lv_isub hx hb dX12_back_20 ?_
    refine r_putI C hW hS hm (ci := 12) kx0 ff_12_2 cl_12 fl_RX12_174 (nf_12_2) rfl dX12_back_21 (fun dt1000003 H locs hm hW hS => ?_)
    refine lv_aload_n hx hb dX12_back_24 rfl (lv_at hl 0 rfl) ?_
    refine r_getI C hW (ci := 12) kx0 ff_12_2 cl_12 fl_RX12_174 dX12_back_25 ?_
    exact e_iD C hW hS hm dX12_back_28
  refine lv_icmp_le (tgt := 14) hx hb dX12_back_9 (by decide) (fun h => absurd h c1000002) (fun _ => ?_)
  refine lv_iconst (v := (-1)) hx hb dX12_back_12 (by decide) ?_
  exact e_iD C hW hS hm dX12_back_13
theorem dX12_byteAt_0 : decode cX12_byteAt 0 = .ok (.iload_n 1, 1) := by decide +kernel
theorem dX12_byteAt_1 : decode cX12_byteAt 1 = .ok (.aload_n 0, 1) := by decide +kernel
theorem dX12_byteAt_2 : decode cX12_byteAt 2 = .ok (.getfield 181, 3) := by decide +kernel
theorem dX12_byteAt_5 : decode cX12_byteAt 5 = .ok (.if_icmp .ge 16, 3) := by decide +kernel
theorem dX12_byteAt_8 : decode cX12_byteAt 8 = .ok (.aload_n 0, 1) := by decide +kernel
theorem dX12_byteAt_9 : decode cX12_byteAt 9 = .ok (.getfield 17, 3) := by decide +kernel
theorem dX12_byteAt_12 : decode cX12_byteAt 12 = .ok (.iload_n 1, 1) := by decide +kernel
theorem dX12_byteAt_13 : decode cX12_byteAt 13 = .ok (.baload, 1) := by decide +kernel
theorem dX12_byteAt_14 : decode cX12_byteAt 14 = .ok (.sipush 255, 3) := by decide +kernel
theorem dX12_byteAt_17 : decode cX12_byteAt 17 = .ok (.iand, 1) := by decide +kernel
theorem dX12_byteAt_18 : decode cX12_byteAt 18 = .ok (.goto 4, 3) := by decide +kernel
theorem dX12_byteAt_21 : decode cX12_byteAt 21 = .ok (.iconst 0, 1) := by decide +kernel
theorem dX12_byteAt_22 : decode cX12_byteAt 22 = .ok (.ireturn, 1) := by decide +kernel
set_option maxRecDepth 100000 in
theorem c_X12_byteAt (l : Launch) (D : q_D) (al : q_Al) (dt : q_Dt) (x0 : Nat) (x1 : Int32) (kx0 : al.1 x0 = 13) (r0 : Int32) (hm : X12_byteAt al dt x0 x1 = some r0) : q_Mt l yX12_byteAt cX12_byteAt 2 (some FieldType.int) 0 0 D al [.ref x0, .int x1] dt 0 (some (.int r0)) dt := by
  refine q_Mt.of (by decide) (Nat.le_of_ble_eq_true rfl) ?_
  intro p e s m args below meth c ls C hargs hW hl
  have hx := C.1
  have hb := C.2.1
  have hown := C.2.2.2.2.2.1
  have hts := C.2.2.2.2.2.2.1
  have hS : va_S (q_A al) s.heap s.heap [] := va_S.rf
  have hl : lv_has ls 2 [(0, .ref x0), (1, .int x1)] := hl
  unfold X12_byteAt at hm
  refine lv_iload_n hx hb dX12_byteAt_0 rfl (lv_at hl 1 rfl) ?_
  refine lv_aload_n hx hb dX12_byteAt_1 rfl (lv_at hl 0 rfl) ?_
  refine r_getI C hW (ci := 12) kx0 ff_12_4 cl_12 fl_RX12_181 dX12_byteAt_2 ?_
  refine q_ifc hm (fun c1000001 hm => ?_) (fun c1000001 hm => ?_)
  · refine lv_icmp_ge (tgt := 21) hx hb dX12_byteAt_5 (by decide) (fun _ => ?_) (fun h => absurd c1000001 h)
    refine lv_iconst (v := 0) hx hb dX12_byteAt_21 (by decide) ?_
    exact e_i C hW hS hm dX12_byteAt_22
  refine lv_icmp_ge (tgt := 21) hx hb dX12_byteAt_5 (by decide) (fun h => absurd h c1000001) (fun _ => ?_)
  refine lv_aload_n hx hb dX12_byteAt_8 rfl (lv_at hl 0 rfl) ?_
  refine r_getF C hW (ci := 12) kx0 ff_12_3 cl_12 fl_RX12_17 dX12_byteAt_9 (fun k1000002 => ?_)
  refine lv_iload_n hx hb dX12_byteAt_12 rfl (lv_at hl 1 rfl) ?_
  refine r_bald C hW hm k1000002 dX12_byteAt_13 (fun hm => ?_)
  refine lv_sipush (v := 255) hx hb dX12_byteAt_14 (by decide) ?_
  refine lv_iand hx hb dX12_byteAt_17 ?_
  refine lv_goto (tgt := 22) hx hb dX12_byteAt_18 (by decide) ?_
  exact e_i C hW hS hm dX12_byteAt_22
theorem dX12_isDigit_0 : decode cX12_isDigit 0 = .ok (.iload_n 0, 1) := by decide +kernel
theorem dX12_isDigit_1 : decode cX12_isDigit 1 = .ok (.bipush 48, 2) := by decide +kernel
theorem dX12_isDigit_3 : decode cX12_isDigit 3 = .ok (.if_icmp .lt 13, 3) := by decide +kernel
theorem dX12_isDigit_6 : decode cX12_isDigit 6 = .ok (.iload_n 0, 1) := by decide +kernel
theorem dX12_isDigit_7 : decode cX12_isDigit 7 = .ok (.bipush 57, 2) := by decide +kernel
theorem dX12_isDigit_9 : decode cX12_isDigit 9 = .ok (.if_icmp .gt 7, 3) := by decide +kernel
theorem dX12_isDigit_12 : decode cX12_isDigit 12 = .ok (.iconst 1, 1) := by decide +kernel
theorem dX12_isDigit_13 : decode cX12_isDigit 13 = .ok (.goto 4, 3) := by decide +kernel
theorem dX12_isDigit_16 : decode cX12_isDigit 16 = .ok (.iconst 0, 1) := by decide +kernel
theorem dX12_isDigit_17 : decode cX12_isDigit 17 = .ok (.ireturn, 1) := by decide +kernel
set_option maxRecDepth 100000 in
theorem c_X12_isDigit (l : Launch) (D : q_D) (al : q_Al) (dt : q_Dt) (x0 : Int32) (r0 : Int32) (hm : X12_isDigit x0 = some r0) : q_Mt l yX12_isDigit cX12_isDigit 1 (some FieldType.boolean) 0 0 D al [.int x0] dt 0 (some (.int r0)) dt := by
  refine q_Mt.of (by decide) (Nat.le_of_ble_eq_true rfl) ?_
  intro p e s m args below meth c ls C hargs hW hl
  have hx := C.1
  have hb := C.2.1
  have hown := C.2.2.2.2.2.1
  have hts := C.2.2.2.2.2.2.1
  have hS : va_S (q_A al) s.heap s.heap [] := va_S.rf
  have hl : lv_has ls 1 [(0, .int x0)] := hl
  unfold X12_isDigit at hm
  refine lv_iload_n hx hb dX12_isDigit_0 rfl (lv_at hl 0 rfl) ?_
  refine lv_bipush (v := 48) hx hb dX12_isDigit_1 (by decide) ?_
  refine q_ifc hm (fun c1000001 hm => ?_) (fun c1000001 hm => ?_)
  · refine lv_icmp_lt (tgt := 16) hx hb dX12_isDigit_3 (by decide) (fun _ => ?_) (fun h => absurd c1000001 h)
    refine lv_iconst (v := 0) hx hb dX12_isDigit_16 (by decide) ?_
    exact e_zl C hW hS (Or.inl rfl) hm dX12_isDigit_17
  refine lv_icmp_lt (tgt := 16) hx hb dX12_isDigit_3 (by decide) (fun h => absurd h c1000001) (fun _ => ?_)
  refine lv_iload_n hx hb dX12_isDigit_6 rfl (lv_at hl 0 rfl) ?_
  refine lv_bipush (v := 57) hx hb dX12_isDigit_7 (by decide) ?_
  refine q_ifc hm (fun c1000002 hm => ?_) (fun c1000002 hm => ?_)
  · refine lv_icmp_gt (tgt := 16) hx hb dX12_isDigit_9 (by decide) (fun _ => ?_) (fun h => absurd c1000002 h)
    refine lv_iconst (v := 0) hx hb dX12_isDigit_16 (by decide) ?_
    exact e_zl C hW hS (Or.inl rfl) hm dX12_isDigit_17
  refine lv_icmp_gt (tgt := 16) hx hb dX12_isDigit_9 (by decide) (fun h => absurd h c1000002) (fun _ => ?_)
  refine lv_iconst (v := 1) hx hb dX12_isDigit_12 (by decide) ?_
  refine lv_goto (tgt := 17) hx hb dX12_isDigit_13 (by decide) ?_
  exact e_zl C hW hS (Or.inr rfl) hm dX12_isDigit_17
theorem dX12_isLetter_0 : decode cX12_isLetter 0 = .ok (.iload_n 0, 1) := by decide +kernel
theorem dX12_isLetter_1 : decode cX12_isLetter 1 = .ok (.bipush 97, 2) := by decide +kernel
theorem dX12_isLetter_3 : decode cX12_isLetter 3 = .ok (.if_icmp .lt 13, 3) := by decide +kernel
theorem dX12_isLetter_6 : decode cX12_isLetter 6 = .ok (.iload_n 0, 1) := by decide +kernel
theorem dX12_isLetter_7 : decode cX12_isLetter 7 = .ok (.bipush 122, 2) := by decide +kernel
theorem dX12_isLetter_9 : decode cX12_isLetter 9 = .ok (.if_icmp .gt 7, 3) := by decide +kernel
theorem dX12_isLetter_12 : decode cX12_isLetter 12 = .ok (.iconst 1, 1) := by decide +kernel
theorem dX12_isLetter_13 : decode cX12_isLetter 13 = .ok (.goto 4, 3) := by decide +kernel
theorem dX12_isLetter_16 : decode cX12_isLetter 16 = .ok (.iconst 0, 1) := by decide +kernel
theorem dX12_isLetter_17 : decode cX12_isLetter 17 = .ok (.ireturn, 1) := by decide +kernel
set_option maxRecDepth 100000 in
theorem c_X12_isLetter (l : Launch) (D : q_D) (al : q_Al) (dt : q_Dt) (x0 : Int32) (r0 : Int32) (hm : X12_isLetter x0 = some r0) : q_Mt l yX12_isLetter cX12_isLetter 1 (some FieldType.boolean) 0 0 D al [.int x0] dt 0 (some (.int r0)) dt := by
  refine q_Mt.of (by decide) (Nat.le_of_ble_eq_true rfl) ?_
  intro p e s m args below meth c ls C hargs hW hl
  have hx := C.1
  have hb := C.2.1
  have hown := C.2.2.2.2.2.1
  have hts := C.2.2.2.2.2.2.1
  have hS : va_S (q_A al) s.heap s.heap [] := va_S.rf
  have hl : lv_has ls 1 [(0, .int x0)] := hl
  unfold X12_isLetter at hm
  refine lv_iload_n hx hb dX12_isLetter_0 rfl (lv_at hl 0 rfl) ?_
  refine lv_bipush (v := 97) hx hb dX12_isLetter_1 (by decide) ?_
  refine q_ifc hm (fun c1000001 hm => ?_) (fun c1000001 hm => ?_)
  · refine lv_icmp_lt (tgt := 16) hx hb dX12_isLetter_3 (by decide) (fun _ => ?_) (fun h => absurd c1000001 h)
    refine lv_iconst (v := 0) hx hb dX12_isLetter_16 (by decide) ?_
    exact e_zl C hW hS (Or.inl rfl) hm dX12_isLetter_17
  refine lv_icmp_lt (tgt := 16) hx hb dX12_isLetter_3 (by decide) (fun h => absurd h c1000001) (fun _ => ?_)
  refine lv_iload_n hx hb dX12_isLetter_6 rfl (lv_at hl 0 rfl) ?_
  refine lv_bipush (v := 122) hx hb dX12_isLetter_7 (by decide) ?_
  refine q_ifc hm (fun c1000002 hm => ?_) (fun c1000002 hm => ?_)
  · refine lv_icmp_gt (tgt := 16) hx hb dX12_isLetter_9 (by decide) (fun _ => ?_) (fun h => absurd c1000002 h)
    refine lv_iconst (v := 0) hx hb dX12_isLetter_16 (by decide) ?_
    exact e_zl C hW hS (Or.inl rfl) hm dX12_isLetter_17
  refine lv_icmp_gt (tgt := 16) hx hb dX12_isLetter_9 (by decide) (fun h => absurd h c1000002) (fun _ => ?_)
  refine lv_iconst (v := 1) hx hb dX12_isLetter_12 (by decide) ?_
  refine lv_goto (tgt := 17) hx hb dX12_isLetter_13 (by decide) ?_
  exact e_zl C hW hS (Or.inr rfl) hm dX12_isLetter_17
theorem dX12_token_0 : decode cX12_token 0 = .ok (.aload_n 0, 1) := by decide +kernel
theorem dX12_token_1 : decode cX12_token 1 = .ok (.getfield 20, 3) := by decide +kernel
theorem dX12_token_4 : decode cX12_token 4 = .ok (.aload_n 0, 1) := by decide +kernel
theorem dX12_token_5 : decode cX12_token 5 = .ok (.getfield 190, 3) := by decide +kernel
theorem dX12_token_8 : decode cX12_token 8 = .ok (.iload_n 1, 1) := by decide +kernel
theorem dX12_token_9 : decode cX12_token 9 = .ok (.iastore, 1) := by decide +kernel
theorem dX12_token_10 : decode cX12_token 10 = .ok (.aload_n 0, 1) := by decide +kernel
theorem dX12_token_11 : decode cX12_token 11 = .ok (.getfield 24, 3) := by decide +kernel
theorem dX12_token_14 : decode cX12_token 14 = .ok (.aload_n 0, 1) := by decide +kernel
theorem dX12_token_15 : decode cX12_token 15 = .ok (.getfield 190, 3) := by decide +kernel
theorem dX12_token_18 : decode cX12_token 18 = .ok (.iload_n 2, 1) := by decide +kernel
theorem dX12_token_19 : decode cX12_token 19 = .ok (.iastore, 1) := by decide +kernel
theorem dX12_token_20 : decode cX12_token 20 = .ok (.aload_n 0, 1) := by decide +kernel
theorem dX12_token_21 : decode cX12_token 21 = .ok (.getfield 27, 3) := by decide +kernel
theorem dX12_token_24 : decode cX12_token 24 = .ok (.aload_n 0, 1) := by decide +kernel
theorem dX12_token_25 : decode cX12_token 25 = .ok (.getfield 190, 3) := by decide +kernel
theorem dX12_token_28 : decode cX12_token 28 = .ok (.iload_n 3, 1) := by decide +kernel
theorem dX12_token_29 : decode cX12_token 29 = .ok (.iastore, 1) := by decide +kernel
theorem dX12_token_30 : decode cX12_token 30 = .ok (.aload_n 0, 1) := by decide +kernel
theorem dX12_token_31 : decode cX12_token 31 = .ok (.getfield 30, 3) := by decide +kernel
theorem dX12_token_34 : decode cX12_token 34 = .ok (.aload_n 0, 1) := by decide +kernel
theorem dX12_token_35 : decode cX12_token 35 = .ok (.getfield 190, 3) := by decide +kernel
theorem dX12_token_38 : decode cX12_token 38 = .ok (.lload 4, 2) := by decide +kernel
theorem dX12_token_40 : decode cX12_token 40 = .ok (.lastore, 1) := by decide +kernel
theorem dX12_token_41 : decode cX12_token 41 = .ok (.aload_n 0, 1) := by decide +kernel
theorem dX12_token_42 : decode cX12_token 42 = .ok (.dup, 1) := by decide +kernel
theorem dX12_token_43 : decode cX12_token 43 = .ok (.getfield 190, 3) := by decide +kernel
theorem dX12_token_46 : decode cX12_token 46 = .ok (.iconst 1, 1) := by decide +kernel
theorem dX12_token_47 : decode cX12_token 47 = .ok (.iadd, 1) := by decide +kernel
theorem dX12_token_48 : decode cX12_token 48 = .ok (.putfield 190, 3) := by decide +kernel
theorem dX12_token_51 : decode cX12_token 51 = .ok (.return_, 1) := by decide +kernel
set_option maxRecDepth 100000 in
theorem c_X12_token (l : Launch) (D : q_D) (al : q_Al) (dt : q_Dt) (x0 : Nat) (x1 : Int32) (x2 : Int32) (x3 : Int32) (x4 : Int64) (kx0 : al.1 x0 = 13) (dt0 : q_Dt) (hm : X12_token al dt x0 x1 x2 x3 x4 = some dt0) : q_Mt l yX12_token cX12_token 6 (none) 0 0 D al [.ref x0, .int x1, .int x2, .int x3, .long x4] dt 0 none dt0 := by
  refine q_Mt.of (by decide) (Nat.le_of_ble_eq_true rfl) ?_
  intro p e s m args below meth c ls C hargs hW hl
  have hx := C.1
  have hb := C.2.1
  have hown := C.2.2.2.2.2.1
  have hts := C.2.2.2.2.2.2.1
  have hS : va_S (q_A al) s.heap s.heap [] := va_S.rf
  have hl : lv_has ls 6 [(0, .ref x0), (1, .int x1), (2, .int x2), (3, .int x3), (4, .long x4)] := hl
  unfold X12_token at hm
  refine lv_aload_n hx hb dX12_token_0 rfl (lv_at hl 0 rfl) ?_
  refine r_getF C hW (ci := 12) kx0 ff_12_5 cl_12 fl_RX12_20 dX12_token_1 (fun k1000001 => ?_)
  refine lv_aload_n hx hb dX12_token_4 rfl (lv_at hl 0 rfl) ?_
  refine r_getI C hW (ci := 12) kx0 ff_12_10 cl_12 fl_RX12_190 dX12_token_5 ?_
  refine lv_iload_n hx hb dX12_token_8 rfl (lv_at hl 1 rfl) ?_
  refine r_iast C hW hS hm k1000001 dX12_token_9 (fun dt1000002 H locs hm hW hS => ?_)
  refine lv_aload_n hx hb dX12_token_10 rfl (lv_at hl 0 rfl) ?_
  refine r_getF C hW (ci := 12) kx0 ff_12_6 cl_12 fl_RX12_24 dX12_token_11 (fun k1000003 => ?_)
  refine lv_aload_n hx hb dX12_token_14 rfl (lv_at hl 0 rfl) ?_
  refine r_getI C hW (ci := 12) kx0 ff_12_10 cl_12 fl_RX12_190 dX12_token_15 ?_
  refine lv_iload_n hx hb dX12_token_18 rfl (lv_at hl 2 rfl) ?_
  refine r_iast C hW hS hm k1000003 dX12_token_19 (fun dt1000004 H locs hm hW hS => ?_)
  refine lv_aload_n hx hb dX12_token_20 rfl (lv_at hl 0 rfl) ?_
  refine r_getF C hW (ci := 12) kx0 ff_12_7 cl_12 fl_RX12_27 dX12_token_21 (fun k1000005 => ?_)
  refine lv_aload_n hx hb dX12_token_24 rfl (lv_at hl 0 rfl) ?_
  refine r_getI C hW (ci := 12) kx0 ff_12_10 cl_12 fl_RX12_190 dX12_token_25 ?_
  refine lv_iload_n hx hb dX12_token_28 rfl (lv_at hl 3 rfl) ?_
  refine r_iast C hW hS hm k1000005 dX12_token_29 (fun dt1000006 H locs hm hW hS => ?_)
  refine lv_aload_n hx hb dX12_token_30 rfl (lv_at hl 0 rfl) ?_
  refine r_getF C hW (ci := 12) kx0 ff_12_8 cl_12 fl_RX12_30 dX12_token_31 (fun k1000007 => ?_)
  refine lv_aload_n hx hb dX12_token_34 rfl (lv_at hl 0 rfl) ?_
  refine r_getI C hW (ci := 12) kx0 ff_12_10 cl_12 fl_RX12_190 dX12_token_35 ?_
  refine lv_lload hx hb dX12_token_38 (lv_at hl 4 rfl) ?_
  refine r_last C hW hS hm k1000007 dX12_token_40 (fun dt1000008 H locs hm hW hS => ?_)
  refine lv_aload_n hx hb dX12_token_41 rfl (lv_at hl 0 rfl) ?_
  refine lv_dup hx hb dX12_token_42 rfl ?_
  refine r_getI C hW (ci := 12) kx0 ff_12_10 cl_12 fl_RX12_190 dX12_token_43 ?_
  refine lv_iconst (v := 1) hx hb dX12_token_46 (by decide) ?_
  refine lv_iadd hx hb dX12_token_47 ?_
  refine r_putI C hW hS hm (ci := 12) kx0 ff_12_10 cl_12 fl_RX12_190 (nf_12_10) rfl dX12_token_48 (fun dt1000009 H locs hm hW hS => ?_)
  exact e_vD C hW hS hm dX12_token_51
theorem dX12_sign_0 : decode cX12_sign 0 = .ok (.aload_n 0, 1) := by decide +kernel
theorem dX12_sign_1 : decode cX12_sign 1 = .ok (.iload_n 2, 1) := by decide +kernel
theorem dX12_sign_2 : decode cX12_sign 2 = .ok (.bipush 59, 2) := by decide +kernel
theorem dX12_sign_4 : decode cX12_sign 4 = .ok (.if_icmp .ne 7, 3) := by decide +kernel
theorem dX12_sign_7 : decode cX12_sign 7 = .ok (.iconst 4, 1) := by decide +kernel
theorem dX12_sign_8 : decode cX12_sign 8 = .ok (.goto 14, 3) := by decide +kernel
theorem dX12_sign_11 : decode cX12_sign 11 = .ok (.iload_n 2, 1) := by decide +kernel
theorem dX12_sign_12 : decode cX12_sign 12 = .ok (.bipush 45, 2) := by decide +kernel
theorem dX12_sign_14 : decode cX12_sign 14 = .ok (.if_icmp .ne 7, 3) := by decide +kernel
theorem dX12_sign_17 : decode cX12_sign 17 = .ok (.iconst 5, 1) := by decide +kernel
theorem dX12_sign_18 : decode cX12_sign 18 = .ok (.goto 4, 3) := by decide +kernel
theorem dX12_sign_21 : decode cX12_sign 21 = .ok (.iconst 3, 1) := by decide +kernel
theorem dX12_sign_22 : decode cX12_sign 22 = .ok (.iload_n 1, 1) := by decide +kernel
theorem dX12_sign_23 : decode cX12_sign 23 = .ok (.iconst 0, 1) := by decide +kernel
theorem dX12_sign_24 : decode cX12_sign 24 = .ok (.lconst 0, 1) := by decide +kernel
theorem dX12_sign_25 : decode cX12_sign 25 = .ok (.invokevirtual 197, 3) := by decide +kernel
theorem dX12_sign_28 : decode cX12_sign 28 = .ok (.iconst 1, 1) := by decide +kernel
theorem dX12_sign_29 : decode cX12_sign 29 = .ok (.ireturn, 1) := by decide +kernel
set_option maxRecDepth 100000 in
theorem c_X12_sign (l : Launch) (D : q_D) (al : q_Al) (dt : q_Dt) (x0 : Nat) (x1 : Int32) (x2 : Int32) (x3 : Int32) (kx0 : al.1 x0 = 13) (r0 : Int32) (dt0 : q_Dt) (hm : X12_sign al dt x0 x1 x2 x3 = some (r0, dt0)) : q_Mt l yX12_sign cX12_sign 4 (some FieldType.int) 1 25 D al [.ref x0, .int x1, .int x2, .int x3] dt 0 (some (.int r0)) dt0 := by
  refine q_Mt.of (by decide) (Nat.le_of_ble_eq_true rfl) ?_
  intro p e s m args below meth c ls C hargs hW hl
  have hx := C.1
  have hb := C.2.1
  have hown := C.2.2.2.2.2.1
  have hts := C.2.2.2.2.2.2.1
  have hS : va_S (q_A al) s.heap s.heap [] := va_S.rf
  have hl : lv_has ls 4 [(0, .ref x0), (1, .int x1), (2, .int x2), (3, .int x3)] := hl
  unfold X12_sign at hm
  have hB22 : ∀ (x1_22 : Int32) (t0_22 : Nat) (t1_22 : Int32) (kt0_22 : al.1 t0_22 = 13) (dt : q_Dt) (H : Heap) (locs : List Loc) (ls : Array Slot) (hm : X12_sign_b22 al x1_22 t0_22 t1_22 dt = some (r0, dt0)) (hW : q_W D al dt H) (hS : va_S (q_A al) s.heap H locs) (hl : lv_has ls 4 [(1, .int x1_22)]), W p l e { frames := 1, cells := 0, slots := 0, locals := 25 } s m args below meth c H locs 0 0 (MQ below (q_Q (some (.int r0)) (fun H => q_W D al dt0 H ∧ q_Rk al 0 (some (.int r0))) (q_A al)) args s 0 0 (q_A al)) (F0 m 22 ls [.int t1_22, .ref t0_22]) := by
    intro x1_22 t0_22 t1_22 kt0_22 dt H locs ls hm hW hS hl
    unfold X12_sign_b22 at hm
    refine lv_iload_n hx hb dX12_sign_22 rfl (lv_at hl 0 rfl) ?_
    refine lv_iconst (v := 0) hx hb dX12_sign_23 (by decide) ?_
    refine lv_lconst (v := 0) hx hb dX12_sign_24 rfl ?_
    obtain ⟨dt22002, hc22001, hm⟩ := q_b1i hm
    refine q_callV C hW hS (As := [.int t1_22, .int x1_22, .int 0, .long 0]) (rest := []) (st1 := []) (c_X12_token l D al dt t0_22 t1_22 x1_22 0 0 kt0_22 dt22002 hc22001) yl_X12_token vl_X12_token ml_RX12_197 (ci := 12) rfl kt0_22 (by decide) rfl ⟨Nat.le_of_ble_eq_true rfl, Nat.le_of_ble_eq_true rfl⟩ hl rfl (Nat.le_of_ble_eq_true rfl) dX12_sign_25 ⟨Nat.le_refl _, Nat.le_refl _⟩ rfl (fun H locs k22003 hW hS => ?_)
    refine lv_iconst (v := 1) hx hb dX12_sign_28 (by decide) ?_
    exact e_iD C hW hS hm dX12_sign_29
  refine lv_aload_n hx hb dX12_sign_0 rfl (lv_at hl 0 rfl) ?_
  refine lv_iload_n hx hb dX12_sign_1 rfl (lv_at hl 2 rfl) ?_
  refine lv_bipush (v := 59) hx hb dX12_sign_2 (by decide) ?_
  refine q_ifc hm (fun c1000001 hm => ?_) (fun c1000001 hm => ?_)
  · refine lv_icmp_ne (tgt := 11) hx hb dX12_sign_4 (by decide) (fun h => absurd c1000001 h) (fun _ => ?_)
    refine lv_iconst (v := 4) hx hb dX12_sign_7 (by decide) ?_
    refine lv_goto (tgt := 22) hx hb dX12_sign_8 (by decide) ?_
    exact hB22 x1 x0 4 kx0 dt _ _ _ hm hW hS (lv_sub hl [1] rfl)
  refine lv_icmp_ne (tgt := 11) hx hb dX12_sign_4 (by decide) (fun _ => ?_) (fun h => absurd h c1000001)
  refine lv_iload_n hx hb dX12_sign_11 rfl (lv_at hl 2 rfl) ?_
  refine lv_bipush (v := 45) hx hb dX12_sign_12 (by decide) ?_
  refine q_ifc hm (fun c1000002 hm => ?_) (fun c1000002 hm => ?_)
  · refine lv_icmp_ne (tgt := 21) hx hb dX12_sign_14 (by decide) (fun h => absurd c1000002 h) (fun _ => ?_)
    refine lv_iconst (v := 5) hx hb dX12_sign_17 (by decide) ?_
    refine lv_goto (tgt := 22) hx hb dX12_sign_18 (by decide) ?_
    exact hB22 x1 x0 5 kx0 dt _ _ _ hm hW hS (lv_sub hl [1] rfl)
  refine lv_icmp_ne (tgt := 21) hx hb dX12_sign_14 (by decide) (fun _ => ?_) (fun h => absurd h c1000002)
  refine lv_iconst (v := 3) hx hb dX12_sign_21 (by decide) ?_
  exact hB22 x1 x0 3 kx0 dt _ _ _ hm hW hS (lv_sub hl [1] rfl)
theorem dX12_cut_0 : decode cX12_cut 0 = .ok (.aload_n 0, 1) := by decide +kernel
theorem dX12_cut_1 : decode cX12_cut 1 = .ok (.iconst 0, 1) := by decide +kernel
theorem dX12_cut_2 : decode cX12_cut 2 = .ok (.putfield 190, 3) := by decide +kernel
theorem dX12_cut_5 : decode cX12_cut 5 = .ok (.iconst 0, 1) := by decide +kernel
theorem dX12_cut_6 : decode cX12_cut 6 = .ok (.istore_n 1, 1) := by decide +kernel
theorem dX12_cut_7 : decode cX12_cut 7 = .ok (.aload_n 0, 1) := by decide +kernel
theorem dX12_cut_8 : decode cX12_cut 8 = .ok (.getfield 190, 3) := by decide +kernel
theorem dX12_cut_11 : decode cX12_cut 11 = .ok (.sipush 400, 3) := by decide +kernel
theorem dX12_cut_14 : decode cX12_cut 14 = .ok (.if_icmp .gt 280, 3) := by decide +kernel
theorem dX12_cut_17 : decode cX12_cut 17 = .ok (.aload_n 0, 1) := by decide +kernel
theorem dX12_cut_18 : decode cX12_cut 18 = .ok (.iload_n 1, 1) := by decide +kernel
theorem dX12_cut_19 : decode cX12_cut 19 = .ok (.invokevirtual 193, 3) := by decide +kernel
theorem dX12_cut_22 : decode cX12_cut 22 = .ok (.istore_n 2, 1) := by decide +kernel
theorem dX12_cut_23 : decode cX12_cut 23 = .ok (.iload_n 1, 1) := by decide +kernel
theorem dX12_cut_24 : decode cX12_cut 24 = .ok (.aload_n 0, 1) := by decide +kernel
theorem dX12_cut_25 : decode cX12_cut 25 = .ok (.getfield 181, 3) := by decide +kernel
theorem dX12_cut_28 : decode cX12_cut 28 = .ok (.if_icmp .lt 15, 3) := by decide +kernel
theorem dX12_cut_31 : decode cX12_cut 31 = .ok (.aload_n 0, 1) := by decide +kernel
theorem dX12_cut_32 : decode cX12_cut 32 = .ok (.iconst 0, 1) := by decide +kernel
theorem dX12_cut_33 : decode cX12_cut 33 = .ok (.aload_n 0, 1) := by decide +kernel
theorem dX12_cut_34 : decode cX12_cut 34 = .ok (.getfield 181, 3) := by decide +kernel
theorem dX12_cut_37 : decode cX12_cut 37 = .ok (.iconst 0, 1) := by decide +kernel
theorem dX12_cut_38 : decode cX12_cut 38 = .ok (.lconst 0, 1) := by decide +kernel
theorem dX12_cut_39 : decode cX12_cut 39 = .ok (.invokevirtual 197, 3) := by decide +kernel
theorem dX12_cut_42 : decode cX12_cut 42 = .ok (.return_, 1) := by decide +kernel
theorem dX12_cut_43 : decode cX12_cut 43 = .ok (.iload_n 2, 1) := by decide +kernel
theorem dX12_cut_44 : decode cX12_cut 44 = .ok (.bipush 9, 2) := by decide +kernel
theorem dX12_cut_46 : decode cX12_cut 46 = .ok (.if_icmp .eq 21, 3) := by decide +kernel
theorem dX12_cut_49 : decode cX12_cut 49 = .ok (.iload_n 2, 1) := by decide +kernel
theorem dX12_cut_50 : decode cX12_cut 50 = .ok (.bipush 10, 2) := by decide +kernel
theorem dX12_cut_52 : decode cX12_cut 52 = .ok (.if_icmp .eq 15, 3) := by decide +kernel
theorem dX12_cut_55 : decode cX12_cut 55 = .ok (.iload_n 2, 1) := by decide +kernel
theorem dX12_cut_56 : decode cX12_cut 56 = .ok (.bipush 13, 2) := by decide +kernel
theorem dX12_cut_58 : decode cX12_cut 58 = .ok (.if_icmp .eq 9, 3) := by decide +kernel
theorem dX12_cut_61 : decode cX12_cut 61 = .ok (.iload_n 2, 1) := by decide +kernel
theorem dX12_cut_62 : decode cX12_cut 62 = .ok (.bipush 32, 2) := by decide +kernel
theorem dX12_cut_64 : decode cX12_cut 64 = .ok (.if_icmp .ne 9, 3) := by decide +kernel
theorem dX12_cut_67 : decode cX12_cut 67 = .ok (.iinc 1 1, 3) := by decide +kernel
theorem dX12_cut_70 : decode cX12_cut 70 = .ok (.goto 221, 3) := by decide +kernel
theorem dX12_cut_73 : decode cX12_cut 73 = .ok (.iload_n 2, 1) := by decide +kernel
theorem dX12_cut_74 : decode cX12_cut 74 = .ok (.invokestatic 201, 3) := by decide +kernel
theorem dX12_cut_77 : decode cX12_cut 77 = .ok (.ifCond .eq 119, 3) := by decide +kernel
theorem dX12_cut_80 : decode cX12_cut 80 = .ok (.iconst 0, 1) := by decide +kernel
theorem dX12_cut_81 : decode cX12_cut 81 = .ok (.istore_n 3, 1) := by decide +kernel
theorem dX12_cut_82 : decode cX12_cut 82 = .ok (.lconst 0, 1) := by decide +kernel
theorem dX12_cut_83 : decode cX12_cut 83 = .ok (.lstore 4, 2) := by decide +kernel
theorem dX12_cut_85 : decode cX12_cut 85 = .ok (.aload_n 0, 1) := by decide +kernel
theorem dX12_cut_86 : decode cX12_cut 86 = .ok (.iload_n 1, 1) := by decide +kernel
theorem dX12_cut_87 : decode cX12_cut 87 = .ok (.iload_n 3, 1) := by decide +kernel
theorem dX12_cut_88 : decode cX12_cut 88 = .ok (.iadd, 1) := by decide +kernel
theorem dX12_cut_89 : decode cX12_cut 89 = .ok (.invokevirtual 193, 3) := by decide +kernel
theorem dX12_cut_92 : decode cX12_cut 92 = .ok (.invokestatic 201, 3) := by decide +kernel
theorem dX12_cut_95 : decode cX12_cut 95 = .ok (.ifCond .eq 29, 3) := by decide +kernel
theorem dX12_cut_98 : decode cX12_cut 98 = .ok (.iload_n 3, 1) := by decide +kernel
theorem dX12_cut_99 : decode cX12_cut 99 = .ok (.bipush 8, 2) := by decide +kernel
theorem dX12_cut_101 : decode cX12_cut 101 = .ok (.if_icmp .ge 17, 3) := by decide +kernel
theorem dX12_cut_104 : decode cX12_cut 104 = .ok (.lload 4, 2) := by decide +kernel
theorem dX12_cut_106 : decode cX12_cut 106 = .ok (.aload_n 0, 1) := by decide +kernel
theorem dX12_cut_107 : decode cX12_cut 107 = .ok (.iload_n 1, 1) := by decide +kernel
theorem dX12_cut_108 : decode cX12_cut 108 = .ok (.iload_n 3, 1) := by decide +kernel
theorem dX12_cut_109 : decode cX12_cut 109 = .ok (.iadd, 1) := by decide +kernel
theorem dX12_cut_110 : decode cX12_cut 110 = .ok (.invokevirtual 193, 3) := by decide +kernel
theorem dX12_cut_113 : decode cX12_cut 113 = .ok (.invokestatic 186, 3) := by decide +kernel
theorem dX12_cut_116 : decode cX12_cut 116 = .ok (.lstore 4, 2) := by decide +kernel
theorem dX12_cut_118 : decode cX12_cut 118 = .ok (.iinc 3 1, 3) := by decide +kernel
theorem dX12_cut_121 : decode cX12_cut 121 = .ok (.goto (-36), 3) := by decide +kernel
theorem dX12_cut_124 : decode cX12_cut 124 = .ok (.iload_n 3, 1) := by decide +kernel
theorem dX12_cut_125 : decode cX12_cut 125 = .ok (.bipush 8, 2) := by decide +kernel
theorem dX12_cut_127 : decode cX12_cut 127 = .ok (.if_icmp .le 7, 3) := by decide +kernel
theorem dX12_cut_130 : decode cX12_cut 130 = .ok (.iconst 3, 1) := by decide +kernel
theorem dX12_cut_131 : decode cX12_cut 131 = .ok (.goto 4, 3) := by decide +kernel
theorem dX12_cut_134 : decode cX12_cut 134 = .ok (.iconst 1, 1) := by decide +kernel
theorem dX12_cut_135 : decode cX12_cut 135 = .ok (.istore 6, 2) := by decide +kernel
theorem dX12_cut_137 : decode cX12_cut 137 = .ok (.iload_n 3, 1) := by decide +kernel
theorem dX12_cut_138 : decode cX12_cut 138 = .ok (.bipush 7, 2) := by decide +kernel
theorem dX12_cut_140 : decode cX12_cut 140 = .ok (.if_icmp .gt 39, 3) := by decide +kernel
theorem dX12_cut_143 : decode cX12_cut 143 = .ok (.iconst 0, 1) := by decide +kernel
theorem dX12_cut_144 : decode cX12_cut 144 = .ok (.istore 7, 2) := by decide +kernel
theorem dX12_cut_146 : decode cX12_cut 146 = .ok (.iload 7, 2) := by decide +kernel
theorem dX12_cut_148 : decode cX12_cut 148 = .ok (.bipush 11, 2) := by decide +kernel
theorem dX12_cut_150 : decode cX12_cut 150 = .ok (.if_icmp .ge 29, 3) := by decide +kernel
theorem dX12_cut_153 : decode cX12_cut 153 = .ok (.aload_n 0, 1) := by decide +kernel
theorem dX12_cut_154 : decode cX12_cut 154 = .ok (.getfield 34, 3) := by decide +kernel
theorem dX12_cut_157 : decode cX12_cut 157 = .ok (.iload 7, 2) := by decide +kernel
theorem dX12_cut_159 : decode cX12_cut 159 = .ok (.laload, 1) := by decide +kernel
theorem dX12_cut_160 : decode cX12_cut 160 = .ok (.lload 4, 2) := by decide +kernel
theorem dX12_cut_162 : decode cX12_cut 162 = .ok (.lcmp, 1) := by decide +kernel
theorem dX12_cut_163 : decode cX12_cut 163 = .ok (.ifCond .ne 10, 3) := by decide +kernel
theorem dX12_cut_166 : decode cX12_cut 166 = .ok (.bipush 20, 2) := by decide +kernel
theorem dX12_cut_168 : decode cX12_cut 168 = .ok (.iload 7, 2) := by decide +kernel
theorem dX12_cut_170 : decode cX12_cut 170 = .ok (.iadd, 1) := by decide +kernel
theorem dX12_cut_171 : decode cX12_cut 171 = .ok (.istore 6, 2) := by decide +kernel
theorem dX12_cut_173 : decode cX12_cut 173 = .ok (.iinc 7 1, 3) := by decide +kernel
theorem dX12_cut_176 : decode cX12_cut 176 = .ok (.goto (-30), 3) := by decide +kernel
theorem dX12_cut_179 : decode cX12_cut 179 = .ok (.aload_n 0, 1) := by decide +kernel
theorem dX12_cut_180 : decode cX12_cut 180 = .ok (.iload 6, 2) := by decide +kernel
theorem dX12_cut_182 : decode cX12_cut 182 = .ok (.iload_n 1, 1) := by decide +kernel
theorem dX12_cut_183 : decode cX12_cut 183 = .ok (.iconst 0, 1) := by decide +kernel
theorem dX12_cut_184 : decode cX12_cut 184 = .ok (.lload 4, 2) := by decide +kernel
theorem dX12_cut_186 : decode cX12_cut 186 = .ok (.invokevirtual 197, 3) := by decide +kernel
theorem dX12_cut_189 : decode cX12_cut 189 = .ok (.iload_n 1, 1) := by decide +kernel
theorem dX12_cut_190 : decode cX12_cut 190 = .ok (.iload_n 3, 1) := by decide +kernel
theorem dX12_cut_191 : decode cX12_cut 191 = .ok (.iadd, 1) := by decide +kernel
theorem dX12_cut_192 : decode cX12_cut 192 = .ok (.istore_n 1, 1) := by decide +kernel
theorem dX12_cut_193 : decode cX12_cut 193 = .ok (.goto 98, 3) := by decide +kernel
theorem dX12_cut_196 : decode cX12_cut 196 = .ok (.iload_n 2, 1) := by decide +kernel
theorem dX12_cut_197 : decode cX12_cut 197 = .ok (.invokestatic 205, 3) := by decide +kernel
theorem dX12_cut_200 : decode cX12_cut 200 = .ok (.ifCond .eq 75, 3) := by decide +kernel
theorem dX12_cut_203 : decode cX12_cut 203 = .ok (.iconst 0, 1) := by decide +kernel
theorem dX12_cut_204 : decode cX12_cut 204 = .ok (.istore_n 3, 1) := by decide +kernel
theorem dX12_cut_205 : decode cX12_cut 205 = .ok (.iconst 0, 1) := by decide +kernel
theorem dX12_cut_206 : decode cX12_cut 206 = .ok (.istore 4, 2) := by decide +kernel
theorem dX12_cut_208 : decode cX12_cut 208 = .ok (.aload_n 0, 1) := by decide +kernel
theorem dX12_cut_209 : decode cX12_cut 209 = .ok (.iload_n 1, 1) := by decide +kernel
theorem dX12_cut_210 : decode cX12_cut 210 = .ok (.iload_n 3, 1) := by decide +kernel
theorem dX12_cut_211 : decode cX12_cut 211 = .ok (.iadd, 1) := by decide +kernel
theorem dX12_cut_212 : decode cX12_cut 212 = .ok (.invokevirtual 193, 3) := by decide +kernel
theorem dX12_cut_215 : decode cX12_cut 215 = .ok (.invokestatic 205, 3) := by decide +kernel
theorem dX12_cut_218 : decode cX12_cut 218 = .ok (.ifCond .eq 32, 3) := by decide +kernel
theorem dX12_cut_221 : decode cX12_cut 221 = .ok (.iload_n 3, 1) := by decide +kernel
theorem dX12_cut_222 : decode cX12_cut 222 = .ok (.iconst 4, 1) := by decide +kernel
theorem dX12_cut_223 : decode cX12_cut 223 = .ok (.if_icmp .ge 21, 3) := by decide +kernel
theorem dX12_cut_226 : decode cX12_cut 226 = .ok (.bipush 10, 2) := by decide +kernel
theorem dX12_cut_228 : decode cX12_cut 228 = .ok (.iload 4, 2) := by decide +kernel
theorem dX12_cut_230 : decode cX12_cut 230 = .ok (.imul, 1) := by decide +kernel
theorem dX12_cut_231 : decode cX12_cut 231 = .ok (.aload_n 0, 1) := by decide +kernel
theorem dX12_cut_232 : decode cX12_cut 232 = .ok (.iload_n 1, 1) := by decide +kernel
theorem dX12_cut_233 : decode cX12_cut 233 = .ok (.iload_n 3, 1) := by decide +kernel
theorem dX12_cut_234 : decode cX12_cut 234 = .ok (.iadd, 1) := by decide +kernel
theorem dX12_cut_235 : decode cX12_cut 235 = .ok (.invokevirtual 193, 3) := by decide +kernel
theorem dX12_cut_238 : decode cX12_cut 238 = .ok (.iadd, 1) := by decide +kernel
theorem dX12_cut_239 : decode cX12_cut 239 = .ok (.bipush 48, 2) := by decide +kernel
theorem dX12_cut_241 : decode cX12_cut 241 = .ok (.isub, 1) := by decide +kernel
theorem dX12_cut_242 : decode cX12_cut 242 = .ok (.istore 4, 2) := by decide +kernel
theorem dX12_cut_244 : decode cX12_cut 244 = .ok (.iinc 3 1, 3) := by decide +kernel
theorem dX12_cut_247 : decode cX12_cut 247 = .ok (.goto (-39), 3) := by decide +kernel
theorem dX12_cut_250 : decode cX12_cut 250 = .ok (.aload_n 0, 1) := by decide +kernel
theorem dX12_cut_251 : decode cX12_cut 251 = .ok (.iload_n 3, 1) := by decide +kernel
theorem dX12_cut_252 : decode cX12_cut 252 = .ok (.iconst 4, 1) := by decide +kernel
theorem dX12_cut_253 : decode cX12_cut 253 = .ok (.if_icmp .le 7, 3) := by decide +kernel
theorem dX12_cut_256 : decode cX12_cut 256 = .ok (.iconst 3, 1) := by decide +kernel
theorem dX12_cut_257 : decode cX12_cut 257 = .ok (.goto 4, 3) := by decide +kernel
theorem dX12_cut_260 : decode cX12_cut 260 = .ok (.iconst 2, 1) := by decide +kernel
theorem dX12_cut_261 : decode cX12_cut 261 = .ok (.iload_n 1, 1) := by decide +kernel
theorem dX12_cut_262 : decode cX12_cut 262 = .ok (.iload 4, 2) := by decide +kernel
theorem dX12_cut_264 : decode cX12_cut 264 = .ok (.lconst 0, 1) := by decide +kernel
theorem dX12_cut_265 : decode cX12_cut 265 = .ok (.invokevirtual 197, 3) := by decide +kernel
theorem dX12_cut_268 : decode cX12_cut 268 = .ok (.iload_n 1, 1) := by decide +kernel
theorem dX12_cut_269 : decode cX12_cut 269 = .ok (.iload_n 3, 1) := by decide +kernel
theorem dX12_cut_270 : decode cX12_cut 270 = .ok (.iadd, 1) := by decide +kernel
theorem dX12_cut_271 : decode cX12_cut 271 = .ok (.istore_n 1, 1) := by decide +kernel
theorem dX12_cut_272 : decode cX12_cut 272 = .ok (.goto 19, 3) := by decide +kernel
theorem dX12_cut_275 : decode cX12_cut 275 = .ok (.iload_n 1, 1) := by decide +kernel
theorem dX12_cut_276 : decode cX12_cut 276 = .ok (.aload_n 0, 1) := by decide +kernel
theorem dX12_cut_277 : decode cX12_cut 277 = .ok (.iload_n 1, 1) := by decide +kernel
theorem dX12_cut_278 : decode cX12_cut 278 = .ok (.iload_n 2, 1) := by decide +kernel
theorem dX12_cut_279 : decode cX12_cut 279 = .ok (.aload_n 0, 1) := by decide +kernel
theorem dX12_cut_280 : decode cX12_cut 280 = .ok (.iload_n 1, 1) := by decide +kernel
theorem dX12_cut_281 : decode cX12_cut 281 = .ok (.iconst 1, 1) := by decide +kernel
theorem dX12_cut_282 : decode cX12_cut 282 = .ok (.iadd, 1) := by decide +kernel
theorem dX12_cut_283 : decode cX12_cut 283 = .ok (.invokevirtual 193, 3) := by decide +kernel
theorem dX12_cut_286 : decode cX12_cut 286 = .ok (.invokevirtual 208, 3) := by decide +kernel
theorem dX12_cut_289 : decode cX12_cut 289 = .ok (.iadd, 1) := by decide +kernel
theorem dX12_cut_290 : decode cX12_cut 290 = .ok (.istore_n 1, 1) := by decide +kernel
theorem dX12_cut_291 : decode cX12_cut 291 = .ok (.goto (-284), 3) := by decide +kernel
theorem dX12_cut_294 : decode cX12_cut 294 = .ok (.return_, 1) := by decide +kernel
set_option maxRecDepth 100000 in
theorem c_X12_cut (l : Launch) (D : q_D) (al : q_Al) (dt : q_Dt) (x0 : Nat) (kx0 : al.1 x0 = 13) (dt0 : q_Dt) (hm : X12_cut al dt x0 = some dt0) : q_Mt l yX12_cut cX12_cut 8 (none) 2 48 D al [.ref x0] dt 0 none dt0 := by
  refine q_Mt.of (by decide) (Nat.le_of_ble_eq_true rfl) ?_
  intro p e s m args below meth c ls C hargs hW hl
  have hx := C.1
  have hb := C.2.1
  have hown := C.2.2.2.2.2.1
  have hts := C.2.2.2.2.2.2.1
  have hS : va_S (q_A al) s.heap s.heap [] := va_S.rf
  have hl : lv_has ls 8 [(0, .ref x0)] := hl
  unfold X12_cut at hm
  have hB7 : ∀ (x0_7 : Nat) (kx0_7 : al.1 x0_7 = 13) (n_7 : Nat) (x1_7 : Int32) (dt : q_Dt) (H : Heap) (locs : List Loc) (ls : Array Slot) (hm : X12_cut_b7 al x0_7 n_7 x1_7 dt = some dt0) (hW : q_W D al dt H) (hS : va_S (q_A al) s.heap H locs) (hl : lv_has ls 8 [(0, .ref x0_7), (1, .int x1_7)]), W p l e { frames := 2, cells := 0, slots := 0, locals := 48 } s m args below meth c H locs 0 0 (MQ below (q_Q none (fun H => q_W D al dt0 H ∧ q_Rk al 0 none) (q_A al)) args s 0 0 (q_A al)) (F0 m 7 ls []) := by
    intro x0_7 kx0_7
    intro n_7
    induction n_7 with
    | zero => intro x1_7 dt H locs ls hm hW hS hl; cases hm
    | succ n_7 ih7 =>
      have hB291 : ∀ (x1_291 : Int32) (dt : q_Dt) (H : Heap) (locs : List Loc) (ls : Array Slot) (hm : X12_cut_b291 al (X12_cut_b7 al x0_7 n_7) x0_7 x1_291 dt = some dt0) (hW : q_W D al dt H) (hS : va_S (q_A al) s.heap H locs) (hl : lv_has ls 8 [(0, .ref x0_7), (1, .int x1_291)]), W p l e { frames := 2, cells := 0, slots := 0, locals := 48 } s m args below meth c H locs 0 0 (MQ below (q_Q none (fun H => q_W D al dt0 H ∧ q_Rk al 0 none) (q_A al)) args s 0 0 (q_A al)) (F0 m 291 ls []) := by
        intro x1_291 dt H locs ls hm hW hS hl
        unfold X12_cut_b291 at hm
        refine lv_goto (tgt := 7) hx hb dX12_cut_291 (by decide) ?_
        exact ih7 x1_291 dt _ _ _ hm hW hS (lv_sub hl [0, 1] rfl)
      have hB67 : ∀ (x1_67 : Int32) (dt : q_Dt) (H : Heap) (locs : List Loc) (ls : Array Slot) (hm : X12_cut_b67 al (X12_cut_b7 al x0_7 n_7) x0_7 x1_67 dt = some dt0) (hW : q_W D al dt H) (hS : va_S (q_A al) s.heap H locs) (hl : lv_has ls 8 [(0, .ref x0_7), (1, .int x1_67)]), W p l e { frames := 2, cells := 0, slots := 0, locals := 48 } s m args below meth c H locs 0 0 (MQ below (q_Q none (fun H => q_W D al dt0 H ∧ q_Rk al 0 none) (q_A al)) args s 0 0 (q_A al)) (F0 m 67 ls []) := by
        intro x1_67 dt H locs ls hm hW hS hl
        unfold X12_cut_b67 at hm
        refine lv_iinc (v := (x1_67 + 1)) (lv' := [(1, .int (x1_67 + 1)), (0, .ref x0_7)]) hx hb dX12_cut_67 hl (k := 1) rfl rfl (by decide) rfl (fun ls hl => ?_)
        refine lv_goto (tgt := 291) hx hb dX12_cut_70 (by decide) ?_
        exact hB291 (x1_67 + 1) dt _ _ _ hm hW hS (lv_sub hl [1, 0] rfl)
      have hB261 : ∀ (x1_261 : Int32) (x3_261 : Int32) (x4_261 : Int32) (t0_261 : Nat) (t1_261 : Int32) (kt0_261 : al.1 t0_261 = 13) (dt : q_Dt) (H : Heap) (locs : List Loc) (ls : Array Slot) (hm : X12_cut_b261 al (X12_cut_b7 al x0_7 n_7) x0_7 x1_261 x3_261 x4_261 t0_261 t1_261 dt = some dt0) (hW : q_W D al dt H) (hS : va_S (q_A al) s.heap H locs) (hl : lv_has ls 8 [(0, .ref x0_7), (1, .int x1_261), (3, .int x3_261), (4, .int x4_261)]), W p l e { frames := 2, cells := 0, slots := 0, locals := 48 } s m args below meth c H locs 0 0 (MQ below (q_Q none (fun H => q_W D al dt0 H ∧ q_Rk al 0 none) (q_A al)) args s 0 0 (q_A al)) (F0 m 261 ls [.int t1_261, .ref t0_261]) := by
        intro x1_261 x3_261 x4_261 t0_261 t1_261 kt0_261 dt H locs ls hm hW hS hl
        unfold X12_cut_b261 at hm
        refine lv_iload_n hx hb dX12_cut_261 rfl (lv_at hl 1 rfl) ?_
        refine lv_iload hx hb dX12_cut_262 (lv_at hl 3 rfl) ?_
        refine lv_lconst (v := 0) hx hb dX12_cut_264 rfl ?_
        obtain ⟨dt261002, hc261001, hm⟩ := q_b1i hm
        refine q_callV C hW hS (As := [.int t1_261, .int x1_261, .int x4_261, .long 0]) (rest := []) (st1 := []) (c_X12_token l D al dt t0_261 t1_261 x1_261 x4_261 0 kt0_261 dt261002 hc261001) yl_X12_token vl_X12_token ml_RX12_197 (ci := 12) rfl kt0_261 (by decide) rfl ⟨Nat.le_of_ble_eq_true rfl, Nat.le_of_ble_eq_true rfl⟩ hl rfl (Nat.le_of_ble_eq_true rfl) dX12_cut_265 ⟨Nat.le_refl _, Nat.le_refl _⟩ rfl (fun H locs k261003 hW hS => ?_)
        refine lv_iload_n hx hb dX12_cut_268 rfl (lv_at hl 1 rfl) ?_
        refine lv_iload_n hx hb dX12_cut_269 rfl (lv_at hl 2 rfl) ?_
        refine lv_iadd hx hb dX12_cut_270 ?_
        refine lv_istore_n (i := 1) (lv' := [(1, .int (x1_261 + x3_261)), (0, .ref x0_7), (3, .int x3_261), (4, .int x4_261)]) hx hb dX12_cut_271 rfl hl (by decide) rfl (fun ls hl => ?_)
        refine lv_goto (tgt := 291) hx hb dX12_cut_272 (by decide) ?_
        exact hB291 (x1_261 + x3_261) dt261002 _ _ _ hm hW hS (lv_sub hl [1, 0] rfl)
      have hB208 : ∀ (x1_208 : Int32) (n_208 : Nat) (x3_208 : Int32) (x4_208 : Int32) (dt : q_Dt) (H : Heap) (locs : List Loc) (ls : Array Slot) (hm : X12_cut_b208 al (X12_cut_b7 al x0_7 n_7) x0_7 x1_208 n_208 x3_208 x4_208 dt = some dt0) (hW : q_W D al dt H) (hS : va_S (q_A al) s.heap H locs) (hl : lv_has ls 8 [(0, .ref x0_7), (1, .int x1_208), (3, .int x3_208), (4, .int x4_208)]), W p l e { frames := 2, cells := 0, slots := 0, locals := 48 } s m args below meth c H locs 0 0 (MQ below (q_Q none (fun H => q_W D al dt0 H ∧ q_Rk al 0 none) (q_A al)) args s 0 0 (q_A al)) (F0 m 208 ls []) := by
        intro x1_208
        intro n_208
        induction n_208 with
        | zero => intro x3_208 x4_208 dt H locs ls hm hW hS hl; cases hm
        | succ n_208 ih208 =>
          have hB244 : ∀ (x3_244 : Int32) (x4_244 : Int32) (dt : q_Dt) (H : Heap) (locs : List Loc) (ls : Array Slot) (hm : X12_cut_b244 al (X12_cut_b7 al x0_7 n_7) (X12_cut_b208 al (X12_cut_b7 al x0_7 n_7) x0_7 x1_208 n_208) x0_7 x1_208 x3_244 x4_244 dt = some dt0) (hW : q_W D al dt H) (hS : va_S (q_A al) s.heap H locs) (hl : lv_has ls 8 [(0, .ref x0_7), (1, .int x1_208), (3, .int x3_244), (4, .int x4_244)]), W p l e { frames := 2, cells := 0, slots := 0, locals := 48 } s m args below meth c H locs 0 0 (MQ below (q_Q none (fun H => q_W D al dt0 H ∧ q_Rk al 0 none) (q_A al)) args s 0 0 (q_A al)) (F0 m 244 ls []) := by
            intro x3_244 x4_244 dt H locs ls hm hW hS hl
            unfold X12_cut_b244 at hm
            refine lv_iinc (v := (x3_244 + 1)) (lv' := [(3, .int (x3_244 + 1)), (0, .ref x0_7), (1, .int x1_208), (4, .int x4_244)]) hx hb dX12_cut_244 hl (k := 2) rfl rfl (by decide) rfl (fun ls hl => ?_)
            refine lv_goto (tgt := 208) hx hb dX12_cut_247 (by decide) ?_
            exact ih208 (x3_244 + 1) x4_244 dt _ _ _ hm hW hS (lv_sub hl [1, 2, 0, 3] rfl)
          intro x3_208 x4_208 dt H locs ls hm hW hS hl
          rw [X12_cut_b208] at hm
          refine lv_aload_n hx hb dX12_cut_208 rfl (lv_at hl 0 rfl) ?_
          refine lv_iload_n hx hb dX12_cut_209 rfl (lv_at hl 1 rfl) ?_
          refine lv_iload_n hx hb dX12_cut_210 rfl (lv_at hl 2 rfl) ?_
          refine lv_iadd hx hb dX12_cut_211 ?_
          obtain ⟨v208002, hc208001, hm⟩ := q_b1i hm
          refine q_callV C hW hS (As := [.int (x1_208 + x3_208)]) (rest := []) (st1 := [.int v208002]) (c_X12_byteAt l D al dt x0_7 (x1_208 + x3_208) kx0_7 v208002 hc208001) yl_X12_byteAt vl_X12_byteAt ml_RX12_193 (ci := 12) rfl kx0_7 (by decide) rfl ⟨Nat.le_of_ble_eq_true rfl, Nat.le_of_ble_eq_true rfl⟩ hl rfl (Nat.le_of_ble_eq_true rfl) dX12_cut_212 ⟨Nat.le_refl _, Nat.le_refl _⟩ rfl (fun H locs k208003 hW hS => ?_)
          obtain ⟨v208005, hc208004, hm⟩ := q_b1i hm
          refine q_callS C hW hS (As := [.int v208002]) (rest := []) (st1 := [.int v208005]) (c_X12_isDigit l D al dt v208002 v208005 hc208004) yl_X12_isDigit sl_X12_isDigit ml_RX12_205 rfl ⟨Nat.le_of_ble_eq_true rfl, Nat.le_of_ble_eq_true rfl⟩ hl rfl (Nat.le_of_ble_eq_true rfl) dX12_cut_215 ⟨Nat.le_refl _, Nat.le_refl _⟩ rfl (fun H locs k208006 hW hS => ?_)
          refine q_ifc hm (fun c208007 hm => ?_) (fun c208007 hm => ?_)
          · refine lv_if_eq (tgt := 250) hx hb dX12_cut_218 (by decide) (fun _ => ?_) (fun h => absurd c208007 h)
            refine lv_aload_n hx hb dX12_cut_250 rfl (lv_at hl 0 rfl) ?_
            refine lv_iload_n hx hb dX12_cut_251 rfl (lv_at hl 2 rfl) ?_
            refine lv_iconst (v := 4) hx hb dX12_cut_252 (by decide) ?_
            refine q_ifc hm (fun c208008 hm => ?_) (fun c208008 hm => ?_)
            · refine lv_icmp_le (tgt := 260) hx hb dX12_cut_253 (by decide) (fun _ => ?_) (fun h => absurd c208008 h)
              refine lv_iconst (v := 2) hx hb dX12_cut_260 (by decide) ?_
              exact hB261 x1_208 x3_208 x4_208 x0_7 2 kx0_7 dt _ _ _ hm hW hS (lv_sub hl [0, 1, 2, 3] rfl)
            refine lv_icmp_le (tgt := 260) hx hb dX12_cut_253 (by decide) (fun h => absurd h c208008) (fun _ => ?_)
            refine lv_iconst (v := 3) hx hb dX12_cut_256 (by decide) ?_
            refine lv_goto (tgt := 261) hx hb dX12_cut_257 (by decide) ?_
            exact hB261 x1_208 x3_208 x4_208 x0_7 3 kx0_7 dt _ _ _ hm hW hS (lv_sub hl [0, 1, 2, 3] rfl)
          refine lv_if_eq (tgt := 250) hx hb dX12_cut_218 (by decide) (fun h => absurd h c208007) (fun _ => ?_)
          refine lv_iload_n hx hb dX12_cut_221 rfl (lv_at hl 2 rfl) ?_
          refine lv_iconst (v := 4) hx hb dX12_cut_222 (by decide) ?_
          refine q_ifc hm (fun c208009 hm => ?_) (fun c208009 hm => ?_)
          · refine lv_icmp_ge (tgt := 244) hx hb dX12_cut_223 (by decide) (fun _ => ?_) (fun h => absurd c208009 h)
            exact hB244 x3_208 x4_208 dt _ _ _ hm hW hS (lv_sub hl [0, 1, 2, 3] rfl)
          refine lv_icmp_ge (tgt := 244) hx hb dX12_cut_223 (by decide) (fun h => absurd h c208009) (fun _ => ?_)
          refine lv_bipush (v := 10) hx hb dX12_cut_226 (by decide) ?_
          refine lv_iload hx hb dX12_cut_228 (lv_at hl 3 rfl) ?_
          refine lv_imul hx hb dX12_cut_230 ?_
          refine lv_aload_n hx hb dX12_cut_231 rfl (lv_at hl 0 rfl) ?_
          refine lv_iload_n hx hb dX12_cut_232 rfl (lv_at hl 1 rfl) ?_
          refine lv_iload_n hx hb dX12_cut_233 rfl (lv_at hl 2 rfl) ?_
          refine lv_iadd hx hb dX12_cut_234 ?_
          obtain ⟨v208011, hc208010, hm⟩ := q_b1i hm
          refine q_callV C hW hS (As := [.int (x1_208 + x3_208)]) (rest := [.int (10 * x4_208)]) (st1 := [.int v208011, .int (10 * x4_208)]) (c_X12_byteAt l D al dt x0_7 (x1_208 + x3_208) kx0_7 v208011 hc208010) yl_X12_byteAt vl_X12_byteAt ml_RX12_193 (ci := 12) rfl kx0_7 (by decide) rfl ⟨Nat.le_of_ble_eq_true rfl, Nat.le_of_ble_eq_true rfl⟩ hl rfl (Nat.le_of_ble_eq_true rfl) dX12_cut_235 ⟨Nat.le_refl _, Nat.le_refl _⟩ rfl (fun H locs k208012 hW hS => ?_)
          refine lv_iadd hx hb dX12_cut_238 ?_
          refine lv_bipush (v := 48) hx hb dX12_cut_239 (by decide) ?_
          refine lv_isub hx hb dX12_cut_241 ?_
          refine lv_istore (i := 4) (lv' := [(4, .int (((10 * x4_208) + v208011) - 48)), (0, .ref x0_7), (1, .int x1_208), (3, .int x3_208)]) hx hb dX12_cut_242 hl (by decide) rfl (fun ls hl => ?_)
          exact hB244 x3_208 (((10 * x4_208) + v208011) - 48) dt _ _ _ hm hW hS (lv_sub hl [1, 2, 3, 0] rfl)
      have hB179 : ∀ (x1_179 : Int32) (x3_179 : Int32) (x4_179 : Int64) (x6_179 : Int32) (dt : q_Dt) (H : Heap) (locs : List Loc) (ls : Array Slot) (hm : X12_cut_b179 al (X12_cut_b7 al x0_7 n_7) x0_7 x1_179 x3_179 x4_179 x6_179 dt = some dt0) (hW : q_W D al dt H) (hS : va_S (q_A al) s.heap H locs) (hl : lv_has ls 8 [(0, .ref x0_7), (1, .int x1_179), (3, .int x3_179), (4, .long x4_179), (6, .int x6_179)]), W p l e { frames := 2, cells := 0, slots := 0, locals := 48 } s m args below meth c H locs 0 0 (MQ below (q_Q none (fun H => q_W D al dt0 H ∧ q_Rk al 0 none) (q_A al)) args s 0 0 (q_A al)) (F0 m 179 ls []) := by
        intro x1_179 x3_179 x4_179 x6_179 dt H locs ls hm hW hS hl
        unfold X12_cut_b179 at hm
        refine lv_aload_n hx hb dX12_cut_179 rfl (lv_at hl 0 rfl) ?_
        refine lv_iload hx hb dX12_cut_180 (lv_at hl 4 rfl) ?_
        refine lv_iload_n hx hb dX12_cut_182 rfl (lv_at hl 1 rfl) ?_
        refine lv_iconst (v := 0) hx hb dX12_cut_183 (by decide) ?_
        refine lv_lload hx hb dX12_cut_184 (lv_at hl 3 rfl) ?_
        obtain ⟨dt179002, hc179001, hm⟩ := q_b1i hm
        refine q_callV C hW hS (As := [.int x6_179, .int x1_179, .int 0, .long x4_179]) (rest := []) (st1 := []) (c_X12_token l D al dt x0_7 x6_179 x1_179 0 x4_179 kx0_7 dt179002 hc179001) yl_X12_token vl_X12_token ml_RX12_197 (ci := 12) rfl kx0_7 (by decide) rfl ⟨Nat.le_of_ble_eq_true rfl, Nat.le_of_ble_eq_true rfl⟩ hl rfl (Nat.le_of_ble_eq_true rfl) dX12_cut_186 ⟨Nat.le_refl _, Nat.le_refl _⟩ rfl (fun H locs k179003 hW hS => ?_)
        refine lv_iload_n hx hb dX12_cut_189 rfl (lv_at hl 1 rfl) ?_
        refine lv_iload_n hx hb dX12_cut_190 rfl (lv_at hl 2 rfl) ?_
        refine lv_iadd hx hb dX12_cut_191 ?_
        refine lv_istore_n (i := 1) (lv' := [(1, .int (x1_179 + x3_179)), (0, .ref x0_7), (3, .int x3_179), (4, .long x4_179), (6, .int x6_179)]) hx hb dX12_cut_192 rfl hl (by decide) rfl (fun ls hl => ?_)
        refine lv_goto (tgt := 291) hx hb dX12_cut_193 (by decide) ?_
        exact hB291 (x1_179 + x3_179) dt179002 _ _ _ hm hW hS (lv_sub hl [1, 0] rfl)
      have hB146 : ∀ (x1_146 : Int32) (x3_146 : Int32) (x4_146 : Int64) (n_146 : Nat) (x6_146 : Int32) (x7_146 : Int32) (dt : q_Dt) (H : Heap) (locs : List Loc) (ls : Array Slot) (hm : X12_cut_b146 al (X12_cut_b7 al x0_7 n_7) x0_7 x1_146 x3_146 x4_146 n_146 x6_146 x7_146 dt = some dt0) (hW : q_W D al dt H) (hS : va_S (q_A al) s.heap H locs) (hl : lv_has ls 8 [(0, .ref x0_7), (1, .int x1_146), (3, .int x3_146), (4, .long x4_146), (6, .int x6_146), (7, .int x7_146)]), W p l e { frames := 2, cells := 0, slots := 0, locals := 48 } s m args below meth c H locs 0 0 (MQ below (q_Q none (fun H => q_W D al dt0 H ∧ q_Rk al 0 none) (q_A al)) args s 0 0 (q_A al)) (F0 m 146 ls []) := by
        intro x1_146 x3_146 x4_146
        intro n_146
        induction n_146 with
        | zero => intro x6_146 x7_146 dt H locs ls hm hW hS hl; cases hm
        | succ n_146 ih146 =>
          have hB173 : ∀ (x6_173 : Int32) (x7_173 : Int32) (dt : q_Dt) (H : Heap) (locs : List Loc) (ls : Array Slot) (hm : X12_cut_b173 al (X12_cut_b7 al x0_7 n_7) (X12_cut_b146 al (X12_cut_b7 al x0_7 n_7) x0_7 x1_146 x3_146 x4_146 n_146) x0_7 x1_146 x3_146 x4_146 x6_173 x7_173 dt = some dt0) (hW : q_W D al dt H) (hS : va_S (q_A al) s.heap H locs) (hl : lv_has ls 8 [(0, .ref x0_7), (1, .int x1_146), (3, .int x3_146), (4, .long x4_146), (6, .int x6_173), (7, .int x7_173)]), W p l e { frames := 2, cells := 0, slots := 0, locals := 48 } s m args below meth c H locs 0 0 (MQ below (q_Q none (fun H => q_W D al dt0 H ∧ q_Rk al 0 none) (q_A al)) args s 0 0 (q_A al)) (F0 m 173 ls []) := by
            intro x6_173 x7_173 dt H locs ls hm hW hS hl
            unfold X12_cut_b173 at hm
            refine lv_iinc (v := (x7_173 + 1)) (lv' := [(7, .int (x7_173 + 1)), (0, .ref x0_7), (1, .int x1_146), (3, .int x3_146), (4, .long x4_146), (6, .int x6_173)]) hx hb dX12_cut_173 hl (k := 5) rfl rfl (by decide) rfl (fun ls hl => ?_)
            refine lv_goto (tgt := 146) hx hb dX12_cut_176 (by decide) ?_
            exact ih146 x6_173 (x7_173 + 1) dt _ _ _ hm hW hS (lv_sub hl [1, 2, 3, 4, 5, 0] rfl)
          intro x6_146 x7_146 dt H locs ls hm hW hS hl
          rw [X12_cut_b146] at hm
          refine lv_iload hx hb dX12_cut_146 (lv_at hl 5 rfl) ?_
          refine lv_bipush (v := 11) hx hb dX12_cut_148 (by decide) ?_
          refine q_ifc hm (fun c146001 hm => ?_) (fun c146001 hm => ?_)
          · refine lv_icmp_ge (tgt := 179) hx hb dX12_cut_150 (by decide) (fun _ => ?_) (fun h => absurd c146001 h)
            exact hB179 x1_146 x3_146 x4_146 x6_146 dt _ _ _ hm hW hS (lv_sub hl [0, 1, 2, 3, 4] rfl)
          refine lv_icmp_ge (tgt := 179) hx hb dX12_cut_150 (by decide) (fun h => absurd h c146001) (fun _ => ?_)
          refine lv_aload_n hx hb dX12_cut_153 rfl (lv_at hl 0 rfl) ?_
          refine r_getF C hW (ci := 12) kx0_7 ff_12_9 cl_12 fl_RX12_34 dX12_cut_154 (fun k146002 => ?_)
          refine lv_iload hx hb dX12_cut_157 (lv_at hl 5 rfl) ?_
          refine r_lald C hW hm k146002 dX12_cut_159 (fun hm => ?_)
          refine lv_lload hx hb dX12_cut_160 (lv_at hl 3 rfl) ?_
          refine W.lcmp hx hb dX12_cut_162 ?_
          refine q_ifc hm (fun c146003 hm => ?_) (fun c146003 hm => ?_)
          · refine lv_if_ne (tgt := 173) hx hb dX12_cut_163 (by decide) (fun h => absurd (q_cmp_eq.mpr c146003) h) (fun _ => ?_)
            refine lv_bipush (v := 20) hx hb dX12_cut_166 (by decide) ?_
            refine lv_iload hx hb dX12_cut_168 (lv_at hl 5 rfl) ?_
            refine lv_iadd hx hb dX12_cut_170 ?_
            refine lv_istore (i := 6) (lv' := [(6, .int (20 + x7_146)), (0, .ref x0_7), (1, .int x1_146), (3, .int x3_146), (4, .long x4_146), (7, .int x7_146)]) hx hb dX12_cut_171 hl (by decide) rfl (fun ls hl => ?_)
            exact hB173 (20 + x7_146) x7_146 dt _ _ _ hm hW hS (lv_sub hl [1, 2, 3, 4, 0, 5] rfl)
          refine lv_if_ne (tgt := 173) hx hb dX12_cut_163 (by decide) (fun _ => ?_) (fun h => absurd (q_cmp_eq.mp h) c146003)
          exact hB173 x6_146 x7_146 dt _ _ _ hm hW hS (lv_sub hl [0, 1, 2, 3, 4, 5] rfl)
      have hB135 : ∀ (x1_135 : Int32) (x3_135 : Int32) (x4_135 : Int64) (t0_135 : Int32) (dt : q_Dt) (H : Heap) (locs : List Loc) (ls : Array Slot) (hm : X12_cut_b135 al (X12_cut_b7 al x0_7 n_7) x0_7 x1_135 x3_135 x4_135 t0_135 dt = some dt0) (hW : q_W D al dt H) (hS : va_S (q_A al) s.heap H locs) (hl : lv_has ls 8 [(0, .ref x0_7), (1, .int x1_135), (3, .int x3_135), (4, .long x4_135)]), W p l e { frames := 2, cells := 0, slots := 0, locals := 48 } s m args below meth c H locs 0 0 (MQ below (q_Q none (fun H => q_W D al dt0 H ∧ q_Rk al 0 none) (q_A al)) args s 0 0 (q_A al)) (F0 m 135 ls [.int t0_135]) := by
        intro x1_135 x3_135 x4_135 t0_135 dt H locs ls hm hW hS hl
        unfold X12_cut_b135 at hm
        refine lv_istore (i := 6) (lv' := [(6, .int t0_135), (0, .ref x0_7), (1, .int x1_135), (3, .int x3_135), (4, .long x4_135)]) hx hb dX12_cut_135 hl (by decide) rfl (fun ls hl => ?_)
        refine lv_iload_n hx hb dX12_cut_137 rfl (lv_at hl 3 rfl) ?_
        refine lv_bipush (v := 7) hx hb dX12_cut_138 (by decide) ?_
        refine q_ifc hm (fun c135001 hm => ?_) (fun c135001 hm => ?_)
        · refine lv_icmp_gt (tgt := 179) hx hb dX12_cut_140 (by decide) (fun _ => ?_) (fun h => absurd c135001 h)
          exact hB179 x1_135 x3_135 x4_135 t0_135 dt _ _ _ hm hW hS (lv_sub hl [1, 2, 3, 4, 0] rfl)
        refine lv_icmp_gt (tgt := 179) hx hb dX12_cut_140 (by decide) (fun h => absurd h c135001) (fun _ => ?_)
        refine lv_iconst (v := 0) hx hb dX12_cut_143 (by decide) ?_
        refine lv_istore (i := 7) (lv' := [(7, .int 0), (6, .int t0_135), (0, .ref x0_7), (1, .int x1_135), (3, .int x3_135), (4, .long x4_135)]) hx hb dX12_cut_144 hl (by decide) rfl (fun ls hl => ?_)
        exact hB146 x1_135 x3_135 x4_135 q_FU t0_135 0 dt _ _ _ hm hW hS (lv_sub hl [2, 3, 4, 5, 1, 0] rfl)
      have hB85 : ∀ (x1_85 : Int32) (n_85 : Nat) (x3_85 : Int32) (x4_85 : Int64) (dt : q_Dt) (H : Heap) (locs : List Loc) (ls : Array Slot) (hm : X12_cut_b85 al (X12_cut_b7 al x0_7 n_7) x0_7 x1_85 n_85 x3_85 x4_85 dt = some dt0) (hW : q_W D al dt H) (hS : va_S (q_A al) s.heap H locs) (hl : lv_has ls 8 [(0, .ref x0_7), (1, .int x1_85), (3, .int x3_85), (4, .long x4_85)]), W p l e { frames := 2, cells := 0, slots := 0, locals := 48 } s m args below meth c H locs 0 0 (MQ below (q_Q none (fun H => q_W D al dt0 H ∧ q_Rk al 0 none) (q_A al)) args s 0 0 (q_A al)) (F0 m 85 ls []) := by
        intro x1_85
        intro n_85
        induction n_85 with
        | zero => intro x3_85 x4_85 dt H locs ls hm hW hS hl; cases hm
        | succ n_85 ih85 =>
          have hB118 : ∀ (x3_118 : Int32) (x4_118 : Int64) (dt : q_Dt) (H : Heap) (locs : List Loc) (ls : Array Slot) (hm : X12_cut_b118 al (X12_cut_b7 al x0_7 n_7) (X12_cut_b85 al (X12_cut_b7 al x0_7 n_7) x0_7 x1_85 n_85) x0_7 x1_85 x3_118 x4_118 dt = some dt0) (hW : q_W D al dt H) (hS : va_S (q_A al) s.heap H locs) (hl : lv_has ls 8 [(0, .ref x0_7), (1, .int x1_85), (3, .int x3_118), (4, .long x4_118)]), W p l e { frames := 2, cells := 0, slots := 0, locals := 48 } s m args below meth c H locs 0 0 (MQ below (q_Q none (fun H => q_W D al dt0 H ∧ q_Rk al 0 none) (q_A al)) args s 0 0 (q_A al)) (F0 m 118 ls []) := by
            intro x3_118 x4_118 dt H locs ls hm hW hS hl
            unfold X12_cut_b118 at hm
            refine lv_iinc (v := (x3_118 + 1)) (lv' := [(3, .int (x3_118 + 1)), (0, .ref x0_7), (1, .int x1_85), (4, .long x4_118)]) hx hb dX12_cut_118 hl (k := 2) rfl rfl (by decide) rfl (fun ls hl => ?_)
            refine lv_goto (tgt := 85) hx hb dX12_cut_121 (by decide) ?_
            exact ih85 (x3_118 + 1) x4_118 dt _ _ _ hm hW hS (lv_sub hl [1, 2, 0, 3] rfl)
          intro x3_85 x4_85 dt H locs ls hm hW hS hl
          rw [X12_cut_b85] at hm
          refine lv_aload_n hx hb dX12_cut_85 rfl (lv_at hl 0 rfl) ?_
          refine lv_iload_n hx hb dX12_cut_86 rfl (lv_at hl 1 rfl) ?_
          refine lv_iload_n hx hb dX12_cut_87 rfl (lv_at hl 2 rfl) ?_
          refine lv_iadd hx hb dX12_cut_88 ?_
          obtain ⟨v85002, hc85001, hm⟩ := q_b1i hm
          refine q_callV C hW hS (As := [.int (x1_85 + x3_85)]) (rest := []) (st1 := [.int v85002]) (c_X12_byteAt l D al dt x0_7 (x1_85 + x3_85) kx0_7 v85002 hc85001) yl_X12_byteAt vl_X12_byteAt ml_RX12_193 (ci := 12) rfl kx0_7 (by decide) rfl ⟨Nat.le_of_ble_eq_true rfl, Nat.le_of_ble_eq_true rfl⟩ hl rfl (Nat.le_of_ble_eq_true rfl) dX12_cut_89 ⟨Nat.le_refl _, Nat.le_refl _⟩ rfl (fun H locs k85003 hW hS => ?_)
          obtain ⟨v85005, hc85004, hm⟩ := q_b1i hm
          refine q_callS C hW hS (As := [.int v85002]) (rest := []) (st1 := [.int v85005]) (c_X12_isLetter l D al dt v85002 v85005 hc85004) yl_X12_isLetter sl_X12_isLetter ml_RX12_201 rfl ⟨Nat.le_of_ble_eq_true rfl, Nat.le_of_ble_eq_true rfl⟩ hl rfl (Nat.le_of_ble_eq_true rfl) dX12_cut_92 ⟨Nat.le_refl _, Nat.le_refl _⟩ rfl (fun H locs k85006 hW hS => ?_)
          refine q_ifc hm (fun c85007 hm => ?_) (fun c85007 hm => ?_)
          · refine lv_if_eq (tgt := 124) hx hb dX12_cut_95 (by decide) (fun _ => ?_) (fun h => absurd c85007 h)
            refine lv_iload_n hx hb dX12_cut_124 rfl (lv_at hl 2 rfl) ?_
            refine lv_bipush (v := 8) hx hb dX12_cut_125 (by decide) ?_
            refine q_ifc hm (fun c85008 hm => ?_) (fun c85008 hm => ?_)
            · refine lv_icmp_le (tgt := 134) hx hb dX12_cut_127 (by decide) (fun _ => ?_) (fun h => absurd c85008 h)
              refine lv_iconst (v := 1) hx hb dX12_cut_134 (by decide) ?_
              exact hB135 x1_85 x3_85 x4_85 1 dt _ _ _ hm hW hS (lv_sub hl [0, 1, 2, 3] rfl)
            refine lv_icmp_le (tgt := 134) hx hb dX12_cut_127 (by decide) (fun h => absurd h c85008) (fun _ => ?_)
            refine lv_iconst (v := 3) hx hb dX12_cut_130 (by decide) ?_
            refine lv_goto (tgt := 135) hx hb dX12_cut_131 (by decide) ?_
            exact hB135 x1_85 x3_85 x4_85 3 dt _ _ _ hm hW hS (lv_sub hl [0, 1, 2, 3] rfl)
          refine lv_if_eq (tgt := 124) hx hb dX12_cut_95 (by decide) (fun h => absurd h c85007) (fun _ => ?_)
          refine lv_iload_n hx hb dX12_cut_98 rfl (lv_at hl 2 rfl) ?_
          refine lv_bipush (v := 8) hx hb dX12_cut_99 (by decide) ?_
          refine q_ifc hm (fun c85009 hm => ?_) (fun c85009 hm => ?_)
          · refine lv_icmp_ge (tgt := 118) hx hb dX12_cut_101 (by decide) (fun _ => ?_) (fun h => absurd c85009 h)
            exact hB118 x3_85 x4_85 dt _ _ _ hm hW hS (lv_sub hl [0, 1, 2, 3] rfl)
          refine lv_icmp_ge (tgt := 118) hx hb dX12_cut_101 (by decide) (fun h => absurd h c85009) (fun _ => ?_)
          refine lv_lload hx hb dX12_cut_104 (lv_at hl 3 rfl) ?_
          refine lv_aload_n hx hb dX12_cut_106 rfl (lv_at hl 0 rfl) ?_
          refine lv_iload_n hx hb dX12_cut_107 rfl (lv_at hl 1 rfl) ?_
          refine lv_iload_n hx hb dX12_cut_108 rfl (lv_at hl 2 rfl) ?_
          refine lv_iadd hx hb dX12_cut_109 ?_
          obtain ⟨v85011, hc85010, hm⟩ := q_b1i hm
          refine q_callV C hW hS (As := [.int (x1_85 + x3_85)]) (rest := [.long x4_85]) (st1 := [.int v85011, .long x4_85]) (c_X12_byteAt l D al dt x0_7 (x1_85 + x3_85) kx0_7 v85011 hc85010) yl_X12_byteAt vl_X12_byteAt ml_RX12_193 (ci := 12) rfl kx0_7 (by decide) rfl ⟨Nat.le_of_ble_eq_true rfl, Nat.le_of_ble_eq_true rfl⟩ hl rfl (Nat.le_of_ble_eq_true rfl) dX12_cut_110 ⟨Nat.le_refl _, Nat.le_refl _⟩ rfl (fun H locs k85012 hW hS => ?_)
          obtain ⟨v85014, hc85013, hm⟩ := q_b1i hm
          refine q_callS C hW hS (As := [.long x4_85, .int v85011]) (rest := []) (st1 := [.long v85014]) (c_X12_appends l D al dt x4_85 v85011 v85014 hc85013) yl_X12_appends sl_X12_appends ml_RX12_186 rfl ⟨Nat.le_of_ble_eq_true rfl, Nat.le_of_ble_eq_true rfl⟩ hl rfl (Nat.le_of_ble_eq_true rfl) dX12_cut_113 ⟨Nat.le_refl _, Nat.le_refl _⟩ rfl (fun H locs k85015 hW hS => ?_)
          refine lv_lstore (i := 4) (lv' := [(4, .long v85014), (0, .ref x0_7), (1, .int x1_85), (3, .int x3_85)]) hx hb dX12_cut_116 hl (by decide) rfl (fun ls hl => ?_)
          exact hB118 x3_85 v85014 dt _ _ _ hm hW hS (lv_sub hl [1, 2, 3, 0] rfl)
      intro x1_7 dt H locs ls hm hW hS hl
      rw [X12_cut_b7] at hm
      refine lv_aload_n hx hb dX12_cut_7 rfl (lv_at hl 0 rfl) ?_
      refine r_getI C hW (ci := 12) kx0_7 ff_12_10 cl_12 fl_RX12_190 dX12_cut_8 ?_
      refine lv_sipush (v := 400) hx hb dX12_cut_11 (by decide) ?_
      refine q_ifc hm (fun c7001 hm => ?_) (fun c7001 hm => ?_)
      · refine lv_icmp_gt (tgt := 294) hx hb dX12_cut_14 (by decide) (fun _ => ?_) (fun h => absurd c7001 h)
        exact e_vD C hW hS hm dX12_cut_294
      refine lv_icmp_gt (tgt := 294) hx hb dX12_cut_14 (by decide) (fun h => absurd h c7001) (fun _ => ?_)
      refine lv_aload_n hx hb dX12_cut_17 rfl (lv_at hl 0 rfl) ?_
      refine lv_iload_n hx hb dX12_cut_18 rfl (lv_at hl 1 rfl) ?_
      obtain ⟨v7003, hc7002, hm⟩ := q_b1i hm
      refine q_callV C hW hS (As := [.int x1_7]) (rest := []) (st1 := [.int v7003]) (c_X12_byteAt l D al dt x0_7 x1_7 kx0_7 v7003 hc7002) yl_X12_byteAt vl_X12_byteAt ml_RX12_193 (ci := 12) rfl kx0_7 (by decide) rfl ⟨Nat.le_of_ble_eq_true rfl, Nat.le_of_ble_eq_true rfl⟩ hl rfl (Nat.le_of_ble_eq_true rfl) dX12_cut_19 ⟨Nat.le_refl _, Nat.le_refl _⟩ rfl (fun H locs k7004 hW hS => ?_)
      refine lv_istore_n (i := 2) (lv' := [(2, .int v7003), (0, .ref x0_7), (1, .int x1_7)]) hx hb dX12_cut_22 rfl hl (by decide) rfl (fun ls hl => ?_)
      refine lv_iload_n hx hb dX12_cut_23 rfl (lv_at hl 2 rfl) ?_
      refine lv_aload_n hx hb dX12_cut_24 rfl (lv_at hl 1 rfl) ?_
      refine r_getI C hW (ci := 12) kx0_7 ff_12_4 cl_12 fl_RX12_181 dX12_cut_25 ?_
      refine q_ifc hm (fun c7005 hm => ?_) (fun c7005 hm => ?_)
      · refine lv_icmp_lt (tgt := 43) hx hb dX12_cut_28 (by decide) (fun _ => ?_) (fun h => absurd c7005 h)
        refine lv_iload_n hx hb dX12_cut_43 rfl (lv_at hl 0 rfl) ?_
        refine lv_bipush (v := 9) hx hb dX12_cut_44 (by decide) ?_
        refine q_ifc hm (fun c7006 hm => ?_) (fun c7006 hm => ?_)
        · refine lv_icmp_eq (tgt := 67) hx hb dX12_cut_46 (by decide) (fun _ => ?_) (fun h => absurd c7006 h)
          exact hB67 x1_7 dt _ _ _ hm hW hS (lv_sub hl [1, 2] rfl)
        refine lv_icmp_eq (tgt := 67) hx hb dX12_cut_46 (by decide) (fun h => absurd h c7006) (fun _ => ?_)
        refine lv_iload_n hx hb dX12_cut_49 rfl (lv_at hl 0 rfl) ?_
        refine lv_bipush (v := 10) hx hb dX12_cut_50 (by decide) ?_
        refine q_ifc hm (fun c7007 hm => ?_) (fun c7007 hm => ?_)
        · refine lv_icmp_eq (tgt := 67) hx hb dX12_cut_52 (by decide) (fun _ => ?_) (fun h => absurd c7007 h)
          exact hB67 x1_7 dt _ _ _ hm hW hS (lv_sub hl [1, 2] rfl)
        refine lv_icmp_eq (tgt := 67) hx hb dX12_cut_52 (by decide) (fun h => absurd h c7007) (fun _ => ?_)
        refine lv_iload_n hx hb dX12_cut_55 rfl (lv_at hl 0 rfl) ?_
        refine lv_bipush (v := 13) hx hb dX12_cut_56 (by decide) ?_
        refine q_ifc hm (fun c7008 hm => ?_) (fun c7008 hm => ?_)
        · refine lv_icmp_eq (tgt := 67) hx hb dX12_cut_58 (by decide) (fun _ => ?_) (fun h => absurd c7008 h)
          exact hB67 x1_7 dt _ _ _ hm hW hS (lv_sub hl [1, 2] rfl)
        refine lv_icmp_eq (tgt := 67) hx hb dX12_cut_58 (by decide) (fun h => absurd h c7008) (fun _ => ?_)
        refine lv_iload_n hx hb dX12_cut_61 rfl (lv_at hl 0 rfl) ?_
        refine lv_bipush (v := 32) hx hb dX12_cut_62 (by decide) ?_
        refine q_ifc hm (fun c7009 hm => ?_) (fun c7009 hm => ?_)
        · refine lv_icmp_ne (tgt := 73) hx hb dX12_cut_64 (by decide) (fun h => absurd c7009 h) (fun _ => ?_)
          exact hB67 x1_7 dt _ _ _ hm hW hS (lv_sub hl [1, 2] rfl)
        refine lv_icmp_ne (tgt := 73) hx hb dX12_cut_64 (by decide) (fun _ => ?_) (fun h => absurd h c7009)
        refine lv_iload_n hx hb dX12_cut_73 rfl (lv_at hl 0 rfl) ?_
        obtain ⟨v7011, hc7010, hm⟩ := q_b1i hm
        refine q_callS C hW hS (As := [.int v7003]) (rest := []) (st1 := [.int v7011]) (c_X12_isLetter l D al dt v7003 v7011 hc7010) yl_X12_isLetter sl_X12_isLetter ml_RX12_201 rfl ⟨Nat.le_of_ble_eq_true rfl, Nat.le_of_ble_eq_true rfl⟩ hl rfl (Nat.le_of_ble_eq_true rfl) dX12_cut_74 ⟨Nat.le_refl _, Nat.le_refl _⟩ rfl (fun H locs k7012 hW hS => ?_)
        refine q_ifc hm (fun c7013 hm => ?_) (fun c7013 hm => ?_)
        · refine lv_if_eq (tgt := 196) hx hb dX12_cut_77 (by decide) (fun _ => ?_) (fun h => absurd c7013 h)
          refine lv_iload_n hx hb dX12_cut_196 rfl (lv_at hl 0 rfl) ?_
          obtain ⟨v7015, hc7014, hm⟩ := q_b1i hm
          refine q_callS C hW hS (As := [.int v7003]) (rest := []) (st1 := [.int v7015]) (c_X12_isDigit l D al dt v7003 v7015 hc7014) yl_X12_isDigit sl_X12_isDigit ml_RX12_205 rfl ⟨Nat.le_of_ble_eq_true rfl, Nat.le_of_ble_eq_true rfl⟩ hl rfl (Nat.le_of_ble_eq_true rfl) dX12_cut_197 ⟨Nat.le_refl _, Nat.le_refl _⟩ rfl (fun H locs k7016 hW hS => ?_)
          refine q_ifc hm (fun c7017 hm => ?_) (fun c7017 hm => ?_)
          · refine lv_if_eq (tgt := 275) hx hb dX12_cut_200 (by decide) (fun _ => ?_) (fun h => absurd c7017 h)
            refine lv_iload_n hx hb dX12_cut_275 rfl (lv_at hl 2 rfl) ?_
            refine lv_aload_n hx hb dX12_cut_276 rfl (lv_at hl 1 rfl) ?_
            refine lv_iload_n hx hb dX12_cut_277 rfl (lv_at hl 2 rfl) ?_
            refine lv_iload_n hx hb dX12_cut_278 rfl (lv_at hl 0 rfl) ?_
            refine lv_aload_n hx hb dX12_cut_279 rfl (lv_at hl 1 rfl) ?_
            refine lv_iload_n hx hb dX12_cut_280 rfl (lv_at hl 2 rfl) ?_
            refine lv_iconst (v := 1) hx hb dX12_cut_281 (by decide) ?_
            refine lv_iadd hx hb dX12_cut_282 ?_
            obtain ⟨v7019, hc7018, hm⟩ := q_b1i hm
            refine q_callV C hW hS (As := [.int (x1_7 + 1)]) (rest := [.int v7003, .int x1_7, .ref x0_7, .int x1_7]) (st1 := [.int v7019, .int v7003, .int x1_7, .ref x0_7, .int x1_7]) (c_X12_byteAt l D al dt x0_7 (x1_7 + 1) kx0_7 v7019 hc7018) yl_X12_byteAt vl_X12_byteAt ml_RX12_193 (ci := 12) rfl kx0_7 (by decide) rfl ⟨Nat.le_of_ble_eq_true rfl, Nat.le_of_ble_eq_true rfl⟩ hl rfl (Nat.le_of_ble_eq_true rfl) dX12_cut_283 ⟨Nat.le_refl _, Nat.le_refl _⟩ rfl (fun H locs k7020 hW hS => ?_)
            obtain ⟨v7022, dt7023, hc7021, hm⟩ := q_b2i hm
            refine q_callV C hW hS (As := [.int x1_7, .int v7003, .int v7019]) (rest := [.int x1_7]) (st1 := [.int v7022, .int x1_7]) (c_X12_sign l D al dt x0_7 x1_7 v7003 v7019 kx0_7 v7022 dt7023 hc7021) yl_X12_sign vl_X12_sign ml_RX12_208 (ci := 12) rfl kx0_7 (by decide) rfl ⟨Nat.le_of_ble_eq_true rfl, Nat.le_of_ble_eq_true rfl⟩ hl rfl (Nat.le_of_ble_eq_true rfl) dX12_cut_286 ⟨Nat.le_refl _, Nat.le_refl _⟩ rfl (fun H locs k7024 hW hS => ?_)
            refine lv_iadd hx hb dX12_cut_289 ?_
            refine lv_istore_n (i := 1) (lv' := [(1, .int (x1_7 + v7022)), (2, .int v7003), (0, .ref x0_7)]) hx hb dX12_cut_290 rfl hl (by decide) rfl (fun ls hl => ?_)
            exact hB291 (x1_7 + v7022) dt7023 _ _ _ hm hW hS (lv_sub hl [2, 0] rfl)
          refine lv_if_eq (tgt := 275) hx hb dX12_cut_200 (by decide) (fun h => absurd h c7017) (fun _ => ?_)
          refine lv_iconst (v := 0) hx hb dX12_cut_203 (by decide) ?_
          refine lv_istore_n (i := 3) (lv' := [(3, .int 0), (2, .int v7003), (0, .ref x0_7), (1, .int x1_7)]) hx hb dX12_cut_204 rfl hl (by decide) rfl (fun ls hl => ?_)
          refine lv_iconst (v := 0) hx hb dX12_cut_205 (by decide) ?_
          refine lv_istore (i := 4) (lv' := [(4, .int 0), (3, .int 0), (2, .int v7003), (0, .ref x0_7), (1, .int x1_7)]) hx hb dX12_cut_206 hl (by decide) rfl (fun ls hl => ?_)
          exact hB208 x1_7 q_FU 0 0 dt _ _ _ hm hW hS (lv_sub hl [3, 4, 1, 0] rfl)
        refine lv_if_eq (tgt := 196) hx hb dX12_cut_77 (by decide) (fun h => absurd h c7013) (fun _ => ?_)
        refine lv_iconst (v := 0) hx hb dX12_cut_80 (by decide) ?_
        refine lv_istore_n (i := 3) (lv' := [(3, .int 0), (2, .int v7003), (0, .ref x0_7), (1, .int x1_7)]) hx hb dX12_cut_81 rfl hl (by decide) rfl (fun ls hl => ?_)
        refine lv_lconst (v := 0) hx hb dX12_cut_82 rfl ?_
        refine lv_lstore (i := 4) (lv' := [(4, .long 0), (3, .int 0), (2, .int v7003), (0, .ref x0_7), (1, .int x1_7)]) hx hb dX12_cut_83 hl (by decide) rfl (fun ls hl => ?_)
        exact hB85 x1_7 q_FU 0 0 dt _ _ _ hm hW hS (lv_sub hl [3, 4, 1, 0] rfl)
      refine lv_icmp_lt (tgt := 43) hx hb dX12_cut_28 (by decide) (fun h => absurd h c7005) (fun _ => ?_)
      refine lv_aload_n hx hb dX12_cut_31 rfl (lv_at hl 1 rfl) ?_
      refine lv_iconst (v := 0) hx hb dX12_cut_32 (by decide) ?_
      refine lv_aload_n hx hb dX12_cut_33 rfl (lv_at hl 1 rfl) ?_
      refine r_getI C hW (ci := 12) kx0_7 ff_12_4 cl_12 fl_RX12_181 dX12_cut_34 ?_
      refine lv_iconst (v := 0) hx hb dX12_cut_37 (by decide) ?_
      refine lv_lconst (v := 0) hx hb dX12_cut_38 rfl ?_
      obtain ⟨dt7026, hc7025, hm⟩ := q_b1i hm
      refine q_callV C hW hS (As := [.int 0, .int (dt.1 x0_7 4), .int 0, .long 0]) (rest := []) (st1 := []) (c_X12_token l D al dt x0_7 0 (dt.1 x0_7 4) 0 0 kx0_7 dt7026 hc7025) yl_X12_token vl_X12_token ml_RX12_197 (ci := 12) rfl kx0_7 (by decide) rfl ⟨Nat.le_of_ble_eq_true rfl, Nat.le_of_ble_eq_true rfl⟩ hl rfl (Nat.le_of_ble_eq_true rfl) dX12_cut_39 ⟨Nat.le_refl _, Nat.le_refl _⟩ rfl (fun H locs k7027 hW hS => ?_)
      exact e_vD C hW hS hm dX12_cut_42
  refine lv_aload_n hx hb dX12_cut_0 rfl (lv_at hl 0 rfl) ?_
  refine lv_iconst (v := 0) hx hb dX12_cut_1 (by decide) ?_
  refine r_putI C hW hS hm (ci := 12) kx0 ff_12_10 cl_12 fl_RX12_190 (nf_12_10) rfl dX12_cut_2 (fun dt1000001 H locs hm hW hS => ?_)
  refine lv_iconst (v := 0) hx hb dX12_cut_5 (by decide) ?_
  refine lv_istore_n (i := 1) (lv' := [(1, .int 0), (0, .ref x0)]) hx hb dX12_cut_6 rfl hl (by decide) rfl (fun ls hl => ?_)
  exact hB7 x0 kx0 q_FU 0 dt1000001 _ _ _ hm hW hS (lv_sub hl [1, 0] rfl)
