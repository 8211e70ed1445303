theorem dX11_rest_0 : decode cX11_rest 0 = .ok (.iload_n 1, 1) := by decide +kernel
theorem dX11_rest_1 : decode cX11_rest 1 = .ok (.ifCond .lt 14, 3) := by decide +kernel
theorem dX11_rest_4 : decode cX11_rest 4 = .ok (.iload_n 1, 1) := by decide +kernel
theorem dX11_rest_5 : decode cX11_rest 5 = .ok (.aload_n 0, 1) := by decide +kernel
theorem dX11_rest_6 : decode cX11_rest 6 = .ok (.getfield 51, 3) := by decide +kernel
theorem dX11_rest_9 : decode cX11_rest 9 = .ok (.getfield 268, 3) := by decide +kernel
theorem dX11_rest_12 : decode cX11_rest 12 = .ok (.if_icmp .le 7, 3) := by decide +kernel
theorem dX11_rest_15 : decode cX11_rest 15 = .ok (.ldc2_w 152, 3) := by decide +kernel
theorem dX11_rest_18 : decode cX11_rest 18 = .ok (.lreturn, 1) := by decide +kernel
theorem dX11_rest_19 : decode cX11_rest 19 = .ok (.aload_n 0, 1) := by decide +kernel
theorem dX11_rest_20 : decode cX11_rest 20 = .ok (.getfield 44, 3) := by decide +kernel
theorem dX11_rest_23 : decode cX11_rest 23 = .ok (.aload_n 0, 1) := by decide +kernel
theorem dX11_rest_24 : decode cX11_rest 24 = .ok (.getfield 51, 3) := by decide +kernel
theorem dX11_rest_27 : decode cX11_rest 27 = .ok (.aload_n 0, 1) := by decide +kernel
theorem dX11_rest_28 : decode cX11_rest 28 = .ok (.getfield 19, 3) := by decide +kernel
theorem dX11_rest_31 : decode cX11_rest 31 = .ok (.iload_n 1, 1) := by decide +kernel
theorem dX11_rest_32 : decode cX11_rest 32 = .ok (.invokevirtual 271, 3) := by decide +kernel
theorem dX11_rest_35 : decode cX11_rest 35 = .ok (.pop, 1) := by decide +kernel
theorem dX11_rest_36 : decode cX11_rest 36 = .ok (.aload_n 0, 1) := by decide +kernel
theorem dX11_rest_37 : decode cX11_rest 37 = .ok (.getfield 44, 3) := by decide +kernel
theorem dX11_rest_40 : decode cX11_rest 40 = .ok (.invokevirtual 277, 3) := by decide +kernel
theorem dX11_rest_43 : decode cX11_rest 43 = .ok (.lreturn, 1) := by decide +kernel
set_option maxRecDepth 100000 in
theorem c_X11_rest (l : Launch) (D : q_D) (al : q_Al) (dt : q_Dt) (x0 : Nat) (x1 : Int32) (kx0 : al.1 x0 = 12) (r0 : Int64) (dt0 : q_Dt) (hm : X11_rest al dt x0 x1 = some (r0, dt0)) : q_Mt l yX11_rest cX11_rest 2 (some FieldType.long) 5 124 D al [.ref x0, .int x1] dt 0 (some (.long r0)) dt0 := by
  refine q_Mt.of (by decide) (Nat.le_of_ble_eq_true rfl) ?_
  intro p e s m args below meth c ls C hargs hW hl
  have hx := C.1
  have hb := C.2.1
  have hown := C.2.2.2.2.2.1
  have hts := C.2.2.2.2.2.2.1
  have hS : va_S (q_A al) s.heap s.heap [] := va_S.rf
  have hl : lv_has ls 2 [(0, .ref x0), (1, .int x1)] := hl
  unfold X11_rest at hm
  have hB15 : ∀ (dt : q_Dt) (H : Heap) (locs : List Loc) (ls : Array Slot) (hm : X11_rest_b15 al dt = some (r0, dt0)) (hW : q_W D al dt H) (hS : va_S (q_A al) s.heap H locs) (hl : lv_has ls 2 []), W p l e { frames := 5, cells := 0, slots := 0, locals := 124 } s m args below meth c H locs 0 0 (MQ below (q_Q (some (.long r0)) (fun H => q_W D al dt0 H ∧ q_Rk al 0 (some (.long r0))) (q_A al)) args s 0 0 (q_A al)) (F0 m 15 ls []) := by
    intro dt H locs ls hm hW hS hl
    unfold X11_rest_b15 at hm
    refine lv_ldc2 (own := RX11) (v := (-1)) hx hb hown (hts _ wc_RX11_152) dX11_rest_15 ?_
    exact e_lD C hW hS hm dX11_rest_18
  refine lv_iload_n hx hb dX11_rest_0 rfl (lv_at hl 1 rfl) ?_
  refine q_ifc hm (fun c1000001 hm => ?_) (fun c1000001 hm => ?_)
  · refine lv_if_lt (tgt := 15) hx hb dX11_rest_1 (by decide) (fun _ => ?_) (fun h => absurd c1000001 h)
    exact hB15 dt _ _ _ hm hW hS (lv_sub hl [] rfl)
  refine lv_if_lt (tgt := 15) hx hb dX11_rest_1 (by decide) (fun h => absurd h c1000001) (fun _ => ?_)
  refine lv_iload_n hx hb dX11_rest_4 rfl (lv_at hl 1 rfl) ?_
  refine lv_aload_n hx hb dX11_rest_5 rfl (lv_at hl 0 rfl) ?_
  refine r_getQ C hW hm (ci := 11) kx0 ff_11_6 cl_11 fl_RX11_51 dX11_rest_6 (fun o1000002 eo1000002 k1000003 hm => ?_)
  obtain ⟨b1000004, e1000005, hq1000006⟩ := q_mi hm
  subst e1000005
  have hm := hq1000006
  have k1000007 := k1000003 b1000004 rfl
  refine r_getI C hW (ci := 10) k1000007 ff_10_9 cl_10 fl_RX11_268 dX11_rest_9 ?_
  refine q_ifc hm (fun c1000008 hm => ?_) (fun c1000008 hm => ?_)
  · refine lv_icmp_le (tgt := 19) hx hb dX11_rest_12 (by decide) (fun _ => ?_) (fun h => absurd c1000008 h)
    refine lv_aload_n hx hb dX11_rest_19 rfl (lv_at hl 0 rfl) ?_
    refine r_getF C hW (ci := 11) kx0 ff_11_5 cl_11 fl_RX11_44 dX11_rest_20 (fun k1000009 => ?_)
    refine lv_aload_n hx hb dX11_rest_23 rfl (lv_at hl 0 rfl) ?_
    refine r_getQ C hW hm (ci := 11) kx0 ff_11_6 cl_11 fl_RX11_51 dX11_rest_24 (fun o1000010 eo1000010 k1000011 hm => ?_)
    refine lv_aload_n hx hb dX11_rest_27 rfl (lv_at hl 0 rfl) ?_
    refine r_getF C hW (ci := 11) kx0 ff_11_1 cl_11 fl_RX11_19 dX11_rest_28 (fun k1000012 => ?_)
    refine lv_iload_n hx hb dX11_rest_31 rfl (lv_at hl 1 rfl) ?_
    obtain ⟨v1000014, dt1000015, hc1000013, hm⟩ := q_b2i hm
    refine q_callV C hW hS (As := [va_rf o1000010, .ref (al.2.2 x0 1), .int x1]) (rest := []) (st1 := [.int v1000014]) (c_X4_takeOut l D al dt (al.2.2 x0 5) o1000010 (al.2.2 x0 1) x1 k1000009 k1000011 k1000012 v1000014 dt1000015 hc1000013) yl_X4_takeOut vl_X4_takeOut ml_RX11_271 (ci := 4) rfl k1000009 (by decide) rfl ⟨Nat.le_of_ble_eq_true rfl, Nat.le_of_ble_eq_true rfl⟩ hl rfl (Nat.le_of_ble_eq_true rfl) dX11_rest_32 ⟨Nat.le_refl _, Nat.le_refl _⟩ rfl (fun H locs k1000016 hW hS => ?_)
    refine lv_pop hx hb dX11_rest_35 rfl ?_
    refine lv_aload_n hx hb dX11_rest_36 rfl (lv_at hl 0 rfl) ?_
    refine r_getF C hW (ci := 11) kx0 ff_11_5 cl_11 fl_RX11_44 dX11_rest_37 (fun k1000017 => ?_)
    obtain ⟨v1000019, hc1000018, hm⟩ := q_b1i hm
    refine q_callV C hW hS (As := []) (rest := []) (st1 := [.long v1000019]) (c_X4_squaresLeft l D al dt1000015 (al.2.2 x0 5) k1000017 v1000019 hc1000018) yl_X4_squaresLeft vl_X4_squaresLeft ml_RX11_277 (ci := 4) rfl k1000017 (by decide) rfl ⟨Nat.le_of_ble_eq_true rfl, Nat.le_of_ble_eq_true rfl⟩ hl rfl (Nat.le_of_ble_eq_true rfl) dX11_rest_40 ⟨Nat.le_refl _, Nat.le_refl _⟩ rfl (fun H locs k1000020 hW hS => ?_)
    exact e_lD C hW hS hm dX11_rest_43
  refine lv_icmp_le (tgt := 19) hx hb dX11_rest_12 (by decide) (fun h => absurd h c1000008) (fun _ => ?_)
  exact hB15 dt _ _ _ hm hW hS (lv_sub hl [] rfl)
theorem dX11_loop_0 : decode cX11_loop 0 = .ok (.aload_n 0, 1) := by decide +kernel
theorem dX11_loop_1 : decode cX11_loop 1 = .ok (.getfield 51, 3) := by decide +kernel
theorem dX11_loop_4 : decode cX11_loop 4 = .ok (.iload_n 1, 1) := by decide +kernel
theorem dX11_loop_5 : decode cX11_loop 5 = .ok (.invokevirtual 87, 3) := by decide +kernel
theorem dX11_loop_8 : decode cX11_loop 8 = .ok (.astore 6, 2) := by decide +kernel
theorem dX11_loop_10 : decode cX11_loop 10 = .ok (.aload 6, 2) := by decide +kernel
theorem dX11_loop_12 : decode cX11_loop 12 = .ok (.iload_n 2, 1) := by decide +kernel
theorem dX11_loop_13 : decode cX11_loop 13 = .ok (.iload_n 3, 1) := by decide +kernel
theorem dX11_loop_14 : decode cX11_loop 14 = .ok (.invokestatic 178, 3) := by decide +kernel
theorem dX11_loop_17 : decode cX11_loop 17 = .ok (.ifCond .eq 24, 3) := by decide +kernel
theorem dX11_loop_20 : decode cX11_loop 20 = .ok (.aload_n 0, 1) := by decide +kernel
theorem dX11_loop_21 : decode cX11_loop 21 = .ok (.iload 4, 2) := by decide +kernel
theorem dX11_loop_23 : decode cX11_loop 23 = .ok (.invokevirtual 136, 3) := by decide +kernel
theorem dX11_loop_26 : decode cX11_loop 26 = .ok (.ifCond .eq 15, 3) := by decide +kernel
theorem dX11_loop_29 : decode cX11_loop 29 = .ok (.iload 5, 2) := by decide +kernel
theorem dX11_loop_31 : decode cX11_loop 31 = .ok (.ifCond .lt 10, 3) := by decide +kernel
theorem dX11_loop_34 : decode cX11_loop 34 = .ok (.iload 5, 2) := by decide +kernel
theorem dX11_loop_36 : decode cX11_loop 36 = .ok (.bipush 40, 2) := by decide +kernel
theorem dX11_loop_38 : decode cX11_loop 38 = .ok (.if_icmp .le 5, 3) := by decide +kernel
theorem dX11_loop_41 : decode cX11_loop 41 = .ok (.iconst (-1), 1) := by decide +kernel
theorem dX11_loop_42 : decode cX11_loop 42 = .ok (.ireturn, 1) := by decide +kernel
theorem dX11_loop_43 : decode cX11_loop 43 = .ok (.iload_n 2, 1) := by decide +kernel
theorem dX11_loop_44 : decode cX11_loop 44 = .ok (.istore 7, 2) := by decide +kernel
theorem dX11_loop_46 : decode cX11_loop 46 = .ok (.iconst 0, 1) := by decide +kernel
theorem dX11_loop_47 : decode cX11_loop 47 = .ok (.istore 8, 2) := by decide +kernel
theorem dX11_loop_49 : decode cX11_loop 49 = .ok (.iload 8, 2) := by decide +kernel
theorem dX11_loop_51 : decode cX11_loop 51 = .ok (.iload 5, 2) := by decide +kernel
theorem dX11_loop_53 : decode cX11_loop 53 = .ok (.if_icmp .ge 38, 3) := by decide +kernel
theorem dX11_loop_56 : decode cX11_loop 56 = .ok (.aload_n 0, 1) := by decide +kernel
theorem dX11_loop_57 : decode cX11_loop 57 = .ok (.getfield 37, 3) := by decide +kernel
theorem dX11_loop_60 : decode cX11_loop 60 = .ok (.aload 6, 2) := by decide +kernel
theorem dX11_loop_62 : decode cX11_loop 62 = .ok (.iload 7, 2) := by decide +kernel
theorem dX11_loop_64 : decode cX11_loop 64 = .ok (.iload_n 3, 1) := by decide +kernel
theorem dX11_loop_65 : decode cX11_loop 65 = .ok (.aload_n 0, 1) := by decide +kernel
theorem dX11_loop_66 : decode cX11_loop 66 = .ok (.getfield 19, 3) := by decide +kernel
theorem dX11_loop_69 : decode cX11_loop 69 = .ok (.iload 4, 2) := by decide +kernel
theorem dX11_loop_71 : decode cX11_loop 71 = .ok (.iload 8, 2) := by decide +kernel
theorem dX11_loop_73 : decode cX11_loop 73 = .ok (.aload 6, 2) := by decide +kernel
theorem dX11_loop_75 : decode cX11_loop 75 = .ok (.getfield 91, 3) := by decide +kernel
theorem dX11_loop_78 : decode cX11_loop 78 = .ok (.imul, 1) := by decide +kernel
theorem dX11_loop_79 : decode cX11_loop 79 = .ok (.iadd, 1) := by decide +kernel
theorem dX11_loop_80 : decode cX11_loop 80 = .ok (.invokevirtual 281, 3) := by decide +kernel
theorem dX11_loop_83 : decode cX11_loop 83 = .ok (.istore 7, 2) := by decide +kernel
theorem dX11_loop_85 : decode cX11_loop 85 = .ok (.iinc 8 1, 3) := by decide +kernel
theorem dX11_loop_88 : decode cX11_loop 88 = .ok (.goto (-39), 3) := by decide +kernel
theorem dX11_loop_91 : decode cX11_loop 91 = .ok (.iload 7, 2) := by decide +kernel
theorem dX11_loop_93 : decode cX11_loop 93 = .ok (.ireturn, 1) := by decide +kernel
set_option maxRecDepth 100000 in
theorem c_X11_loop (l : Launch) (D : q_D) (al : q_Al) (dt : q_Dt) (x0 : Nat) (x1 : Int32) (x2 : Int32) (x3 : Int32) (x4 : Int32) (x5 : Int32) (kx0 : al.1 x0 = 12) (r0 : Int32) (dt0 : q_Dt) (hm : X11_loop al dt x0 x1 x2 x3 x4 x5 = some (r0, dt0)) : q_Mt l yX11_loop cX11_loop 9 (some FieldType.int) 5 132 D al [.ref x0, .int x1, .int x2, .int x3, .int x4, .int x5] dt 0 (some (.int r0)) dt0 := by
  refine q_Mt.of (by decide) (Nat.le_of_ble_eq_true rfl) ?_
  intro p e s m args below meth c ls C hargs hW hl
  have hx := C.1
  have hb := C.2.1
  have hown := C.2.2.2.2.2.1
  have hts := C.2.2.2.2.2.2.1
  have hS : va_S (q_A al) s.heap s.heap [] := va_S.rf
  have hl : lv_has ls 9 [(0, .ref x0), (1, .int x1), (2, .int x2), (3, .int x3), (4, .int x4), (5, .int x5)] := hl
  unfold X11_loop at hm
  have hB49 : ∀ (x0_49 : Nat) (x3_49 : Int32) (x4_49 : Int32) (x5_49 : Int32) (x6_49 : Option Nat) (kx0_49 : al.1 x0_49 = 12) (kx6_49 : ∀ b, x6_49 = some b → al.1 b = 1) (n_49 : Nat) (x7_49 : Int32) (x8_49 : Int32) (dt : q_Dt) (H : Heap) (locs : List Loc) (ls : Array Slot) (hm : X11_loop_b49 al x0_49 x3_49 x4_49 x5_49 x6_49 n_49 x7_49 x8_49 dt = some (r0, dt0)) (hW : q_W D al dt H) (hS : va_S (q_A al) s.heap H locs) (hl : lv_has ls 9 [(0, .ref x0_49), (3, .int x3_49), (4, .int x4_49), (5, .int x5_49), (6, va_rf x6_49), (7, .int x7_49), (8, .int x8_49)]), W p l e { frames := 5, cells := 0, slots := 0, locals := 132 } s m args below meth c H locs 0 0 (MQ below (q_Q (some (.int r0)) (fun H => q_W D al dt0 H ∧ q_Rk al 0 (some (.int r0))) (q_A al)) args s 0 0 (q_A al)) (F0 m 49 ls []) := by
    intro x0_49 x3_49 x4_49 x5_49 x6_49 kx0_49 kx6_49
    intro n_49
    induction n_49 with
    | zero => intro x7_49 x8_49 dt H locs ls hm hW hS hl; cases hm
    | succ n_49 ih49 =>
      intro x7_49 x8_49 dt H locs ls hm hW hS hl
      rw [X11_loop_b49] at hm
      refine lv_iload hx hb dX11_loop_49 (lv_at hl 6 rfl) ?_
      refine lv_iload hx hb dX11_loop_51 (lv_at hl 3 rfl) ?_
      refine q_ifc hm (fun c49001 hm => ?_) (fun c49001 hm => ?_)
      · refine lv_icmp_ge (tgt := 91) hx hb dX11_loop_53 (by decide) (fun _ => ?_) (fun h => absurd c49001 h)
        refine lv_iload hx hb dX11_loop_91 (lv_at hl 5 rfl) ?_
        exact e_iD C hW hS hm dX11_loop_93
      refine lv_icmp_ge (tgt := 91) hx hb dX11_loop_53 (by decide) (fun h => absurd h c49001) (fun _ => ?_)
      refine lv_aload_n hx hb dX11_loop_56 rfl (lv_at hl 0 rfl) ?_
      refine r_getF C hW (ci := 11) kx0_49 ff_11_4 cl_11 fl_RX11_37 dX11_loop_57 (fun k49002 => ?_)
      refine q_aloadQ C dX11_loop_60 (lv_at hl 4 rfl) ?_
      refine lv_iload hx hb dX11_loop_62 (lv_at hl 5 rfl) ?_
      refine lv_iload_n hx hb dX11_loop_64 rfl (lv_at hl 1 rfl) ?_
      refine lv_aload_n hx hb dX11_loop_65 rfl (lv_at hl 0 rfl) ?_
      refine r_getF C hW (ci := 11) kx0_49 ff_11_1 cl_11 fl_RX11_19 dX11_loop_66 (fun k49003 => ?_)
      refine lv_iload hx hb dX11_loop_69 (lv_at hl 2 rfl) ?_
      refine lv_iload hx hb dX11_loop_71 (lv_at hl 6 rfl) ?_
      refine q_aloadQ C dX11_loop_73 (lv_at hl 4 rfl) ?_
      obtain ⟨b49004, e49005, hq49006⟩ := q_mi hm
      subst e49005
      have hm := hq49006
      have k49007 := kx6_49 b49004 rfl
      refine r_getI C hW (ci := 0) k49007 ff_0_1 cl_0 fl_RX11_91 dX11_loop_75 ?_
      refine lv_imul hx hb dX11_loop_78 ?_
      refine lv_iadd hx hb dX11_loop_79 ?_
      obtain ⟨v49009, dt49010, hc49008, hm⟩ := q_b2i hm
      refine q_callV C hW hS (As := [.ref b49004, .int x7_49, .int x3_49, .ref (al.2.2 x0_49 1), .int (x4_49 + (x8_49 * (dt.1 b49004 1)))]) (rest := []) (st1 := [.int v49009]) (c_X6_loopStep l D al dt (al.2.2 x0_49 4) b49004 x7_49 x3_49 (al.2.2 x0_49 1) (x4_49 + (x8_49 * (dt.1 b49004 1))) k49002 k49007 k49003 v49009 dt49010 hc49008) yl_X6_loopStep vl_X6_loopStep ml_RX11_281 (ci := 6) rfl k49002 (by decide) rfl ⟨Nat.le_of_ble_eq_true rfl, Nat.le_of_ble_eq_true rfl⟩ hl rfl (Nat.le_of_ble_eq_true rfl) dX11_loop_80 ⟨Nat.le_refl _, Nat.le_refl _⟩ rfl (fun H locs k49011 hW hS => ?_)
      refine lv_istore (i := 7) (lv' := [(7, .int v49009), (0, .ref x0_49), (3, .int x3_49), (4, .int x4_49), (5, .int x5_49), (6, .ref b49004), (8, .int x8_49)]) hx hb dX11_loop_83 hl (by decide) rfl (fun ls hl => ?_)
      refine lv_iinc (v := (x8_49 + 1)) (lv' := [(8, .int (x8_49 + 1)), (7, .int v49009), (0, .ref x0_49), (3, .int x3_49), (4, .int x4_49), (5, .int x5_49), (6, .ref b49004)]) hx hb dX11_loop_85 hl (k := 6) rfl rfl (by decide) rfl (fun ls hl => ?_)
      refine lv_goto (tgt := 49) hx hb dX11_loop_88 (by decide) ?_
      exact ih49 v49009 (x8_49 + 1) dt49010 _ _ _ hm hW hS (lv_sub hl [2, 3, 4, 5, 6, 1, 0] rfl)
  refine lv_aload_n hx hb dX11_loop_0 rfl (lv_at hl 0 rfl) ?_
  refine r_getQ C hW hm (ci := 11) kx0 ff_11_6 cl_11 fl_RX11_51 dX11_loop_1 (fun o1000001 eo1000001 k1000002 hm => ?_)
  refine lv_iload_n hx hb dX11_loop_4 rfl (lv_at hl 1 rfl) ?_
  obtain ⟨b1000003, e1000004, hq1000005⟩ := q_mi hm
  subst e1000004
  have hm := hq1000005
  have k1000006 := k1000002 b1000003 rfl
  obtain ⟨v1000008, hc1000007, hm⟩ := q_b1i hm
  refine q_callV C hW hS (As := [.int x1]) (rest := []) (st1 := [va_rf v1000008]) (c_X10_codeAt l D al dt b1000003 x1 k1000006 v1000008 hc1000007) yl_X10_codeAt vl_X10_codeAt ml_RX11_87 (ci := 10) rfl k1000006 (by decide) rfl ⟨Nat.le_of_ble_eq_true rfl, Nat.le_of_ble_eq_true rfl⟩ hl rfl (Nat.le_of_ble_eq_true rfl) dX11_loop_5 ⟨Nat.le_refl _, Nat.le_refl _⟩ rfl (fun H locs k1000009 hW hS => ?_)
  have k1000009 := q_rk k1000009 (by decide)
  refine q_astoreQ (i := 6) (lv' := [(6, va_rf v1000008), (0, .ref x0), (1, .int x1), (2, .int x2), (3, .int x3), (4, .int x4), (5, .int x5)]) C dX11_loop_8 hl (by decide) rfl (fun ls hl => ?_)
  refine q_aloadQ C dX11_loop_10 (lv_at hl 0 rfl) ?_
  refine lv_iload_n hx hb dX11_loop_12 rfl (lv_at hl 3 rfl) ?_
  refine lv_iload_n hx hb dX11_loop_13 rfl (lv_at hl 4 rfl) ?_
  obtain ⟨v1000011, hc1000010, hm⟩ := q_b1i hm
  refine q_callS C hW hS (As := [va_rf v1000008, .int x2, .int x3]) (rest := []) (st1 := [.int v1000011]) (c_X11_isCell l D al dt v1000008 x2 x3 k1000009 v1000011 hc1000010) yl_X11_isCell sl_X11_isCell ml_RX11_178 rfl ⟨Nat.le_of_ble_eq_true rfl, Nat.le_of_ble_eq_true rfl⟩ hl rfl (Nat.le_of_ble_eq_true rfl) dX11_loop_14 ⟨Nat.le_refl _, Nat.le_refl _⟩ rfl (fun H locs k1000012 hW hS => ?_)
  refine q_ifc hm (fun c1000013 hm => ?_) (fun c1000013 hm => ?_)
  · refine lv_if_eq (tgt := 41) hx hb dX11_loop_17 (by decide) (fun _ => ?_) (fun h => absurd c1000013 h)
    refine lv_iconst (v := (-1)) hx hb dX11_loop_41 (by decide) ?_
    exact e_iD C hW hS hm dX11_loop_42
  refine lv_if_eq (tgt := 41) hx hb dX11_loop_17 (by decide) (fun h => absurd h c1000013) (fun _ => ?_)
  refine lv_aload_n hx hb dX11_loop_20 rfl (lv_at hl 1 rfl) ?_
  refine lv_iload hx hb dX11_loop_21 (lv_at hl 5 rfl) ?_
  obtain ⟨v1000015, hc1000014, hm⟩ := q_b1i hm
  refine q_callV C hW hS (As := [.int x4]) (rest := []) (st1 := [.int v1000015]) (c_X11_isSample l D al dt x0 x4 kx0 v1000015 hc1000014) yl_X11_isSample vl_X11_isSample ml_RX11_136 (ci := 11) rfl kx0 (by decide) rfl ⟨Nat.le_of_ble_eq_true rfl, Nat.le_of_ble_eq_true rfl⟩ hl rfl (Nat.le_of_ble_eq_true rfl) dX11_loop_23 ⟨Nat.le_refl _, Nat.le_refl _⟩ rfl (fun H locs k1000016 hW hS => ?_)
  refine q_ifc hm (fun c1000017 hm => ?_) (fun c1000017 hm => ?_)
  · refine lv_if_eq (tgt := 41) hx hb dX11_loop_26 (by decide) (fun _ => ?_) (fun h => absurd c1000017 h)
    refine lv_iconst (v := (-1)) hx hb dX11_loop_41 (by decide) ?_
    exact e_iD C hW hS hm dX11_loop_42
  refine lv_if_eq (tgt := 41) hx hb dX11_loop_26 (by decide) (fun h => absurd h c1000017) (fun _ => ?_)
  refine lv_iload hx hb dX11_loop_29 (lv_at hl 6 rfl) ?_
  refine q_ifc hm (fun c1000018 hm => ?_) (fun c1000018 hm => ?_)
  · refine lv_if_lt (tgt := 41) hx hb dX11_loop_31 (by decide) (fun _ => ?_) (fun h => absurd c1000018 h)
    refine lv_iconst (v := (-1)) hx hb dX11_loop_41 (by decide) ?_
    exact e_iD C hW hS hm dX11_loop_42
  refine lv_if_lt (tgt := 41) hx hb dX11_loop_31 (by decide) (fun h => absurd h c1000018) (fun _ => ?_)
  refine lv_iload hx hb dX11_loop_34 (lv_at hl 6 rfl) ?_
  refine lv_bipush (v := 40) hx hb dX11_loop_36 (by decide) ?_
  refine q_ifc hm (fun c1000019 hm => ?_) (fun c1000019 hm => ?_)
  · refine lv_icmp_le (tgt := 43) hx hb dX11_loop_38 (by decide) (fun _ => ?_) (fun h => absurd c1000019 h)
    refine lv_iload_n hx hb dX11_loop_43 rfl (lv_at hl 3 rfl) ?_
    refine lv_istore (i := 7) (lv' := [(7, .int x2), (6, va_rf v1000008), (0, .ref x0), (1, .int x1), (2, .int x2), (3, .int x3), (4, .int x4), (5, .int x5)]) hx hb dX11_loop_44 hl (by decide) (by simp [q_cat, q_catR, q_catI, q_catL] <;> rfl) (fun ls hl => ?_)
    refine lv_iconst (v := 0) hx hb dX11_loop_46 (by decide) ?_
    refine lv_istore (i := 8) (lv' := [(8, .int 0), (7, .int x2), (6, va_rf v1000008), (0, .ref x0), (1, .int x1), (2, .int x2), (3, .int x3), (4, .int x4), (5, .int x5)]) hx hb dX11_loop_47 hl (by decide) rfl (fun ls hl => ?_)
    exact hB49 x0 x3 x4 x5 v1000008 kx0 k1000009 q_FU x2 0 dt _ _ _ hm hW hS (lv_sub hl [3, 6, 7, 8, 2, 1, 0] rfl)
  refine lv_icmp_le (tgt := 43) hx hb dX11_loop_38 (by decide) (fun h => absurd h c1000019) (fun _ => ?_)
  refine lv_iconst (v := (-1)) hx hb dX11_loop_41 (by decide) ?_
  exact e_iD C hW hS hm dX11_loop_42
theorem dX11_follows_0 : decode cX11_follows 0 = .ok (.aload_n 0, 1) := by decide +kernel
theorem dX11_follows_1 : decode cX11_follows 1 = .ok (.getfield 51, 3) := by decide +kernel
theorem dX11_follows_4 : decode cX11_follows 4 = .ok (.iload_n 1, 1) := by decide +kernel
theorem dX11_follows_5 : decode cX11_follows 5 = .ok (.invokevirtual 154, 3) := by decide +kernel
theorem dX11_follows_8 : decode cX11_follows 8 = .ok (.astore_n 3, 1) := by decide +kernel
theorem dX11_follows_9 : decode cX11_follows 9 = .ok (.aload_n 3, 1) := by decide +kernel
theorem dX11_follows_10 : decode cX11_follows 10 = .ok (.ifnonnull 7, 3) := by decide +kernel
theorem dX11_follows_13 : decode cX11_follows 13 = .ok (.aconst_null, 1) := by decide +kernel
theorem dX11_follows_14 : decode cX11_follows 14 = .ok (.goto 7, 3) := by decide +kernel
theorem dX11_follows_17 : decode cX11_follows 17 = .ok (.aload_n 3, 1) := by decide +kernel
theorem dX11_follows_18 : decode cX11_follows 18 = .ok (.getfield 285, 3) := by decide +kernel
theorem dX11_follows_21 : decode cX11_follows 21 = .ok (.astore 4, 2) := by decide +kernel
theorem dX11_follows_23 : decode cX11_follows 23 = .ok (.aload 4, 2) := by decide +kernel
theorem dX11_follows_25 : decode cX11_follows 25 = .ok (.ifnull 13, 3) := by decide +kernel
theorem dX11_follows_28 : decode cX11_follows 28 = .ok (.iload_n 2, 1) := by decide +kernel
theorem dX11_follows_29 : decode cX11_follows 29 = .ok (.ifCond .lt 9, 3) := by decide +kernel
theorem dX11_follows_32 : decode cX11_follows 32 = .ok (.iload_n 2, 1) := by decide +kernel
theorem dX11_follows_33 : decode cX11_follows 33 = .ok (.bipush 40, 2) := by decide +kernel
theorem dX11_follows_35 : decode cX11_follows 35 = .ok (.if_icmp .le 5, 3) := by decide +kernel
theorem dX11_follows_38 : decode cX11_follows 38 = .ok (.iconst (-1), 1) := by decide +kernel
theorem dX11_follows_39 : decode cX11_follows 39 = .ok (.ireturn, 1) := by decide +kernel
theorem dX11_follows_40 : decode cX11_follows 40 = .ok (.aload_n 3, 1) := by decide +kernel
theorem dX11_follows_41 : decode cX11_follows 41 = .ok (.getfield 289, 3) := by decide +kernel
theorem dX11_follows_44 : decode cX11_follows 44 = .ok (.istore 5, 2) := by decide +kernel
theorem dX11_follows_46 : decode cX11_follows 46 = .ok (.iconst 0, 1) := by decide +kernel
theorem dX11_follows_47 : decode cX11_follows 47 = .ok (.istore 6, 2) := by decide +kernel
theorem dX11_follows_49 : decode cX11_follows 49 = .ok (.iload 6, 2) := by decide +kernel
theorem dX11_follows_51 : decode cX11_follows 51 = .ok (.iload_n 2, 1) := by decide +kernel
theorem dX11_follows_52 : decode cX11_follows 52 = .ok (.if_icmp .ge 72, 3) := by decide +kernel
theorem dX11_follows_55 : decode cX11_follows 55 = .ok (.aload_n 0, 1) := by decide +kernel
theorem dX11_follows_56 : decode cX11_follows 56 = .ok (.getfield 37, 3) := by decide +kernel
theorem dX11_follows_59 : decode cX11_follows 59 = .ok (.aload 4, 2) := by decide +kernel
theorem dX11_follows_61 : decode cX11_follows 61 = .ok (.iload 5, 2) := by decide +kernel
theorem dX11_follows_63 : decode cX11_follows 63 = .ok (.aload_n 3, 1) := by decide +kernel
theorem dX11_follows_64 : decode cX11_follows 64 = .ok (.getfield 292, 3) := by decide +kernel
theorem dX11_follows_67 : decode cX11_follows 67 = .ok (.aload_n 0, 1) := by decide +kernel
theorem dX11_follows_68 : decode cX11_follows 68 = .ok (.getfield 19, 3) := by decide +kernel
theorem dX11_follows_71 : decode cX11_follows 71 = .ok (.iload 6, 2) := by decide +kernel
theorem dX11_follows_73 : decode cX11_follows 73 = .ok (.aload 4, 2) := by decide +kernel
theorem dX11_follows_75 : decode cX11_follows 75 = .ok (.getfield 91, 3) := by decide +kernel
theorem dX11_follows_78 : decode cX11_follows 78 = .ok (.imul, 1) := by decide +kernel
theorem dX11_follows_79 : decode cX11_follows 79 = .ok (.invokevirtual 281, 3) := by decide +kernel
theorem dX11_follows_82 : decode cX11_follows 82 = .ok (.istore 5, 2) := by decide +kernel
theorem dX11_follows_84 : decode cX11_follows 84 = .ok (.aload_n 3, 1) := by decide +kernel
theorem dX11_follows_85 : decode cX11_follows 85 = .ok (.iload 6, 2) := by decide +kernel
theorem dX11_follows_87 : decode cX11_follows 87 = .ok (.iconst 1, 1) := by decide +kernel
theorem dX11_follows_88 : decode cX11_follows 88 = .ok (.iadd, 1) := by decide +kernel
theorem dX11_follows_89 : decode cX11_follows 89 = .ok (.aload 4, 2) := by decide +kernel
theorem dX11_follows_91 : decode cX11_follows 91 = .ok (.getfield 91, 3) := by decide +kernel
theorem dX11_follows_94 : decode cX11_follows 94 = .ok (.imul, 1) := by decide +kernel
theorem dX11_follows_95 : decode cX11_follows 95 = .ok (.invokevirtual 295, 3) := by decide +kernel
theorem dX11_follows_98 : decode cX11_follows 98 = .ok (.istore 7, 2) := by decide +kernel
theorem dX11_follows_100 : decode cX11_follows 100 = .ok (.iload 5, 2) := by decide +kernel
theorem dX11_follows_102 : decode cX11_follows 102 = .ok (.iload 7, 2) := by decide +kernel
theorem dX11_follows_104 : decode cX11_follows 104 = .ok (.aload 4, 2) := by decide +kernel
theorem dX11_follows_106 : decode cX11_follows 106 = .ok (.getfield 91, 3) := by decide +kernel
theorem dX11_follows_109 : decode cX11_follows 109 = .ok (.invokestatic 298, 3) := by decide +kernel
theorem dX11_follows_112 : decode cX11_follows 112 = .ok (.iconst 1, 1) := by decide +kernel
theorem dX11_follows_113 : decode cX11_follows 113 = .ok (.if_icmp .le 5, 3) := by decide +kernel
theorem dX11_follows_116 : decode cX11_follows 116 = .ok (.iconst 0, 1) := by decide +kernel
theorem dX11_follows_117 : decode cX11_follows 117 = .ok (.ireturn, 1) := by decide +kernel
theorem dX11_follows_118 : decode cX11_follows 118 = .ok (.iinc 6 1, 3) := by decide +kernel
theorem dX11_follows_121 : decode cX11_follows 121 = .ok (.goto (-72), 3) := by decide +kernel
theorem dX11_follows_124 : decode cX11_follows 124 = .ok (.iconst 1, 1) := by decide +kernel
theorem dX11_follows_125 : decode cX11_follows 125 = .ok (.ireturn, 1) := by decide +kernel
set_option maxRecDepth 100000 in
theorem c_X11_follows (l : Launch) (D : q_D) (al : q_Al) (dt : q_Dt) (x0 : Nat) (x1 : Int32) (x2 : Int32) (kx0 : al.1 x0 = 12) (r0 : Int32) (dt0 : q_Dt) (hm : X11_follows al dt x0 x1 x2 = some (r0, dt0)) : q_Mt l yX11_follows cX11_follows 8 (some FieldType.int) 5 132 D al [.ref x0, .int x1, .int x2] dt 0 (some (.int r0)) dt0 := by
  refine q_Mt.of (by decide) (Nat.le_of_ble_eq_true rfl) ?_
  intro p e s m args below meth c ls C hargs hW hl
  have hx := C.1
  have hb := C.2.1
  have hown := C.2.2.2.2.2.1
  have hts := C.2.2.2.2.2.2.1
  have hS : va_S (q_A al) s.heap s.heap [] := va_S.rf
  have hl : lv_has ls 8 [(0, .ref x0), (1, .int x1), (2, .int x2)] := hl
  unfold X11_follows at hm
  have hB49 : ∀ (x0_49 : Nat) (x2_49 : Int32) (x3_49 : Option Nat) (x4_49 : Option Nat) (kx0_49 : al.1 x0_49 = 12) (kx3_49 : ∀ b, x3_49 = some b → al.1 b = 8) (kx4_49 : ∀ b, x4_49 = some b → al.1 b = 1) (n_49 : Nat) (x5_49 : Int32) (x6_49 : Int32) (dt : q_Dt) (H : Heap) (locs : List Loc) (ls : Array Slot) (hm : X11_follows_b49 al x0_49 x2_49 x3_49 x4_49 n_49 x5_49 x6_49 dt = some (r0, dt0)) (hW : q_W D al dt H) (hS : va_S (q_A al) s.heap H locs) (hl : lv_has ls 8 [(0, .ref x0_49), (2, .int x2_49), (3, va_rf x3_49), (4, va_rf x4_49), (5, .int x5_49), (6, .int x6_49)]), W p l e { frames := 5, cells := 0, slots := 0, locals := 132 } s m args below meth c H locs 0 0 (MQ below (q_Q (some (.int r0)) (fun H => q_W D al dt0 H ∧ q_Rk al 0 (some (.int r0))) (q_A al)) args s 0 0 (q_A al)) (F0 m 49 ls []) := by
    intro x0_49 x2_49 x3_49 x4_49 kx0_49 kx3_49 kx4_49
    intro n_49
    induction n_49 with
    | zero => intro x5_49 x6_49 dt H locs ls hm hW hS hl; cases hm
    | succ n_49 ih49 =>
      intro x5_49 x6_49 dt H locs ls hm hW hS hl
      rw [X11_follows_b49] at hm
      refine lv_iload hx hb dX11_follows_49 (lv_at hl 5 rfl) ?_
      refine lv_iload_n hx hb dX11_follows_51 rfl (lv_at hl 1 rfl) ?_
      refine q_ifc hm (fun c49001 hm => ?_) (fun c49001 hm => ?_)
      · refine lv_icmp_ge (tgt := 124) hx hb dX11_follows_52 (by decide) (fun _ => ?_) (fun h => absurd c49001 h)
        refine lv_iconst (v := 1) hx hb dX11_follows_124 (by decide) ?_
        exact e_iD C hW hS hm dX11_follows_125
      refine lv_icmp_ge (tgt := 124) hx hb dX11_follows_52 (by decide) (fun h => absurd h c49001) (fun _ => ?_)
      refine lv_aload_n hx hb dX11_follows_55 rfl (lv_at hl 0 rfl) ?_
      refine r_getF C hW (ci := 11) kx0_49 ff_11_4 cl_11 fl_RX11_37 dX11_follows_56 (fun k49002 => ?_)
      refine q_aloadQ C dX11_follows_59 (lv_at hl 3 rfl) ?_
      refine lv_iload hx hb dX11_follows_61 (lv_at hl 4 rfl) ?_
      refine q_aloadQ_n C dX11_follows_63 rfl (lv_at hl 2 rfl) ?_
      obtain ⟨b49003, e49004, hq49005⟩ := q_mi hm
      subst e49004
      have hm := hq49005
      have k49006 := kx3_49 b49003 rfl
      refine r_getI C hW (ci := 7) k49006 ff_7_6 cl_7 fl_RX11_292 dX11_follows_64 ?_
      refine lv_aload_n hx hb dX11_follows_67 rfl (lv_at hl 0 rfl) ?_
      refine r_getF C hW (ci := 11) kx0_49 ff_11_1 cl_11 fl_RX11_19 dX11_follows_68 (fun k49007 => ?_)
      refine lv_iload hx hb dX11_follows_71 (lv_at hl 5 rfl) ?_
      refine q_aloadQ C dX11_follows_73 (lv_at hl 3 rfl) ?_
      obtain ⟨b49008, e49009, hq49010⟩ := q_mi hm
      subst e49009
      have hm := hq49010
      have k49011 := kx4_49 b49008 rfl
      refine r_getI C hW (ci := 0) k49011 ff_0_1 cl_0 fl_RX11_91 dX11_follows_75 ?_
      refine lv_imul hx hb dX11_follows_78 ?_
      obtain ⟨v49013, dt49014, hc49012, hm⟩ := q_b2i hm
      refine q_callV C hW hS (As := [.ref b49008, .int x5_49, .int (dt.1 b49003 6), .ref (al.2.2 x0_49 1), .int (x6_49 * (dt.1 b49008 1))]) (rest := []) (st1 := [.int v49013]) (c_X6_loopStep l D al dt (al.2.2 x0_49 4) b49008 x5_49 (dt.1 b49003 6) (al.2.2 x0_49 1) (x6_49 * (dt.1 b49008 1)) k49002 k49011 k49007 v49013 dt49014 hc49012) yl_X6_loopStep vl_X6_loopStep ml_RX11_281 (ci := 6) rfl k49002 (by decide) rfl ⟨Nat.le_of_ble_eq_true rfl, Nat.le_of_ble_eq_true rfl⟩ hl rfl (Nat.le_of_ble_eq_true rfl) dX11_follows_79 ⟨Nat.le_refl _, Nat.le_refl _⟩ rfl (fun H locs k49015 hW hS => ?_)
      refine lv_istore (i := 5) (lv' := [(5, .int v49013), (0, .ref x0_49), (2, .int x2_49), (3, .ref b49003), (4, .ref b49008), (6, .int x6_49)]) hx hb dX11_follows_82 hl (by decide) rfl (fun ls hl => ?_)
      refine lv_aload_n hx hb dX11_follows_84 rfl (lv_at hl 3 rfl) ?_
      refine lv_iload hx hb dX11_follows_85 (lv_at hl 5 rfl) ?_
      refine lv_iconst (v := 1) hx hb dX11_follows_87 (by decide) ?_
      refine lv_iadd hx hb dX11_follows_88 ?_
      refine lv_aload hx hb dX11_follows_89 (lv_at hl 4 rfl) ?_
      refine r_getI C hW (ci := 0) k49011 ff_0_1 cl_0 fl_RX11_91 dX11_follows_91 ?_
      refine lv_imul hx hb dX11_follows_94 ?_
      obtain ⟨v49017, hc49016, hm⟩ := q_b1i hm
      refine q_callV C hW hS (As := [.int ((x6_49 + 1) * (dt49014.1 b49008 1))]) (rest := []) (st1 := [.int v49017]) (c_X7_delayAt l D al dt49014 b49003 ((x6_49 + 1) * (dt49014.1 b49008 1)) k49006 v49017 hc49016) yl_X7_delayAt vl_X7_delayAt ml_RX11_295 (ci := 7) rfl k49006 (by decide) rfl ⟨Nat.le_of_ble_eq_true rfl, Nat.le_of_ble_eq_true rfl⟩ hl rfl (Nat.le_of_ble_eq_true rfl) dX11_follows_95 ⟨Nat.le_refl _, Nat.le_refl _⟩ rfl (fun H locs k49018 hW hS => ?_)
      refine lv_istore (i := 7) (lv' := [(7, .int v49017), (5, .int v49013), (0, .ref x0_49), (2, .int x2_49), (3, .ref b49003), (4, .ref b49008), (6, .int x6_49)]) hx hb dX11_follows_98 hl (by decide) rfl (fun ls hl => ?_)
      refine lv_iload hx hb dX11_follows_100 (lv_at hl 1 rfl) ?_
      refine lv_iload hx hb dX11_follows_102 (lv_at hl 0 rfl) ?_
      refine lv_aload hx hb dX11_follows_104 (lv_at hl 5 rfl) ?_
      refine r_getI C hW (ci := 0) k49011 ff_0_1 cl_0 fl_RX11_91 dX11_follows_106 ?_
      obtain ⟨v49020, hc49019, hm⟩ := q_b1i hm
      refine q_callS C hW hS (As := [.int v49013, .int v49017, .int (dt49014.1 b49008 1)]) (rest := []) (st1 := [.int v49020]) (c_X11_apart l D al dt49014 v49013 v49017 (dt49014.1 b49008 1) v49020 hc49019) yl_X11_apart sl_X11_apart ml_RX11_298 rfl ⟨Nat.le_of_ble_eq_true rfl, Nat.le_of_ble_eq_true rfl⟩ hl rfl (Nat.le_of_ble_eq_true rfl) dX11_follows_109 ⟨Nat.le_refl _, Nat.le_refl _⟩ rfl (fun H locs k49021 hW hS => ?_)
      refine lv_iconst (v := 1) hx hb dX11_follows_112 (by decide) ?_
      refine q_ifc hm (fun c49022 hm => ?_) (fun c49022 hm => ?_)
      · refine lv_icmp_le (tgt := 118) hx hb dX11_follows_113 (by decide) (fun _ => ?_) (fun h => absurd c49022 h)
        refine lv_iinc (v := (x6_49 + 1)) (lv' := [(6, .int (x6_49 + 1)), (7, .int v49017), (5, .int v49013), (0, .ref x0_49), (2, .int x2_49), (3, .ref b49003), (4, .ref b49008)]) hx hb dX11_follows_118 hl (k := 6) rfl rfl (by decide) rfl (fun ls hl => ?_)
        refine lv_goto (tgt := 49) hx hb dX11_follows_121 (by decide) ?_
        exact ih49 v49013 (x6_49 + 1) dt49014 _ _ _ hm hW hS (lv_sub hl [3, 4, 5, 6, 2, 0] rfl)
      refine lv_icmp_le (tgt := 118) hx hb dX11_follows_113 (by decide) (fun h => absurd h c49022) (fun _ => ?_)
      refine lv_iconst (v := 0) hx hb dX11_follows_116 (by decide) ?_
      exact e_iD C hW hS hm dX11_follows_117
  have hB21 : ∀ (x0_21 : Nat) (x2_21 : Int32) (x3_21 : Option Nat) (t0_21 : Option Nat) (kx0_21 : al.1 x0_21 = 12) (kx3_21 : ∀ b, x3_21 = some b → al.1 b = 8) (kt0_21 : ∀ b, t0_21 = some b → al.1 b = 1) (dt : q_Dt) (H : Heap) (locs : List Loc) (ls : Array Slot) (hm : X11_follows_b21 al x0_21 x2_21 x3_21 t0_21 dt = some (r0, dt0)) (hW : q_W D al dt H) (hS : va_S (q_A al) s.heap H locs) (hl : lv_has ls 8 [(0, .ref x0_21), (2, .int x2_21), (3, va_rf x3_21)]), W p l e { frames := 5, cells := 0, slots := 0, locals := 132 } s m args below meth c H locs 0 0 (MQ below (q_Q (some (.int r0)) (fun H => q_W D al dt0 H ∧ q_Rk al 0 (some (.int r0))) (q_A al)) args s 0 0 (q_A al)) (F0 m 21 ls [va_rf t0_21]) := by
    intro x0_21 x2_21 x3_21 t0_21 kx0_21 kx3_21 kt0_21 dt H locs ls hm hW hS hl
    unfold X11_follows_b21 at hm
    refine q_astoreQ (i := 4) (lv' := [(4, va_rf t0_21), (0, .ref x0_21), (2, .int x2_21), (3, va_rf x3_21)]) C dX11_follows_21 hl (by decide) (by simp [q_cat, q_catR, q_catI, q_catL] <;> rfl) (fun ls hl => ?_)
    refine q_aloadQ C dX11_follows_23 (lv_at hl 0 rfl) ?_
    refine q_ifnull C hm (tgt := 38) dX11_follows_25 (by decide) (fun e21003 hq21004 => ?_) (fun b21001 e21003 hq21004 => ?_)
    · subst e21003
      have hm := hq21004
      refine lv_iconst (v := (-1)) hx hb dX11_follows_38 (by decide) ?_
      exact e_iD C hW hS hm dX11_follows_39
    subst e21003
    have hm := hq21004
    have k21002 := kt0_21 b21001 rfl
    refine lv_iload_n hx hb dX11_follows_28 rfl (lv_at hl 2 rfl) ?_
    refine q_ifc hm (fun c21005 hm => ?_) (fun c21005 hm => ?_)
    · refine lv_if_lt (tgt := 38) hx hb dX11_follows_29 (by decide) (fun _ => ?_) (fun h => absurd c21005 h)
      refine lv_iconst (v := (-1)) hx hb dX11_follows_38 (by decide) ?_
      exact e_iD C hW hS hm dX11_follows_39
    refine lv_if_lt (tgt := 38) hx hb dX11_follows_29 (by decide) (fun h => absurd h c21005) (fun _ => ?_)
    refine lv_iload_n hx hb dX11_follows_32 rfl (lv_at hl 2 rfl) ?_
    refine lv_bipush (v := 40) hx hb dX11_follows_33 (by decide) ?_
    refine q_ifc hm (fun c21006 hm => ?_) (fun c21006 hm => ?_)
    · refine lv_icmp_le (tgt := 40) hx hb dX11_follows_35 (by decide) (fun _ => ?_) (fun h => absurd c21006 h)
      refine q_aloadQ_n C dX11_follows_40 rfl (lv_at hl 3 rfl) ?_
      obtain ⟨b21007, e21008, hq21009⟩ := q_mi hm
      subst e21008
      have hm := hq21009
      have k21010 := kx3_21 b21007 rfl
      refine r_getI C hW (ci := 7) k21010 ff_7_5 cl_7 fl_RX11_289 dX11_follows_41 ?_
      refine lv_istore (i := 5) (lv' := [(5, .int (dt.1 b21007 5)), (4, .ref b21001), (0, .ref x0_21), (2, .int x2_21), (3, .ref b21007)]) hx hb dX11_follows_44 hl (by decide) rfl (fun ls hl => ?_)
      refine lv_iconst (v := 0) hx hb dX11_follows_46 (by decide) ?_
      refine lv_istore (i := 6) (lv' := [(6, .int 0), (5, .int (dt.1 b21007 5)), (4, .ref b21001), (0, .ref x0_21), (2, .int x2_21), (3, .ref b21007)]) hx hb dX11_follows_47 hl (by decide) rfl (fun ls hl => ?_)
      exact hB49 x0_21 x2_21 (some b21007) (some b21001) kx0_21 (q_ks k21010) (q_ks k21002) q_FU (dt.1 b21007 5) 0 dt _ _ _ hm hW hS (lv_sub hl [3, 4, 5, 2, 1, 0] rfl)
    refine lv_icmp_le (tgt := 40) hx hb dX11_follows_35 (by decide) (fun h => absurd h c21006) (fun _ => ?_)
    refine lv_iconst (v := (-1)) hx hb dX11_follows_38 (by decide) ?_
    exact e_iD C hW hS hm dX11_follows_39
  refine lv_aload_n hx hb dX11_follows_0 rfl (lv_at hl 0 rfl) ?_
  refine r_getQ C hW hm (ci := 11) kx0 ff_11_6 cl_11 fl_RX11_51 dX11_follows_1 (fun o1000001 eo1000001 k1000002 hm => ?_)
  refine lv_iload_n hx hb dX11_follows_4 rfl (lv_at hl 1 rfl) ?_
  obtain ⟨b1000003, e1000004, hq1000005⟩ := q_mi hm
  subst e1000004
  have hm := hq1000005
  have k1000006 := k1000002 b1000003 rfl
  obtain ⟨v1000008, hc1000007, hm⟩ := q_b1i hm
  refine q_callV C hW hS (As := [.int x1]) (rest := []) (st1 := [va_rf v1000008]) (c_X10_senderAt l D al dt b1000003 x1 k1000006 v1000008 hc1000007) yl_X10_senderAt vl_X10_senderAt ml_RX11_154 (ci := 10) rfl k1000006 (by decide) rfl ⟨Nat.le_of_ble_eq_true rfl, Nat.le_of_ble_eq_true rfl⟩ hl rfl (Nat.le_of_ble_eq_true rfl) dX11_follows_5 ⟨Nat.le_refl _, Nat.le_refl _⟩ rfl (fun H locs k1000009 hW hS => ?_)
  have k1000009 := q_rk k1000009 (by decide)
  refine q_astoreQ_n (i := 3) (lv' := [(3, va_rf v1000008), (0, .ref x0), (1, .int x1), (2, .int x2)]) C dX11_follows_8 rfl hl (by decide) rfl (fun ls hl => ?_)
  refine q_aloadQ_n C dX11_follows_9 rfl (lv_at hl 0 rfl) ?_
  refine q_ifnonnull C hm (tgt := 17) dX11_follows_10 (by decide) (fun e1000012 hq1000013 => ?_) (fun b1000010 e1000012 hq1000013 => ?_)
  · subst e1000012
    have hm := hq1000013
    refine q_null C dX11_follows_13 ?_
    refine lv_goto (tgt := 21) hx hb dX11_follows_14 (by decide) ?_
    exact hB21 x0 x2 none none kx0 q_kn q_kn dt _ _ _ hm hW hS (lv_sub hl [1, 3, 0] rfl)
  subst e1000012
  have hm := hq1000013
  have k1000011 := k1000009 b1000010 rfl
  refine lv_aload_n hx hb dX11_follows_17 rfl (lv_at hl 0 rfl) ?_
  refine r_getQ C hW hm (ci := 7) k1000011 ff_7_2 cl_7 fl_RX11_285 dX11_follows_18 (fun o1000014 eo1000014 k1000015 hm => ?_)
  exact hB21 x0 x2 (some b1000010) o1000014 kx0 (q_ks k1000011) k1000015 dt _ _ _ hm hW hS (lv_sub hl [1, 3, 0] rfl)
theorem dX11_isRest_0 : decode cX11_isRest 0 = .ok (.iload_n 1, 1) := by decide +kernel
theorem dX11_isRest_1 : decode cX11_isRest 1 = .ok (.iconst (-1), 1) := by decide +kernel
theorem dX11_isRest_2 : decode cX11_isRest 2 = .ok (.if_icmp .eq 19, 3) := by decide +kernel
theorem dX11_isRest_5 : decode cX11_isRest 5 = .ok (.aload_n 0, 1) := by decide +kernel
theorem dX11_isRest_6 : decode cX11_isRest 6 = .ok (.getfield 51, 3) := by decide +kernel
theorem dX11_isRest_9 : decode cX11_isRest 9 = .ok (.iload_n 1, 1) := by decide +kernel
theorem dX11_isRest_10 : decode cX11_isRest 10 = .ok (.invokevirtual 87, 3) := by decide +kernel
theorem dX11_isRest_13 : decode cX11_isRest 13 = .ok (.iload_n 2, 1) := by decide +kernel
theorem dX11_isRest_14 : decode cX11_isRest 14 = .ok (.iconst 0, 1) := by decide +kernel
theorem dX11_isRest_15 : decode cX11_isRest 15 = .ok (.invokestatic 178, 3) := by decide +kernel
theorem dX11_isRest_18 : decode cX11_isRest 18 = .ok (.ifCond .eq 7, 3) := by decide +kernel
theorem dX11_isRest_21 : decode cX11_isRest 21 = .ok (.iconst 1, 1) := by decide +kernel
theorem dX11_isRest_22 : decode cX11_isRest 22 = .ok (.goto 4, 3) := by decide +kernel
theorem dX11_isRest_25 : decode cX11_isRest 25 = .ok (.iconst 0, 1) := by decide +kernel
theorem dX11_isRest_26 : decode cX11_isRest 26 = .ok (.ireturn, 1) := by decide +kernel
set_option maxRecDepth 100000 in
theorem c_X11_isRest (l : Launch) (D : q_D) (al : q_Al) (dt : q_Dt) (x0 : Nat) (x1 : Int32) (x2 : Int32) (kx0 : al.1 x0 = 12) (r0 : Int32) (hm : X11_isRest al dt x0 x1 x2 = some r0) : q_Mt l yX11_isRest cX11_isRest 3 (some FieldType.boolean) 1 22 D al [.ref x0, .int x1, .int x2] dt 0 (some (.int r0)) dt := by
  refine q_Mt.of (by decide) (Nat.le_of_ble_eq_true rfl) ?_
  intro p e s m args below meth c ls C hargs hW hl
  have hx := C.1
  have hb := C.2.1
  have hown := C.2.2.2.2.2.1
  have hts := C.2.2.2.2.2.2.1
  have hS : va_S (q_A al) s.heap s.heap [] := va_S.rf
  have hl : lv_has ls 3 [(0, .ref x0), (1, .int x1), (2, .int x2)] := hl
  unfold X11_isRest at hm
  have hB21 : ∀ (H : Heap) (locs : List Loc) (ls : Array Slot) (hm : X11_isRest_b21 al dt = some r0) (hW : q_W D al dt H) (hS : va_S (q_A al) s.heap H locs) (hl : lv_has ls 3 []), W p l e { frames := 1, cells := 0, slots := 0, locals := 22 } s m args below meth c H locs 0 0 (MQ below (q_Q (some (.int r0)) (fun H => q_W D al dt H ∧ q_Rk al 0 (some (.int r0))) (q_A al)) args s 0 0 (q_A al)) (F0 m 21 ls []) := by
    intro H locs ls hm hW hS hl
    unfold X11_isRest_b21 at hm
    refine lv_iconst (v := 1) hx hb dX11_isRest_21 (by decide) ?_
    refine lv_goto (tgt := 26) hx hb dX11_isRest_22 (by decide) ?_
    exact e_zl C hW hS (Or.inr rfl) hm dX11_isRest_26
  refine lv_iload_n hx hb dX11_isRest_0 rfl (lv_at hl 1 rfl) ?_
  refine lv_iconst (v := (-1)) hx hb dX11_isRest_1 (by decide) ?_
  refine q_ifc hm (fun c1000001 hm => ?_) (fun c1000001 hm => ?_)
  · refine lv_icmp_eq (tgt := 21) hx hb dX11_isRest_2 (by decide) (fun _ => ?_) (fun h => absurd c1000001 h)
    exact hB21 _ _ _ hm hW hS (lv_sub hl [] rfl)
  refine lv_icmp_eq (tgt := 21) hx hb dX11_isRest_2 (by decide) (fun h => absurd h c1000001) (fun _ => ?_)
  refine lv_aload_n hx hb dX11_isRest_5 rfl (lv_at hl 0 rfl) ?_
  refine r_getQ C hW hm (ci := 11) kx0 ff_11_6 cl_11 fl_RX11_51 dX11_isRest_6 (fun o1000002 eo1000002 k1000003 hm => ?_)
  refine lv_iload_n hx hb dX11_isRest_9 rfl (lv_at hl 1 rfl) ?_
  obtain ⟨b1000004, e1000005, hq1000006⟩ := q_mi hm
  subst e1000005
  have hm := hq1000006
  have k1000007 := k1000003 b1000004 rfl
  obtain ⟨v1000009, hc1000008, hm⟩ := q_b1i hm
  refine q_callV C hW hS (As := [.int x1]) (rest := []) (st1 := [va_rf v1000009]) (c_X10_codeAt l D al dt b1000004 x1 k1000007 v1000009 hc1000008) yl_X10_codeAt vl_X10_codeAt ml_RX11_87 (ci := 10) rfl k1000007 (by decide) rfl ⟨Nat.le_of_ble_eq_true rfl, Nat.le_of_ble_eq_true rfl⟩ hl rfl (Nat.le_of_ble_eq_true rfl) dX11_isRest_10 ⟨Nat.le_refl _, Nat.le_refl _⟩ rfl (fun H locs k1000010 hW hS => ?_)
  have k1000010 := q_rk k1000010 (by decide)
  refine lv_iload_n hx hb dX11_isRest_13 rfl (lv_at hl 2 rfl) ?_
  refine lv_iconst (v := 0) hx hb dX11_isRest_14 (by decide) ?_
  obtain ⟨v1000012, hc1000011, hm⟩ := q_b1i hm
  refine q_callS C hW hS (As := [va_rf v1000009, .int x2, .int 0]) (rest := []) (st1 := [.int v1000012]) (c_X11_isCell l D al dt v1000009 x2 0 k1000010 v1000012 hc1000011) yl_X11_isCell sl_X11_isCell ml_RX11_178 rfl ⟨Nat.le_of_ble_eq_true rfl, Nat.le_of_ble_eq_true rfl⟩ hl rfl (Nat.le_of_ble_eq_true rfl) dX11_isRest_15 ⟨Nat.le_refl _, Nat.le_refl _⟩ rfl (fun H locs k1000013 hW hS => ?_)
  refine q_ifc hm (fun c1000014 hm => ?_) (fun c1000014 hm => ?_)
  · refine lv_if_eq (tgt := 25) hx hb dX11_isRest_18 (by decide) (fun _ => ?_) (fun h => absurd c1000014 h)
    refine lv_iconst (v := 0) hx hb dX11_isRest_25 (by decide) ?_
    exact e_zl C hW hS (Or.inl rfl) hm dX11_isRest_26
  refine lv_if_eq (tgt := 25) hx hb dX11_isRest_18 (by decide) (fun h => absurd h c1000014) (fun _ => ?_)
  exact hB21 _ _ _ hm hW hS (lv_sub hl [] rfl)
theorem dX11_lengthOf_0 : decode cX11_lengthOf 0 = .ok (.aload_n 0, 1) := by decide +kernel
theorem dX11_lengthOf_1 : decode cX11_lengthOf 1 = .ok (.getfield 51, 3) := by decide +kernel
theorem dX11_lengthOf_4 : decode cX11_lengthOf 4 = .ok (.iload_n 1, 1) := by decide +kernel
theorem dX11_lengthOf_5 : decode cX11_lengthOf 5 = .ok (.invokevirtual 87, 3) := by decide +kernel
theorem dX11_lengthOf_8 : decode cX11_lengthOf 8 = .ok (.astore_n 2, 1) := by decide +kernel
theorem dX11_lengthOf_9 : decode cX11_lengthOf 9 = .ok (.aload_n 2, 1) := by decide +kernel
theorem dX11_lengthOf_10 : decode cX11_lengthOf 10 = .ok (.ifnonnull 7, 3) := by decide +kernel
theorem dX11_lengthOf_13 : decode cX11_lengthOf 13 = .ok (.iconst 1, 1) := by decide +kernel
theorem dX11_lengthOf_14 : decode cX11_lengthOf 14 = .ok (.goto 7, 3) := by decide +kernel
theorem dX11_lengthOf_17 : decode cX11_lengthOf 17 = .ok (.aload_n 2, 1) := by decide +kernel
theorem dX11_lengthOf_18 : decode cX11_lengthOf 18 = .ok (.getfield 91, 3) := by decide +kernel
theorem dX11_lengthOf_21 : decode cX11_lengthOf 21 = .ok (.ireturn, 1) := by decide +kernel
set_option maxRecDepth 100000 in
theorem c_X11_lengthOf (l : Launch) (D : q_D) (al : q_Al) (dt : q_Dt) (x0 : Nat) (x1 : Int32) (kx0 : al.1 x0 = 12) (r0 : Int32) (hm : X11_lengthOf al dt x0 x1 = some r0) : q_Mt l yX11_lengthOf cX11_lengthOf 3 (some FieldType.int) 1 21 D al [.ref x0, .int x1] dt 0 (some (.int r0)) dt := by
  refine q_Mt.of (by decide) (Nat.le_of_ble_eq_true rfl) ?_
  intro p e s m args below meth c ls C hargs hW hl
  have hx := C.1
  have hb := C.2.1
  have hown := C.2.2.2.2.2.1
  have hts := C.2.2.2.2.2.2.1
  have hS : va_S (q_A al) s.heap s.heap [] := va_S.rf
  have hl : lv_has ls 3 [(0, .ref x0), (1, .int x1)] := hl
  unfold X11_lengthOf at hm
  refine lv_aload_n hx hb dX11_lengthOf_0 rfl (lv_at hl 0 rfl) ?_
  refine r_getQ C hW hm (ci := 11) kx0 ff_11_6 cl_11 fl_RX11_51 dX11_lengthOf_1 (fun o1000001 eo1000001 k1000002 hm => ?_)
  refine lv_iload_n hx hb dX11_lengthOf_4 rfl (lv_at hl 1 rfl) ?_
  obtain ⟨b1000003, e1000004, hq1000005⟩ := q_mi hm
  subst e1000004
  have hm := hq1000005
  have k1000006 := k1000002 b1000003 rfl
  obtain ⟨v1000008, hc1000007, hm⟩ := q_b1i hm
  refine q_callV C hW hS (As := [.int x1]) (rest := []) (st1 := [va_rf v1000008]) (c_X10_codeAt l D al dt b1000003 x1 k1000006 v1000008 hc1000007) yl_X10_codeAt vl_X10_codeAt ml_RX11_87 (ci := 10) rfl k1000006 (by decide) rfl ⟨Nat.le_of_ble_eq_true rfl, Nat.le_of_ble_eq_true rfl⟩ hl rfl (Nat.le_of_ble_eq_true rfl) dX11_lengthOf_5 ⟨Nat.le_refl _, Nat.le_refl _⟩ rfl (fun H locs k1000009 hW hS => ?_)
  have k1000009 := q_rk k1000009 (by decide)
  refine q_astoreQ_n (i := 2) (lv' := [(2, va_rf v1000008), (0, .ref x0), (1, .int x1)]) C dX11_lengthOf_8 rfl hl (by decide) rfl (fun ls hl => ?_)
  refine q_aloadQ_n C dX11_lengthOf_9 rfl (lv_at hl 0 rfl) ?_
  refine q_ifnonnull C hm (tgt := 17) dX11_lengthOf_10 (by decide) (fun e1000012 hq1000013 => ?_) (fun b1000010 e1000012 hq1000013 => ?_)
  · subst e1000012
    have hm := hq1000013
    refine lv_iconst (v := 1) hx hb dX11_lengthOf_13 (by decide) ?_
    refine lv_goto (tgt := 21) hx hb dX11_lengthOf_14 (by decide) ?_
    exact e_i C hW hS hm dX11_lengthOf_21
  subst e1000012
  have hm := hq1000013
  have k1000011 := k1000009 b1000010 rfl
  refine lv_aload_n hx hb dX11_lengthOf_17 rfl (lv_at hl 0 rfl) ?_
  refine r_getI C hW (ci := 0) k1000011 ff_0_1 cl_0 fl_RX11_91 dX11_lengthOf_18 ?_
  exact e_i C hW hS hm dX11_lengthOf_21
theorem dX11_nextWithRest_0 : decode cX11_nextWithRest 0 = .ok (.lconst 0, 1) := by decide +kernel
theorem dX11_nextWithRest_1 : decode cX11_nextWithRest 1 = .ok (.lstore 7, 2) := by decide +kernel
theorem dX11_nextWithRest_3 : decode cX11_nextWithRest 3 = .ok (.lload 7, 2) := by decide +kernel
theorem dX11_nextWithRest_5 : decode cX11_nextWithRest 5 = .ok (.lload 4, 2) := by decide +kernel
theorem dX11_nextWithRest_7 : decode cX11_nextWithRest 7 = .ok (.lcmp, 1) := by decide +kernel
theorem dX11_nextWithRest_8 : decode cX11_nextWithRest 8 = .ok (.ifCond .ge 42, 3) := by decide +kernel
theorem dX11_nextWithRest_11 : decode cX11_nextWithRest 11 = .ok (.lload_n 0, 1) := by decide +kernel
theorem dX11_nextWithRest_12 : decode cX11_nextWithRest 12 = .ok (.lload 7, 2) := by decide +kernel
theorem dX11_nextWithRest_14 : decode cX11_nextWithRest 14 = .ok (.lload_n 2, 1) := by decide +kernel
theorem dX11_nextWithRest_15 : decode cX11_nextWithRest 15 = .ok (.lmul, 1) := by decide +kernel
theorem dX11_nextWithRest_16 : decode cX11_nextWithRest 16 = .ok (.ladd, 1) := by decide +kernel
theorem dX11_nextWithRest_17 : decode cX11_nextWithRest 17 = .ok (.lstore 9, 2) := by decide +kernel
theorem dX11_nextWithRest_19 : decode cX11_nextWithRest 19 = .ok (.lload 9, 2) := by decide +kernel
theorem dX11_nextWithRest_21 : decode cX11_nextWithRest 21 = .ok (.lload 4, 2) := by decide +kernel
theorem dX11_nextWithRest_23 : decode cX11_nextWithRest 23 = .ok (.invokestatic 314, 3) := by decide +kernel
theorem dX11_nextWithRest_26 : decode cX11_nextWithRest 26 = .ok (.iload 6, 2) := by decide +kernel
theorem dX11_nextWithRest_28 : decode cX11_nextWithRest 28 = .ok (.i2l, 1) := by decide +kernel
theorem dX11_nextWithRest_29 : decode cX11_nextWithRest 29 = .ok (.lload 4, 2) := by decide +kernel
theorem dX11_nextWithRest_31 : decode cX11_nextWithRest 31 = .ok (.invokestatic 314, 3) := by decide +kernel
theorem dX11_nextWithRest_34 : decode cX11_nextWithRest 34 = .ok (.lcmp, 1) := by decide +kernel
theorem dX11_nextWithRest_35 : decode cX11_nextWithRest 35 = .ok (.ifCond .ne 6, 3) := by decide +kernel
theorem dX11_nextWithRest_38 : decode cX11_nextWithRest 38 = .ok (.lload 9, 2) := by decide +kernel
theorem dX11_nextWithRest_40 : decode cX11_nextWithRest 40 = .ok (.lreturn, 1) := by decide +kernel
theorem dX11_nextWithRest_41 : decode cX11_nextWithRest 41 = .ok (.lload 7, 2) := by decide +kernel
theorem dX11_nextWithRest_43 : decode cX11_nextWithRest 43 = .ok (.lconst 1, 1) := by decide +kernel
theorem dX11_nextWithRest_44 : decode cX11_nextWithRest 44 = .ok (.ladd, 1) := by decide +kernel
theorem dX11_nextWithRest_45 : decode cX11_nextWithRest 45 = .ok (.lstore 7, 2) := by decide +kernel
theorem dX11_nextWithRest_47 : decode cX11_nextWithRest 47 = .ok (.goto (-44), 3) := by decide +kernel
theorem dX11_nextWithRest_50 : decode cX11_nextWithRest 50 = .ok (.ldc2_w 312, 3) := by decide +kernel
theorem dX11_nextWithRest_53 : decode cX11_nextWithRest 53 = .ok (.lreturn, 1) := by decide +kernel
set_option maxRecDepth 100000 in
theorem c_X11_nextWithRest (l : Launch) (D : q_D) (al : q_Al) (dt : q_Dt) (x0 : Int64) (x2 : Int64) (x4 : Int64) (x6 : Int32) (r0 : Int64) (hm : X11_nextWithRest x0 x2 x4 x6 = some r0) : q_Mt l yX11_nextWithRest cX11_nextWithRest 11 (some FieldType.long) 1 25 D al [.long x0, .long x2, .long x4, .int x6] dt 0 (some (.long r0)) dt := by
  refine q_Mt.of (by decide) (Nat.le_of_ble_eq_true rfl) ?_
  intro p e s m args below meth c ls C hargs hW hl
  have hx := C.1
  have hb := C.2.1
  have hown := C.2.2.2.2.2.1
  have hts := C.2.2.2.2.2.2.1
  have hS : va_S (q_A al) s.heap s.heap [] := va_S.rf
  have hl : lv_has ls 11 [(0, .long x0), (2, .long x2), (4, .long x4), (6, .int x6)] := hl
  unfold X11_nextWithRest at hm
  have hB3 : ∀ (x0_3 : Int64) (x2_3 : Int64) (x4_3 : Int64) (x6_3 : Int32) (n_3 : Nat) (x7_3 : Int64) (H : Heap) (locs : List Loc) (ls : Array Slot) (hm : X11_nextWithRest_b3 x0_3 x2_3 x4_3 x6_3 n_3 x7_3 = some r0) (hW : q_W D al dt H) (hS : va_S (q_A al) s.heap H locs) (hl : lv_has ls 11 [(0, .long x0_3), (2, .long x2_3), (4, .long x4_3), (6, .int x6_3), (7, .long x7_3)]), W p l e { frames := 1, cells := 0, slots := 0, locals := 25 } s m args below meth c H locs 0 0 (MQ below (q_Q (some (.long r0)) (fun H => q_W D al dt H ∧ q_Rk al 0 (some (.long r0))) (q_A al)) args s 0 0 (q_A al)) (F0 m 3 ls []) := by
    intro x0_3 x2_3 x4_3 x6_3
    intro n_3
    induction n_3 with
    | zero => intro x7_3 H locs ls hm hW hS hl; cases hm
    | succ n_3 ih3 =>
      intro x7_3 H locs ls hm hW hS hl
      rw [X11_nextWithRest_b3] at hm
      refine lv_lload hx hb dX11_nextWithRest_3 (lv_at hl 4 rfl) ?_
      refine lv_lload hx hb dX11_nextWithRest_5 (lv_at hl 2 rfl) ?_
      refine W.lcmp hx hb dX11_nextWithRest_7 ?_
      refine q_ifc hm (fun c3001 hm => ?_) (fun c3001 hm => ?_)
      · refine lv_if_ge (tgt := 50) hx hb dX11_nextWithRest_8 (by decide) (fun _ => ?_) (fun h => absurd (q_cmp_ge.mpr c3001) h)
        refine lv_ldc2 (own := RX11) (v := (-2)) hx hb hown (hts _ wc_RX11_312) dX11_nextWithRest_50 ?_
        exact e_l C hW hS hm dX11_nextWithRest_53
      refine lv_if_ge (tgt := 50) hx hb dX11_nextWithRest_8 (by decide) (fun h => absurd (q_cmp_ge.mp h) c3001) (fun _ => ?_)
      refine lv_lload_n hx hb dX11_nextWithRest_11 rfl (lv_at hl 0 rfl) ?_
      refine lv_lload hx hb dX11_nextWithRest_12 (lv_at hl 4 rfl) ?_
      refine lv_lload_n hx hb dX11_nextWithRest_14 rfl (lv_at hl 1 rfl) ?_
      refine lv_lmul hx hb dX11_nextWithRest_15 ?_
      refine lv_ladd hx hb dX11_nextWithRest_16 ?_
      refine lv_lstore (i := 9) (lv' := [(9, .long (x0_3 + (x7_3 * x2_3))), (0, .long x0_3), (2, .long x2_3), (4, .long x4_3), (6, .int x6_3), (7, .long x7_3)]) hx hb dX11_nextWithRest_17 hl (by decide) rfl (fun ls hl => ?_)
      refine lv_lload hx hb dX11_nextWithRest_19 (lv_at hl 0 rfl) ?_
      refine lv_lload hx hb dX11_nextWithRest_21 (lv_at hl 3 rfl) ?_
      obtain ⟨v3003, hc3002, hm⟩ := q_b1i hm
      refine q_callS C hW hS (As := [.long (x0_3 + (x7_3 * x2_3)), .long x4_3]) (rest := []) (st1 := [.long v3003]) (c_X11_remainder l D al dt (x0_3 + (x7_3 * x2_3)) x4_3 v3003 hc3002) yl_X11_remainder sl_X11_remainder ml_RX11_314 rfl ⟨Nat.le_of_ble_eq_true rfl, Nat.le_of_ble_eq_true rfl⟩ hl rfl (Nat.le_of_ble_eq_true rfl) dX11_nextWithRest_23 ⟨Nat.le_refl _, Nat.le_refl _⟩ rfl (fun H locs k3004 hW hS => ?_)
      refine lv_iload hx hb dX11_nextWithRest_26 (lv_at hl 4 rfl) ?_
      refine lv_i2l (v := (Int32.toInt64 x6_3)) hx hb dX11_nextWithRest_28 rfl ?_
      refine lv_lload hx hb dX11_nextWithRest_29 (lv_at hl 3 rfl) ?_
      obtain ⟨v3006, hc3005, hm⟩ := q_b1i hm
      refine q_callS C hW hS (As := [.long (Int32.toInt64 x6_3), .long x4_3]) (rest := [.long v3003]) (st1 := [.long v3006, .long v3003]) (c_X11_remainder l D al dt (Int32.toInt64 x6_3) x4_3 v3006 hc3005) yl_X11_remainder sl_X11_remainder ml_RX11_314 rfl ⟨Nat.le_of_ble_eq_true rfl, Nat.le_of_ble_eq_true rfl⟩ hl rfl (Nat.le_of_ble_eq_true rfl) dX11_nextWithRest_31 ⟨Nat.le_refl _, Nat.le_refl _⟩ rfl (fun H locs k3007 hW hS => ?_)
      refine W.lcmp hx hb dX11_nextWithRest_34 ?_
      refine q_ifc hm (fun c3008 hm => ?_) (fun c3008 hm => ?_)
      · refine lv_if_ne (tgt := 41) hx hb dX11_nextWithRest_35 (by decide) (fun h => absurd (q_cmp_eq.mpr c3008) h) (fun _ => ?_)
        refine lv_lload hx hb dX11_nextWithRest_38 (lv_at hl 0 rfl) ?_
        exact e_l C hW hS hm dX11_nextWithRest_40
      refine lv_if_ne (tgt := 41) hx hb dX11_nextWithRest_35 (by decide) (fun _ => ?_) (fun h => absurd (q_cmp_eq.mp h) c3008)
      refine lv_lload hx hb dX11_nextWithRest_41 (lv_at hl 5 rfl) ?_
      refine lv_lconst (v := 1) hx hb dX11_nextWithRest_43 rfl ?_
      refine lv_ladd hx hb dX11_nextWithRest_44 ?_
      refine lv_lstore (i := 7) (lv' := [(7, .long (x7_3 + 1)), (9, .long (x0_3 + (x7_3 * x2_3))), (0, .long x0_3), (2, .long x2_3), (4, .long x4_3), (6, .int x6_3)]) hx hb dX11_nextWithRest_45 hl (by decide) rfl (fun ls hl => ?_)
      refine lv_goto (tgt := 3) hx hb dX11_nextWithRest_47 (by decide) ?_
      exact ih3 (x7_3 + 1) _ _ _ hm hW hS (lv_sub hl [2, 3, 4, 5, 0] rfl)
  refine lv_lconst (v := 0) hx hb dX11_nextWithRest_0 rfl ?_
  refine lv_lstore (i := 7) (lv' := [(7, .long 0), (0, .long x0), (2, .long x2), (4, .long x4), (6, .int x6)]) hx hb dX11_nextWithRest_1 hl (by decide) rfl (fun ls hl => ?_)
  exact hB3 x0 x2 x4 x6 q_FU 0 _ _ _ hm hW hS (lv_sub hl [1, 2, 3, 4, 0] rfl)
theorem dX11_range_0 : decode cX11_range 0 = .ok (.iload_n 1, 1) := by decide +kernel
theorem dX11_range_1 : decode cX11_range 1 = .ok (.iconst (-1), 1) := by decide +kernel
theorem dX11_range_2 : decode cX11_range 2 = .ok (.if_icmp .eq 18, 3) := by decide +kernel
theorem dX11_range_5 : decode cX11_range 5 = .ok (.iload_n 3, 1) := by decide +kernel
theorem dX11_range_6 : decode cX11_range 6 = .ok (.iconst (-1), 1) := by decide +kernel
theorem dX11_range_7 : decode cX11_range 7 = .ok (.if_icmp .ne 9, 3) := by decide +kernel
theorem dX11_range_10 : decode cX11_range 10 = .ok (.iload 5, 2) := by decide +kernel
theorem dX11_range_12 : decode cX11_range 12 = .ok (.iconst (-1), 1) := by decide +kernel
theorem dX11_range_13 : decode cX11_range 13 = .ok (.if_icmp .ne 7, 3) := by decide +kernel
theorem dX11_range_16 : decode cX11_range 16 = .ok (.iconst 1, 1) := by decide +kernel
theorem dX11_range_17 : decode cX11_range 17 = .ok (.goto 4, 3) := by decide +kernel
theorem dX11_range_20 : decode cX11_range 20 = .ok (.iconst 0, 1) := by decide +kernel
theorem dX11_range_21 : decode cX11_range 21 = .ok (.istore 7, 2) := by decide +kernel
theorem dX11_range_23 : decode cX11_range 23 = .ok (.iload 7, 2) := by decide +kernel
theorem dX11_range_25 : decode cX11_range 25 = .ok (.ifCond .eq 33, 3) := by decide +kernel
theorem dX11_range_28 : decode cX11_range 28 = .ok (.aload_n 0, 1) := by decide +kernel
theorem dX11_range_29 : decode cX11_range 29 = .ok (.iload_n 1, 1) := by decide +kernel
theorem dX11_range_30 : decode cX11_range 30 = .ok (.iload_n 2, 1) := by decide +kernel
theorem dX11_range_31 : decode cX11_range 31 = .ok (.invokevirtual 301, 3) := by decide +kernel
theorem dX11_range_34 : decode cX11_range 34 = .ok (.ifCond .eq 24, 3) := by decide +kernel
theorem dX11_range_37 : decode cX11_range 37 = .ok (.aload_n 0, 1) := by decide +kernel
theorem dX11_range_38 : decode cX11_range 38 = .ok (.iload_n 3, 1) := by decide +kernel
theorem dX11_range_39 : decode cX11_range 39 = .ok (.iload 4, 2) := by decide +kernel
theorem dX11_range_41 : decode cX11_range 41 = .ok (.invokevirtual 301, 3) := by decide +kernel
theorem dX11_range_44 : decode cX11_range 44 = .ok (.ifCond .eq 14, 3) := by decide +kernel
theorem dX11_range_47 : decode cX11_range 47 = .ok (.aload_n 0, 1) := by decide +kernel
theorem dX11_range_48 : decode cX11_range 48 = .ok (.iload 5, 2) := by decide +kernel
theorem dX11_range_50 : decode cX11_range 50 = .ok (.iload 6, 2) := by decide +kernel
theorem dX11_range_52 : decode cX11_range 52 = .ok (.invokevirtual 301, 3) := by decide +kernel
theorem dX11_range_55 : decode cX11_range 55 = .ok (.ifCond .ne 7, 3) := by decide +kernel
theorem dX11_range_58 : decode cX11_range 58 = .ok (.ldc2_w 152, 3) := by decide +kernel
theorem dX11_range_61 : decode cX11_range 61 = .ok (.lreturn, 1) := by decide +kernel
theorem dX11_range_62 : decode cX11_range 62 = .ok (.aload_n 0, 1) := by decide +kernel
theorem dX11_range_63 : decode cX11_range 63 = .ok (.iload_n 1, 1) := by decide +kernel
theorem dX11_range_64 : decode cX11_range 64 = .ok (.invokevirtual 305, 3) := by decide +kernel
theorem dX11_range_67 : decode cX11_range 67 = .ok (.i2l, 1) := by decide +kernel
theorem dX11_range_68 : decode cX11_range 68 = .ok (.lstore 8, 2) := by decide +kernel
theorem dX11_range_70 : decode cX11_range 70 = .ok (.aload_n 0, 1) := by decide +kernel
theorem dX11_range_71 : decode cX11_range 71 = .ok (.iload_n 3, 1) := by decide +kernel
theorem dX11_range_72 : decode cX11_range 72 = .ok (.invokevirtual 305, 3) := by decide +kernel
theorem dX11_range_75 : decode cX11_range 75 = .ok (.i2l, 1) := by decide +kernel
theorem dX11_range_76 : decode cX11_range 76 = .ok (.lstore 10, 2) := by decide +kernel
theorem dX11_range_78 : decode cX11_range 78 = .ok (.lload 8, 2) := by decide +kernel
theorem dX11_range_80 : decode cX11_range 80 = .ok (.lload 10, 2) := by decide +kernel
theorem dX11_range_82 : decode cX11_range 82 = .ok (.lload 8, 2) := by decide +kernel
theorem dX11_range_84 : decode cX11_range 84 = .ok (.lload 10, 2) := by decide +kernel
theorem dX11_range_86 : decode cX11_range 86 = .ok (.invokestatic 221, 3) := by decide +kernel
theorem dX11_range_89 : decode cX11_range 89 = .ok (.invokestatic 225, 3) := by decide +kernel
theorem dX11_range_92 : decode cX11_range 92 = .ok (.lmul, 1) := by decide +kernel
theorem dX11_range_93 : decode cX11_range 93 = .ok (.lstore 12, 2) := by decide +kernel
theorem dX11_range_95 : decode cX11_range 95 = .ok (.iload_n 2, 1) := by decide +kernel
theorem dX11_range_96 : decode cX11_range 96 = .ok (.i2l, 1) := by decide +kernel
theorem dX11_range_97 : decode cX11_range 97 = .ok (.lload 8, 2) := by decide +kernel
theorem dX11_range_99 : decode cX11_range 99 = .ok (.lload 10, 2) := by decide +kernel
theorem dX11_range_101 : decode cX11_range 101 = .ok (.iload 4, 2) := by decide +kernel
theorem dX11_range_103 : decode cX11_range 103 = .ok (.invokestatic 308, 3) := by decide +kernel
theorem dX11_range_106 : decode cX11_range 106 = .ok (.lstore 14, 2) := by decide +kernel
theorem dX11_range_108 : decode cX11_range 108 = .ok (.lload 14, 2) := by decide +kernel
theorem dX11_range_110 : decode cX11_range 110 = .ok (.lconst 0, 1) := by decide +kernel
theorem dX11_range_111 : decode cX11_range 111 = .ok (.lcmp, 1) := by decide +kernel
theorem dX11_range_112 : decode cX11_range 112 = .ok (.ifCond .ge 9, 3) := by decide +kernel
theorem dX11_range_115 : decode cX11_range 115 = .ok (.ldc2_w 312, 3) := by decide +kernel
theorem dX11_range_118 : decode cX11_range 118 = .ok (.goto 19, 3) := by decide +kernel
theorem dX11_range_121 : decode cX11_range 121 = .ok (.lload 14, 2) := by decide +kernel
theorem dX11_range_123 : decode cX11_range 123 = .ok (.lload 12, 2) := by decide +kernel
theorem dX11_range_125 : decode cX11_range 125 = .ok (.aload_n 0, 1) := by decide +kernel
theorem dX11_range_126 : decode cX11_range 126 = .ok (.iload 5, 2) := by decide +kernel
theorem dX11_range_128 : decode cX11_range 128 = .ok (.invokevirtual 305, 3) := by decide +kernel
theorem dX11_range_131 : decode cX11_range 131 = .ok (.i2l, 1) := by decide +kernel
theorem dX11_range_132 : decode cX11_range 132 = .ok (.iload 6, 2) := by decide +kernel
theorem dX11_range_134 : decode cX11_range 134 = .ok (.invokestatic 308, 3) := by decide +kernel
theorem dX11_range_137 : decode cX11_range 137 = .ok (.lreturn, 1) := by decide +kernel
set_option maxRecDepth 100000 in
theorem c_X11_range (l : Launch) (D : q_D) (al : q_Al) (dt : q_Dt) (x0 : Nat) (x1 : Int32) (x2 : Int32) (x3 : Int32) (x4 : Int32) (x5 : Int32) (x6 : Int32) (kx0 : al.1 x0 = 12) (r0 : Int64) (hm : X11_range al dt x0 x1 x2 x3 x4 x5 x6 = some r0) : q_Mt l yX11_range cX11_range 16 (some FieldType.long) 2 55 D al [.ref x0, .int x1, .int x2, .int x3, .int x4, .int x5, .int x6] dt 0 (some (.long r0)) dt := by
  refine q_Mt.of (by decide) (Nat.le_of_ble_eq_true rfl) ?_
  intro p e s m args below meth c ls C hargs hW hl
  have hx := C.1
  have hb := C.2.1
  have hown := C.2.2.2.2.2.1
  have hts := C.2.2.2.2.2.2.1
  have hS : va_S (q_A al) s.heap s.heap [] := va_S.rf
  have hl : lv_has ls 16 [(0, .ref x0), (1, .int x1), (2, .int x2), (3, .int x3), (4, .int x4), (5, .int x5), (6, .int x6)] := hl
  unfold X11_range at hm
  have hB58 : ∀ (H : Heap) (locs : List Loc) (ls : Array Slot) (hm : X11_range_b58 al dt = some r0) (hW : q_W D al dt H) (hS : va_S (q_A al) s.heap H locs) (hl : lv_has ls 16 []), W p l e { frames := 2, cells := 0, slots := 0, locals := 55 } s m args below meth c H locs 0 0 (MQ below (q_Q (some (.long r0)) (fun H => q_W D al dt H ∧ q_Rk al 0 (some (.long r0))) (q_A al)) args s 0 0 (q_A al)) (F0 m 58 ls []) := by
    intro H locs ls hm hW hS hl
    unfold X11_range_b58 at hm
    refine lv_ldc2 (own := RX11) (v := (-1)) hx hb hown (hts _ wc_RX11_152) dX11_range_58 ?_
    exact e_l C hW hS hm dX11_range_61
  have hB21 : ∀ (x0_21 : Nat) (x1_21 : Int32) (x2_21 : Int32) (x3_21 : Int32) (x4_21 : Int32) (x5_21 : Int32) (x6_21 : Int32) (t0_21 : Int32) (kx0_21 : al.1 x0_21 = 12) (H : Heap) (locs : List Loc) (ls : Array Slot) (hm : X11_range_b21 al dt x0_21 x1_21 x2_21 x3_21 x4_21 x5_21 x6_21 t0_21 = some r0) (hW : q_W D al dt H) (hS : va_S (q_A al) s.heap H locs) (hl : lv_has ls 16 [(0, .ref x0_21), (1, .int x1_21), (2, .int x2_21), (3, .int x3_21), (4, .int x4_21), (5, .int x5_21), (6, .int x6_21)]), W p l e { frames := 2, cells := 0, slots := 0, locals := 55 } s m args below meth c H locs 0 0 (MQ below (q_Q (some (.long r0)) (fun H => q_W D al dt H ∧ q_Rk al 0 (some (.long r0))) (q_A al)) args s 0 0 (q_A al)) (F0 m 21 ls [.int t0_21]) := by
    intro x0_21 x1_21 x2_21 x3_21 x4_21 x5_21 x6_21 t0_21 kx0_21 H locs ls hm hW hS hl
    unfold X11_range_b21 at hm
    refine lv_istore (i := 7) (lv' := [(7, .int t0_21), (0, .ref x0_21), (1, .int x1_21), (2, .int x2_21), (3, .int x3_21), (4, .int x4_21), (5, .int x5_21), (6, .int x6_21)]) hx hb dX11_range_21 hl (by decide) rfl (fun ls hl => ?_)
    refine lv_iload hx hb dX11_range_23 (lv_at hl 0 rfl) ?_
    refine q_ifc hm (fun c21001 hm => ?_) (fun c21001 hm => ?_)
    · refine lv_if_eq (tgt := 58) hx hb dX11_range_25 (by decide) (fun _ => ?_) (fun h => absurd c21001 h)
      exact hB58 _ _ _ hm hW hS (lv_sub hl [] rfl)
    refine lv_if_eq (tgt := 58) hx hb dX11_range_25 (by decide) (fun h => absurd h c21001) (fun _ => ?_)
    refine lv_aload_n hx hb dX11_range_28 rfl (lv_at hl 1 rfl) ?_
    refine lv_iload_n hx hb dX11_range_29 rfl (lv_at hl 2 rfl) ?_
    refine lv_iload_n hx hb dX11_range_30 rfl (lv_at hl 3 rfl) ?_
    obtain ⟨v21003, hc21002, hm⟩ := q_b1i hm
    refine q_callV C hW hS (As := [.int x1_21, .int x2_21]) (rest := []) (st1 := [.int v21003]) (c_X11_isRest l D al dt x0_21 x1_21 x2_21 kx0_21 v21003 hc21002) yl_X11_isRest vl_X11_isRest ml_RX11_301 (ci := 11) rfl kx0_21 (by decide) rfl ⟨Nat.le_of_ble_eq_true rfl, Nat.le_of_ble_eq_true rfl⟩ hl rfl (Nat.le_of_ble_eq_true rfl) dX11_range_31 ⟨Nat.le_refl _, Nat.le_refl _⟩ rfl (fun H locs k21004 hW hS => ?_)
    refine q_ifc hm (fun c21005 hm => ?_) (fun c21005 hm => ?_)
    · refine lv_if_eq (tgt := 58) hx hb dX11_range_34 (by decide) (fun _ => ?_) (fun h => absurd c21005 h)
      exact hB58 _ _ _ hm hW hS (lv_sub hl [] rfl)
    refine lv_if_eq (tgt := 58) hx hb dX11_range_34 (by decide) (fun h => absurd h c21005) (fun _ => ?_)
    refine lv_aload_n hx hb dX11_range_37 rfl (lv_at hl 1 rfl) ?_
    refine lv_iload_n hx hb dX11_range_38 rfl (lv_at hl 4 rfl) ?_
    refine lv_iload hx hb dX11_range_39 (lv_at hl 5 rfl) ?_
    obtain ⟨v21007, hc21006, hm⟩ := q_b1i hm
    refine q_callV C hW hS (As := [.int x3_21, .int x4_21]) (rest := []) (st1 := [.int v21007]) (c_X11_isRest l D al dt x0_21 x3_21 x4_21 kx0_21 v21007 hc21006) yl_X11_isRest vl_X11_isRest ml_RX11_301 (ci := 11) rfl kx0_21 (by decide) rfl ⟨Nat.le_of_ble_eq_true rfl, Nat.le_of_ble_eq_true rfl⟩ hl rfl (Nat.le_of_ble_eq_true rfl) dX11_range_41 ⟨Nat.le_refl _, Nat.le_refl _⟩ rfl (fun H locs k21008 hW hS => ?_)
    refine q_ifc hm (fun c21009 hm => ?_) (fun c21009 hm => ?_)
    · refine lv_if_eq (tgt := 58) hx hb dX11_range_44 (by decide) (fun _ => ?_) (fun h => absurd c21009 h)
      exact hB58 _ _ _ hm hW hS (lv_sub hl [] rfl)
    refine lv_if_eq (tgt := 58) hx hb dX11_range_44 (by decide) (fun h => absurd h c21009) (fun _ => ?_)
    refine lv_aload_n hx hb dX11_range_47 rfl (lv_at hl 1 rfl) ?_
    refine lv_iload hx hb dX11_range_48 (lv_at hl 6 rfl) ?_
    refine lv_iload hx hb dX11_range_50 (lv_at hl 7 rfl) ?_
    obtain ⟨v21011, hc21010, hm⟩ := q_b1i hm
    refine q_callV C hW hS (As := [.int x5_21, .int x6_21]) (rest := []) (st1 := [.int v21011]) (c_X11_isRest l D al dt x0_21 x5_21 x6_21 kx0_21 v21011 hc21010) yl_X11_isRest vl_X11_isRest ml_RX11_301 (ci := 11) rfl kx0_21 (by decide) rfl ⟨Nat.le_of_ble_eq_true rfl, Nat.le_of_ble_eq_true rfl⟩ hl rfl (Nat.le_of_ble_eq_true rfl) dX11_range_52 ⟨Nat.le_refl _, Nat.le_refl _⟩ rfl (fun H locs k21012 hW hS => ?_)
    refine q_ifc hm (fun c21013 hm => ?_) (fun c21013 hm => ?_)
    · refine lv_if_ne (tgt := 62) hx hb dX11_range_55 (by decide) (fun h => absurd c21013 h) (fun _ => ?_)
      exact hB58 _ _ _ hm hW hS (lv_sub hl [] rfl)
    refine lv_if_ne (tgt := 62) hx hb dX11_range_55 (by decide) (fun _ => ?_) (fun h => absurd h c21013)
    refine lv_aload_n hx hb dX11_range_62 rfl (lv_at hl 1 rfl) ?_
    refine lv_iload_n hx hb dX11_range_63 rfl (lv_at hl 2 rfl) ?_
    obtain ⟨v21015, hc21014, hm⟩ := q_b1i hm
    refine q_callV C hW hS (As := [.int x1_21]) (rest := []) (st1 := [.int v21015]) (c_X11_lengthOf l D al dt x0_21 x1_21 kx0_21 v21015 hc21014) yl_X11_lengthOf vl_X11_lengthOf ml_RX11_305 (ci := 11) rfl kx0_21 (by decide) rfl ⟨Nat.le_of_ble_eq_true rfl, Nat.le_of_ble_eq_true rfl⟩ hl rfl (Nat.le_of_ble_eq_true rfl) dX11_range_64 ⟨Nat.le_refl _, Nat.le_refl _⟩ rfl (fun H locs k21016 hW hS => ?_)
    refine lv_i2l (v := (Int32.toInt64 v21015)) hx hb dX11_range_67 rfl ?_
    refine lv_lstore (i := 8) (lv' := [(8, .long (Int32.toInt64 v21015)), (7, .int t0_21), (0, .ref x0_21), (1, .int x1_21), (2, .int x2_21), (3, .int x3_21), (4, .int x4_21), (5, .int x5_21), (6, .int x6_21)]) hx hb dX11_range_68 hl (by decide) rfl (fun ls hl => ?_)
    refine lv_aload_n hx hb dX11_range_70 rfl (lv_at hl 2 rfl) ?_
    refine lv_iload_n hx hb dX11_range_71 rfl (lv_at hl 5 rfl) ?_
    obtain ⟨v21018, hc21017, hm⟩ := q_b1i hm
    refine q_callV C hW hS (As := [.int x3_21]) (rest := []) (st1 := [.int v21018]) (c_X11_lengthOf l D al dt x0_21 x3_21 kx0_21 v21018 hc21017) yl_X11_lengthOf vl_X11_lengthOf ml_RX11_305 (ci := 11) rfl kx0_21 (by decide) rfl ⟨Nat.le_of_ble_eq_true rfl, Nat.le_of_ble_eq_true rfl⟩ hl rfl (Nat.le_of_ble_eq_true rfl) dX11_range_72 ⟨Nat.le_refl _, Nat.le_refl _⟩ rfl (fun H locs k21019 hW hS => ?_)
    refine lv_i2l (v := (Int32.toInt64 v21018)) hx hb dX11_range_75 rfl ?_
    refine lv_lstore (i := 10) (lv' := [(10, .long (Int32.toInt64 v21018)), (8, .long (Int32.toInt64 v21015)), (7, .int t0_21), (0, .ref x0_21), (1, .int x1_21), (2, .int x2_21), (3, .int x3_21), (4, .int x4_21), (5, .int x5_21), (6, .int x6_21)]) hx hb dX11_range_76 hl (by decide) rfl (fun ls hl => ?_)
    refine lv_lload hx hb dX11_range_78 (lv_at hl 1 rfl) ?_
    refine lv_lload hx hb dX11_range_80 (lv_at hl 0 rfl) ?_
    refine lv_lload hx hb dX11_range_82 (lv_at hl 1 rfl) ?_
    refine lv_lload hx hb dX11_range_84 (lv_at hl 0 rfl) ?_
    obtain ⟨v21021, hc21020, hm⟩ := q_b1i hm
    refine q_callS C hW hS (As := [.long (Int32.toInt64 v21015), .long (Int32.toInt64 v21018)]) (rest := [.long (Int32.toInt64 v21018), .long (Int32.toInt64 v21015)]) (st1 := [.long v21021, .long (Int32.toInt64 v21018), .long (Int32.toInt64 v21015)]) (c_X11_commonDivisor l D al dt (Int32.toInt64 v21015) (Int32.toInt64 v21018) v21021 hc21020) yl_X11_commonDivisor sl_X11_commonDivisor ml_RX11_221 rfl ⟨Nat.le_of_ble_eq_true rfl, Nat.le_of_ble_eq_true rfl⟩ hl rfl (Nat.le_of_ble_eq_true rfl) dX11_range_86 ⟨Nat.le_refl _, Nat.le_refl _⟩ rfl (fun H locs k21022 hW hS => ?_)
    obtain ⟨v21024, hc21023, hm⟩ := q_b1i hm
    refine q_callS C hW hS (As := [.long (Int32.toInt64 v21018), .long v21021]) (rest := [.long (Int32.toInt64 v21015)]) (st1 := [.long v21024, .long (Int32.toInt64 v21015)]) (c_X11_quotient l D al dt (Int32.toInt64 v21018) v21021 v21024 hc21023) yl_X11_quotient sl_X11_quotient ml_RX11_225 rfl ⟨Nat.le_of_ble_eq_true rfl, Nat.le_of_ble_eq_true rfl⟩ hl rfl (Nat.le_of_ble_eq_true rfl) dX11_range_89 ⟨Nat.le_refl _, Nat.le_refl _⟩ rfl (fun H locs k21025 hW hS => ?_)
    refine lv_lmul hx hb dX11_range_92 ?_
    refine lv_lstore (i := 12) (lv' := [(12, .long ((Int32.toInt64 v21015) * v21024)), (10, .long (Int32.toInt64 v21018)), (8, .long (Int32.toInt64 v21015)), (7, .int t0_21), (0, .ref x0_21), (1, .int x1_21), (2, .int x2_21), (3, .int x3_21), (4, .int x4_21), (5, .int x5_21), (6, .int x6_21)]) hx hb dX11_range_93 hl (by decide) rfl (fun ls hl => ?_)
    refine lv_iload_n hx hb dX11_range_95 rfl (lv_at hl 6 rfl) ?_
    refine lv_i2l (v := (Int32.toInt64 x2_21)) hx hb dX11_range_96 rfl ?_
    refine lv_lload hx hb dX11_range_97 (lv_at hl 2 rfl) ?_
    refine lv_lload hx hb dX11_range_99 (lv_at hl 1 rfl) ?_
    refine lv_iload hx hb dX11_range_101 (lv_at hl 8 rfl) ?_
    obtain ⟨v21027, hc21026, hm⟩ := q_b1i hm
    refine q_callS C hW hS (As := [.long (Int32.toInt64 x2_21), .long (Int32.toInt64 v21015), .long (Int32.toInt64 v21018), .int x4_21]) (rest := []) (st1 := [.long v21027]) (c_X11_nextWithRest l D al dt (Int32.toInt64 x2_21) (Int32.toInt64 v21015) (Int32.toInt64 v21018) x4_21 v21027 hc21026) yl_X11_nextWithRest sl_X11_nextWithRest ml_RX11_308 rfl ⟨Nat.le_of_ble_eq_true rfl, Nat.le_of_ble_eq_true rfl⟩ hl rfl (Nat.le_of_ble_eq_true rfl) dX11_range_103 ⟨Nat.le_refl _, Nat.le_refl _⟩ rfl (fun H locs k21028 hW hS => ?_)
    refine lv_lstore (i := 14) (lv' := [(14, .long v21027), (12, .long ((Int32.toInt64 v21015) * v21024)), (10, .long (Int32.toInt64 v21018)), (8, .long (Int32.toInt64 v21015)), (7, .int t0_21), (0, .ref x0_21), (1, .int x1_21), (2, .int x2_21), (3, .int x3_21), (4, .int x4_21), (5, .int x5_21), (6, .int x6_21)]) hx hb dX11_range_106 hl (by decide) rfl (fun ls hl => ?_)
    refine lv_lload hx hb dX11_range_108 (lv_at hl 0 rfl) ?_
    refine lv_lconst (v := 0) hx hb dX11_range_110 rfl ?_
    refine W.lcmp hx hb dX11_range_111 ?_
    refine q_ifc hm (fun c21029 hm => ?_) (fun c21029 hm => ?_)
    · refine lv_if_ge (tgt := 121) hx hb dX11_range_112 (by decide) (fun _ => ?_) (fun h => absurd (q_cmp_ge.mpr c21029) h)
      refine lv_lload hx hb dX11_range_121 (lv_at hl 0 rfl) ?_
      refine lv_lload hx hb dX11_range_123 (lv_at hl 1 rfl) ?_
      refine lv_aload_n hx hb dX11_range_125 rfl (lv_at hl 5 rfl) ?_
      refine lv_iload hx hb dX11_range_126 (lv_at hl 10 rfl) ?_
      obtain ⟨v21031, hc21030, hm⟩ := q_b1i hm
      refine q_callV C hW hS (As := [.int x5_21]) (rest := [.long ((Int32.toInt64 v21015) * v21024), .long v21027]) (st1 := [.int v21031, .long ((Int32.toInt64 v21015) * v21024), .long v21027]) (c_X11_lengthOf l D al dt x0_21 x5_21 kx0_21 v21031 hc21030) yl_X11_lengthOf vl_X11_lengthOf ml_RX11_305 (ci := 11) rfl kx0_21 (by decide) rfl ⟨Nat.le_of_ble_eq_true rfl, Nat.le_of_ble_eq_true rfl⟩ hl rfl (Nat.le_of_ble_eq_true rfl) dX11_range_128 ⟨Nat.le_refl _, Nat.le_refl _⟩ rfl (fun H locs k21032 hW hS => ?_)
      refine lv_i2l (v := (Int32.toInt64 v21031)) hx hb dX11_range_131 rfl ?_
      refine lv_iload hx hb dX11_range_132 (lv_at hl 11 rfl) ?_
      obtain ⟨v21034, hc21033, hm⟩ := q_b1i hm
      refine q_callS C hW hS (As := [.long v21027, .long ((Int32.toInt64 v21015) * v21024), .long (Int32.toInt64 v21031), .int x6_21]) (rest := []) (st1 := [.long v21034]) (c_X11_nextWithRest l D al dt v21027 ((Int32.toInt64 v21015) * v21024) (Int32.toInt64 v21031) x6_21 v21034 hc21033) yl_X11_nextWithRest sl_X11_nextWithRest ml_RX11_308 rfl ⟨Nat.le_of_ble_eq_true rfl, Nat.le_of_ble_eq_true rfl⟩ hl rfl (Nat.le_of_ble_eq_true rfl) dX11_range_134 ⟨Nat.le_refl _, Nat.le_refl _⟩ rfl (fun H locs k21035 hW hS => ?_)
      exact e_l C hW hS hm dX11_range_137
    refine lv_if_ge (tgt := 121) hx hb dX11_range_112 (by decide) (fun h => absurd (q_cmp_ge.mp h) c21029) (fun _ => ?_)
    refine lv_ldc2 (own := RX11) (v := (-2)) hx hb hown (hts _ wc_RX11_312) dX11_range_115 ?_
    refine lv_goto (tgt := 137) hx hb dX11_range_118 (by decide) ?_
    exact e_l C hW hS hm dX11_range_137
  have hB20 : ∀ (x0_20 : Nat) (x1_20 : Int32) (x2_20 : Int32) (x3_20 : Int32) (x4_20 : Int32) (x5_20 : Int32) (x6_20 : Int32) (kx0_20 : al.1 x0_20 = 12) (H : Heap) (locs : List Loc) (ls : Array Slot) (hm : X11_range_b20 al dt x0_20 x1_20 x2_20 x3_20 x4_20 x5_20 x6_20 = some r0) (hW : q_W D al dt H) (hS : va_S (q_A al) s.heap H locs) (hl : lv_has ls 16 [(0, .ref x0_20), (1, .int x1_20), (2, .int x2_20), (3, .int x3_20), (4, .int x4_20), (5, .int x5_20), (6, .int x6_20)]), W p l e { frames := 2, cells := 0, slots := 0, locals := 55 } s m args below meth c H locs 0 0 (MQ below (q_Q (some (.long r0)) (fun H => q_W D al dt H ∧ q_Rk al 0 (some (.long r0))) (q_A al)) args s 0 0 (q_A al)) (F0 m 20 ls []) := by
    intro x0_20 x1_20 x2_20 x3_20 x4_20 x5_20 x6_20 kx0_20 H locs ls hm hW hS hl
    unfold X11_range_b20 at hm
    refine lv_iconst (v := 0) hx hb dX11_range_20 (by decide) ?_
    exact hB21 x0_20 x1_20 x2_20 x3_20 x4_20 x5_20 x6_20 0 kx0_20 _ _ _ hm hW hS (lv_sub hl [0, 1, 2, 3, 4, 5, 6] rfl)
  have hB16 : ∀ (x0_16 : Nat) (x1_16 : Int32) (x2_16 : Int32) (x3_16 : Int32) (x4_16 : Int32) (x5_16 : Int32) (x6_16 : Int32) (kx0_16 : al.1 x0_16 = 12) (H : Heap) (locs : List Loc) (ls : Array Slot) (hm : X11_range_b16 al dt x0_16 x1_16 x2_16 x3_16 x4_16 x5_16 x6_16 = some r0) (hW : q_W D al dt H) (hS : va_S (q_A al) s.heap H locs) (hl : lv_has ls 16 [(0, .ref x0_16), (1, .int x1_16), (2, .int x2_16), (3, .int x3_16), (4, .int x4_16), (5, .int x5_16), (6, .int x6_16)]), W p l e { frames := 2, cells := 0, slots := 0, locals := 55 } s m args below meth c H locs 0 0 (MQ below (q_Q (some (.long r0)) (fun H => q_W D al dt H ∧ q_Rk al 0 (some (.long r0))) (q_A al)) args s 0 0 (q_A al)) (F0 m 16 ls []) := by
    intro x0_16 x1_16 x2_16 x3_16 x4_16 x5_16 x6_16 kx0_16 H locs ls hm hW hS hl
    unfold X11_range_b16 at hm
    refine lv_iconst (v := 1) hx hb dX11_range_16 (by decide) ?_
    refine lv_goto (tgt := 21) hx hb dX11_range_17 (by decide) ?_
    exact hB21 x0_16 x1_16 x2_16 x3_16 x4_16 x5_16 x6_16 1 kx0_16 _ _ _ hm hW hS (lv_sub hl [0, 1, 2, 3, 4, 5, 6] rfl)
  refine lv_iload_n hx hb dX11_range_0 rfl (lv_at hl 1 rfl) ?_
  refine lv_iconst (v := (-1)) hx hb dX11_range_1 (by decide) ?_
  refine q_ifc hm (fun c1000001 hm => ?_) (fun c1000001 hm => ?_)
  · refine lv_icmp_eq (tgt := 20) hx hb dX11_range_2 (by decide) (fun _ => ?_) (fun h => absurd c1000001 h)
    exact hB20 x0 x1 x2 x3 x4 x5 x6 kx0 _ _ _ hm hW hS (lv_sub hl [0, 1, 2, 3, 4, 5, 6] rfl)
  refine lv_icmp_eq (tgt := 20) hx hb dX11_range_2 (by decide) (fun h => absurd h c1000001) (fun _ => ?_)
  refine lv_iload_n hx hb dX11_range_5 rfl (lv_at hl 3 rfl) ?_
  refine lv_iconst (v := (-1)) hx hb dX11_range_6 (by decide) ?_
  refine q_ifc hm (fun c1000002 hm => ?_) (fun c1000002 hm => ?_)
  · refine lv_icmp_ne (tgt := 16) hx hb dX11_range_7 (by decide) (fun h => absurd c1000002 h) (fun _ => ?_)
    refine lv_iload hx hb dX11_range_10 (lv_at hl 5 rfl) ?_
    refine lv_iconst (v := (-1)) hx hb dX11_range_12 (by decide) ?_
    refine q_ifc hm (fun c1000003 hm => ?_) (fun c1000003 hm => ?_)
    · refine lv_icmp_ne (tgt := 20) hx hb dX11_range_13 (by decide) (fun h => absurd c1000003 h) (fun _ => ?_)
      exact hB16 x0 x1 x2 x3 x4 x5 x6 kx0 _ _ _ hm hW hS (lv_sub hl [0, 1, 2, 3, 4, 5, 6] rfl)
    refine lv_icmp_ne (tgt := 20) hx hb dX11_range_13 (by decide) (fun _ => ?_) (fun h => absurd h c1000003)
    exact hB20 x0 x1 x2 x3 x4 x5 x6 kx0 _ _ _ hm hW hS (lv_sub hl [0, 1, 2, 3, 4, 5, 6] rfl)
  refine lv_icmp_ne (tgt := 16) hx hb dX11_range_7 (by decide) (fun _ => ?_) (fun h => absurd h c1000002)
  exact hB16 x0 x1 x2 x3 x4 x5 x6 kx0 _ _ _ hm hW hS (lv_sub hl [0, 1, 2, 3, 4, 5, 6] rfl)
theorem dX11_near_0 : decode cX11_near 0 = .ok (.iload_n 1, 1) := by decide +kernel
theorem dX11_near_1 : decode cX11_near 1 = .ok (.iconst (-1), 1) := by decide +kernel
theorem dX11_near_2 : decode cX11_near 2 = .ok (.if_icmp .eq 35, 3) := by decide +kernel
theorem dX11_near_5 : decode cX11_near 5 = .ok (.aload_n 0, 1) := by decide +kernel
theorem dX11_near_6 : decode cX11_near 6 = .ok (.iload_n 1, 1) := by decide +kernel
theorem dX11_near_7 : decode cX11_near 7 = .ok (.iload_n 2, 1) := by decide +kernel
theorem dX11_near_8 : decode cX11_near 8 = .ok (.invokevirtual 301, 3) := by decide +kernel
theorem dX11_near_11 : decode cX11_near 11 = .ok (.ifCond .eq 26, 3) := by decide +kernel
theorem dX11_near_14 : decode cX11_near 14 = .ok (.aload_n 0, 1) := by decide +kernel
theorem dX11_near_15 : decode cX11_near 15 = .ok (.iload_n 3, 1) := by decide +kernel
theorem dX11_near_16 : decode cX11_near 16 = .ok (.iload 4, 2) := by decide +kernel
theorem dX11_near_18 : decode cX11_near 18 = .ok (.invokevirtual 301, 3) := by decide +kernel
theorem dX11_near_21 : decode cX11_near 21 = .ok (.ifCond .eq 16, 3) := by decide +kernel
theorem dX11_near_24 : decode cX11_near 24 = .ok (.iload 5, 2) := by decide +kernel
theorem dX11_near_26 : decode cX11_near 26 = .ok (.ifCond .lt 11, 3) := by decide +kernel
theorem dX11_near_29 : decode cX11_near 29 = .ok (.iload 5, 2) := by decide +kernel
theorem dX11_near_31 : decode cX11_near 31 = .ok (.sipush 20000, 3) := by decide +kernel
theorem dX11_near_34 : decode cX11_near 34 = .ok (.if_icmp .le 5, 3) := by decide +kernel
theorem dX11_near_37 : decode cX11_near 37 = .ok (.iconst (-1), 1) := by decide +kernel
theorem dX11_near_38 : decode cX11_near 38 = .ok (.ireturn, 1) := by decide +kernel
theorem dX11_near_39 : decode cX11_near 39 = .ok (.sipush 255, 3) := by decide +kernel
theorem dX11_near_42 : decode cX11_near 42 = .ok (.istore 6, 2) := by decide +kernel
theorem dX11_near_44 : decode cX11_near 44 = .ok (.iconst 0, 1) := by decide +kernel
theorem dX11_near_45 : decode cX11_near 45 = .ok (.istore 7, 2) := by decide +kernel
theorem dX11_near_47 : decode cX11_near 47 = .ok (.iconst 0, 1) := by decide +kernel
theorem dX11_near_48 : decode cX11_near 48 = .ok (.istore 8, 2) := by decide +kernel
theorem dX11_near_50 : decode cX11_near 50 = .ok (.iload 8, 2) := by decide +kernel
theorem dX11_near_52 : decode cX11_near 52 = .ok (.iload 5, 2) := by decide +kernel
theorem dX11_near_54 : decode cX11_near 54 = .ok (.if_icmp .gt 50, 3) := by decide +kernel
theorem dX11_near_57 : decode cX11_near 57 = .ok (.iload 8, 2) := by decide +kernel
theorem dX11_near_59 : decode cX11_near 59 = .ok (.iload_n 2, 1) := by decide +kernel
theorem dX11_near_60 : decode cX11_near 60 = .ok (.aload_n 0, 1) := by decide +kernel
theorem dX11_near_61 : decode cX11_near 61 = .ok (.iload_n 1, 1) := by decide +kernel
theorem dX11_near_62 : decode cX11_near 62 = .ok (.invokevirtual 305, 3) := by decide +kernel
theorem dX11_near_65 : decode cX11_near 65 = .ok (.invokestatic 298, 3) := by decide +kernel
theorem dX11_near_68 : decode cX11_near 68 = .ok (.iload 8, 2) := by decide +kernel
theorem dX11_near_70 : decode cX11_near 70 = .ok (.iload 4, 2) := by decide +kernel
theorem dX11_near_72 : decode cX11_near 72 = .ok (.aload_n 0, 1) := by decide +kernel
theorem dX11_near_73 : decode cX11_near 73 = .ok (.iload_n 3, 1) := by decide +kernel
theorem dX11_near_74 : decode cX11_near 74 = .ok (.invokevirtual 305, 3) := by decide +kernel
theorem dX11_near_77 : decode cX11_near 77 = .ok (.invokestatic 298, 3) := by decide +kernel
theorem dX11_near_80 : decode cX11_near 80 = .ok (.iadd, 1) := by decide +kernel
theorem dX11_near_81 : decode cX11_near 81 = .ok (.istore 9, 2) := by decide +kernel
theorem dX11_near_83 : decode cX11_near 83 = .ok (.iload 9, 2) := by decide +kernel
theorem dX11_near_85 : decode cX11_near 85 = .ok (.iload 6, 2) := by decide +kernel
theorem dX11_near_87 : decode cX11_near 87 = .ok (.if_icmp .ge 11, 3) := by decide +kernel
theorem dX11_near_90 : decode cX11_near 90 = .ok (.iload 9, 2) := by decide +kernel
theorem dX11_near_92 : decode cX11_near 92 = .ok (.istore 6, 2) := by decide +kernel
theorem dX11_near_94 : decode cX11_near 94 = .ok (.iload 8, 2) := by decide +kernel
theorem dX11_near_96 : decode cX11_near 96 = .ok (.istore 7, 2) := by decide +kernel
theorem dX11_near_98 : decode cX11_near 98 = .ok (.iinc 8 1, 3) := by decide +kernel
theorem dX11_near_101 : decode cX11_near 101 = .ok (.goto (-51), 3) := by decide +kernel
theorem dX11_near_104 : decode cX11_near 104 = .ok (.iload 7, 2) := by decide +kernel
theorem dX11_near_106 : decode cX11_near 106 = .ok (.ireturn, 1) := by decide +kernel
set_option maxRecDepth 100000 in
theorem c_X11_near (l : Launch) (D : q_D) (al : q_Al) (dt : q_Dt) (x0 : Nat) (x1 : Int32) (x2 : Int32) (x3 : Int32) (x4 : Int32) (x5 : Int32) (kx0 : al.1 x0 = 12) (r0 : Int32) (hm : X11_near al dt x0 x1 x2 x3 x4 x5 = some r0) : q_Mt l yX11_near cX11_near 10 (some FieldType.int) 2 48 D al [.ref x0, .int x1, .int x2, .int x3, .int x4, .int x5] dt 0 (some (.int r0)) dt := by
  refine q_Mt.of (by decide) (Nat.le_of_ble_eq_true rfl) ?_
  intro p e s m args below meth c ls C hargs hW hl
  have hx := C.1
  have hb := C.2.1
  have hown := C.2.2.2.2.2.1
  have hts := C.2.2.2.2.2.2.1
  have hS : va_S (q_A al) s.heap s.heap [] := va_S.rf
  have hl : lv_has ls 10 [(0, .ref x0), (1, .int x1), (2, .int x2), (3, .int x3), (4, .int x4), (5, .int x5)] := hl
  unfold X11_near at hm
  have hB50 : ∀ (x0_50 : Nat) (x1_50 : Int32) (x2_50 : Int32) (x3_50 : Int32) (x4_50 : Int32) (x5_50 : Int32) (kx0_50 : al.1 x0_50 = 12) (n_50 : Nat) (x6_50 : Int32) (x7_50 : Int32) (x8_50 : Int32) (H : Heap) (locs : List Loc) (ls : Array Slot) (hm : X11_near_b50 al dt x0_50 x1_50 x2_50 x3_50 x4_50 x5_50 n_50 x6_50 x7_50 x8_50 = some r0) (hW : q_W D al dt H) (hS : va_S (q_A al) s.heap H locs) (hl : lv_has ls 10 [(0, .ref x0_50), (1, .int x1_50), (2, .int x2_50), (3, .int x3_50), (4, .int x4_50), (5, .int x5_50), (6, .int x6_50), (7, .int x7_50), (8, .int x8_50)]), W p l e { frames := 2, cells := 0, slots := 0, locals := 48 } s m args below meth c H locs 0 0 (MQ below (q_Q (some (.int r0)) (fun H => q_W D al dt H ∧ q_Rk al 0 (some (.int r0))) (q_A al)) args s 0 0 (q_A al)) (F0 m 50 ls []) := by
    intro x0_50 x1_50 x2_50 x3_50 x4_50 x5_50 kx0_50
    intro n_50
    induction n_50 with
    | zero => intro x6_50 x7_50 x8_50 H locs ls hm hW hS hl; cases hm
    | succ n_50 ih50 =>
      have hB98 : ∀ (x6_98 : Int32) (x7_98 : Int32) (x8_98 : Int32) (H : Heap) (locs : List Loc) (ls : Array Slot) (hm : X11_near_b98 al dt (X11_near_b50 al dt x0_50 x1_50 x2_50 x3_50 x4_50 x5_50 n_50) x0_50 x1_50 x2_50 x3_50 x4_50 x5_50 x6_98 x7_98 x8_98 = some r0) (hW : q_W D al dt H) (hS : va_S (q_A al) s.heap H locs) (hl : lv_has ls 10 [(0, .ref x0_50), (1, .int x1_50), (2, .int x2_50), (3, .int x3_50), (4, .int x4_50), (5, .int x5_50), (6, .int x6_98), (7, .int x7_98), (8, .int x8_98)]), W p l e { frames := 2, cells := 0, slots := 0, locals := 48 } s m args below meth c H locs 0 0 (MQ below (q_Q (some (.int r0)) (fun H => q_W D al dt H ∧ q_Rk al 0 (some (.int r0))) (q_A al)) args s 0 0 (q_A al)) (F0 m 98 ls []) := by
        intro x6_98 x7_98 x8_98 H locs ls hm hW hS hl
        unfold X11_near_b98 at hm
        refine lv_iinc (v := (x8_98 + 1)) (lv' := [(8, .int (x8_98 + 1)), (0, .ref x0_50), (1, .int x1_50), (2, .int x2_50), (3, .int x3_50), (4, .int x4_50), (5, .int x5_50), (6, .int x6_98), (7, .int x7_98)]) hx hb dX11_near_98 hl (k := 8) rfl rfl (by decide) rfl (fun ls hl => ?_)
        refine lv_goto (tgt := 50) hx hb dX11_near_101 (by decide) ?_
        exact ih50 x6_98 x7_98 (x8_98 + 1) _ _ _ hm hW hS (lv_sub hl [1, 2, 3, 4, 5, 6, 7, 8, 0] rfl)
      intro x6_50 x7_50 x8_50 H locs ls hm hW hS hl
      rw [X11_near_b50] at hm
      refine lv_iload hx hb dX11_near_50 (lv_at hl 8 rfl) ?_
      refine lv_iload hx hb dX11_near_52 (lv_at hl 5 rfl) ?_
      refine q_ifc hm (fun c50001 hm => ?_) (fun c50001 hm => ?_)
      · refine lv_icmp_gt (tgt := 104) hx hb dX11_near_54 (by decide) (fun _ => ?_) (fun h => absurd c50001 h)
        refine lv_iload hx hb dX11_near_104 (lv_at hl 7 rfl) ?_
        exact e_i C hW hS hm dX11_near_106
      refine lv_icmp_gt (tgt := 104) hx hb dX11_near_54 (by decide) (fun h => absurd h c50001) (fun _ => ?_)
      refine lv_iload hx hb dX11_near_57 (lv_at hl 8 rfl) ?_
      refine lv_iload_n hx hb dX11_near_59 rfl (lv_at hl 2 rfl) ?_
      refine lv_aload_n hx hb dX11_near_60 rfl (lv_at hl 0 rfl) ?_
      refine lv_iload_n hx hb dX11_near_61 rfl (lv_at hl 1 rfl) ?_
      obtain ⟨v50003, hc50002, hm⟩ := q_b1i hm
      refine q_callV C hW hS (As := [.int x1_50]) (rest := [.int x2_50, .int x8_50]) (st1 := [.int v50003, .int x2_50, .int x8_50]) (c_X11_lengthOf l D al dt x0_50 x1_50 kx0_50 v50003 hc50002) yl_X11_lengthOf vl_X11_lengthOf ml_RX11_305 (ci := 11) rfl kx0_50 (by decide) rfl ⟨Nat.le_of_ble_eq_true rfl, Nat.le_of_ble_eq_true rfl⟩ hl rfl (Nat.le_of_ble_eq_true rfl) dX11_near_62 ⟨Nat.le_refl _, Nat.le_refl _⟩ rfl (fun H locs k50004 hW hS => ?_)
      obtain ⟨v50006, hc50005, hm⟩ := q_b1i hm
      refine q_callS C hW hS (As := [.int x8_50, .int x2_50, .int v50003]) (rest := []) (st1 := [.int v50006]) (c_X11_apart l D al dt x8_50 x2_50 v50003 v50006 hc50005) yl_X11_apart sl_X11_apart ml_RX11_298 rfl ⟨Nat.le_of_ble_eq_true rfl, Nat.le_of_ble_eq_true rfl⟩ hl rfl (Nat.le_of_ble_eq_true rfl) dX11_near_65 ⟨Nat.le_refl _, Nat.le_refl _⟩ rfl (fun H locs k50007 hW hS => ?_)
      refine lv_iload hx hb dX11_near_68 (lv_at hl 8 rfl) ?_
      refine lv_iload hx hb dX11_near_70 (lv_at hl 4 rfl) ?_
      refine lv_aload_n hx hb dX11_near_72 rfl (lv_at hl 0 rfl) ?_
      refine lv_iload_n hx hb dX11_near_73 rfl (lv_at hl 3 rfl) ?_
      obtain ⟨v50009, hc50008, hm⟩ := q_b1i hm
      refine q_callV C hW hS (As := [.int x3_50]) (rest := [.int x4_50, .int x8_50, .int v50006]) (st1 := [.int v50009, .int x4_50, .int x8_50, .int v50006]) (c_X11_lengthOf l D al dt x0_50 x3_50 kx0_50 v50009 hc50008) yl_X11_lengthOf vl_X11_lengthOf ml_RX11_305 (ci := 11) rfl kx0_50 (by decide) rfl ⟨Nat.le_of_ble_eq_true rfl, Nat.le_of_ble_eq_true rfl⟩ hl rfl (Nat.le_of_ble_eq_true rfl) dX11_near_74 ⟨Nat.le_refl _, Nat.le_refl _⟩ rfl (fun H locs k50010 hW hS => ?_)
      obtain ⟨v50012, hc50011, hm⟩ := q_b1i hm
      refine q_callS C hW hS (As := [.int x8_50, .int x4_50, .int v50009]) (rest := [.int v50006]) (st1 := [.int v50012, .int v50006]) (c_X11_apart l D al dt x8_50 x4_50 v50009 v50012 hc50011) yl_X11_apart sl_X11_apart ml_RX11_298 rfl ⟨Nat.le_of_ble_eq_true rfl, Nat.le_of_ble_eq_true rfl⟩ hl rfl (Nat.le_of_ble_eq_true rfl) dX11_near_77 ⟨Nat.le_refl _, Nat.le_refl _⟩ rfl (fun H locs k50013 hW hS => ?_)
      refine lv_iadd hx hb dX11_near_80 ?_
      refine lv_istore (i := 9) (lv' := [(9, .int (v50006 + v50012)), (0, .ref x0_50), (1, .int x1_50), (2, .int x2_50), (3, .int x3_50), (4, .int x4_50), (5, .int x5_50), (6, .int x6_50), (7, .int x7_50), (8, .int x8_50)]) hx hb dX11_near_81 hl (by decide) rfl (fun ls hl => ?_)
      refine lv_iload hx hb dX11_near_83 (lv_at hl 0 rfl) ?_
      refine lv_iload hx hb dX11_near_85 (lv_at hl 7 rfl) ?_
      refine q_ifc hm (fun c50014 hm => ?_) (fun c50014 hm => ?_)
      · refine lv_icmp_ge (tgt := 98) hx hb dX11_near_87 (by decide) (fun _ => ?_) (fun h => absurd c50014 h)
        exact hB98 x6_50 x7_50 x8_50 _ _ _ hm hW hS (lv_sub hl [1, 2, 3, 4, 5, 6, 7, 8, 9] rfl)
      refine lv_icmp_ge (tgt := 98) hx hb dX11_near_87 (by decide) (fun h => absurd h c50014) (fun _ => ?_)
      refine lv_iload hx hb dX11_near_90 (lv_at hl 0 rfl) ?_
      refine lv_istore (i := 6) (lv' := [(6, .int (v50006 + v50012)), (9, .int (v50006 + v50012)), (0, .ref x0_50), (1, .int x1_50), (2, .int x2_50), (3, .int x3_50), (4, .int x4_50), (5, .int x5_50), (7, .int x7_50), (8, .int x8_50)]) hx hb dX11_near_92 hl (by decide) rfl (fun ls hl => ?_)
      refine lv_iload hx hb dX11_near_94 (lv_at hl 9 rfl) ?_
      refine lv_istore (i := 7) (lv' := [(7, .int x8_50), (6, .int (v50006 + v50012)), (9, .int (v50006 + v50012)), (0, .ref x0_50), (1, .int x1_50), (2, .int x2_50), (3, .int x3_50), (4, .int x4_50), (5, .int x5_50), (8, .int x8_50)]) hx hb dX11_near_96 hl (by decide) rfl (fun ls hl => ?_)
      exact hB98 (v50006 + v50012) x8_50 x8_50 _ _ _ hm hW hS (lv_sub hl [3, 4, 5, 6, 7, 8, 1, 0, 9] rfl)
  refine lv_iload_n hx hb dX11_near_0 rfl (lv_at hl 1 rfl) ?_
  refine lv_iconst (v := (-1)) hx hb dX11_near_1 (by decide) ?_
  refine q_ifc hm (fun c1000001 hm => ?_) (fun c1000001 hm => ?_)
  · refine lv_icmp_eq (tgt := 37) hx hb dX11_near_2 (by decide) (fun _ => ?_) (fun h => absurd c1000001 h)
    refine lv_iconst (v := (-1)) hx hb dX11_near_37 (by decide) ?_
    exact e_i C hW hS hm dX11_near_38
  refine lv_icmp_eq (tgt := 37) hx hb dX11_near_2 (by decide) (fun h => absurd h c1000001) (fun _ => ?_)
  refine lv_aload_n hx hb dX11_near_5 rfl (lv_at hl 0 rfl) ?_
  refine lv_iload_n hx hb dX11_near_6 rfl (lv_at hl 1 rfl) ?_
  refine lv_iload_n hx hb dX11_near_7 rfl (lv_at hl 2 rfl) ?_
  obtain ⟨v1000003, hc1000002, hm⟩ := q_b1i hm
  refine q_callV C hW hS (As := [.int x1, .int x2]) (rest := []) (st1 := [.int v1000003]) (c_X11_isRest l D al dt x0 x1 x2 kx0 v1000003 hc1000002) yl_X11_isRest vl_X11_isRest ml_RX11_301 (ci := 11) rfl kx0 (by decide) rfl ⟨Nat.le_of_ble_eq_true rfl, Nat.le_of_ble_eq_true rfl⟩ hl rfl (Nat.le_of_ble_eq_true rfl) dX11_near_8 ⟨Nat.le_refl _, Nat.le_refl _⟩ rfl (fun H locs k1000004 hW hS => ?_)
  refine q_ifc hm (fun c1000005 hm => ?_) (fun c1000005 hm => ?_)
  · refine lv_if_eq (tgt := 37) hx hb dX11_near_11 (by decide) (fun _ => ?_) (fun h => absurd c1000005 h)
    refine lv_iconst (v := (-1)) hx hb dX11_near_37 (by decide) ?_
    exact e_i C hW hS hm dX11_near_38
  refine lv_if_eq (tgt := 37) hx hb dX11_near_11 (by decide) (fun h => absurd h c1000005) (fun _ => ?_)
  refine lv_aload_n hx hb dX11_near_14 rfl (lv_at hl 0 rfl) ?_
  refine lv_iload_n hx hb dX11_near_15 rfl (lv_at hl 3 rfl) ?_
  refine lv_iload hx hb dX11_near_16 (lv_at hl 4 rfl) ?_
  obtain ⟨v1000007, hc1000006, hm⟩ := q_b1i hm
  refine q_callV C hW hS (As := [.int x3, .int x4]) (rest := []) (st1 := [.int v1000007]) (c_X11_isRest l D al dt x0 x3 x4 kx0 v1000007 hc1000006) yl_X11_isRest vl_X11_isRest ml_RX11_301 (ci := 11) rfl kx0 (by decide) rfl ⟨Nat.le_of_ble_eq_true rfl, Nat.le_of_ble_eq_true rfl⟩ hl rfl (Nat.le_of_ble_eq_true rfl) dX11_near_18 ⟨Nat.le_refl _, Nat.le_refl _⟩ rfl (fun H locs k1000008 hW hS => ?_)
  refine q_ifc hm (fun c1000009 hm => ?_) (fun c1000009 hm => ?_)
  · refine lv_if_eq (tgt := 37) hx hb dX11_near_21 (by decide) (fun _ => ?_) (fun h => absurd c1000009 h)
    refine lv_iconst (v := (-1)) hx hb dX11_near_37 (by decide) ?_
    exact e_i C hW hS hm dX11_near_38
  refine lv_if_eq (tgt := 37) hx hb dX11_near_21 (by decide) (fun h => absurd h c1000009) (fun _ => ?_)
  refine lv_iload hx hb dX11_near_24 (lv_at hl 5 rfl) ?_
  refine q_ifc hm (fun c1000010 hm => ?_) (fun c1000010 hm => ?_)
  · refine lv_if_lt (tgt := 37) hx hb dX11_near_26 (by decide) (fun _ => ?_) (fun h => absurd c1000010 h)
    refine lv_iconst (v := (-1)) hx hb dX11_near_37 (by decide) ?_
    exact e_i C hW hS hm dX11_near_38
  refine lv_if_lt (tgt := 37) hx hb dX11_near_26 (by decide) (fun h => absurd h c1000010) (fun _ => ?_)
  refine lv_iload hx hb dX11_near_29 (lv_at hl 5 rfl) ?_
  refine lv_sipush (v := 20000) hx hb dX11_near_31 (by decide) ?_
  refine q_ifc hm (fun c1000011 hm => ?_) (fun c1000011 hm => ?_)
  · refine lv_icmp_le (tgt := 39) hx hb dX11_near_34 (by decide) (fun _ => ?_) (fun h => absurd c1000011 h)
    refine lv_sipush (v := 255) hx hb dX11_near_39 (by decide) ?_
    refine lv_istore (i := 6) (lv' := [(6, .int 255), (0, .ref x0), (1, .int x1), (2, .int x2), (3, .int x3), (4, .int x4), (5, .int x5)]) hx hb dX11_near_42 hl (by decide) rfl (fun ls hl => ?_)
    refine lv_iconst (v := 0) hx hb dX11_near_44 (by decide) ?_
    refine lv_istore (i := 7) (lv' := [(7, .int 0), (6, .int 255), (0, .ref x0), (1, .int x1), (2, .int x2), (3, .int x3), (4, .int x4), (5, .int x5)]) hx hb dX11_near_45 hl (by decide) rfl (fun ls hl => ?_)
    refine lv_iconst (v := 0) hx hb dX11_near_47 (by decide) ?_
    refine lv_istore (i := 8) (lv' := [(8, .int 0), (7, .int 0), (6, .int 255), (0, .ref x0), (1, .int x1), (2, .int x2), (3, .int x3), (4, .int x4), (5, .int x5)]) hx hb dX11_near_48 hl (by decide) rfl (fun ls hl => ?_)
    exact hB50 x0 x1 x2 x3 x4 x5 kx0 q_FU 255 0 0 _ _ _ hm hW hS (lv_sub hl [3, 4, 5, 6, 7, 8, 2, 1, 0] rfl)
  refine lv_icmp_le (tgt := 39) hx hb dX11_near_34 (by decide) (fun h => absurd h c1000011) (fun _ => ?_)
  refine lv_iconst (v := (-1)) hx hb dX11_near_37 (by decide) ?_
  exact e_i C hW hS hm dX11_near_38
theorem dX11_hop_0 : decode cX11_hop 0 = .ok (.aload_n 0, 1) := by decide +kernel
theorem dX11_hop_1 : decode cX11_hop 1 = .ok (.getfield 51, 3) := by decide +kernel
theorem dX11_hop_4 : decode cX11_hop 4 = .ok (.iload_n 1, 1) := by decide +kernel
theorem dX11_hop_5 : decode cX11_hop 5 = .ok (.invokevirtual 317, 3) := by decide +kernel
theorem dX11_hop_8 : decode cX11_hop 8 = .ok (.astore_n 3, 1) := by decide +kernel
theorem dX11_hop_9 : decode cX11_hop 9 = .ok (.aload_n 3, 1) := by decide +kernel
theorem dX11_hop_10 : decode cX11_hop 10 = .ok (.ifnull 7, 3) := by decide +kernel
theorem dX11_hop_13 : decode cX11_hop 13 = .ok (.iload_n 2, 1) := by decide +kernel
theorem dX11_hop_14 : decode cX11_hop 14 = .ok (.ifCond .ge 7, 3) := by decide +kernel
theorem dX11_hop_17 : decode cX11_hop 17 = .ok (.iconst (-1), 1) := by decide +kernel
theorem dX11_hop_18 : decode cX11_hop 18 = .ok (.goto 8, 3) := by decide +kernel
theorem dX11_hop_21 : decode cX11_hop 21 = .ok (.aload_n 3, 1) := by decide +kernel
theorem dX11_hop_22 : decode cX11_hop 22 = .ok (.iload_n 2, 1) := by decide +kernel
theorem dX11_hop_23 : decode cX11_hop 23 = .ok (.invokevirtual 321, 3) := by decide +kernel
theorem dX11_hop_26 : decode cX11_hop 26 = .ok (.ireturn, 1) := by decide +kernel
set_option maxRecDepth 100000 in
theorem c_X11_hop (l : Launch) (D : q_D) (al : q_Al) (dt : q_Dt) (x0 : Nat) (x1 : Int32) (x2 : Int32) (kx0 : al.1 x0 = 12) (r0 : Int32) (hm : X11_hop al dt x0 x1 x2 = some r0) : q_Mt l yX11_hop cX11_hop 4 (some FieldType.int) 2 47 D al [.ref x0, .int x1, .int x2] dt 0 (some (.int r0)) dt := by
  refine q_Mt.of (by decide) (Nat.le_of_ble_eq_true rfl) ?_
  intro p e s m args below meth c ls C hargs hW hl
  have hx := C.1
  have hb := C.2.1
  have hown := C.2.2.2.2.2.1
  have hts := C.2.2.2.2.2.2.1
  have hS : va_S (q_A al) s.heap s.heap [] := va_S.rf
  have hl : lv_has ls 4 [(0, .ref x0), (1, .int x1), (2, .int x2)] := hl
  unfold X11_hop at hm
  have hB17 : ∀ (H : Heap) (locs : List Loc) (ls : Array Slot) (hm : X11_hop_b17 al dt = some r0) (hW : q_W D al dt H) (hS : va_S (q_A al) s.heap H locs) (hl : lv_has ls 4 []), W p l e { frames := 2, cells := 0, slots := 0, locals := 47 } s m args below meth c H locs 0 0 (MQ below (q_Q (some (.int r0)) (fun H => q_W D al dt H ∧ q_Rk al 0 (some (.int r0))) (q_A al)) args s 0 0 (q_A al)) (F0 m 17 ls []) := by
    intro H locs ls hm hW hS hl
    unfold X11_hop_b17 at hm
    refine lv_iconst (v := (-1)) hx hb dX11_hop_17 (by decide) ?_
    refine lv_goto (tgt := 26) hx hb dX11_hop_18 (by decide) ?_
    exact e_i C hW hS hm dX11_hop_26
  refine lv_aload_n hx hb dX11_hop_0 rfl (lv_at hl 0 rfl) ?_
  refine r_getQ C hW hm (ci := 11) kx0 ff_11_6 cl_11 fl_RX11_51 dX11_hop_1 (fun o1000001 eo1000001 k1000002 hm => ?_)
  refine lv_iload_n hx hb dX11_hop_4 rfl (lv_at hl 1 rfl) ?_
  obtain ⟨b1000003, e1000004, hq1000005⟩ := q_mi hm
  subst e1000004
  have hm := hq1000005
  have k1000006 := k1000002 b1000003 rfl
  obtain ⟨v1000008, hc1000007, hm⟩ := q_b1i hm
  refine q_callV C hW hS (As := [.int x1]) (rest := []) (st1 := [va_rf v1000008]) (c_X10_hopAt l D al dt b1000003 x1 k1000006 v1000008 hc1000007) yl_X10_hopAt vl_X10_hopAt ml_RX11_317 (ci := 10) rfl k1000006 (by decide) rfl ⟨Nat.le_of_ble_eq_true rfl, Nat.le_of_ble_eq_true rfl⟩ hl rfl (Nat.le_of_ble_eq_true rfl) dX11_hop_5 ⟨Nat.le_refl _, Nat.le_refl _⟩ rfl (fun H locs k1000009 hW hS => ?_)
  have k1000009 := q_rk k1000009 (by decide)
  refine q_astoreQ_n (i := 3) (lv' := [(3, va_rf v1000008), (0, .ref x0), (1, .int x1), (2, .int x2)]) C dX11_hop_8 rfl hl (by decide) rfl (fun ls hl => ?_)
  refine q_aloadQ_n C dX11_hop_9 rfl (lv_at hl 0 rfl) ?_
  refine q_ifnull C hm (tgt := 17) dX11_hop_10 (by decide) (fun e1000012 hq1000013 => ?_) (fun b1000010 e1000012 hq1000013 => ?_)
  · subst e1000012
    have hm := hq1000013
    exact hB17 _ _ _ hm hW hS (lv_sub hl [] rfl)
  subst e1000012
  have hm := hq1000013
  have k1000011 := k1000009 b1000010 rfl
  refine lv_iload_n hx hb dX11_hop_13 rfl (lv_at hl 3 rfl) ?_
  refine q_ifc hm (fun c1000014 hm => ?_) (fun c1000014 hm => ?_)
  · refine lv_if_ge (tgt := 21) hx hb dX11_hop_14 (by decide) (fun _ => ?_) (fun h => absurd c1000014 h)
    refine lv_aload_n hx hb dX11_hop_21 rfl (lv_at hl 0 rfl) ?_
    refine lv_iload_n hx hb dX11_hop_22 rfl (lv_at hl 3 rfl) ?_
    obtain ⟨v1000016, hc1000015, hm⟩ := q_b1i hm
    refine q_callV C hW hS (As := [.int x2]) (rest := []) (st1 := [.int v1000016]) (c_X1_channelAt l D al dt b1000010 x2 k1000011 v1000016 hc1000015) yl_X1_channelAt vl_X1_channelAt ml_RX11_321 (ci := 1) rfl k1000011 (by decide) rfl ⟨Nat.le_of_ble_eq_true rfl, Nat.le_of_ble_eq_true rfl⟩ hl rfl (Nat.le_of_ble_eq_true rfl) dX11_hop_23 ⟨Nat.le_refl _, Nat.le_refl _⟩ rfl (fun H locs k1000017 hW hS => ?_)
    exact e_i C hW hS hm dX11_hop_26
  refine lv_if_ge (tgt := 21) hx hb dX11_hop_14 (by decide) (fun h => absurd h c1000014) (fun _ => ?_)
  exact hB17 _ _ _ hm hW hS (lv_sub hl [] rfl)
theorem dX11_likePrimed_0 : decode cX11_likePrimed 0 = .ok (.aload_n 0, 1) := by decide +kernel
theorem dX11_likePrimed_1 : decode cX11_likePrimed 1 = .ok (.ifnull 22, 3) := by decide +kernel
theorem dX11_likePrimed_4 : decode cX11_likePrimed 4 = .ok (.aload_n 1, 1) := by decide +kernel
theorem dX11_likePrimed_5 : decode cX11_likePrimed 5 = .ok (.ifnull 18, 3) := by decide +kernel
theorem dX11_likePrimed_8 : decode cX11_likePrimed 8 = .ok (.aload_n 0, 1) := by decide +kernel
theorem dX11_likePrimed_9 : decode cX11_likePrimed 9 = .ok (.getfield 330, 3) := by decide +kernel
theorem dX11_likePrimed_12 : decode cX11_likePrimed 12 = .ok (.aload_n 1, 1) := by decide +kernel
theorem dX11_likePrimed_13 : decode cX11_likePrimed 13 = .ok (.getfield 330, 3) := by decide +kernel
theorem dX11_likePrimed_16 : decode cX11_likePrimed 16 = .ok (.if_icmp .ne 7, 3) := by decide +kernel
theorem dX11_likePrimed_19 : decode cX11_likePrimed 19 = .ok (.iconst 1, 1) := by decide +kernel
theorem dX11_likePrimed_20 : decode cX11_likePrimed 20 = .ok (.goto 4, 3) := by decide +kernel
theorem dX11_likePrimed_23 : decode cX11_likePrimed 23 = .ok (.iconst 0, 1) := by decide +kernel
theorem dX11_likePrimed_24 : decode cX11_likePrimed 24 = .ok (.ireturn, 1) := by decide +kernel
set_option maxRecDepth 100000 in
theorem c_X11_likePrimed (l : Launch) (D : q_D) (al : q_Al) (dt : q_Dt) (x0 : Option Nat) (x1 : Option Nat) (kx0 : ∀ b, x0 = some b → al.1 b = 2) (kx1 : ∀ b, x1 = some b → al.1 b = 2) (r0 : Int32) (hm : X11_likePrimed al dt x0 x1 = some r0) : q_Mt l yX11_likePrimed cX11_likePrimed 2 (some FieldType.boolean) 0 0 D al [va_rf x0, va_rf x1] dt 0 (some (.int r0)) dt := by
  refine q_Mt.of (by decide) (by simp [lg_sl, q_cat, q_catR, q_catI, q_catL]) ?_
  intro p e s m args below meth c ls C hargs hW hl
  have hx := C.1
  have hb := C.2.1
  have hown := C.2.2.2.2.2.1
  have hts := C.2.2.2.2.2.2.1
  have hS : va_S (q_A al) s.heap s.heap [] := va_S.rf
  have hl : lv_has ls 2 [(0, va_rf x0), (1, va_rf x1)] := by simpa [lv_args, q_cat, q_catR, q_catI, q_catL] using hl
  unfold X11_likePrimed at hm
  refine q_aloadQ_n C dX11_likePrimed_0 rfl (lv_at hl 0 rfl) ?_
  refine q_ifnull C hm (tgt := 23) dX11_likePrimed_1 (by decide) (fun e1000003 hq1000004 => ?_) (fun b1000001 e1000003 hq1000004 => ?_)
  · subst e1000003
    have hm := hq1000004
    refine lv_iconst (v := 0) hx hb dX11_likePrimed_23 (by decide) ?_
    exact e_zl C hW hS (Or.inl rfl) hm dX11_likePrimed_24
  subst e1000003
  have hm := hq1000004
  have k1000002 := kx0 b1000001 rfl
  refine q_aloadQ_n C dX11_likePrimed_4 rfl (lv_at hl 1 rfl) ?_
  refine q_ifnull C hm (tgt := 23) dX11_likePrimed_5 (by decide) (fun e1000007 hq1000008 => ?_) (fun b1000005 e1000007 hq1000008 => ?_)
  · subst e1000007
    have hm := hq1000008
    refine lv_iconst (v := 0) hx hb dX11_likePrimed_23 (by decide) ?_
    exact e_zl C hW hS (Or.inl rfl) hm dX11_likePrimed_24
  subst e1000007
  have hm := hq1000008
  have k1000006 := kx1 b1000005 rfl
  refine lv_aload_n hx hb dX11_likePrimed_8 rfl (lv_at hl 0 rfl) ?_
  refine r_getI C hW (ci := 1) k1000002 ff_1_0 cl_1 fl_RX11_330 dX11_likePrimed_9 ?_
  refine lv_aload_n hx hb dX11_likePrimed_12 rfl (lv_at hl 1 rfl) ?_
  refine r_getI C hW (ci := 1) k1000006 ff_1_0 cl_1 fl_RX11_330 dX11_likePrimed_13 ?_
  refine q_ifc hm (fun c1000009 hm => ?_) (fun c1000009 hm => ?_)
  · refine lv_icmp_ne (tgt := 23) hx hb dX11_likePrimed_16 (by decide) (fun h => absurd c1000009 h) (fun _ => ?_)
    refine lv_iconst (v := 1) hx hb dX11_likePrimed_19 (by decide) ?_
    refine lv_goto (tgt := 24) hx hb dX11_likePrimed_20 (by decide) ?_
    exact e_zl C hW hS (Or.inr rfl) hm dX11_likePrimed_24
  refine lv_icmp_ne (tgt := 23) hx hb dX11_likePrimed_16 (by decide) (fun _ => ?_) (fun h => absurd h c1000009)
  refine lv_iconst (v := 0) hx hb dX11_likePrimed_23 (by decide) ?_
  exact e_zl C hW hS (Or.inl rfl) hm dX11_likePrimed_24
theorem dX11_hits_0 : decode cX11_hits 0 = .ok (.aload_n 0, 1) := by decide +kernel
theorem dX11_hits_1 : decode cX11_hits 1 = .ok (.getfield 51, 3) := by decide +kernel
theorem dX11_hits_4 : decode cX11_hits 4 = .ok (.iload_n 1, 1) := by decide +kernel
theorem dX11_hits_5 : decode cX11_hits 5 = .ok (.invokevirtual 317, 3) := by decide +kernel
theorem dX11_hits_8 : decode cX11_hits 8 = .ok (.astore 4, 2) := by decide +kernel
theorem dX11_hits_10 : decode cX11_hits 10 = .ok (.aload_n 0, 1) := by decide +kernel
theorem dX11_hits_11 : decode cX11_hits 11 = .ok (.getfield 51, 3) := by decide +kernel
theorem dX11_hits_14 : decode cX11_hits 14 = .ok (.iload_n 2, 1) := by decide +kernel
theorem dX11_hits_15 : decode cX11_hits 15 = .ok (.invokevirtual 317, 3) := by decide +kernel
theorem dX11_hits_18 : decode cX11_hits 18 = .ok (.astore 5, 2) := by decide +kernel
theorem dX11_hits_20 : decode cX11_hits 20 = .ok (.aload 4, 2) := by decide +kernel
theorem dX11_hits_22 : decode cX11_hits 22 = .ok (.aload 5, 2) := by decide +kernel
theorem dX11_hits_24 : decode cX11_hits 24 = .ok (.invokestatic 326, 3) := by decide +kernel
theorem dX11_hits_27 : decode cX11_hits 27 = .ok (.ifCond .eq 16, 3) := by decide +kernel
theorem dX11_hits_30 : decode cX11_hits 30 = .ok (.iload_n 3, 1) := by decide +kernel
theorem dX11_hits_31 : decode cX11_hits 31 = .ok (.ifCond .lt 12, 3) := by decide +kernel
theorem dX11_hits_34 : decode cX11_hits 34 = .ok (.iload_n 3, 1) := by decide +kernel
theorem dX11_hits_35 : decode cX11_hits 35 = .ok (.aload 4, 2) := by decide +kernel
theorem dX11_hits_37 : decode cX11_hits 37 = .ok (.getfield 330, 3) := by decide +kernel
theorem dX11_hits_40 : decode cX11_hits 40 = .ok (.if_icmp .lt 5, 3) := by decide +kernel
theorem dX11_hits_43 : decode cX11_hits 43 = .ok (.iconst (-1), 1) := by decide +kernel
theorem dX11_hits_44 : decode cX11_hits 44 = .ok (.ireturn, 1) := by decide +kernel
theorem dX11_hits_45 : decode cX11_hits 45 = .ok (.aload 4, 2) := by decide +kernel
theorem dX11_hits_47 : decode cX11_hits 47 = .ok (.aload 5, 2) := by decide +kernel
theorem dX11_hits_49 : decode cX11_hits 49 = .ok (.iload_n 3, 1) := by decide +kernel
theorem dX11_hits_50 : decode cX11_hits 50 = .ok (.invokevirtual 333, 3) := by decide +kernel
theorem dX11_hits_53 : decode cX11_hits 53 = .ok (.ireturn, 1) := by decide +kernel
set_option maxRecDepth 100000 in
theorem c_X11_hits (l : Launch) (D : q_D) (al : q_Al) (dt : q_Dt) (x0 : Nat) (x1 : Int32) (x2 : Int32) (x3 : Int32) (kx0 : al.1 x0 = 12) (r0 : Int32) (hm : X11_hits al dt x0 x1 x2 x3 = some r0) : q_Mt l yX11_hits cX11_hits 6 (some FieldType.int) 3 71 D al [.ref x0, .int x1, .int x2, .int x3] dt 0 (some (.int r0)) dt := by
  refine q_Mt.of (by decide) (Nat.le_of_ble_eq_true rfl) ?_
  intro p e s m args below meth c ls C hargs hW hl
  have hx := C.1
  have hb := C.2.1
  have hown := C.2.2.2.2.2.1
  have hts := C.2.2.2.2.2.2.1
  have hS : va_S (q_A al) s.heap s.heap [] := va_S.rf
  have hl : lv_has ls 6 [(0, .ref x0), (1, .int x1), (2, .int x2), (3, .int x3)] := hl
  unfold X11_hits at hm
  refine lv_aload_n hx hb dX11_hits_0 rfl (lv_at hl 0 rfl) ?_
  refine r_getQ C hW hm (ci := 11) kx0 ff_11_6 cl_11 fl_RX11_51 dX11_hits_1 (fun o1000001 eo1000001 k1000002 hm => ?_)
  refine lv_iload_n hx hb dX11_hits_4 rfl (lv_at hl 1 rfl) ?_
  obtain ⟨b1000003, e1000004, hq1000005⟩ := q_mi hm
  subst e1000004
  have hm := hq1000005
  have k1000006 := k1000002 b1000003 rfl
  obtain ⟨v1000008, hc1000007, hm⟩ := q_b1i hm
  refine q_callV C hW hS (As := [.int x1]) (rest := []) (st1 := [va_rf v1000008]) (c_X10_hopAt l D al dt b1000003 x1 k1000006 v1000008 hc1000007) yl_X10_hopAt vl_X10_hopAt ml_RX11_317 (ci := 10) rfl k1000006 (by decide) rfl ⟨Nat.le_of_ble_eq_true rfl, Nat.le_of_ble_eq_true rfl⟩ hl rfl (Nat.le_of_ble_eq_true rfl) dX11_hits_5 ⟨Nat.le_refl _, Nat.le_refl _⟩ rfl (fun H locs k1000009 hW hS => ?_)
  have k1000009 := q_rk k1000009 (by decide)
  refine q_astoreQ (i := 4) (lv' := [(4, va_rf v1000008), (0, .ref x0), (1, .int x1), (2, .int x2), (3, .int x3)]) C dX11_hits_8 hl (by decide) rfl (fun ls hl => ?_)
  refine lv_aload_n hx hb dX11_hits_10 rfl (lv_at hl 1 rfl) ?_
  refine r_getQ C hW hm (ci := 11) kx0 ff_11_6 cl_11 fl_RX11_51 dX11_hits_11 (fun o1000010 eo1000010 k1000011 hm => ?_)
  refine lv_iload_n hx hb dX11_hits_14 rfl (lv_at hl 3 rfl) ?_
  obtain ⟨b1000012, e1000013, hq1000014⟩ := q_mi hm
  subst e1000013
  have hm := hq1000014
  have k1000015 := k1000011 b1000012 rfl
  obtain ⟨v1000017, hc1000016, hm⟩ := q_b1i hm
  refine q_callV C hW hS (As := [.int x2]) (rest := []) (st1 := [va_rf v1000017]) (c_X10_hopAt l D al dt b1000012 x2 k1000015 v1000017 hc1000016) yl_X10_hopAt vl_X10_hopAt ml_RX11_317 (ci := 10) rfl k1000015 (by decide) rfl ⟨Nat.le_of_ble_eq_true rfl, Nat.le_of_ble_eq_true rfl⟩ hl rfl (Nat.le_of_ble_eq_true rfl) dX11_hits_15 ⟨Nat.le_refl _, Nat.le_refl _⟩ rfl (fun H locs k1000018 hW hS => ?_)
  have k1000018 := q_rk k1000018 (by decide)
  refine q_astoreQ (i := 5) (lv' := [(5, va_rf v1000017), (4, va_rf v1000008), (0, .ref x0), (1, .int x1), (2, .int x2), (3, .int x3)]) C dX11_hits_18 hl (by decide) (by simp [q_cat, q_catR, q_catI, q_catL] <;> rfl) (fun ls hl => ?_)
  refine q_aloadQ C dX11_hits_20 (lv_at hl 1 rfl) ?_
  refine q_aloadQ C dX11_hits_22 (lv_at hl 0 rfl) ?_
  obtain ⟨v1000020, hc1000019, hm⟩ := q_b1i hm
  refine q_callS C hW hS (As := [va_rf v1000008, va_rf v1000017]) (rest := []) (st1 := [.int v1000020]) (c_X11_likePrimed l D al dt v1000008 v1000017 k1000009 k1000018 v1000020 hc1000019) yl_X11_likePrimed sl_X11_likePrimed ml_RX11_326 rfl ⟨Nat.le_of_ble_eq_true rfl, Nat.le_of_ble_eq_true rfl⟩ hl rfl (Nat.le_of_ble_eq_true rfl) dX11_hits_24 ⟨Nat.le_refl _, Nat.le_refl _⟩ rfl (fun H locs k1000021 hW hS => ?_)
  refine q_ifc hm (fun c1000022 hm => ?_) (fun c1000022 hm => ?_)
  · refine lv_if_eq (tgt := 43) hx hb dX11_hits_27 (by decide) (fun _ => ?_) (fun h => absurd c1000022 h)
    refine lv_iconst (v := (-1)) hx hb dX11_hits_43 (by decide) ?_
    exact e_i C hW hS hm dX11_hits_44
  refine lv_if_eq (tgt := 43) hx hb dX11_hits_27 (by decide) (fun h => absurd h c1000022) (fun _ => ?_)
  refine lv_iload_n hx hb dX11_hits_30 rfl (lv_at hl 5 rfl) ?_
  refine q_ifc hm (fun c1000023 hm => ?_) (fun c1000023 hm => ?_)
  · refine lv_if_lt (tgt := 43) hx hb dX11_hits_31 (by decide) (fun _ => ?_) (fun h => absurd c1000023 h)
    refine lv_iconst (v := (-1)) hx hb dX11_hits_43 (by decide) ?_
    exact e_i C hW hS hm dX11_hits_44
  refine lv_if_lt (tgt := 43) hx hb dX11_hits_31 (by decide) (fun h => absurd h c1000023) (fun _ => ?_)
  refine lv_iload_n hx hb dX11_hits_34 rfl (lv_at hl 5 rfl) ?_
  refine q_aloadQ C dX11_hits_35 (lv_at hl 1 rfl) ?_
  obtain ⟨b1000024, e1000025, hq1000026⟩ := q_mi hm
  subst e1000025
  have hm := hq1000026
  have k1000027 := k1000009 b1000024 rfl
  refine r_getI C hW (ci := 1) k1000027 ff_1_0 cl_1 fl_RX11_330 dX11_hits_37 ?_
  refine q_ifc hm (fun c1000028 hm => ?_) (fun c1000028 hm => ?_)
  · refine lv_icmp_lt (tgt := 45) hx hb dX11_hits_40 (by decide) (fun _ => ?_) (fun h => absurd c1000028 h)
    refine lv_aload hx hb dX11_hits_45 (lv_at hl 1 rfl) ?_
    refine q_aloadQ C dX11_hits_47 (lv_at hl 0 rfl) ?_
    refine lv_iload_n hx hb dX11_hits_49 rfl (lv_at hl 5 rfl) ?_
    obtain ⟨v1000030, hc1000029, hm⟩ := q_b1i hm
    refine q_callV C hW hS (As := [va_rf v1000017, .int x3]) (rest := []) (st1 := [.int v1000030]) (c_X1_meets l D al dt b1000024 v1000017 x3 k1000027 k1000018 v1000030 hc1000029) yl_X1_meets vl_X1_meets ml_RX11_333 (ci := 1) rfl k1000027 (by decide) rfl ⟨Nat.le_of_ble_eq_true rfl, Nat.le_of_ble_eq_true rfl⟩ hl rfl (Nat.le_of_ble_eq_true rfl) dX11_hits_50 ⟨Nat.le_refl _, Nat.le_refl _⟩ rfl (fun H locs k1000031 hW hS => ?_)
    exact e_i C hW hS hm dX11_hits_53
  refine lv_icmp_lt (tgt := 45) hx hb dX11_hits_40 (by decide) (fun h => absurd h c1000028) (fun _ => ?_)
  refine lv_iconst (v := (-1)) hx hb dX11_hits_43 (by decide) ?_
  exact e_i C hW hS hm dX11_hits_44
theorem dX11_worstHits_0 : decode cX11_worstHits 0 = .ok (.aload_n 0, 1) := by decide +kernel
theorem dX11_worstHits_1 : decode cX11_worstHits 1 = .ok (.getfield 51, 3) := by decide +kernel
theorem dX11_worstHits_4 : decode cX11_worstHits 4 = .ok (.iload_n 1, 1) := by decide +kernel
theorem dX11_worstHits_5 : decode cX11_worstHits 5 = .ok (.invokevirtual 317, 3) := by decide +kernel
theorem dX11_worstHits_8 : decode cX11_worstHits 8 = .ok (.astore_n 3, 1) := by decide +kernel
theorem dX11_worstHits_9 : decode cX11_worstHits 9 = .ok (.aload_n 0, 1) := by decide +kernel
theorem dX11_worstHits_10 : decode cX11_worstHits 10 = .ok (.getfield 51, 3) := by decide +kernel
theorem dX11_worstHits_13 : decode cX11_worstHits 13 = .ok (.iload_n 2, 1) := by decide +kernel
theorem dX11_worstHits_14 : decode cX11_worstHits 14 = .ok (.invokevirtual 317, 3) := by decide +kernel
theorem dX11_worstHits_17 : decode cX11_worstHits 17 = .ok (.astore 4, 2) := by decide +kernel
theorem dX11_worstHits_19 : decode cX11_worstHits 19 = .ok (.aload_n 3, 1) := by decide +kernel
theorem dX11_worstHits_20 : decode cX11_worstHits 20 = .ok (.aload 4, 2) := by decide +kernel
theorem dX11_worstHits_22 : decode cX11_worstHits 22 = .ok (.invokestatic 326, 3) := by decide +kernel
theorem dX11_worstHits_25 : decode cX11_worstHits 25 = .ok (.ifCond .ne 5, 3) := by decide +kernel
theorem dX11_worstHits_28 : decode cX11_worstHits 28 = .ok (.iconst (-1), 1) := by decide +kernel
theorem dX11_worstHits_29 : decode cX11_worstHits 29 = .ok (.ireturn, 1) := by decide +kernel
theorem dX11_worstHits_30 : decode cX11_worstHits 30 = .ok (.iconst 0, 1) := by decide +kernel
theorem dX11_worstHits_31 : decode cX11_worstHits 31 = .ok (.istore 5, 2) := by decide +kernel
theorem dX11_worstHits_33 : decode cX11_worstHits 33 = .ok (.iload_n 1, 1) := by decide +kernel
theorem dX11_worstHits_34 : decode cX11_worstHits 34 = .ok (.iload_n 2, 1) := by decide +kernel
theorem dX11_worstHits_35 : decode cX11_worstHits 35 = .ok (.if_icmp .ne 7, 3) := by decide +kernel
theorem dX11_worstHits_38 : decode cX11_worstHits 38 = .ok (.iconst 1, 1) := by decide +kernel
theorem dX11_worstHits_39 : decode cX11_worstHits 39 = .ok (.goto 4, 3) := by decide +kernel
theorem dX11_worstHits_42 : decode cX11_worstHits 42 = .ok (.iconst 0, 1) := by decide +kernel
theorem dX11_worstHits_43 : decode cX11_worstHits 43 = .ok (.istore 6, 2) := by decide +kernel
theorem dX11_worstHits_45 : decode cX11_worstHits 45 = .ok (.iload 6, 2) := by decide +kernel
theorem dX11_worstHits_47 : decode cX11_worstHits 47 = .ok (.aload_n 3, 1) := by decide +kernel
theorem dX11_worstHits_48 : decode cX11_worstHits 48 = .ok (.getfield 330, 3) := by decide +kernel
theorem dX11_worstHits_51 : decode cX11_worstHits 51 = .ok (.if_icmp .ge 24, 3) := by decide +kernel
theorem dX11_worstHits_54 : decode cX11_worstHits 54 = .ok (.iload 5, 2) := by decide +kernel
theorem dX11_worstHits_56 : decode cX11_worstHits 56 = .ok (.aload_n 3, 1) := by decide +kernel
theorem dX11_worstHits_57 : decode cX11_worstHits 57 = .ok (.aload 4, 2) := by decide +kernel
theorem dX11_worstHits_59 : decode cX11_worstHits 59 = .ok (.iload 6, 2) := by decide +kernel
theorem dX11_worstHits_61 : decode cX11_worstHits 61 = .ok (.invokevirtual 333, 3) := by decide +kernel
theorem dX11_worstHits_64 : decode cX11_worstHits 64 = .ok (.invokestatic 337, 3) := by decide +kernel
theorem dX11_worstHits_67 : decode cX11_worstHits 67 = .ok (.istore 5, 2) := by decide +kernel
theorem dX11_worstHits_69 : decode cX11_worstHits 69 = .ok (.iinc 6 1, 3) := by decide +kernel
theorem dX11_worstHits_72 : decode cX11_worstHits 72 = .ok (.goto (-27), 3) := by decide +kernel
theorem dX11_worstHits_75 : decode cX11_worstHits 75 = .ok (.iload 5, 2) := by decide +kernel
theorem dX11_worstHits_77 : decode cX11_worstHits 77 = .ok (.ireturn, 1) := by decide +kernel
set_option maxRecDepth 100000 in
theorem c_X11_worstHits (l : Launch) (D : q_D) (al : q_Al) (dt : q_Dt) (x0 : Nat) (x1 : Int32) (x2 : Int32) (kx0 : al.1 x0 = 12) (r0 : Int32) (hm : X11_worstHits al dt x0 x1 x2 = some r0) : q_Mt l yX11_worstHits cX11_worstHits 7 (some FieldType.int) 3 71 D al [.ref x0, .int x1, .int x2] dt 0 (some (.int r0)) dt := by
  refine q_Mt.of (by decide) (Nat.le_of_ble_eq_true rfl) ?_
  intro p e s m args below meth c ls C hargs hW hl
  have hx := C.1
  have hb := C.2.1
  have hown := C.2.2.2.2.2.1
  have hts := C.2.2.2.2.2.2.1
  have hS : va_S (q_A al) s.heap s.heap [] := va_S.rf
  have hl : lv_has ls 7 [(0, .ref x0), (1, .int x1), (2, .int x2)] := hl
  unfold X11_worstHits at hm
  have hB45 : ∀ (x3_45 : Option Nat) (x4_45 : Option Nat) (kx3_45 : ∀ b, x3_45 = some b → al.1 b = 2) (kx4_45 : ∀ b, x4_45 = some b → al.1 b = 2) (n_45 : Nat) (x5_45 : Int32) (x6_45 : Int32) (H : Heap) (locs : List Loc) (ls : Array Slot) (hm : X11_worstHits_b45 al dt x3_45 x4_45 n_45 x5_45 x6_45 = some r0) (hW : q_W D al dt H) (hS : va_S (q_A al) s.heap H locs) (hl : lv_has ls 7 [(3, va_rf x3_45), (4, va_rf x4_45), (5, .int x5_45), (6, .int x6_45)]), W p l e { frames := 3, cells := 0, slots := 0, locals := 71 } s m args below meth c H locs 0 0 (MQ below (q_Q (some (.int r0)) (fun H => q_W D al dt H ∧ q_Rk al 0 (some (.int r0))) (q_A al)) args s 0 0 (q_A al)) (F0 m 45 ls []) := by
    intro x3_45 x4_45 kx3_45 kx4_45
    intro n_45
    induction n_45 with
    | zero => intro x5_45 x6_45 H locs ls hm hW hS hl; cases hm
    | succ n_45 ih45 =>
      intro x5_45 x6_45 H locs ls hm hW hS hl
      rw [X11_worstHits_b45] at hm
      refine lv_iload hx hb dX11_worstHits_45 (lv_at hl 3 rfl) ?_
      refine q_aloadQ_n C dX11_worstHits_47 rfl (lv_at hl 0 rfl) ?_
      obtain ⟨b45001, e45002, hq45003⟩ := q_mi hm
      subst e45002
      have hm := hq45003
      have k45004 := kx3_45 b45001 rfl
      refine r_getI C hW (ci := 1) k45004 ff_1_0 cl_1 fl_RX11_330 dX11_worstHits_48 ?_
      refine q_ifc hm (fun c45005 hm => ?_) (fun c45005 hm => ?_)
      · refine lv_icmp_ge (tgt := 75) hx hb dX11_worstHits_51 (by decide) (fun _ => ?_) (fun h => absurd c45005 h)
        refine lv_iload hx hb dX11_worstHits_75 (lv_at hl 2 rfl) ?_
        exact e_i C hW hS hm dX11_worstHits_77
      refine lv_icmp_ge (tgt := 75) hx hb dX11_worstHits_51 (by decide) (fun h => absurd h c45005) (fun _ => ?_)
      refine lv_iload hx hb dX11_worstHits_54 (lv_at hl 2 rfl) ?_
      refine lv_aload_n hx hb dX11_worstHits_56 rfl (lv_at hl 0 rfl) ?_
      refine q_aloadQ C dX11_worstHits_57 (lv_at hl 1 rfl) ?_
      refine lv_iload hx hb dX11_worstHits_59 (lv_at hl 3 rfl) ?_
      obtain ⟨v45007, hc45006, hm⟩ := q_b1i hm
      refine q_callV C hW hS (As := [va_rf x4_45, .int x6_45]) (rest := [.int x5_45]) (st1 := [.int v45007, .int x5_45]) (c_X1_meets l D al dt b45001 x4_45 x6_45 k45004 kx4_45 v45007 hc45006) yl_X1_meets vl_X1_meets ml_RX11_333 (ci := 1) rfl k45004 (by decide) rfl ⟨Nat.le_of_ble_eq_true rfl, Nat.le_of_ble_eq_true rfl⟩ hl rfl (Nat.le_of_ble_eq_true rfl) dX11_worstHits_61 ⟨Nat.le_refl _, Nat.le_refl _⟩ rfl (fun H locs k45008 hW hS => ?_)
      refine q_mmax C hl wm_RX11_337 wms_max wmi wmc_max (Nat.le_of_ble_eq_true rfl) (Nat.le_of_ble_eq_true rfl) ⟨Nat.le_refl _, Nat.le_refl _⟩ dX11_worstHits_64 ?_
      refine lv_istore (i := 5) (lv' := [(5, .int (q_max x5_45 v45007)), (3, .ref b45001), (4, va_rf x4_45), (6, .int x6_45)]) hx hb dX11_worstHits_67 hl (by decide) (by simp [q_cat, q_catR, q_catI, q_catL] <;> rfl) (fun ls hl => ?_)
      refine lv_iinc (v := (x6_45 + 1)) (lv' := [(6, .int (x6_45 + 1)), (5, .int (q_max x5_45 v45007)), (3, .ref b45001), (4, va_rf x4_45)]) hx hb dX11_worstHits_69 hl (k := 3) rfl rfl (by decide) rfl (fun ls hl => ?_)
      refine lv_goto (tgt := 45) hx hb dX11_worstHits_72 (by decide) ?_
      exact ih45 (q_max x5_45 v45007) (x6_45 + 1) _ _ _ hm hW hS (lv_sub hl [2, 3, 1, 0] rfl)
  have hB43 : ∀ (x3_43 : Option Nat) (x4_43 : Option Nat) (x5_43 : Int32) (t0_43 : Int32) (kx3_43 : ∀ b, x3_43 = some b → al.1 b = 2) (kx4_43 : ∀ b, x4_43 = some b → al.1 b = 2) (H : Heap) (locs : List Loc) (ls : Array Slot) (hm : X11_worstHits_b43 al dt x3_43 x4_43 x5_43 t0_43 = some r0) (hW : q_W D al dt H) (hS : va_S (q_A al) s.heap H locs) (hl : lv_has ls 7 [(3, va_rf x3_43), (4, va_rf x4_43), (5, .int x5_43)]), W p l e { frames := 3, cells := 0, slots := 0, locals := 71 } s m args below meth c H locs 0 0 (MQ below (q_Q (some (.int r0)) (fun H => q_W D al dt H ∧ q_Rk al 0 (some (.int r0))) (q_A al)) args s 0 0 (q_A al)) (F0 m 43 ls [.int t0_43]) := by
    intro x3_43 x4_43 x5_43 t0_43 kx3_43 kx4_43 H locs ls hm hW hS hl
    unfold X11_worstHits_b43 at hm
    refine lv_istore (i := 6) (lv' := [(6, .int t0_43), (3, va_rf x3_43), (4, va_rf x4_43), (5, .int x5_43)]) hx hb dX11_worstHits_43 hl (by decide) rfl (fun ls hl => ?_)
    exact hB45 x3_43 x4_43 kx3_43 kx4_43 q_FU x5_43 t0_43 _ _ _ hm hW hS (lv_sub hl [1, 2, 3, 0] rfl)
  refine lv_aload_n hx hb dX11_worstHits_0 rfl (lv_at hl 0 rfl) ?_
  refine r_getQ C hW hm (ci := 11) kx0 ff_11_6 cl_11 fl_RX11_51 dX11_worstHits_1 (fun o1000001 eo1000001 k1000002 hm => ?_)
  refine lv_iload_n hx hb dX11_worstHits_4 rfl (lv_at hl 1 rfl) ?_
  obtain ⟨b1000003, e1000004, hq1000005⟩ := q_mi hm
  subst e1000004
  have hm := hq1000005
  have k1000006 := k1000002 b1000003 rfl
  obtain ⟨v1000008, hc1000007, hm⟩ := q_b1i hm
  refine q_callV C hW hS (As := [.int x1]) (rest := []) (st1 := [va_rf v1000008]) (c_X10_hopAt l D al dt b1000003 x1 k1000006 v1000008 hc1000007) yl_X10_hopAt vl_X10_hopAt ml_RX11_317 (ci := 10) rfl k1000006 (by decide) rfl ⟨Nat.le_of_ble_eq_true rfl, Nat.le_of_ble_eq_true rfl⟩ hl rfl (Nat.le_of_ble_eq_true rfl) dX11_worstHits_5 ⟨Nat.le_refl _, Nat.le_refl _⟩ rfl (fun H locs k1000009 hW hS => ?_)
  have k1000009 := q_rk k1000009 (by decide)
  refine q_astoreQ_n (i := 3) (lv' := [(3, va_rf v1000008), (0, .ref x0), (1, .int x1), (2, .int x2)]) C dX11_worstHits_8 rfl hl (by decide) rfl (fun ls hl => ?_)
  refine lv_aload_n hx hb dX11_worstHits_9 rfl (lv_at hl 1 rfl) ?_
  refine r_getQ C hW hm (ci := 11) kx0 ff_11_6 cl_11 fl_RX11_51 dX11_worstHits_10 (fun o1000010 eo1000010 k1000011 hm => ?_)
  refine lv_iload_n hx hb dX11_worstHits_13 rfl (lv_at hl 3 rfl) ?_
  obtain ⟨b1000012, e1000013, hq1000014⟩ := q_mi hm
  subst e1000013
  have hm := hq1000014
  have k1000015 := k1000011 b1000012 rfl
  obtain ⟨v1000017, hc1000016, hm⟩ := q_b1i hm
  refine q_callV C hW hS (As := [.int x2]) (rest := []) (st1 := [va_rf v1000017]) (c_X10_hopAt l D al dt b1000012 x2 k1000015 v1000017 hc1000016) yl_X10_hopAt vl_X10_hopAt ml_RX11_317 (ci := 10) rfl k1000015 (by decide) rfl ⟨Nat.le_of_ble_eq_true rfl, Nat.le_of_ble_eq_true rfl⟩ hl rfl (Nat.le_of_ble_eq_true rfl) dX11_worstHits_14 ⟨Nat.le_refl _, Nat.le_refl _⟩ rfl (fun H locs k1000018 hW hS => ?_)
  have k1000018 := q_rk k1000018 (by decide)
  refine q_astoreQ (i := 4) (lv' := [(4, va_rf v1000017), (3, va_rf v1000008), (0, .ref x0), (1, .int x1), (2, .int x2)]) C dX11_worstHits_17 hl (by decide) (by simp [q_cat, q_catR, q_catI, q_catL] <;> rfl) (fun ls hl => ?_)
  refine q_aloadQ_n C dX11_worstHits_19 rfl (lv_at hl 1 rfl) ?_
  refine q_aloadQ C dX11_worstHits_20 (lv_at hl 0 rfl) ?_
  obtain ⟨v1000020, hc1000019, hm⟩ := q_b1i hm
  refine q_callS C hW hS (As := [va_rf v1000008, va_rf v1000017]) (rest := []) (st1 := [.int v1000020]) (c_X11_likePrimed l D al dt v1000008 v1000017 k1000009 k1000018 v1000020 hc1000019) yl_X11_likePrimed sl_X11_likePrimed ml_RX11_326 rfl ⟨Nat.le_of_ble_eq_true rfl, Nat.le_of_ble_eq_true rfl⟩ hl rfl (Nat.le_of_ble_eq_true rfl) dX11_worstHits_22 ⟨Nat.le_refl _, Nat.le_refl _⟩ rfl (fun H locs k1000021 hW hS => ?_)
  refine q_ifc hm (fun c1000022 hm => ?_) (fun c1000022 hm => ?_)
  · refine lv_if_ne (tgt := 30) hx hb dX11_worstHits_25 (by decide) (fun h => absurd c1000022 h) (fun _ => ?_)
    refine lv_iconst (v := (-1)) hx hb dX11_worstHits_28 (by decide) ?_
    exact e_i C hW hS hm dX11_worstHits_29
  refine lv_if_ne (tgt := 30) hx hb dX11_worstHits_25 (by decide) (fun _ => ?_) (fun h => absurd h c1000022)
  refine lv_iconst (v := 0) hx hb dX11_worstHits_30 (by decide) ?_
  refine lv_istore (i := 5) (lv' := [(5, .int 0), (4, va_rf v1000017), (3, va_rf v1000008), (0, .ref x0), (1, .int x1), (2, .int x2)]) hx hb dX11_worstHits_31 hl (by decide) (by simp [q_cat, q_catR, q_catI, q_catL] <;> rfl) (fun ls hl => ?_)
  refine lv_iload_n hx hb dX11_worstHits_33 rfl (lv_at hl 4 rfl) ?_
  refine lv_iload_n hx hb dX11_worstHits_34 rfl (lv_at hl 5 rfl) ?_
  refine q_ifc hm (fun c1000023 hm => ?_) (fun c1000023 hm => ?_)
  · refine lv_icmp_ne (tgt := 42) hx hb dX11_worstHits_35 (by decide) (fun h => absurd c1000023 h) (fun _ => ?_)
    refine lv_iconst (v := 1) hx hb dX11_worstHits_38 (by decide) ?_
    refine lv_goto (tgt := 43) hx hb dX11_worstHits_39 (by decide) ?_
    exact hB43 v1000008 v1000017 0 1 k1000009 k1000018 _ _ _ hm hW hS (lv_sub hl [2, 1, 0] rfl)
  refine lv_icmp_ne (tgt := 42) hx hb dX11_worstHits_35 (by decide) (fun _ => ?_) (fun h => absurd h c1000023)
  refine lv_iconst (v := 0) hx hb dX11_worstHits_42 (by decide) ?_
  exact hB43 v1000008 v1000017 0 0 k1000009 k1000018 _ _ _ hm hW hS (lv_sub hl [2, 1, 0] rfl)
theorem dX11_crowded_0 : decode cX11_crowded 0 = .ok (.iload_n 2, 1) := by decide +kernel
theorem dX11_crowded_1 : decode cX11_crowded 1 = .ok (.ifCond .lt 19, 3) := by decide +kernel
theorem dX11_crowded_4 : decode cX11_crowded 4 = .ok (.iload_n 3, 1) := by decide +kernel
theorem dX11_crowded_5 : decode cX11_crowded 5 = .ok (.iload_n 2, 1) := by decide +kernel
theorem dX11_crowded_6 : decode cX11_crowded 6 = .ok (.if_icmp .lt 14, 3) := by decide +kernel
theorem dX11_crowded_9 : decode cX11_crowded 9 = .ok (.iload_n 3, 1) := by decide +kernel
theorem dX11_crowded_10 : decode cX11_crowded 10 = .ok (.sipush 999, 3) := by decide +kernel
theorem dX11_crowded_13 : decode cX11_crowded 13 = .ok (.if_icmp .gt 7, 3) := by decide +kernel
theorem dX11_crowded_16 : decode cX11_crowded 16 = .ok (.iconst 1, 1) := by decide +kernel
theorem dX11_crowded_17 : decode cX11_crowded 17 = .ok (.goto 4, 3) := by decide +kernel
theorem dX11_crowded_20 : decode cX11_crowded 20 = .ok (.iconst 0, 1) := by decide +kernel
theorem dX11_crowded_21 : decode cX11_crowded 21 = .ok (.istore 4, 2) := by decide +kernel
theorem dX11_crowded_23 : decode cX11_crowded 23 = .ok (.iload 4, 2) := by decide +kernel
theorem dX11_crowded_25 : decode cX11_crowded 25 = .ok (.ifCond .eq 20, 3) := by decide +kernel
theorem dX11_crowded_28 : decode cX11_crowded 28 = .ok (.iload_n 1, 1) := by decide +kernel
theorem dX11_crowded_29 : decode cX11_crowded 29 = .ok (.ifCond .lt 16, 3) := by decide +kernel
theorem dX11_crowded_32 : decode cX11_crowded 32 = .ok (.iload_n 1, 1) := by decide +kernel
theorem dX11_crowded_33 : decode cX11_crowded 33 = .ok (.iconst 1, 1) := by decide +kernel
theorem dX11_crowded_34 : decode cX11_crowded 34 = .ok (.aload_n 0, 1) := by decide +kernel
theorem dX11_crowded_35 : decode cX11_crowded 35 = .ok (.getfield 51, 3) := by decide +kernel
theorem dX11_crowded_38 : decode cX11_crowded 38 = .ok (.getfield 342, 3) := by decide +kernel
theorem dX11_crowded_41 : decode cX11_crowded 41 = .ok (.ishl, 1) := by decide +kernel
theorem dX11_crowded_42 : decode cX11_crowded 42 = .ok (.if_icmp .lt 5, 3) := by decide +kernel
theorem dX11_crowded_45 : decode cX11_crowded 45 = .ok (.iconst (-1), 1) := by decide +kernel
theorem dX11_crowded_46 : decode cX11_crowded 46 = .ok (.ireturn, 1) := by decide +kernel
theorem dX11_crowded_47 : decode cX11_crowded 47 = .ok (.iconst 0, 1) := by decide +kernel
theorem dX11_crowded_48 : decode cX11_crowded 48 = .ok (.istore 5, 2) := by decide +kernel
theorem dX11_crowded_50 : decode cX11_crowded 50 = .ok (.iload_n 2, 1) := by decide +kernel
theorem dX11_crowded_51 : decode cX11_crowded 51 = .ok (.istore 6, 2) := by decide +kernel
theorem dX11_crowded_53 : decode cX11_crowded 53 = .ok (.iload 6, 2) := by decide +kernel
theorem dX11_crowded_55 : decode cX11_crowded 55 = .ok (.iload_n 3, 1) := by decide +kernel
theorem dX11_crowded_56 : decode cX11_crowded 56 = .ok (.if_icmp .gt 25, 3) := by decide +kernel
theorem dX11_crowded_59 : decode cX11_crowded 59 = .ok (.aload_n 0, 1) := by decide +kernel
theorem dX11_crowded_60 : decode cX11_crowded 60 = .ok (.getfield 51, 3) := by decide +kernel
theorem dX11_crowded_63 : decode cX11_crowded 63 = .ok (.iload_n 1, 1) := by decide +kernel
theorem dX11_crowded_64 : decode cX11_crowded 64 = .ok (.iload 6, 2) := by decide +kernel
theorem dX11_crowded_66 : decode cX11_crowded 66 = .ok (.invokevirtual 345, 3) := by decide +kernel
theorem dX11_crowded_69 : decode cX11_crowded 69 = .ok (.ifCond .eq 6, 3) := by decide +kernel
theorem dX11_crowded_72 : decode cX11_crowded 72 = .ok (.iinc 5 1, 3) := by decide +kernel
theorem dX11_crowded_75 : decode cX11_crowded 75 = .ok (.iinc 6 1, 3) := by decide +kernel
theorem dX11_crowded_78 : decode cX11_crowded 78 = .ok (.goto (-25), 3) := by decide +kernel
theorem dX11_crowded_81 : decode cX11_crowded 81 = .ok (.iload 5, 2) := by decide +kernel
theorem dX11_crowded_83 : decode cX11_crowded 83 = .ok (.ireturn, 1) := by decide +kernel
set_option maxRecDepth 100000 in
theorem c_X11_crowded (l : Launch) (D : q_D) (al : q_Al) (dt : q_Dt) (x0 : Nat) (x1 : Int32) (x2 : Int32) (x3 : Int32) (kx0 : al.1 x0 = 12) (r0 : Int32) (hm : X11_crowded al dt x0 x1 x2 x3 = some r0) : q_Mt l yX11_crowded cX11_crowded 7 (some FieldType.int) 3 73 D al [.ref x0, .int x1, .int x2, .int x3] dt 0 (some (.int r0)) dt := by
  refine q_Mt.of (by decide) (Nat.le_of_ble_eq_true rfl) ?_
  intro p e s m args below meth c ls C hargs hW hl
  have hx := C.1
  have hb := C.2.1
  have hown := C.2.2.2.2.2.1
  have hts := C.2.2.2.2.2.2.1
  have hS : va_S (q_A al) s.heap s.heap [] := va_S.rf
  have hl : lv_has ls 7 [(0, .ref x0), (1, .int x1), (2, .int x2), (3, .int x3)] := hl
  unfold X11_crowded at hm
  have hB53 : ∀ (x0_53 : Nat) (x1_53 : Int32) (x3_53 : Int32) (kx0_53 : al.1 x0_53 = 12) (n_53 : Nat) (x5_53 : Int32) (x6_53 : Int32) (H : Heap) (locs : List Loc) (ls : Array Slot) (hm : X11_crowded_b53 al dt x0_53 x1_53 x3_53 n_53 x5_53 x6_53 = some r0) (hW : q_W D al dt H) (hS : va_S (q_A al) s.heap H locs) (hl : lv_has ls 7 [(0, .ref x0_53), (1, .int x1_53), (3, .int x3_53), (5, .int x5_53), (6, .int x6_53)]), W p l e { frames := 3, cells := 0, slots := 0, locals := 73 } s m args below meth c H locs 0 0 (MQ below (q_Q (some (.int r0)) (fun H => q_W D al dt H ∧ q_Rk al 0 (some (.int r0))) (q_A al)) args s 0 0 (q_A al)) (F0 m 53 ls []) := by
    intro x0_53 x1_53 x3_53 kx0_53
    intro n_53
    induction n_53 with
    | zero => intro x5_53 x6_53 H locs ls hm hW hS hl; cases hm
    | succ n_53 ih53 =>
      have hB75 : ∀ (x5_75 : Int32) (x6_75 : Int32) (H : Heap) (locs : List Loc) (ls : Array Slot) (hm : X11_crowded_b75 al dt (X11_crowded_b53 al dt x0_53 x1_53 x3_53 n_53) x0_53 x1_53 x3_53 x5_75 x6_75 = some r0) (hW : q_W D al dt H) (hS : va_S (q_A al) s.heap H locs) (hl : lv_has ls 7 [(0, .ref x0_53), (1, .int x1_53), (3, .int x3_53), (5, .int x5_75), (6, .int x6_75)]), W p l e { frames := 3, cells := 0, slots := 0, locals := 73 } s m args below meth c H locs 0 0 (MQ below (q_Q (some (.int r0)) (fun H => q_W D al dt H ∧ q_Rk al 0 (some (.int r0))) (q_A al)) args s 0 0 (q_A al)) (F0 m 75 ls []) := by
        intro x5_75 x6_75 H locs ls hm hW hS hl
        unfold X11_crowded_b75 at hm
        refine lv_iinc (v := (x6_75 + 1)) (lv' := [(6, .int (x6_75 + 1)), (0, .ref x0_53), (1, .int x1_53), (3, .int x3_53), (5, .int x5_75)]) hx hb dX11_crowded_75 hl (k := 4) rfl rfl (by decide) rfl (fun ls hl => ?_)
        refine lv_goto (tgt := 53) hx hb dX11_crowded_78 (by decide) ?_
        exact ih53 x5_75 (x6_75 + 1) _ _ _ hm hW hS (lv_sub hl [1, 2, 3, 4, 0] rfl)
      intro x5_53 x6_53 H locs ls hm hW hS hl
      rw [X11_crowded_b53] at hm
      refine lv_iload hx hb dX11_crowded_53 (lv_at hl 4 rfl) ?_
      refine lv_iload_n hx hb dX11_crowded_55 rfl (lv_at hl 2 rfl) ?_
      refine q_ifc hm (fun c53001 hm => ?_) (fun c53001 hm => ?_)
      · refine lv_icmp_gt (tgt := 81) hx hb dX11_crowded_56 (by decide) (fun _ => ?_) (fun h => absurd c53001 h)
        refine lv_iload hx hb dX11_crowded_81 (lv_at hl 3 rfl) ?_
        exact e_i C hW hS hm dX11_crowded_83
      refine lv_icmp_gt (tgt := 81) hx hb dX11_crowded_56 (by decide) (fun h => absurd h c53001) (fun _ => ?_)
      refine lv_aload_n hx hb dX11_crowded_59 rfl (lv_at hl 0 rfl) ?_
      refine r_getQ C hW hm (ci := 11) kx0_53 ff_11_6 cl_11 fl_RX11_51 dX11_crowded_60 (fun o53002 eo53002 k53003 hm => ?_)
      refine lv_iload_n hx hb dX11_crowded_63 rfl (lv_at hl 1 rfl) ?_
      refine lv_iload hx hb dX11_crowded_64 (lv_at hl 4 rfl) ?_
      obtain ⟨b53004, e53005, hq53006⟩ := q_mi hm
      subst e53005
      have hm := hq53006
      have k53007 := k53003 b53004 rfl
      obtain ⟨v53009, hc53008, hm⟩ := q_b1i hm
      refine q_callV C hW hS (As := [.int x1_53, .int x6_53]) (rest := []) (st1 := [.int v53009]) (c_X10_isCrowded l D al dt b53004 x1_53 x6_53 k53007 v53009 hc53008) yl_X10_isCrowded vl_X10_isCrowded ml_RX11_345 (ci := 10) rfl k53007 (by decide) rfl ⟨Nat.le_of_ble_eq_true rfl, Nat.le_of_ble_eq_true rfl⟩ hl rfl (Nat.le_of_ble_eq_true rfl) dX11_crowded_66 ⟨Nat.le_refl _, Nat.le_refl _⟩ rfl (fun H locs k53010 hW hS => ?_)
      refine q_ifc hm (fun c53011 hm => ?_) (fun c53011 hm => ?_)
      · refine lv_if_eq (tgt := 75) hx hb dX11_crowded_69 (by decide) (fun _ => ?_) (fun h => absurd c53011 h)
        exact hB75 x5_53 x6_53 _ _ _ hm hW hS (lv_sub hl [0, 1, 2, 3, 4] rfl)
      refine lv_if_eq (tgt := 75) hx hb dX11_crowded_69 (by decide) (fun h => absurd h c53011) (fun _ => ?_)
      refine lv_iinc (v := (x5_53 + 1)) (lv' := [(5, .int (x5_53 + 1)), (0, .ref x0_53), (1, .int x1_53), (3, .int x3_53), (6, .int x6_53)]) hx hb dX11_crowded_72 hl (k := 3) rfl rfl (by decide) rfl (fun ls hl => ?_)
      exact hB75 (x5_53 + 1) x6_53 _ _ _ hm hW hS (lv_sub hl [1, 2, 3, 0, 4] rfl)
  have hB21 : ∀ (x0_21 : Nat) (x1_21 : Int32) (x2_21 : Int32) (x3_21 : Int32) (t0_21 : Int32) (kx0_21 : al.1 x0_21 = 12) (H : Heap) (locs : List Loc) (ls : Array Slot) (hm : X11_crowded_b21 al dt x0_21 x1_21 x2_21 x3_21 t0_21 = some r0) (hW : q_W D al dt H) (hS : va_S (q_A al) s.heap H locs) (hl : lv_has ls 7 [(0, .ref x0_21), (1, .int x1_21), (2, .int x2_21), (3, .int x3_21)]), W p l e { frames := 3, cells := 0, slots := 0, locals := 73 } s m args below meth c H locs 0 0 (MQ below (q_Q (some (.int r0)) (fun H => q_W D al dt H ∧ q_Rk al 0 (some (.int r0))) (q_A al)) args s 0 0 (q_A al)) (F0 m 21 ls [.int t0_21]) := by
    intro x0_21 x1_21 x2_21 x3_21 t0_21 kx0_21 H locs ls hm hW hS hl
    unfold X11_crowded_b21 at hm
    refine lv_istore (i := 4) (lv' := [(4, .int t0_21), (0, .ref x0_21), (1, .int x1_21), (2, .int x2_21), (3, .int x3_21)]) hx hb dX11_crowded_21 hl (by decide) rfl (fun ls hl => ?_)
    refine lv_iload hx hb dX11_crowded_23 (lv_at hl 0 rfl) ?_
    refine q_ifc hm (fun c21001 hm => ?_) (fun c21001 hm => ?_)
    · refine lv_if_eq (tgt := 45) hx hb dX11_crowded_25 (by decide) (fun _ => ?_) (fun h => absurd c21001 h)
      refine lv_iconst (v := (-1)) hx hb dX11_crowded_45 (by decide) ?_
      exact e_i C hW hS hm dX11_crowded_46
    refine lv_if_eq (tgt := 45) hx hb dX11_crowded_25 (by decide) (fun h => absurd h c21001) (fun _ => ?_)
    refine lv_iload_n hx hb dX11_crowded_28 rfl (lv_at hl 2 rfl) ?_
    refine q_ifc hm (fun c21002 hm => ?_) (fun c21002 hm => ?_)
    · refine lv_if_lt (tgt := 45) hx hb dX11_crowded_29 (by decide) (fun _ => ?_) (fun h => absurd c21002 h)
      refine lv_iconst (v := (-1)) hx hb dX11_crowded_45 (by decide) ?_
      exact e_i C hW hS hm dX11_crowded_46
    refine lv_if_lt (tgt := 45) hx hb dX11_crowded_29 (by decide) (fun h => absurd h c21002) (fun _ => ?_)
    refine lv_iload_n hx hb dX11_crowded_32 rfl (lv_at hl 2 rfl) ?_
    refine lv_iconst (v := 1) hx hb dX11_crowded_33 (by decide) ?_
    refine lv_aload_n hx hb dX11_crowded_34 rfl (lv_at hl 1 rfl) ?_
    refine r_getQ C hW hm (ci := 11) kx0_21 ff_11_6 cl_11 fl_RX11_51 dX11_crowded_35 (fun o21003 eo21003 k21004 hm => ?_)
    obtain ⟨b21005, e21006, hq21007⟩ := q_mi hm
    subst e21006
    have hm := hq21007
    have k21008 := k21004 b21005 rfl
    refine r_getI C hW (ci := 10) k21008 ff_10_8 cl_10 fl_RX11_342 dX11_crowded_38 ?_
    refine lv_ishl hx hb dX11_crowded_41 ?_
    refine q_ifc hm (fun c21009 hm => ?_) (fun c21009 hm => ?_)
    · refine lv_icmp_lt (tgt := 47) hx hb dX11_crowded_42 (by decide) (fun _ => ?_) (fun h => absurd c21009 h)
      refine lv_iconst (v := 0) hx hb dX11_crowded_47 (by decide) ?_
      refine lv_istore (i := 5) (lv' := [(5, .int 0), (4, .int t0_21), (0, .ref x0_21), (1, .int x1_21), (2, .int x2_21), (3, .int x3_21)]) hx hb dX11_crowded_48 hl (by decide) rfl (fun ls hl => ?_)
      refine lv_iload_n hx hb dX11_crowded_50 rfl (lv_at hl 4 rfl) ?_
      refine lv_istore (i := 6) (lv' := [(6, .int x2_21), (5, .int 0), (4, .int t0_21), (0, .ref x0_21), (1, .int x1_21), (2, .int x2_21), (3, .int x3_21)]) hx hb dX11_crowded_51 hl (by decide) rfl (fun ls hl => ?_)
      exact hB53 x0_21 x1_21 x3_21 kx0_21 q_FU 0 x2_21 _ _ _ hm hW hS (lv_sub hl [3, 4, 6, 1, 0] rfl)
    refine lv_icmp_lt (tgt := 47) hx hb dX11_crowded_42 (by decide) (fun h => absurd h c21009) (fun _ => ?_)
    refine lv_iconst (v := (-1)) hx hb dX11_crowded_45 (by decide) ?_
    exact e_i C hW hS hm dX11_crowded_46
  have hB20 : ∀ (x0_20 : Nat) (x1_20 : Int32) (x2_20 : Int32) (x3_20 : Int32) (kx0_20 : al.1 x0_20 = 12) (H : Heap) (locs : List Loc) (ls : Array Slot) (hm : X11_crowded_b20 al dt x0_20 x1_20 x2_20 x3_20 = some r0) (hW : q_W D al dt H) (hS : va_S (q_A al) s.heap H locs) (hl : lv_has ls 7 [(0, .ref x0_20), (1, .int x1_20), (2, .int x2_20), (3, .int x3_20)]), W p l e { frames := 3, cells := 0, slots := 0, locals := 73 } s m args below meth c H locs 0 0 (MQ below (q_Q (some (.int r0)) (fun H => q_W D al dt H ∧ q_Rk al 0 (some (.int r0))) (q_A al)) args s 0 0 (q_A al)) (F0 m 20 ls []) := by
    intro x0_20 x1_20 x2_20 x3_20 kx0_20 H locs ls hm hW hS hl
    unfold X11_crowded_b20 at hm
    refine lv_iconst (v := 0) hx hb dX11_crowded_20 (by decide) ?_
    exact hB21 x0_20 x1_20 x2_20 x3_20 0 kx0_20 _ _ _ hm hW hS (lv_sub hl [0, 1, 2, 3] rfl)
  refine lv_iload_n hx hb dX11_crowded_0 rfl (lv_at hl 2 rfl) ?_
  refine q_ifc hm (fun c1000001 hm => ?_) (fun c1000001 hm => ?_)
  · refine lv_if_lt (tgt := 20) hx hb dX11_crowded_1 (by decide) (fun _ => ?_) (fun h => absurd c1000001 h)
    exact hB20 x0 x1 x2 x3 kx0 _ _ _ hm hW hS (lv_sub hl [0, 1, 2, 3] rfl)
  refine lv_if_lt (tgt := 20) hx hb dX11_crowded_1 (by decide) (fun h => absurd h c1000001) (fun _ => ?_)
  refine lv_iload_n hx hb dX11_crowded_4 rfl (lv_at hl 3 rfl) ?_
  refine lv_iload_n hx hb dX11_crowded_5 rfl (lv_at hl 2 rfl) ?_
  refine q_ifc hm (fun c1000002 hm => ?_) (fun c1000002 hm => ?_)
  · refine lv_icmp_lt (tgt := 20) hx hb dX11_crowded_6 (by decide) (fun _ => ?_) (fun h => absurd c1000002 h)
    exact hB20 x0 x1 x2 x3 kx0 _ _ _ hm hW hS (lv_sub hl [0, 1, 2, 3] rfl)
  refine lv_icmp_lt (tgt := 20) hx hb dX11_crowded_6 (by decide) (fun h => absurd h c1000002) (fun _ => ?_)
  refine lv_iload_n hx hb dX11_crowded_9 rfl (lv_at hl 3 rfl) ?_
  refine lv_sipush (v := 999) hx hb dX11_crowded_10 (by decide) ?_
  refine q_ifc hm (fun c1000003 hm => ?_) (fun c1000003 hm => ?_)
  · refine lv_icmp_gt (tgt := 20) hx hb dX11_crowded_13 (by decide) (fun _ => ?_) (fun h => absurd c1000003 h)
    exact hB20 x0 x1 x2 x3 kx0 _ _ _ hm hW hS (lv_sub hl [0, 1, 2, 3] rfl)
  refine lv_icmp_gt (tgt := 20) hx hb dX11_crowded_13 (by decide) (fun h => absurd h c1000003) (fun _ => ?_)
  refine lv_iconst (v := 1) hx hb dX11_crowded_16 (by decide) ?_
  refine lv_goto (tgt := 21) hx hb dX11_crowded_17 (by decide) ?_
  exact hB21 x0 x1 x2 x3 1 kx0 _ _ _ hm hW hS (lv_sub hl [0, 1, 2, 3] rfl)
