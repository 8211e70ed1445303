theorem dX12_addsNoise_0 : decode cX12_addsNoise 0 = .ok (.iconst 0, 1) := by decide +kernel
theorem dX12_addsNoise_1 : decode cX12_addsNoise 1 = .ok (.istore_n 3, 1) := by decide +kernel
theorem dX12_addsNoise_2 : decode cX12_addsNoise 2 = .ok (.iload_n 3, 1) := by decide +kernel
theorem dX12_addsNoise_3 : decode cX12_addsNoise 3 = .ok (.aload_n 0, 1) := by decide +kernel
theorem dX12_addsNoise_4 : decode cX12_addsNoise 4 = .ok (.invokevirtual 342, 3) := by decide +kernel
theorem dX12_addsNoise_7 : decode cX12_addsNoise 7 = .ok (.if_icmp .ge 61, 3) := by decide +kernel
theorem dX12_addsNoise_10 : decode cX12_addsNoise 10 = .ok (.aload_n 0, 1) := by decide +kernel
theorem dX12_addsNoise_11 : decode cX12_addsNoise 11 = .ok (.getfield 133, 3) := by decide +kernel
theorem dX12_addsNoise_14 : decode cX12_addsNoise 14 = .ok (.iload_n 3, 1) := by decide +kernel
theorem dX12_addsNoise_15 : decode cX12_addsNoise 15 = .ok (.dup2, 1) := by decide +kernel
theorem dX12_addsNoise_16 : decode cX12_addsNoise 16 = .ok (.iaload, 1) := by decide +kernel
theorem dX12_addsNoise_17 : decode cX12_addsNoise 17 = .ok (.iload_n 2, 1) := by decide +kernel
theorem dX12_addsNoise_18 : decode cX12_addsNoise 18 = .ok (.iconst 2, 1) := by decide +kernel
theorem dX12_addsNoise_19 : decode cX12_addsNoise 19 = .ok (.iload_n 3, 1) := by decide +kernel
theorem dX12_addsNoise_20 : decode cX12_addsNoise 20 = .ok (.imul, 1) := by decide +kernel
theorem dX12_addsNoise_21 : decode cX12_addsNoise 21 = .ok (.iconst 2, 1) := by decide +kernel
theorem dX12_addsNoise_22 : decode cX12_addsNoise 22 = .ok (.iload_n 1, 1) := by decide +kernel
theorem dX12_addsNoise_23 : decode cX12_addsNoise 23 = .ok (.imul, 1) := by decide +kernel
theorem dX12_addsNoise_24 : decode cX12_addsNoise 24 = .ok (.iconst 1, 1) := by decide +kernel
theorem dX12_addsNoise_25 : decode cX12_addsNoise 25 = .ok (.iadd, 1) := by decide +kernel
theorem dX12_addsNoise_26 : decode cX12_addsNoise 26 = .ok (.invokestatic 363, 3) := by decide +kernel
theorem dX12_addsNoise_29 : decode cX12_addsNoise 29 = .ok (.iload_n 1, 1) := by decide +kernel
theorem dX12_addsNoise_30 : decode cX12_addsNoise 30 = .ok (.isub, 1) := by decide +kernel
theorem dX12_addsNoise_31 : decode cX12_addsNoise 31 = .ok (.iadd, 1) := by decide +kernel
theorem dX12_addsNoise_32 : decode cX12_addsNoise 32 = .ok (.iastore, 1) := by decide +kernel
theorem dX12_addsNoise_33 : decode cX12_addsNoise 33 = .ok (.aload_n 0, 1) := by decide +kernel
theorem dX12_addsNoise_34 : decode cX12_addsNoise 34 = .ok (.getfield 133, 3) := by decide +kernel
theorem dX12_addsNoise_37 : decode cX12_addsNoise 37 = .ok (.sipush 512, 3) := by decide +kernel
theorem dX12_addsNoise_40 : decode cX12_addsNoise 40 = .ok (.iload_n 3, 1) := by decide +kernel
theorem dX12_addsNoise_41 : decode cX12_addsNoise 41 = .ok (.iadd, 1) := by decide +kernel
theorem dX12_addsNoise_42 : decode cX12_addsNoise 42 = .ok (.dup2, 1) := by decide +kernel
theorem dX12_addsNoise_43 : decode cX12_addsNoise 43 = .ok (.iaload, 1) := by decide +kernel
theorem dX12_addsNoise_44 : decode cX12_addsNoise 44 = .ok (.iload_n 2, 1) := by decide +kernel
theorem dX12_addsNoise_45 : decode cX12_addsNoise 45 = .ok (.iconst 2, 1) := by decide +kernel
theorem dX12_addsNoise_46 : decode cX12_addsNoise 46 = .ok (.iload_n 3, 1) := by decide +kernel
theorem dX12_addsNoise_47 : decode cX12_addsNoise 47 = .ok (.imul, 1) := by decide +kernel
theorem dX12_addsNoise_48 : decode cX12_addsNoise 48 = .ok (.iconst 1, 1) := by decide +kernel
theorem dX12_addsNoise_49 : decode cX12_addsNoise 49 = .ok (.iadd, 1) := by decide +kernel
theorem dX12_addsNoise_50 : decode cX12_addsNoise 50 = .ok (.iconst 2, 1) := by decide +kernel
theorem dX12_addsNoise_51 : decode cX12_addsNoise 51 = .ok (.iload_n 1, 1) := by decide +kernel
theorem dX12_addsNoise_52 : decode cX12_addsNoise 52 = .ok (.imul, 1) := by decide +kernel
theorem dX12_addsNoise_53 : decode cX12_addsNoise 53 = .ok (.iconst 1, 1) := by decide +kernel
theorem dX12_addsNoise_54 : decode cX12_addsNoise 54 = .ok (.iadd, 1) := by decide +kernel
theorem dX12_addsNoise_55 : decode cX12_addsNoise 55 = .ok (.invokestatic 363, 3) := by decide +kernel
theorem dX12_addsNoise_58 : decode cX12_addsNoise 58 = .ok (.iload_n 1, 1) := by decide +kernel
theorem dX12_addsNoise_59 : decode cX12_addsNoise 59 = .ok (.isub, 1) := by decide +kernel
theorem dX12_addsNoise_60 : decode cX12_addsNoise 60 = .ok (.iadd, 1) := by decide +kernel
theorem dX12_addsNoise_61 : decode cX12_addsNoise 61 = .ok (.iastore, 1) := by decide +kernel
theorem dX12_addsNoise_62 : decode cX12_addsNoise 62 = .ok (.iinc 3 1, 3) := by decide +kernel
theorem dX12_addsNoise_65 : decode cX12_addsNoise 65 = .ok (.goto (-63), 3) := by decide +kernel
theorem dX12_addsNoise_68 : decode cX12_addsNoise 68 = .ok (.return_, 1) := by decide +kernel
set_option maxRecDepth 100000 in
theorem c_X12_addsNoise (l : Launch) (D : q_D) (al : q_Al) (dt : q_Dt) (x0 : Nat) (x1 : Int32) (x2 : Int32) (kx0 : al.1 x0 = 13) (dt0 : q_Dt) (hm : X12_addsNoise al dt x0 x1 x2 = some dt0) : q_Mt l yX12_addsNoise cX12_addsNoise 4 (none) 2 44 D al [.ref x0, .int x1, .int x2] dt 0 none dt0 := by
  refine q_Mt.of (by decide) (Nat.le_of_ble_eq_true rfl) ?_
  intro p e s m args below meth c ls C hargs hW hl
  have hx := C.1
  have hb := C.2.1
  have hown := C.2.2.2.2.2.1
  have hts := C.2.2.2.2.2.2.1
  have hS : va_S (q_A al) s.heap s.heap [] := va_S.rf
  have hl : lv_has ls 4 [(0, .ref x0), (1, .int x1), (2, .int x2)] := hl
  unfold X12_addsNoise at hm
  have hB2 : ∀ (x0_2 : Nat) (x1_2 : Int32) (x2_2 : Int32) (kx0_2 : al.1 x0_2 = 13) (n_2 : Nat) (x3_2 : Int32) (dt : q_Dt) (H : Heap) (locs : List Loc) (ls : Array Slot) (hm : X12_addsNoise_b2 al x0_2 x1_2 x2_2 n_2 x3_2 dt = some dt0) (hW : q_W D al dt H) (hS : va_S (q_A al) s.heap H locs) (hl : lv_has ls 4 [(0, .ref x0_2), (1, .int x1_2), (2, .int x2_2), (3, .int x3_2)]), W p l e { frames := 2, cells := 0, slots := 0, locals := 44 } s m args below meth c H locs 0 0 (MQ below (q_Q none (fun H => q_W D al dt0 H ∧ q_Rk al 0 none) (q_A al)) args s 0 0 (q_A al)) (F0 m 2 ls []) := by
    intro x0_2 x1_2 x2_2 kx0_2
    intro n_2
    induction n_2 with
    | zero => intro x3_2 dt H locs ls hm hW hS hl; cases hm
    | succ n_2 ih2 =>
      intro x3_2 dt H locs ls hm hW hS hl
      rw [X12_addsNoise_b2] at hm
      refine lv_iload_n hx hb dX12_addsNoise_2 rfl (lv_at hl 3 rfl) ?_
      refine lv_aload_n hx hb dX12_addsNoise_3 rfl (lv_at hl 0 rfl) ?_
      obtain ⟨v2002, hc2001, hm⟩ := q_b1i hm
      refine q_callV C hW hS (As := []) (rest := [.int x3_2]) (st1 := [.int v2002, .int x3_2]) (c_X12_n l D al dt x0_2 kx0_2 v2002 hc2001) yl_X12_n vl_X12_n ml_RX12_342 (ci := 12) rfl kx0_2 (by decide) rfl ⟨Nat.le_of_ble_eq_true rfl, Nat.le_of_ble_eq_true rfl⟩ hl rfl (Nat.le_of_ble_eq_true rfl) dX12_addsNoise_4 ⟨Nat.le_refl _, Nat.le_refl _⟩ rfl (fun H locs k2003 hW hS => ?_)
      refine q_ifc hm (fun c2004 hm => ?_) (fun c2004 hm => ?_)
      · refine lv_icmp_ge (tgt := 68) hx hb dX12_addsNoise_7 (by decide) (fun _ => ?_) (fun h => absurd c2004 h)
        exact e_vD C hW hS hm dX12_addsNoise_68
      refine lv_icmp_ge (tgt := 68) hx hb dX12_addsNoise_7 (by decide) (fun h => absurd h c2004) (fun _ => ?_)
      refine lv_aload_n hx hb dX12_addsNoise_10 rfl (lv_at hl 0 rfl) ?_
      refine r_getF C hW (ci := 12) kx0_2 ff_12_53 cl_12 fl_RX12_133 dX12_addsNoise_11 (fun k2005 => ?_)
      refine lv_iload_n hx hb dX12_addsNoise_14 rfl (lv_at hl 3 rfl) ?_
      refine lv_dup2_11 hx hb dX12_addsNoise_15 rfl rfl ?_
      refine r_iald C hW hm k2005 dX12_addsNoise_16 (fun hm => ?_)
      refine lv_iload_n hx hb dX12_addsNoise_17 rfl (lv_at hl 2 rfl) ?_
      refine lv_iconst (v := 2) hx hb dX12_addsNoise_18 (by decide) ?_
      refine lv_iload_n hx hb dX12_addsNoise_19 rfl (lv_at hl 3 rfl) ?_
      refine lv_imul hx hb dX12_addsNoise_20 ?_
      refine lv_iconst (v := 2) hx hb dX12_addsNoise_21 (by decide) ?_
      refine lv_iload_n hx hb dX12_addsNoise_22 rfl (lv_at hl 1 rfl) ?_
      refine lv_imul hx hb dX12_addsNoise_23 ?_
      refine lv_iconst (v := 1) hx hb dX12_addsNoise_24 (by decide) ?_
      refine lv_iadd hx hb dX12_addsNoise_25 ?_
      obtain ⟨v2007, hc2006, hm⟩ := q_b1i hm
      refine q_callS C hW hS (As := [.int x2_2, .int (2 * x3_2), .int ((2 * x1_2) + 1)]) (rest := [.int (dt.1 (al.2.2 x0_2 53) (Int32.toNatClampNeg x3_2)), .int x3_2, .ref (al.2.2 x0_2 53)]) (st1 := [.int v2007, .int (dt.1 (al.2.2 x0_2 53) (Int32.toNatClampNeg x3_2)), .int x3_2, .ref (al.2.2 x0_2 53)]) (c_X12_lot l D al dt x2_2 (2 * x3_2) ((2 * x1_2) + 1) v2007 hc2006) yl_X12_lot sl_X12_lot ml_RX12_363 rfl ⟨Nat.le_of_ble_eq_true rfl, Nat.le_of_ble_eq_true rfl⟩ hl rfl (Nat.le_of_ble_eq_true rfl) dX12_addsNoise_26 ⟨Nat.le_refl _, Nat.le_refl _⟩ rfl (fun H locs k2008 hW hS => ?_)
      refine lv_iload_n hx hb dX12_addsNoise_29 rfl (lv_at hl 1 rfl) ?_
      refine lv_isub hx hb dX12_addsNoise_30 ?_
      refine lv_iadd hx hb dX12_addsNoise_31 ?_
      refine r_iast C hW hS hm k2005 dX12_addsNoise_32 (fun dt2009 H locs hm hW hS => ?_)
      refine lv_aload_n hx hb dX12_addsNoise_33 rfl (lv_at hl 0 rfl) ?_
      refine r_getF C hW (ci := 12) kx0_2 ff_12_53 cl_12 fl_RX12_133 dX12_addsNoise_34 (fun k2010 => ?_)
      refine lv_sipush (v := 512) hx hb dX12_addsNoise_37 (by decide) ?_
      refine lv_iload_n hx hb dX12_addsNoise_40 rfl (lv_at hl 3 rfl) ?_
      refine lv_iadd hx hb dX12_addsNoise_41 ?_
      refine lv_dup2_11 hx hb dX12_addsNoise_42 rfl rfl ?_
      refine r_iald C hW hm k2010 dX12_addsNoise_43 (fun hm => ?_)
      refine lv_iload_n hx hb dX12_addsNoise_44 rfl (lv_at hl 2 rfl) ?_
      refine lv_iconst (v := 2) hx hb dX12_addsNoise_45 (by decide) ?_
      refine lv_iload_n hx hb dX12_addsNoise_46 rfl (lv_at hl 3 rfl) ?_
      refine lv_imul hx hb dX12_addsNoise_47 ?_
      refine lv_iconst (v := 1) hx hb dX12_addsNoise_48 (by decide) ?_
      refine lv_iadd hx hb dX12_addsNoise_49 ?_
      refine lv_iconst (v := 2) hx hb dX12_addsNoise_50 (by decide) ?_
      refine lv_iload_n hx hb dX12_addsNoise_51 rfl (lv_at hl 1 rfl) ?_
      refine lv_imul hx hb dX12_addsNoise_52 ?_
      refine lv_iconst (v := 1) hx hb dX12_addsNoise_53 (by decide) ?_
      refine lv_iadd hx hb dX12_addsNoise_54 ?_
      obtain ⟨v2012, hc2011, hm⟩ := q_b1i hm
      refine q_callS C hW hS (As := [.int x2_2, .int ((2 * x3_2) + 1), .int ((2 * x1_2) + 1)]) (rest := [.int (dt2009.1 (al.2.2 x0_2 53) (Int32.toNatClampNeg (512 + x3_2))), .int (512 + x3_2), .ref (al.2.2 x0_2 53)]) (st1 := [.int v2012, .int (dt2009.1 (al.2.2 x0_2 53) (Int32.toNatClampNeg (512 + x3_2))), .int (512 + x3_2), .ref (al.2.2 x0_2 53)]) (c_X12_lot l D al dt2009 x2_2 ((2 * x3_2) + 1) ((2 * x1_2) + 1) v2012 hc2011) yl_X12_lot sl_X12_lot ml_RX12_363 rfl ⟨Nat.le_of_ble_eq_true rfl, Nat.le_of_ble_eq_true rfl⟩ hl rfl (Nat.le_of_ble_eq_true rfl) dX12_addsNoise_55 ⟨Nat.le_refl _, Nat.le_refl _⟩ rfl (fun H locs k2013 hW hS => ?_)
      refine lv_iload_n hx hb dX12_addsNoise_58 rfl (lv_at hl 1 rfl) ?_
      refine lv_isub hx hb dX12_addsNoise_59 ?_
      refine lv_iadd hx hb dX12_addsNoise_60 ?_
      refine r_iast C hW hS hm k2010 dX12_addsNoise_61 (fun dt2014 H locs hm hW hS => ?_)
      refine lv_iinc (v := (x3_2 + 1)) (lv' := [(3, .int (x3_2 + 1)), (0, .ref x0_2), (1, .int x1_2), (2, .int x2_2)]) hx hb dX12_addsNoise_62 hl (k := 3) rfl rfl (by decide) rfl (fun ls hl => ?_)
      refine lv_goto (tgt := 2) hx hb dX12_addsNoise_65 (by decide) ?_
      exact ih2 (x3_2 + 1) dt2014 _ _ _ hm hW hS (lv_sub hl [1, 2, 3, 0] rfl)
  refine lv_iconst (v := 0) hx hb dX12_addsNoise_0 (by decide) ?_
  refine lv_istore_n (i := 3) (lv' := [(3, .int 0), (0, .ref x0), (1, .int x1), (2, .int x2)]) hx hb dX12_addsNoise_1 rfl hl (by decide) rfl (fun ls hl => ?_)
  exact hB2 x0 x1 x2 kx0 q_FU 0 dt _ _ _ hm hW hS (lv_sub hl [1, 2, 3, 0] rfl)
theorem dX12_lays_0 : decode cX12_lays 0 = .ok (.iconst 0, 1) := by decide +kernel
theorem dX12_lays_1 : decode cX12_lays 1 = .ok (.istore_n 1, 1) := by decide +kernel
theorem dX12_lays_2 : decode cX12_lays 2 = .ok (.iload_n 1, 1) := by decide +kernel
theorem dX12_lays_3 : decode cX12_lays 3 = .ok (.sipush 1024, 3) := by decide +kernel
theorem dX12_lays_6 : decode cX12_lays 6 = .ok (.if_icmp .ge 16, 3) := by decide +kernel
theorem dX12_lays_9 : decode cX12_lays 9 = .ok (.aload_n 0, 1) := by decide +kernel
theorem dX12_lays_10 : decode cX12_lays 10 = .ok (.getfield 133, 3) := by decide +kernel
theorem dX12_lays_13 : decode cX12_lays 13 = .ok (.iload_n 1, 1) := by decide +kernel
theorem dX12_lays_14 : decode cX12_lays 14 = .ok (.iconst 0, 1) := by decide +kernel
theorem dX12_lays_15 : decode cX12_lays 15 = .ok (.iastore, 1) := by decide +kernel
theorem dX12_lays_16 : decode cX12_lays 16 = .ok (.iinc 1 1, 3) := by decide +kernel
theorem dX12_lays_19 : decode cX12_lays 19 = .ok (.goto (-17), 3) := by decide +kernel
theorem dX12_lays_22 : decode cX12_lays 22 = .ok (.iconst 0, 1) := by decide +kernel
theorem dX12_lays_23 : decode cX12_lays 23 = .ok (.istore_n 1, 1) := by decide +kernel
theorem dX12_lays_24 : decode cX12_lays 24 = .ok (.iload_n 1, 1) := by decide +kernel
theorem dX12_lays_25 : decode cX12_lays 25 = .ok (.aload_n 0, 1) := by decide +kernel
theorem dX12_lays_26 : decode cX12_lays 26 = .ok (.getfield 70, 3) := by decide +kernel
theorem dX12_lays_29 : decode cX12_lays 29 = .ok (.aload_n 0, 1) := by decide +kernel
theorem dX12_lays_30 : decode cX12_lays 30 = .ok (.getfield 242, 3) := by decide +kernel
theorem dX12_lays_33 : decode cX12_lays 33 = .ok (.iaload, 1) := by decide +kernel
theorem dX12_lays_34 : decode cX12_lays 34 = .ok (.if_icmp .ge 24, 3) := by decide +kernel
theorem dX12_lays_37 : decode cX12_lays 37 = .ok (.aload_n 0, 1) := by decide +kernel
theorem dX12_lays_38 : decode cX12_lays 38 = .ok (.iload_n 1, 1) := by decide +kernel
theorem dX12_lays_39 : decode cX12_lays 39 = .ok (.invokevirtual 366, 3) := by decide +kernel
theorem dX12_lays_42 : decode cX12_lays 42 = .ok (.aload_n 0, 1) := by decide +kernel
theorem dX12_lays_43 : decode cX12_lays 43 = .ok (.aload_n 0, 1) := by decide +kernel
theorem dX12_lays_44 : decode cX12_lays 44 = .ok (.getfield 133, 3) := by decide +kernel
theorem dX12_lays_47 : decode cX12_lays 47 = .ok (.iload_n 1, 1) := by decide +kernel
theorem dX12_lays_48 : decode cX12_lays 48 = .ok (.iconst 1, 1) := by decide +kernel
theorem dX12_lays_49 : decode cX12_lays 49 = .ok (.invokevirtual 369, 3) := by decide +kernel
theorem dX12_lays_52 : decode cX12_lays 52 = .ok (.iinc 1 1, 3) := by decide +kernel
theorem dX12_lays_55 : decode cX12_lays 55 = .ok (.goto (-31), 3) := by decide +kernel
theorem dX12_lays_58 : decode cX12_lays 58 = .ok (.iconst 0, 1) := by decide +kernel
theorem dX12_lays_59 : decode cX12_lays 59 = .ok (.istore_n 1, 1) := by decide +kernel
theorem dX12_lays_60 : decode cX12_lays 60 = .ok (.iload_n 1, 1) := by decide +kernel
theorem dX12_lays_61 : decode cX12_lays 61 = .ok (.aload_n 0, 1) := by decide +kernel
theorem dX12_lays_62 : decode cX12_lays 62 = .ok (.getfield 103, 3) := by decide +kernel
theorem dX12_lays_65 : decode cX12_lays 65 = .ok (.aload_n 0, 1) := by decide +kernel
theorem dX12_lays_66 : decode cX12_lays 66 = .ok (.getfield 242, 3) := by decide +kernel
theorem dX12_lays_69 : decode cX12_lays 69 = .ok (.iaload, 1) := by decide +kernel
theorem dX12_lays_70 : decode cX12_lays 70 = .ok (.if_icmp .ge 70, 3) := by decide +kernel
theorem dX12_lays_73 : decode cX12_lays 73 = .ok (.iconst 4, 1) := by decide +kernel
theorem dX12_lays_74 : decode cX12_lays 74 = .ok (.aload_n 0, 1) := by decide +kernel
theorem dX12_lays_75 : decode cX12_lays 75 = .ok (.getfield 242, 3) := by decide +kernel
theorem dX12_lays_78 : decode cX12_lays 78 = .ok (.imul, 1) := by decide +kernel
theorem dX12_lays_79 : decode cX12_lays 79 = .ok (.iload_n 1, 1) := by decide +kernel
theorem dX12_lays_80 : decode cX12_lays 80 = .ok (.iadd, 1) := by decide +kernel
theorem dX12_lays_81 : decode cX12_lays 81 = .ok (.istore_n 2, 1) := by decide +kernel
theorem dX12_lays_82 : decode cX12_lays 82 = .ok (.aload_n 0, 1) := by decide +kernel
theorem dX12_lays_83 : decode cX12_lays 83 = .ok (.getfield 106, 3) := by decide +kernel
theorem dX12_lays_86 : decode cX12_lays 86 = .ok (.iload_n 2, 1) := by decide +kernel
theorem dX12_lays_87 : decode cX12_lays 87 = .ok (.iaload, 1) := by decide +kernel
theorem dX12_lays_88 : decode cX12_lays 88 = .ok (.istore_n 3, 1) := by decide +kernel
theorem dX12_lays_89 : decode cX12_lays 89 = .ok (.iload_n 3, 1) := by decide +kernel
theorem dX12_lays_90 : decode cX12_lays 90 = .ok (.aload_n 0, 1) := by decide +kernel
theorem dX12_lays_91 : decode cX12_lays 91 = .ok (.getfield 109, 3) := by decide +kernel
theorem dX12_lays_94 : decode cX12_lays 94 = .ok (.iload_n 2, 1) := by decide +kernel
theorem dX12_lays_95 : decode cX12_lays 95 = .ok (.iaload, 1) := by decide +kernel
theorem dX12_lays_96 : decode cX12_lays 96 = .ok (.if_icmp .gt 38, 3) := by decide +kernel
theorem dX12_lays_99 : decode cX12_lays 99 = .ok (.iload_n 3, 1) := by decide +kernel
theorem dX12_lays_100 : decode cX12_lays 100 = .ok (.aload_n 0, 1) := by decide +kernel
theorem dX12_lays_101 : decode cX12_lays 101 = .ok (.invokevirtual 342, 3) := by decide +kernel
theorem dX12_lays_104 : decode cX12_lays 104 = .ok (.if_icmp .ge 30, 3) := by decide +kernel
theorem dX12_lays_107 : decode cX12_lays 107 = .ok (.aload_n 0, 1) := by decide +kernel
theorem dX12_lays_108 : decode cX12_lays 108 = .ok (.getfield 133, 3) := by decide +kernel
theorem dX12_lays_111 : decode cX12_lays 111 = .ok (.iload_n 3, 1) := by decide +kernel
theorem dX12_lays_112 : decode cX12_lays 112 = .ok (.dup2, 1) := by decide +kernel
theorem dX12_lays_113 : decode cX12_lays 113 = .ok (.iaload, 1) := by decide +kernel
theorem dX12_lays_114 : decode cX12_lays 114 = .ok (.aload_n 0, 1) := by decide +kernel
theorem dX12_lays_115 : decode cX12_lays 115 = .ok (.getfield 112, 3) := by decide +kernel
theorem dX12_lays_118 : decode cX12_lays 118 = .ok (.iload_n 2, 1) := by decide +kernel
theorem dX12_lays_119 : decode cX12_lays 119 = .ok (.iaload, 1) := by decide +kernel
theorem dX12_lays_120 : decode cX12_lays 120 = .ok (.iadd, 1) := by decide +kernel
theorem dX12_lays_121 : decode cX12_lays 121 = .ok (.iastore, 1) := by decide +kernel
theorem dX12_lays_122 : decode cX12_lays 122 = .ok (.iload_n 3, 1) := by decide +kernel
theorem dX12_lays_123 : decode cX12_lays 123 = .ok (.aload_n 0, 1) := by decide +kernel
theorem dX12_lays_124 : decode cX12_lays 124 = .ok (.getfield 115, 3) := by decide +kernel
theorem dX12_lays_127 : decode cX12_lays 127 = .ok (.iload_n 2, 1) := by decide +kernel
theorem dX12_lays_128 : decode cX12_lays 128 = .ok (.iaload, 1) := by decide +kernel
theorem dX12_lays_129 : decode cX12_lays 129 = .ok (.iadd, 1) := by decide +kernel
theorem dX12_lays_130 : decode cX12_lays 130 = .ok (.istore_n 3, 1) := by decide +kernel
theorem dX12_lays_131 : decode cX12_lays 131 = .ok (.goto (-42), 3) := by decide +kernel
theorem dX12_lays_134 : decode cX12_lays 134 = .ok (.iinc 1 1, 3) := by decide +kernel
theorem dX12_lays_137 : decode cX12_lays 137 = .ok (.goto (-77), 3) := by decide +kernel
theorem dX12_lays_140 : decode cX12_lays 140 = .ok (.aload_n 0, 1) := by decide +kernel
theorem dX12_lays_141 : decode cX12_lays 141 = .ok (.getfield 118, 3) := by decide +kernel
theorem dX12_lays_144 : decode cX12_lays 144 = .ok (.aload_n 0, 1) := by decide +kernel
theorem dX12_lays_145 : decode cX12_lays 145 = .ok (.getfield 242, 3) := by decide +kernel
theorem dX12_lays_148 : decode cX12_lays 148 = .ok (.iaload, 1) := by decide +kernel
theorem dX12_lays_149 : decode cX12_lays 149 = .ok (.ifCond .le 25, 3) := by decide +kernel
theorem dX12_lays_152 : decode cX12_lays 152 = .ok (.aload_n 0, 1) := by decide +kernel
theorem dX12_lays_153 : decode cX12_lays 153 = .ok (.aload_n 0, 1) := by decide +kernel
theorem dX12_lays_154 : decode cX12_lays 154 = .ok (.getfield 118, 3) := by decide +kernel
theorem dX12_lays_157 : decode cX12_lays 157 = .ok (.aload_n 0, 1) := by decide +kernel
theorem dX12_lays_158 : decode cX12_lays 158 = .ok (.getfield 242, 3) := by decide +kernel
theorem dX12_lays_161 : decode cX12_lays 161 = .ok (.iaload, 1) := by decide +kernel
theorem dX12_lays_162 : decode cX12_lays 162 = .ok (.aload_n 0, 1) := by decide +kernel
theorem dX12_lays_163 : decode cX12_lays 163 = .ok (.getfield 121, 3) := by decide +kernel
theorem dX12_lays_166 : decode cX12_lays 166 = .ok (.aload_n 0, 1) := by decide +kernel
theorem dX12_lays_167 : decode cX12_lays 167 = .ok (.getfield 242, 3) := by decide +kernel
theorem dX12_lays_170 : decode cX12_lays 170 = .ok (.iaload, 1) := by decide +kernel
theorem dX12_lays_171 : decode cX12_lays 171 = .ok (.invokevirtual 373, 3) := by decide +kernel
theorem dX12_lays_174 : decode cX12_lays 174 = .ok (.return_, 1) := by decide +kernel
set_option maxRecDepth 100000 in
theorem c_X12_lays (l : Launch) (D : q_D) (al : q_Al) (dt : q_Dt) (x0 : Nat) (kx0 : al.1 x0 = 13) (dt0 : q_Dt) (hm : X12_lays al dt x0 = some dt0) : q_Mt l yX12_lays cX12_lays 4 (none) 4 97 D al [.ref x0] dt 0 none dt0 := by
  refine q_Mt.of (by decide) (Nat.le_of_ble_eq_true rfl) ?_
  intro p e s m args below meth c ls C hargs hW hl
  have hx := C.1
  have hb := C.2.1
  have hown := C.2.2.2.2.2.1
  have hts := C.2.2.2.2.2.2.1
  have hS : va_S (q_A al) s.heap s.heap [] := va_S.rf
  have hl : lv_has ls 4 [(0, .ref x0)] := hl
  unfold X12_lays at hm
  have hB60 : ∀ (x0_60 : Nat) (kx0_60 : al.1 x0_60 = 13) (n_60 : Nat) (x1_60 : Int32) (dt : q_Dt) (H : Heap) (locs : List Loc) (ls : Array Slot) (hm : X12_lays_b60 al x0_60 n_60 x1_60 dt = some dt0) (hW : q_W D al dt H) (hS : va_S (q_A al) s.heap H locs) (hl : lv_has ls 4 [(0, .ref x0_60), (1, .int x1_60)]), W p l e { frames := 4, cells := 0, slots := 0, locals := 97 } s m args below meth c H locs 0 0 (MQ below (q_Q none (fun H => q_W D al dt0 H ∧ q_Rk al 0 none) (q_A al)) args s 0 0 (q_A al)) (F0 m 60 ls []) := by
    intro x0_60 kx0_60
    intro n_60
    induction n_60 with
    | zero => intro x1_60 dt H locs ls hm hW hS hl; cases hm
    | succ n_60 ih60 =>
      have hB134 : ∀ (x1_134 : Int32) (dt : q_Dt) (H : Heap) (locs : List Loc) (ls : Array Slot) (hm : X12_lays_b134 al (X12_lays_b60 al x0_60 n_60) x0_60 x1_134 dt = some dt0) (hW : q_W D al dt H) (hS : va_S (q_A al) s.heap H locs) (hl : lv_has ls 4 [(0, .ref x0_60), (1, .int x1_134)]), W p l e { frames := 4, cells := 0, slots := 0, locals := 97 } s m args below meth c H locs 0 0 (MQ below (q_Q none (fun H => q_W D al dt0 H ∧ q_Rk al 0 none) (q_A al)) args s 0 0 (q_A al)) (F0 m 134 ls []) := by
        intro x1_134 dt H locs ls hm hW hS hl
        unfold X12_lays_b134 at hm
        refine lv_iinc (v := (x1_134 + 1)) (lv' := [(1, .int (x1_134 + 1)), (0, .ref x0_60)]) hx hb dX12_lays_134 hl (k := 1) rfl rfl (by decide) rfl (fun ls hl => ?_)
        refine lv_goto (tgt := 60) hx hb dX12_lays_137 (by decide) ?_
        exact ih60 (x1_134 + 1) dt _ _ _ hm hW hS (lv_sub hl [1, 0] rfl)
      have hB89 : ∀ (x1_89 : Int32) (x2_89 : Int32) (n_89 : Nat) (x3_89 : Int32) (dt : q_Dt) (H : Heap) (locs : List Loc) (ls : Array Slot) (hm : X12_lays_b89 al (X12_lays_b60 al x0_60 n_60) x0_60 x1_89 x2_89 n_89 x3_89 dt = some dt0) (hW : q_W D al dt H) (hS : va_S (q_A al) s.heap H locs) (hl : lv_has ls 4 [(0, .ref x0_60), (1, .int x1_89), (2, .int x2_89), (3, .int x3_89)]), W p l e { frames := 4, cells := 0, slots := 0, locals := 97 } s m args below meth c H locs 0 0 (MQ below (q_Q none (fun H => q_W D al dt0 H ∧ q_Rk al 0 none) (q_A al)) args s 0 0 (q_A al)) (F0 m 89 ls []) := by
        intro x1_89 x2_89
        intro n_89
        induction n_89 with
        | zero => intro x3_89 dt H locs ls hm hW hS hl; cases hm
        | succ n_89 ih89 =>
          intro x3_89 dt H locs ls hm hW hS hl
          rw [X12_lays_b89] at hm
          refine lv_iload_n hx hb dX12_lays_89 rfl (lv_at hl 3 rfl) ?_
          refine lv_aload_n hx hb dX12_lays_90 rfl (lv_at hl 0 rfl) ?_
          refine r_getF C hW (ci := 12) kx0_60 ff_12_44 cl_12 fl_RX12_109 dX12_lays_91 (fun k89001 => ?_)
          refine lv_iload_n hx hb dX12_lays_94 rfl (lv_at hl 2 rfl) ?_
          refine r_iald C hW hm k89001 dX12_lays_95 (fun hm => ?_)
          refine q_ifc hm (fun c89002 hm => ?_) (fun c89002 hm => ?_)
          · refine lv_icmp_gt (tgt := 134) hx hb dX12_lays_96 (by decide) (fun _ => ?_) (fun h => absurd c89002 h)
            exact hB134 x1_89 dt _ _ _ hm hW hS (lv_sub hl [0, 1] rfl)
          refine lv_icmp_gt (tgt := 134) hx hb dX12_lays_96 (by decide) (fun h => absurd h c89002) (fun _ => ?_)
          refine lv_iload_n hx hb dX12_lays_99 rfl (lv_at hl 3 rfl) ?_
          refine lv_aload_n hx hb dX12_lays_100 rfl (lv_at hl 0 rfl) ?_
          obtain ⟨v89004, hc89003, hm⟩ := q_b1i hm
          refine q_callV C hW hS (As := []) (rest := [.int x3_89]) (st1 := [.int v89004, .int x3_89]) (c_X12_n l D al dt x0_60 kx0_60 v89004 hc89003) yl_X12_n vl_X12_n ml_RX12_342 (ci := 12) rfl kx0_60 (by decide) rfl ⟨Nat.le_of_ble_eq_true rfl, Nat.le_of_ble_eq_true rfl⟩ hl rfl (Nat.le_of_ble_eq_true rfl) dX12_lays_101 ⟨Nat.le_refl _, Nat.le_refl _⟩ rfl (fun H locs k89005 hW hS => ?_)
          refine q_ifc hm (fun c89006 hm => ?_) (fun c89006 hm => ?_)
          · refine lv_icmp_ge (tgt := 134) hx hb dX12_lays_104 (by decide) (fun _ => ?_) (fun h => absurd c89006 h)
            exact hB134 x1_89 dt _ _ _ hm hW hS (lv_sub hl [0, 1] rfl)
          refine lv_icmp_ge (tgt := 134) hx hb dX12_lays_104 (by decide) (fun h => absurd h c89006) (fun _ => ?_)
          refine lv_aload_n hx hb dX12_lays_107 rfl (lv_at hl 0 rfl) ?_
          refine r_getF C hW (ci := 12) kx0_60 ff_12_53 cl_12 fl_RX12_133 dX12_lays_108 (fun k89007 => ?_)
          refine lv_iload_n hx hb dX12_lays_111 rfl (lv_at hl 3 rfl) ?_
          refine lv_dup2_11 hx hb dX12_lays_112 rfl rfl ?_
          refine r_iald C hW hm k89007 dX12_lays_113 (fun hm => ?_)
          refine lv_aload_n hx hb dX12_lays_114 rfl (lv_at hl 0 rfl) ?_
          refine r_getF C hW (ci := 12) kx0_60 ff_12_45 cl_12 fl_RX12_112 dX12_lays_115 (fun k89008 => ?_)
          refine lv_iload_n hx hb dX12_lays_118 rfl (lv_at hl 2 rfl) ?_
          refine r_iald C hW hm k89008 dX12_lays_119 (fun hm => ?_)
          refine lv_iadd hx hb dX12_lays_120 ?_
          refine r_iast C hW hS hm k89007 dX12_lays_121 (fun dt89009 H locs hm hW hS => ?_)
          refine lv_iload_n hx hb dX12_lays_122 rfl (lv_at hl 3 rfl) ?_
          refine lv_aload_n hx hb dX12_lays_123 rfl (lv_at hl 0 rfl) ?_
          refine r_getF C hW (ci := 12) kx0_60 ff_12_46 cl_12 fl_RX12_115 dX12_lays_124 (fun k89010 => ?_)
          refine lv_iload_n hx hb dX12_lays_127 rfl (lv_at hl 2 rfl) ?_
          refine r_iald C hW hm k89010 dX12_lays_128 (fun hm => ?_)
          refine lv_iadd hx hb dX12_lays_129 ?_
          refine q_nmI hm (fun v89011 ev89011 hm => ?_)
          refine lv_istore_n (i := 3) (lv' := [(3, .int v89011), (0, .ref x0_60), (1, .int x1_89), (2, .int x2_89)]) hx hb dX12_lays_130 rfl hl (by decide) rfl (fun ls hl => ?_)
          refine lv_goto (tgt := 89) hx hb dX12_lays_131 (by decide) ?_
          exact ih89 v89011 dt89009 _ _ _ hm hW hS (lv_sub hl [1, 2, 3, 0] rfl)
      intro x1_60 dt H locs ls hm hW hS hl
      rw [X12_lays_b60] at hm
      refine lv_iload_n hx hb dX12_lays_60 rfl (lv_at hl 1 rfl) ?_
      refine lv_aload_n hx hb dX12_lays_61 rfl (lv_at hl 0 rfl) ?_
      refine r_getF C hW (ci := 12) kx0_60 ff_12_42 cl_12 fl_RX12_103 dX12_lays_62 (fun k60001 => ?_)
      refine lv_aload_n hx hb dX12_lays_65 rfl (lv_at hl 0 rfl) ?_
      refine r_getI C hW (ci := 12) kx0_60 ff_12_18 cl_12 fl_RX12_242 dX12_lays_66 ?_
      refine r_iald C hW hm k60001 dX12_lays_69 (fun hm => ?_)
      refine q_ifc hm (fun c60002 hm => ?_) (fun c60002 hm => ?_)
      · refine lv_icmp_ge (tgt := 140) hx hb dX12_lays_70 (by decide) (fun _ => ?_) (fun h => absurd c60002 h)
        refine lv_aload_n hx hb dX12_lays_140 rfl (lv_at hl 0 rfl) ?_
        refine r_getF C hW (ci := 12) kx0_60 ff_12_47 cl_12 fl_RX12_118 dX12_lays_141 (fun k60003 => ?_)
        refine lv_aload_n hx hb dX12_lays_144 rfl (lv_at hl 0 rfl) ?_
        refine r_getI C hW (ci := 12) kx0_60 ff_12_18 cl_12 fl_RX12_242 dX12_lays_145 ?_
        refine r_iald C hW hm k60003 dX12_lays_148 (fun hm => ?_)
        refine q_ifc hm (fun c60004 hm => ?_) (fun c60004 hm => ?_)
        · refine lv_if_le (tgt := 174) hx hb dX12_lays_149 (by decide) (fun _ => ?_) (fun h => absurd c60004 h)
          exact e_vD C hW hS hm dX12_lays_174
        refine lv_if_le (tgt := 174) hx hb dX12_lays_149 (by decide) (fun h => absurd h c60004) (fun _ => ?_)
        refine lv_aload_n hx hb dX12_lays_152 rfl (lv_at hl 0 rfl) ?_
        refine lv_aload_n hx hb dX12_lays_153 rfl (lv_at hl 0 rfl) ?_
        refine r_getF C hW (ci := 12) kx0_60 ff_12_47 cl_12 fl_RX12_118 dX12_lays_154 (fun k60005 => ?_)
        refine lv_aload_n hx hb dX12_lays_157 rfl (lv_at hl 0 rfl) ?_
        refine r_getI C hW (ci := 12) kx0_60 ff_12_18 cl_12 fl_RX12_242 dX12_lays_158 ?_
        refine r_iald C hW hm k60005 dX12_lays_161 (fun hm => ?_)
        refine lv_aload_n hx hb dX12_lays_162 rfl (lv_at hl 0 rfl) ?_
        refine r_getF C hW (ci := 12) kx0_60 ff_12_48 cl_12 fl_RX12_121 dX12_lays_163 (fun k60006 => ?_)
        refine lv_aload_n hx hb dX12_lays_166 rfl (lv_at hl 0 rfl) ?_
        refine r_getI C hW (ci := 12) kx0_60 ff_12_18 cl_12 fl_RX12_242 dX12_lays_167 ?_
        refine r_iald C hW hm k60006 dX12_lays_170 (fun hm => ?_)
        obtain ⟨dt60008, hc60007, hm⟩ := q_b1i hm
        refine q_callV C hW hS (As := [.int (dt.1 (al.2.2 x0_60 47) (Int32.toNatClampNeg (dt.1 x0_60 18))), .int (dt.1 (al.2.2 x0_60 48) (Int32.toNatClampNeg (dt.1 x0_60 18)))]) (rest := []) (st1 := []) (c_X12_addsNoise l D al dt x0_60 (dt.1 (al.2.2 x0_60 47) (Int32.toNatClampNeg (dt.1 x0_60 18))) (dt.1 (al.2.2 x0_60 48) (Int32.toNatClampNeg (dt.1 x0_60 18))) kx0_60 dt60008 hc60007) yl_X12_addsNoise vl_X12_addsNoise ml_RX12_373 (ci := 12) rfl kx0_60 (by decide) rfl ⟨Nat.le_of_ble_eq_true rfl, Nat.le_of_ble_eq_true rfl⟩ hl rfl (Nat.le_of_ble_eq_true rfl) dX12_lays_171 ⟨Nat.le_refl _, Nat.le_refl _⟩ rfl (fun H locs k60009 hW hS => ?_)
        exact e_vD C hW hS hm dX12_lays_174
      refine lv_icmp_ge (tgt := 140) hx hb dX12_lays_70 (by decide) (fun h => absurd h c60002) (fun _ => ?_)
      refine lv_iconst (v := 4) hx hb dX12_lays_73 (by decide) ?_
      refine lv_aload_n hx hb dX12_lays_74 rfl (lv_at hl 0 rfl) ?_
      refine r_getI C hW (ci := 12) kx0_60 ff_12_18 cl_12 fl_RX12_242 dX12_lays_75 ?_
      refine lv_imul hx hb dX12_lays_78 ?_
      refine lv_iload_n hx hb dX12_lays_79 rfl (lv_at hl 1 rfl) ?_
      refine lv_iadd hx hb dX12_lays_80 ?_
      refine lv_istore_n (i := 2) (lv' := [(2, .int ((4 * (dt.1 x0_60 18)) + x1_60)), (0, .ref x0_60), (1, .int x1_60)]) hx hb dX12_lays_81 rfl hl (by decide) rfl (fun ls hl => ?_)
      refine lv_aload_n hx hb dX12_lays_82 rfl (lv_at hl 1 rfl) ?_
      refine r_getF C hW (ci := 12) kx0_60 ff_12_43 cl_12 fl_RX12_106 dX12_lays_83 (fun k60010 => ?_)
      refine lv_iload_n hx hb dX12_lays_86 rfl (lv_at hl 0 rfl) ?_
      refine r_iald C hW hm k60010 dX12_lays_87 (fun hm => ?_)
      refine q_nmI hm (fun v60011 ev60011 hm => ?_)
      refine lv_istore_n (i := 3) (lv' := [(3, .int v60011), (2, .int ((4 * (dt.1 x0_60 18)) + x1_60)), (0, .ref x0_60), (1, .int x1_60)]) hx hb dX12_lays_88 rfl hl (by decide) rfl (fun ls hl => ?_)
      exact hB89 x1_60 ((4 * (dt.1 x0_60 18)) + x1_60) q_FU v60011 dt _ _ _ hm hW hS (lv_sub hl [2, 3, 1, 0] rfl)
  have hB24 : ∀ (x0_24 : Nat) (kx0_24 : al.1 x0_24 = 13) (n_24 : Nat) (x1_24 : Int32) (dt : q_Dt) (H : Heap) (locs : List Loc) (ls : Array Slot) (hm : X12_lays_b24 al x0_24 n_24 x1_24 dt = some dt0) (hW : q_W D al dt H) (hS : va_S (q_A al) s.heap H locs) (hl : lv_has ls 4 [(0, .ref x0_24), (1, .int x1_24)]), W p l e { frames := 4, cells := 0, slots := 0, locals := 97 } s m args below meth c H locs 0 0 (MQ below (q_Q none (fun H => q_W D al dt0 H ∧ q_Rk al 0 none) (q_A al)) args s 0 0 (q_A al)) (F0 m 24 ls []) := by
    intro x0_24 kx0_24
    intro n_24
    induction n_24 with
    | zero => intro x1_24 dt H locs ls hm hW hS hl; cases hm
    | succ n_24 ih24 =>
      intro x1_24 dt H locs ls hm hW hS hl
      rw [X12_lays_b24] at hm
      refine lv_iload_n hx hb dX12_lays_24 rfl (lv_at hl 1 rfl) ?_
      refine lv_aload_n hx hb dX12_lays_25 rfl (lv_at hl 0 rfl) ?_
      refine r_getF C hW (ci := 12) kx0_24 ff_12_31 cl_12 fl_RX12_70 dX12_lays_26 (fun k24001 => ?_)
      refine lv_aload_n hx hb dX12_lays_29 rfl (lv_at hl 0 rfl) ?_
      refine r_getI C hW (ci := 12) kx0_24 ff_12_18 cl_12 fl_RX12_242 dX12_lays_30 ?_
      refine r_iald C hW hm k24001 dX12_lays_33 (fun hm => ?_)
      refine q_ifc hm (fun c24002 hm => ?_) (fun c24002 hm => ?_)
      · refine lv_icmp_ge (tgt := 58) hx hb dX12_lays_34 (by decide) (fun _ => ?_) (fun h => absurd c24002 h)
        refine lv_iconst (v := 0) hx hb dX12_lays_58 (by decide) ?_
        refine lv_istore_n (i := 1) (lv' := [(1, .int 0), (0, .ref x0_24)]) hx hb dX12_lays_59 rfl hl (by decide) rfl (fun ls hl => ?_)
        exact hB60 x0_24 kx0_24 q_FU 0 dt _ _ _ hm hW hS (lv_sub hl [1, 0] rfl)
      refine lv_icmp_ge (tgt := 58) hx hb dX12_lays_34 (by decide) (fun h => absurd h c24002) (fun _ => ?_)
      refine lv_aload_n hx hb dX12_lays_37 rfl (lv_at hl 0 rfl) ?_
      refine lv_iload_n hx hb dX12_lays_38 rfl (lv_at hl 1 rfl) ?_
      obtain ⟨dt24004, hc24003, hm⟩ := q_b1i hm
      refine q_callV C hW hS (As := [.int x1_24]) (rest := []) (st1 := []) (c_X12_laysData l D al dt x0_24 x1_24 kx0_24 dt24004 hc24003) yl_X12_laysData vl_X12_laysData ml_RX12_366 (ci := 12) rfl kx0_24 (by decide) rfl ⟨Nat.le_of_ble_eq_true rfl, Nat.le_of_ble_eq_true rfl⟩ hl rfl (Nat.le_of_ble_eq_true rfl) dX12_lays_39 ⟨Nat.le_refl _, Nat.le_refl _⟩ rfl (fun H locs k24005 hW hS => ?_)
      refine lv_aload_n hx hb dX12_lays_42 rfl (lv_at hl 0 rfl) ?_
      refine lv_aload_n hx hb dX12_lays_43 rfl (lv_at hl 0 rfl) ?_
      refine r_getF C hW (ci := 12) kx0_24 ff_12_53 cl_12 fl_RX12_133 dX12_lays_44 (fun k24006 => ?_)
      refine lv_iload_n hx hb dX12_lays_47 rfl (lv_at hl 1 rfl) ?_
      refine lv_iconst (v := 1) hx hb dX12_lays_48 (by decide) ?_
      obtain ⟨dt24008, hc24007, hm⟩ := q_b1i hm
      refine q_callV C hW hS (As := [.ref (al.2.2 x0_24 53), .int x1_24, .int 1]) (rest := []) (st1 := []) (c_X12_addsWave l D al dt24004 x0_24 (al.2.2 x0_24 53) x1_24 1 kx0_24 k24006 dt24008 hc24007) yl_X12_addsWave vl_X12_addsWave ml_RX12_369 (ci := 12) rfl kx0_24 (by decide) rfl ⟨Nat.le_of_ble_eq_true rfl, Nat.le_of_ble_eq_true rfl⟩ hl rfl (Nat.le_of_ble_eq_true rfl) dX12_lays_49 ⟨Nat.le_refl _, Nat.le_refl _⟩ rfl (fun H locs k24009 hW hS => ?_)
      refine lv_iinc (v := (x1_24 + 1)) (lv' := [(1, .int (x1_24 + 1)), (0, .ref x0_24)]) hx hb dX12_lays_52 hl (k := 1) rfl rfl (by decide) rfl (fun ls hl => ?_)
      refine lv_goto (tgt := 24) hx hb dX12_lays_55 (by decide) ?_
      exact ih24 (x1_24 + 1) dt24008 _ _ _ hm hW hS (lv_sub hl [1, 0] rfl)
  have hB2 : ∀ (x0_2 : Nat) (kx0_2 : al.1 x0_2 = 13) (n_2 : Nat) (x1_2 : Int32) (dt : q_Dt) (H : Heap) (locs : List Loc) (ls : Array Slot) (hm : X12_lays_b2 al x0_2 n_2 x1_2 dt = some dt0) (hW : q_W D al dt H) (hS : va_S (q_A al) s.heap H locs) (hl : lv_has ls 4 [(0, .ref x0_2), (1, .int x1_2)]), W p l e { frames := 4, cells := 0, slots := 0, locals := 97 } s m args below meth c H locs 0 0 (MQ below (q_Q none (fun H => q_W D al dt0 H ∧ q_Rk al 0 none) (q_A al)) args s 0 0 (q_A al)) (F0 m 2 ls []) := by
    intro x0_2 kx0_2
    intro n_2
    induction n_2 with
    | zero => intro x1_2 dt H locs ls hm hW hS hl; cases hm
    | succ n_2 ih2 =>
      intro x1_2 dt H locs ls hm hW hS hl
      rw [X12_lays_b2] at hm
      refine lv_iload_n hx hb dX12_lays_2 rfl (lv_at hl 1 rfl) ?_
      refine lv_sipush (v := 1024) hx hb dX12_lays_3 (by decide) ?_
      refine q_ifc hm (fun c2001 hm => ?_) (fun c2001 hm => ?_)
      · refine lv_icmp_ge (tgt := 22) hx hb dX12_lays_6 (by decide) (fun _ => ?_) (fun h => absurd c2001 h)
        refine lv_iconst (v := 0) hx hb dX12_lays_22 (by decide) ?_
        refine lv_istore_n (i := 1) (lv' := [(1, .int 0), (0, .ref x0_2)]) hx hb dX12_lays_23 rfl hl (by decide) rfl (fun ls hl => ?_)
        exact hB24 x0_2 kx0_2 q_FU 0 dt _ _ _ hm hW hS (lv_sub hl [1, 0] rfl)
      refine lv_icmp_ge (tgt := 22) hx hb dX12_lays_6 (by decide) (fun h => absurd h c2001) (fun _ => ?_)
      refine lv_aload_n hx hb dX12_lays_9 rfl (lv_at hl 0 rfl) ?_
      refine r_getF C hW (ci := 12) kx0_2 ff_12_53 cl_12 fl_RX12_133 dX12_lays_10 (fun k2002 => ?_)
      refine lv_iload_n hx hb dX12_lays_13 rfl (lv_at hl 1 rfl) ?_
      refine lv_iconst (v := 0) hx hb dX12_lays_14 (by decide) ?_
      refine r_iast C hW hS hm k2002 dX12_lays_15 (fun dt2003 H locs hm hW hS => ?_)
      refine lv_iinc (v := (x1_2 + 1)) (lv' := [(1, .int (x1_2 + 1)), (0, .ref x0_2)]) hx hb dX12_lays_16 hl (k := 1) rfl rfl (by decide) rfl (fun ls hl => ?_)
      refine lv_goto (tgt := 2) hx hb dX12_lays_19 (by decide) ?_
      exact ih2 (x1_2 + 1) dt2003 _ _ _ hm hW hS (lv_sub hl [1, 0] rfl)
  refine lv_iconst (v := 0) hx hb dX12_lays_0 (by decide) ?_
  refine lv_istore_n (i := 1) (lv' := [(1, .int 0), (0, .ref x0)]) hx hb dX12_lays_1 rfl hl (by decide) rfl (fun ls hl => ?_)
  exact hB2 x0 kx0 q_FU 0 dt _ _ _ hm hW hS (lv_sub hl [1, 0] rfl)
theorem dX12_read_0 : decode cX12_read 0 = .ok (.aload_n 0, 1) := by decide +kernel
theorem dX12_read_1 : decode cX12_read 1 = .ok (.aload_n 0, 1) := by decide +kernel
theorem dX12_read_2 : decode cX12_read 2 = .ok (.getfield 174, 3) := by decide +kernel
theorem dX12_read_5 : decode cX12_read 5 = .ok (.putfield 181, 3) := by decide +kernel
theorem dX12_read_8 : decode cX12_read 8 = .ok (.iconst 0, 1) := by decide +kernel
theorem dX12_read_9 : decode cX12_read 9 = .ok (.istore_n 1, 1) := by decide +kernel
theorem dX12_read_10 : decode cX12_read 10 = .ok (.iload_n 1, 1) := by decide +kernel
theorem dX12_read_11 : decode cX12_read 11 = .ok (.aload_n 0, 1) := by decide +kernel
theorem dX12_read_12 : decode cX12_read 12 = .ok (.getfield 181, 3) := by decide +kernel
theorem dX12_read_15 : decode cX12_read 15 = .ok (.if_icmp .ge 21, 3) := by decide +kernel
theorem dX12_read_18 : decode cX12_read 18 = .ok (.aload_n 0, 1) := by decide +kernel
theorem dX12_read_19 : decode cX12_read 19 = .ok (.getfield 17, 3) := by decide +kernel
theorem dX12_read_22 : decode cX12_read 22 = .ok (.iload_n 1, 1) := by decide +kernel
theorem dX12_read_23 : decode cX12_read 23 = .ok (.aload_n 0, 1) := by decide +kernel
theorem dX12_read_24 : decode cX12_read 24 = .ok (.getfield 13, 3) := by decide +kernel
theorem dX12_read_27 : decode cX12_read 27 = .ok (.iload_n 1, 1) := by decide +kernel
theorem dX12_read_28 : decode cX12_read 28 = .ok (.baload, 1) := by decide +kernel
theorem dX12_read_29 : decode cX12_read 29 = .ok (.bastore, 1) := by decide +kernel
theorem dX12_read_30 : decode cX12_read 30 = .ok (.iinc 1 1, 3) := by decide +kernel
theorem dX12_read_33 : decode cX12_read 33 = .ok (.goto (-23), 3) := by decide +kernel
theorem dX12_read_36 : decode cX12_read 36 = .ok (.aload_n 0, 1) := by decide +kernel
theorem dX12_read_37 : decode cX12_read 37 = .ok (.iconst 0, 1) := by decide +kernel
theorem dX12_read_38 : decode cX12_read 38 = .ok (.putfield 174, 3) := by decide +kernel
theorem dX12_read_41 : decode cX12_read 41 = .ok (.aload_n 0, 1) := by decide +kernel
theorem dX12_read_42 : decode cX12_read 42 = .ok (.invokevirtual 236, 3) := by decide +kernel
theorem dX12_read_45 : decode cX12_read 45 = .ok (.aload_n 0, 1) := by decide +kernel
theorem dX12_read_46 : decode cX12_read 46 = .ok (.iconst 0, 1) := by decide +kernel
theorem dX12_read_47 : decode cX12_read 47 = .ok (.putfield 215, 3) := by decide +kernel
theorem dX12_read_50 : decode cX12_read 50 = .ok (.aload_n 0, 1) := by decide +kernel
theorem dX12_read_51 : decode cX12_read 51 = .ok (.iconst 0, 1) := by decide +kernel
theorem dX12_read_52 : decode cX12_read 52 = .ok (.putfield 239, 3) := by decide +kernel
theorem dX12_read_55 : decode cX12_read 55 = .ok (.aload_n 0, 1) := by decide +kernel
theorem dX12_read_56 : decode cX12_read 56 = .ok (.iconst 0, 1) := by decide +kernel
theorem dX12_read_57 : decode cX12_read 57 = .ok (.putfield 212, 3) := by decide +kernel
theorem dX12_read_60 : decode cX12_read 60 = .ok (.aload_n 0, 1) := by decide +kernel
theorem dX12_read_61 : decode cX12_read 61 = .ok (.iconst 0, 1) := by decide +kernel
theorem dX12_read_62 : decode cX12_read 62 = .ok (.putfield 221, 3) := by decide +kernel
theorem dX12_read_65 : decode cX12_read 65 = .ok (.aload_n 0, 1) := by decide +kernel
theorem dX12_read_66 : decode cX12_read 66 = .ok (.iconst 1, 1) := by decide +kernel
theorem dX12_read_67 : decode cX12_read 67 = .ok (.aload_n 0, 1) := by decide +kernel
theorem dX12_read_68 : decode cX12_read 68 = .ok (.getfield 242, 3) := by decide +kernel
theorem dX12_read_71 : decode cX12_read 71 = .ok (.isub, 1) := by decide +kernel
theorem dX12_read_72 : decode cX12_read 72 = .ok (.putfield 245, 3) := by decide +kernel
theorem dX12_read_75 : decode cX12_read 75 = .ok (.aload_n 0, 1) := by decide +kernel
theorem dX12_read_76 : decode cX12_read 76 = .ok (.iconst 0, 1) := by decide +kernel
theorem dX12_read_77 : decode cX12_read 77 = .ok (.putfield 248, 3) := by decide +kernel
theorem dX12_read_80 : decode cX12_read 80 = .ok (.aload_n 0, 1) := by decide +kernel
theorem dX12_read_81 : decode cX12_read 81 = .ok (.getfield 49, 3) := by decide +kernel
theorem dX12_read_84 : decode cX12_read 84 = .ok (.aload_n 0, 1) := by decide +kernel
theorem dX12_read_85 : decode cX12_read 85 = .ok (.getfield 245, 3) := by decide +kernel
theorem dX12_read_88 : decode cX12_read 88 = .ok (.iconst 0, 1) := by decide +kernel
theorem dX12_read_89 : decode cX12_read 89 = .ok (.iastore, 1) := by decide +kernel
theorem dX12_read_90 : decode cX12_read 90 = .ok (.aload_n 0, 1) := by decide +kernel
theorem dX12_read_91 : decode cX12_read 91 = .ok (.getfield 58, 3) := by decide +kernel
theorem dX12_read_94 : decode cX12_read 94 = .ok (.aload_n 0, 1) := by decide +kernel
theorem dX12_read_95 : decode cX12_read 95 = .ok (.getfield 245, 3) := by decide +kernel
theorem dX12_read_98 : decode cX12_read 98 = .ok (.iconst 0, 1) := by decide +kernel
theorem dX12_read_99 : decode cX12_read 99 = .ok (.iastore, 1) := by decide +kernel
theorem dX12_read_100 : decode cX12_read 100 = .ok (.aload_n 0, 1) := by decide +kernel
theorem dX12_read_101 : decode cX12_read 101 = .ok (.getfield 70, 3) := by decide +kernel
theorem dX12_read_104 : decode cX12_read 104 = .ok (.aload_n 0, 1) := by decide +kernel
theorem dX12_read_105 : decode cX12_read 105 = .ok (.getfield 245, 3) := by decide +kernel
theorem dX12_read_108 : decode cX12_read 108 = .ok (.iconst 0, 1) := by decide +kernel
theorem dX12_read_109 : decode cX12_read 109 = .ok (.iastore, 1) := by decide +kernel
theorem dX12_read_110 : decode cX12_read 110 = .ok (.aload_n 0, 1) := by decide +kernel
theorem dX12_read_111 : decode cX12_read 111 = .ok (.getfield 91, 3) := by decide +kernel
theorem dX12_read_114 : decode cX12_read 114 = .ok (.aload_n 0, 1) := by decide +kernel
theorem dX12_read_115 : decode cX12_read 115 = .ok (.getfield 245, 3) := by decide +kernel
theorem dX12_read_118 : decode cX12_read 118 = .ok (.iconst 0, 1) := by decide +kernel
theorem dX12_read_119 : decode cX12_read 119 = .ok (.iastore, 1) := by decide +kernel
theorem dX12_read_120 : decode cX12_read 120 = .ok (.aload_n 0, 1) := by decide +kernel
theorem dX12_read_121 : decode cX12_read 121 = .ok (.getfield 103, 3) := by decide +kernel
theorem dX12_read_124 : decode cX12_read 124 = .ok (.aload_n 0, 1) := by decide +kernel
theorem dX12_read_125 : decode cX12_read 125 = .ok (.getfield 245, 3) := by decide +kernel
theorem dX12_read_128 : decode cX12_read 128 = .ok (.iconst 0, 1) := by decide +kernel
theorem dX12_read_129 : decode cX12_read 129 = .ok (.iastore, 1) := by decide +kernel
theorem dX12_read_130 : decode cX12_read 130 = .ok (.aload_n 0, 1) := by decide +kernel
theorem dX12_read_131 : decode cX12_read 131 = .ok (.getfield 118, 3) := by decide +kernel
theorem dX12_read_134 : decode cX12_read 134 = .ok (.aload_n 0, 1) := by decide +kernel
theorem dX12_read_135 : decode cX12_read 135 = .ok (.getfield 245, 3) := by decide +kernel
theorem dX12_read_138 : decode cX12_read 138 = .ok (.iconst 0, 1) := by decide +kernel
theorem dX12_read_139 : decode cX12_read 139 = .ok (.iastore, 1) := by decide +kernel
theorem dX12_read_140 : decode cX12_read 140 = .ok (.aload_n 0, 1) := by decide +kernel
theorem dX12_read_141 : decode cX12_read 141 = .ok (.getfield 121, 3) := by decide +kernel
theorem dX12_read_144 : decode cX12_read 144 = .ok (.aload_n 0, 1) := by decide +kernel
theorem dX12_read_145 : decode cX12_read 145 = .ok (.getfield 245, 3) := by decide +kernel
theorem dX12_read_148 : decode cX12_read 148 = .ok (.iconst 0, 1) := by decide +kernel
theorem dX12_read_149 : decode cX12_read 149 = .ok (.iastore, 1) := by decide +kernel
theorem dX12_read_150 : decode cX12_read 150 = .ok (.aload_n 0, 1) := by decide +kernel
theorem dX12_read_151 : decode cX12_read 151 = .ok (.getfield 124, 3) := by decide +kernel
theorem dX12_read_154 : decode cX12_read 154 = .ok (.aload_n 0, 1) := by decide +kernel
theorem dX12_read_155 : decode cX12_read 155 = .ok (.getfield 245, 3) := by decide +kernel
theorem dX12_read_158 : decode cX12_read 158 = .ok (.sipush 256, 3) := by decide +kernel
theorem dX12_read_161 : decode cX12_read 161 = .ok (.iastore, 1) := by decide +kernel
theorem dX12_read_162 : decode cX12_read 162 = .ok (.aload_n 0, 1) := by decide +kernel
theorem dX12_read_163 : decode cX12_read 163 = .ok (.getfield 212, 3) := by decide +kernel
theorem dX12_read_166 : decode cX12_read 166 = .ok (.ifCond .ne 18, 3) := by decide +kernel
theorem dX12_read_169 : decode cX12_read 169 = .ok (.aload_n 0, 1) := by decide +kernel
theorem dX12_read_170 : decode cX12_read 170 = .ok (.iconst 0, 1) := by decide +kernel
theorem dX12_read_171 : decode cX12_read 171 = .ok (.invokevirtual 230, 3) := by decide +kernel
theorem dX12_read_174 : decode cX12_read 174 = .ok (.ifCond .ne 10, 3) := by decide +kernel
theorem dX12_read_177 : decode cX12_read 177 = .ok (.aload_n 0, 1) := by decide +kernel
theorem dX12_read_178 : decode cX12_read 178 = .ok (.invokevirtual 251, 3) := by decide +kernel
theorem dX12_read_181 : decode cX12_read 181 = .ok (.goto (-19), 3) := by decide +kernel
theorem dX12_read_184 : decode cX12_read 184 = .ok (.aload_n 0, 1) := by decide +kernel
theorem dX12_read_185 : decode cX12_read 185 = .ok (.aload_n 0, 1) := by decide +kernel
theorem dX12_read_186 : decode cX12_read 186 = .ok (.getfield 212, 3) := by decide +kernel
theorem dX12_read_189 : decode cX12_read 189 = .ok (.ifCond .le 10, 3) := by decide +kernel
theorem dX12_read_192 : decode cX12_read 192 = .ok (.aload_n 0, 1) := by decide +kernel
theorem dX12_read_193 : decode cX12_read 193 = .ok (.getfield 218, 3) := by decide +kernel
theorem dX12_read_196 : decode cX12_read 196 = .ok (.goto 18, 3) := by decide +kernel
theorem dX12_read_199 : decode cX12_read 199 = .ok (.aload_n 0, 1) := by decide +kernel
theorem dX12_read_200 : decode cX12_read 200 = .ok (.getfield 221, 3) := by decide +kernel
theorem dX12_read_203 : decode cX12_read 203 = .ok (.ifCond .le 10, 3) := by decide +kernel
theorem dX12_read_206 : decode cX12_read 206 = .ok (.aload_n 0, 1) := by decide +kernel
theorem dX12_read_207 : decode cX12_read 207 = .ok (.getfield 224, 3) := by decide +kernel
theorem dX12_read_210 : decode cX12_read 210 = .ok (.goto 4, 3) := by decide +kernel
theorem dX12_read_213 : decode cX12_read 213 = .ok (.iconst (-1), 1) := by decide +kernel
theorem dX12_read_214 : decode cX12_read 214 = .ok (.putfield 37, 3) := by decide +kernel
theorem dX12_read_217 : decode cX12_read 217 = .ok (.aload_n 0, 1) := by decide +kernel
theorem dX12_read_218 : decode cX12_read 218 = .ok (.getfield 212, 3) := by decide +kernel
theorem dX12_read_221 : decode cX12_read 221 = .ok (.ifCond .le 8, 3) := by decide +kernel
theorem dX12_read_224 : decode cX12_read 224 = .ok (.aload_n 0, 1) := by decide +kernel
theorem dX12_read_225 : decode cX12_read 225 = .ok (.getfield 212, 3) := by decide +kernel
theorem dX12_read_228 : decode cX12_read 228 = .ok (.ireturn, 1) := by decide +kernel
theorem dX12_read_229 : decode cX12_read 229 = .ok (.aload_n 0, 1) := by decide +kernel
theorem dX12_read_230 : decode cX12_read 230 = .ok (.getfield 221, 3) := by decide +kernel
theorem dX12_read_233 : decode cX12_read 233 = .ok (.ifCond .le 8, 3) := by decide +kernel
theorem dX12_read_236 : decode cX12_read 236 = .ok (.aload_n 0, 1) := by decide +kernel
theorem dX12_read_237 : decode cX12_read 237 = .ok (.getfield 221, 3) := by decide +kernel
theorem dX12_read_240 : decode cX12_read 240 = .ok (.ireturn, 1) := by decide +kernel
theorem dX12_read_241 : decode cX12_read 241 = .ok (.aload_n 0, 1) := by decide +kernel
theorem dX12_read_242 : decode cX12_read 242 = .ok (.aload_n 0, 1) := by decide +kernel
theorem dX12_read_243 : decode cX12_read 243 = .ok (.getfield 245, 3) := by decide +kernel
theorem dX12_read_246 : decode cX12_read 246 = .ok (.putfield 242, 3) := by decide +kernel
theorem dX12_read_249 : decode cX12_read 249 = .ok (.aload_n 0, 1) := by decide +kernel
theorem dX12_read_250 : decode cX12_read 250 = .ok (.invokevirtual 254, 3) := by decide +kernel
theorem dX12_read_253 : decode cX12_read 253 = .ok (.iconst 0, 1) := by decide +kernel
theorem dX12_read_254 : decode cX12_read 254 = .ok (.istore_n 1, 1) := by decide +kernel
theorem dX12_read_255 : decode cX12_read 255 = .ok (.iload_n 1, 1) := by decide +kernel
theorem dX12_read_256 : decode cX12_read 256 = .ok (.iconst 3, 1) := by decide +kernel
theorem dX12_read_257 : decode cX12_read 257 = .ok (.if_icmp .ge 16, 3) := by decide +kernel
theorem dX12_read_260 : decode cX12_read 260 = .ok (.aload_n 0, 1) := by decide +kernel
theorem dX12_read_261 : decode cX12_read 261 = .ok (.getfield 164, 3) := by decide +kernel
theorem dX12_read_264 : decode cX12_read 264 = .ok (.iload_n 1, 1) := by decide +kernel
theorem dX12_read_265 : decode cX12_read 265 = .ok (.iconst 0, 1) := by decide +kernel
theorem dX12_read_266 : decode cX12_read 266 = .ok (.bastore, 1) := by decide +kernel
theorem dX12_read_267 : decode cX12_read 267 = .ok (.iinc 1 1, 3) := by decide +kernel
theorem dX12_read_270 : decode cX12_read 270 = .ok (.goto (-15), 3) := by decide +kernel
theorem dX12_read_273 : decode cX12_read 273 = .ok (.iconst 0, 1) := by decide +kernel
theorem dX12_read_274 : decode cX12_read 274 = .ok (.ireturn, 1) := by decide +kernel
set_option maxRecDepth 100000 in
theorem c_X12_read (l : Launch) (D : q_D) (al : q_Al) (dt : q_Dt) (x0 : Nat) (kx0 : al.1 x0 = 13) (r0 : Int32) (dt0 : q_Dt) (hm : X12_read al dt x0 = some (r0, dt0)) : q_Mt l yX12_read cX12_read 2 (some FieldType.int) 7 167 D al [.ref x0] dt 0 (some (.int r0)) dt0 := by
  refine q_Mt.of (by decide) (Nat.le_of_ble_eq_true rfl) ?_
  intro p e s m args below meth c ls C hargs hW hl
  have hx := C.1
  have hb := C.2.1
  have hown := C.2.2.2.2.2.1
  have hts := C.2.2.2.2.2.2.1
  have hS : va_S (q_A al) s.heap s.heap [] := va_S.rf
  have hl : lv_has ls 2 [(0, .ref x0)] := hl
  unfold X12_read at hm
  have hB255 : ∀ (x0_255 : Nat) (kx0_255 : al.1 x0_255 = 13) (n_255 : Nat) (x1_255 : Int32) (dt : q_Dt) (H : Heap) (locs : List Loc) (ls : Array Slot) (hm : X12_read_b255 al x0_255 n_255 x1_255 dt = some (r0, dt0)) (hW : q_W D al dt H) (hS : va_S (q_A al) s.heap H locs) (hl : lv_has ls 2 [(0, .ref x0_255), (1, .int x1_255)]), W p l e { frames := 7, cells := 0, slots := 0, locals := 167 } s m args below meth c H locs 0 0 (MQ below (q_Q (some (.int r0)) (fun H => q_W D al dt0 H ∧ q_Rk al 0 (some (.int r0))) (q_A al)) args s 0 0 (q_A al)) (F0 m 255 ls []) := by
    intro x0_255 kx0_255
    intro n_255
    induction n_255 with
    | zero => intro x1_255 dt H locs ls hm hW hS hl; cases hm
    | succ n_255 ih255 =>
      intro x1_255 dt H locs ls hm hW hS hl
      rw [X12_read_b255] at hm
      refine lv_iload_n hx hb dX12_read_255 rfl (lv_at hl 1 rfl) ?_
      refine lv_iconst (v := 3) hx hb dX12_read_256 (by decide) ?_
      refine q_ifc hm (fun c255001 hm => ?_) (fun c255001 hm => ?_)
      · refine lv_icmp_ge (tgt := 273) hx hb dX12_read_257 (by decide) (fun _ => ?_) (fun h => absurd c255001 h)
        refine lv_iconst (v := 0) hx hb dX12_read_273 (by decide) ?_
        exact e_iD C hW hS hm dX12_read_274
      refine lv_icmp_ge (tgt := 273) hx hb dX12_read_257 (by decide) (fun h => absurd h c255001) (fun _ => ?_)
      refine lv_aload_n hx hb dX12_read_260 rfl (lv_at hl 0 rfl) ?_
      refine r_getF C hW (ci := 12) kx0_255 ff_12_65 cl_12 fl_RX12_164 dX12_read_261 (fun k255002 => ?_)
      refine lv_iload_n hx hb dX12_read_264 rfl (lv_at hl 1 rfl) ?_
      refine lv_iconst (v := 0) hx hb dX12_read_265 (by decide) ?_
      refine r_zast C hW hS hm k255002 dX12_read_266 (fun dt255003 H locs hm hW hS => ?_)
      refine lv_iinc (v := (x1_255 + 1)) (lv' := [(1, .int (x1_255 + 1)), (0, .ref x0_255)]) hx hb dX12_read_267 hl (k := 1) rfl rfl (by decide) rfl (fun ls hl => ?_)
      refine lv_goto (tgt := 255) hx hb dX12_read_270 (by decide) ?_
      exact ih255 (x1_255 + 1) dt255003 _ _ _ hm hW hS (lv_sub hl [1, 0] rfl)
  have hB214 : ∀ (x0_214 : Nat) (t0_214 : Nat) (t1_214 : Int32) (kx0_214 : al.1 x0_214 = 13) (kt0_214 : al.1 t0_214 = 13) (dt : q_Dt) (H : Heap) (locs : List Loc) (ls : Array Slot) (hm : X12_read_b214 al x0_214 t0_214 t1_214 dt = some (r0, dt0)) (hW : q_W D al dt H) (hS : va_S (q_A al) s.heap H locs) (hl : lv_has ls 2 [(0, .ref x0_214)]), W p l e { frames := 7, cells := 0, slots := 0, locals := 167 } s m args below meth c H locs 0 0 (MQ below (q_Q (some (.int r0)) (fun H => q_W D al dt0 H ∧ q_Rk al 0 (some (.int r0))) (q_A al)) args s 0 0 (q_A al)) (F0 m 214 ls [.int t1_214, .ref t0_214]) := by
    intro x0_214 t0_214 t1_214 kx0_214 kt0_214 dt H locs ls hm hW hS hl
    unfold X12_read_b214 at hm
    refine r_putI C hW hS hm (ci := 12) kt0_214 ff_12_17 cl_12 fl_RX12_37 (nf_12_17) rfl dX12_read_214 (fun dt214001 H locs hm hW hS => ?_)
    refine lv_aload_n hx hb dX12_read_217 rfl (lv_at hl 0 rfl) ?_
    refine r_getI C hW (ci := 12) kx0_214 ff_12_13 cl_12 fl_RX12_212 dX12_read_218 ?_
    refine q_ifc hm (fun c214002 hm => ?_) (fun c214002 hm => ?_)
    · refine lv_if_le (tgt := 229) hx hb dX12_read_221 (by decide) (fun _ => ?_) (fun h => absurd c214002 h)
      refine lv_aload_n hx hb dX12_read_229 rfl (lv_at hl 0 rfl) ?_
      refine r_getI C hW (ci := 12) kx0_214 ff_12_15 cl_12 fl_RX12_221 dX12_read_230 ?_
      refine q_ifc hm (fun c214003 hm => ?_) (fun c214003 hm => ?_)
      · refine lv_if_le (tgt := 241) hx hb dX12_read_233 (by decide) (fun _ => ?_) (fun h => absurd c214003 h)
        refine lv_aload_n hx hb dX12_read_241 rfl (lv_at hl 0 rfl) ?_
        refine lv_aload_n hx hb dX12_read_242 rfl (lv_at hl 0 rfl) ?_
        refine r_getI C hW (ci := 12) kx0_214 ff_12_19 cl_12 fl_RX12_245 dX12_read_243 ?_
        refine r_putI C hW hS hm (ci := 12) kx0_214 ff_12_18 cl_12 fl_RX12_242 (nf_12_18) rfl dX12_read_246 (fun dt214004 H locs hm hW hS => ?_)
        refine lv_aload_n hx hb dX12_read_249 rfl (lv_at hl 0 rfl) ?_
        obtain ⟨dt214006, hc214005, hm⟩ := q_b1i hm
        refine q_callV C hW hS (As := []) (rest := []) (st1 := []) (c_X12_lays l D al dt214004 x0_214 kx0_214 dt214006 hc214005) yl_X12_lays vl_X12_lays ml_RX12_254 (ci := 12) rfl kx0_214 (by decide) rfl ⟨Nat.le_of_ble_eq_true rfl, Nat.le_of_ble_eq_true rfl⟩ hl rfl (Nat.le_of_ble_eq_true rfl) dX12_read_250 ⟨Nat.le_refl _, Nat.le_refl _⟩ rfl (fun H locs k214007 hW hS => ?_)
        refine lv_iconst (v := 0) hx hb dX12_read_253 (by decide) ?_
        refine lv_istore_n (i := 1) (lv' := [(1, .int 0), (0, .ref x0_214)]) hx hb dX12_read_254 rfl hl (by decide) rfl (fun ls hl => ?_)
        exact hB255 x0_214 kx0_214 q_FU 0 dt214006 _ _ _ hm hW hS (lv_sub hl [1, 0] rfl)
      refine lv_if_le (tgt := 241) hx hb dX12_read_233 (by decide) (fun h => absurd h c214003) (fun _ => ?_)
      refine lv_aload_n hx hb dX12_read_236 rfl (lv_at hl 0 rfl) ?_
      refine r_getI C hW (ci := 12) kx0_214 ff_12_15 cl_12 fl_RX12_221 dX12_read_237 ?_
      exact e_iD C hW hS hm dX12_read_240
    refine lv_if_le (tgt := 229) hx hb dX12_read_221 (by decide) (fun h => absurd h c214002) (fun _ => ?_)
    refine lv_aload_n hx hb dX12_read_224 rfl (lv_at hl 0 rfl) ?_
    refine r_getI C hW (ci := 12) kx0_214 ff_12_13 cl_12 fl_RX12_212 dX12_read_225 ?_
    exact e_iD C hW hS hm dX12_read_228
  have hB184 : ∀ (x0_184 : Nat) (kx0_184 : al.1 x0_184 = 13) (dt : q_Dt) (H : Heap) (locs : List Loc) (ls : Array Slot) (hm : X12_read_b184 al x0_184 dt = some (r0, dt0)) (hW : q_W D al dt H) (hS : va_S (q_A al) s.heap H locs) (hl : lv_has ls 2 [(0, .ref x0_184)]), W p l e { frames := 7, cells := 0, slots := 0, locals := 167 } s m args below meth c H locs 0 0 (MQ below (q_Q (some (.int r0)) (fun H => q_W D al dt0 H ∧ q_Rk al 0 (some (.int r0))) (q_A al)) args s 0 0 (q_A al)) (F0 m 184 ls []) := by
    intro x0_184 kx0_184 dt H locs ls hm hW hS hl
    unfold X12_read_b184 at hm
    refine lv_aload_n hx hb dX12_read_184 rfl (lv_at hl 0 rfl) ?_
    refine lv_aload_n hx hb dX12_read_185 rfl (lv_at hl 0 rfl) ?_
    refine r_getI C hW (ci := 12) kx0_184 ff_12_13 cl_12 fl_RX12_212 dX12_read_186 ?_
    refine q_ifc hm (fun c184001 hm => ?_) (fun c184001 hm => ?_)
    · refine lv_if_le (tgt := 199) hx hb dX12_read_189 (by decide) (fun _ => ?_) (fun h => absurd c184001 h)
      refine lv_aload_n hx hb dX12_read_199 rfl (lv_at hl 0 rfl) ?_
      refine r_getI C hW (ci := 12) kx0_184 ff_12_15 cl_12 fl_RX12_221 dX12_read_200 ?_
      refine q_ifc hm (fun c184002 hm => ?_) (fun c184002 hm => ?_)
      · refine lv_if_le (tgt := 213) hx hb dX12_read_203 (by decide) (fun _ => ?_) (fun h => absurd c184002 h)
        refine lv_iconst (v := (-1)) hx hb dX12_read_213 (by decide) ?_
        exact hB214 x0_184 x0_184 (-1) kx0_184 kx0_184 dt _ _ _ hm hW hS (lv_sub hl [0] rfl)
      refine lv_if_le (tgt := 213) hx hb dX12_read_203 (by decide) (fun h => absurd h c184002) (fun _ => ?_)
      refine lv_aload_n hx hb dX12_read_206 rfl (lv_at hl 0 rfl) ?_
      refine r_getI C hW (ci := 12) kx0_184 ff_12_16 cl_12 fl_RX12_224 dX12_read_207 ?_
      refine lv_goto (tgt := 214) hx hb dX12_read_210 (by decide) ?_
      exact hB214 x0_184 x0_184 (dt.1 x0_184 16) kx0_184 kx0_184 dt _ _ _ hm hW hS (lv_sub hl [0] rfl)
    refine lv_if_le (tgt := 199) hx hb dX12_read_189 (by decide) (fun h => absurd h c184001) (fun _ => ?_)
    refine lv_aload_n hx hb dX12_read_192 rfl (lv_at hl 0 rfl) ?_
    refine r_getI C hW (ci := 12) kx0_184 ff_12_14 cl_12 fl_RX12_218 dX12_read_193 ?_
    refine lv_goto (tgt := 214) hx hb dX12_read_196 (by decide) ?_
    exact hB214 x0_184 x0_184 (dt.1 x0_184 14) kx0_184 kx0_184 dt _ _ _ hm hW hS (lv_sub hl [0] rfl)
  have hB162 : ∀ (x0_162 : Nat) (kx0_162 : al.1 x0_162 = 13) (n_162 : Nat) (dt : q_Dt) (H : Heap) (locs : List Loc) (ls : Array Slot) (hm : X12_read_b162 al x0_162 n_162 dt = some (r0, dt0)) (hW : q_W D al dt H) (hS : va_S (q_A al) s.heap H locs) (hl : lv_has ls 2 [(0, .ref x0_162)]), W p l e { frames := 7, cells := 0, slots := 0, locals := 167 } s m args below meth c H locs 0 0 (MQ below (q_Q (some (.int r0)) (fun H => q_W D al dt0 H ∧ q_Rk al 0 (some (.int r0))) (q_A al)) args s 0 0 (q_A al)) (F0 m 162 ls []) := by
    intro x0_162 kx0_162
    intro n_162
    induction n_162 with
    | zero => intro dt H locs ls hm hW hS hl; cases hm
    | succ n_162 ih162 =>
      intro dt H locs ls hm hW hS hl
      rw [X12_read_b162] at hm
      refine lv_aload_n hx hb dX12_read_162 rfl (lv_at hl 0 rfl) ?_
      refine r_getI C hW (ci := 12) kx0_162 ff_12_13 cl_12 fl_RX12_212 dX12_read_163 ?_
      refine q_ifc hm (fun c162001 hm => ?_) (fun c162001 hm => ?_)
      · refine lv_if_ne (tgt := 184) hx hb dX12_read_166 (by decide) (fun h => absurd c162001 h) (fun _ => ?_)
        refine lv_aload_n hx hb dX12_read_169 rfl (lv_at hl 0 rfl) ?_
        refine lv_iconst (v := 0) hx hb dX12_read_170 (by decide) ?_
        obtain ⟨v162003, hc162002, hm⟩ := q_b1i hm
        refine q_callV C hW hS (As := [.int 0]) (rest := []) (st1 := [.int v162003]) (c_X12_is l D al dt x0_162 0 kx0_162 v162003 hc162002) yl_X12_is vl_X12_is ml_RX12_230 (ci := 12) rfl kx0_162 (by decide) rfl ⟨Nat.le_of_ble_eq_true rfl, Nat.le_of_ble_eq_true rfl⟩ hl rfl (Nat.le_of_ble_eq_true rfl) dX12_read_171 ⟨Nat.le_refl _, Nat.le_refl _⟩ rfl (fun H locs k162004 hW hS => ?_)
        refine q_ifc hm (fun c162005 hm => ?_) (fun c162005 hm => ?_)
        · refine lv_if_ne (tgt := 184) hx hb dX12_read_174 (by decide) (fun h => absurd c162005 h) (fun _ => ?_)
          refine lv_aload_n hx hb dX12_read_177 rfl (lv_at hl 0 rfl) ?_
          obtain ⟨dt162007, hc162006, hm⟩ := q_b1i hm
          refine q_callV C hW hS (As := []) (rest := []) (st1 := []) (c_X12_tell l D al dt x0_162 kx0_162 dt162007 hc162006) yl_X12_tell vl_X12_tell ml_RX12_251 (ci := 12) rfl kx0_162 (by decide) rfl ⟨Nat.le_of_ble_eq_true rfl, Nat.le_of_ble_eq_true rfl⟩ hl rfl (Nat.le_of_ble_eq_true rfl) dX12_read_178 ⟨Nat.le_refl _, Nat.le_refl _⟩ rfl (fun H locs k162008 hW hS => ?_)
          refine lv_goto (tgt := 162) hx hb dX12_read_181 (by decide) ?_
          exact ih162 dt162007 _ _ _ hm hW hS (lv_sub hl [0] rfl)
        refine lv_if_ne (tgt := 184) hx hb dX12_read_174 (by decide) (fun _ => ?_) (fun h => absurd h c162005)
        exact hB184 x0_162 kx0_162 dt _ _ _ hm hW hS (lv_sub hl [0] rfl)
      refine lv_if_ne (tgt := 184) hx hb dX12_read_166 (by decide) (fun _ => ?_) (fun h => absurd h c162001)
      exact hB184 x0_162 kx0_162 dt _ _ _ hm hW hS (lv_sub hl [0] rfl)
  have hB10 : ∀ (x0_10 : Nat) (kx0_10 : al.1 x0_10 = 13) (n_10 : Nat) (x1_10 : Int32) (dt : q_Dt) (H : Heap) (locs : List Loc) (ls : Array Slot) (hm : X12_read_b10 al x0_10 n_10 x1_10 dt = some (r0, dt0)) (hW : q_W D al dt H) (hS : va_S (q_A al) s.heap H locs) (hl : lv_has ls 2 [(0, .ref x0_10), (1, .int x1_10)]), W p l e { frames := 7, cells := 0, slots := 0, locals := 167 } s m args below meth c H locs 0 0 (MQ below (q_Q (some (.int r0)) (fun H => q_W D al dt0 H ∧ q_Rk al 0 (some (.int r0))) (q_A al)) args s 0 0 (q_A al)) (F0 m 10 ls []) := by
    intro x0_10 kx0_10
    intro n_10
    induction n_10 with
    | zero => intro x1_10 dt H locs ls hm hW hS hl; cases hm
    | succ n_10 ih10 =>
      intro x1_10 dt H locs ls hm hW hS hl
      rw [X12_read_b10] at hm
      refine lv_iload_n hx hb dX12_read_10 rfl (lv_at hl 1 rfl) ?_
      refine lv_aload_n hx hb dX12_read_11 rfl (lv_at hl 0 rfl) ?_
      refine r_getI C hW (ci := 12) kx0_10 ff_12_4 cl_12 fl_RX12_181 dX12_read_12 ?_
      refine q_ifc hm (fun c10001 hm => ?_) (fun c10001 hm => ?_)
      · refine lv_icmp_ge (tgt := 36) hx hb dX12_read_15 (by decide) (fun _ => ?_) (fun h => absurd c10001 h)
        refine lv_aload_n hx hb dX12_read_36 rfl (lv_at hl 0 rfl) ?_
        refine lv_iconst (v := 0) hx hb dX12_read_37 (by decide) ?_
        refine r_putI C hW hS hm (ci := 12) kx0_10 ff_12_2 cl_12 fl_RX12_174 (nf_12_2) rfl dX12_read_38 (fun dt10002 H locs hm hW hS => ?_)
        refine lv_aload_n hx hb dX12_read_41 rfl (lv_at hl 0 rfl) ?_
        obtain ⟨dt10004, hc10003, hm⟩ := q_b1i hm
        refine q_callV C hW hS (As := []) (rest := []) (st1 := []) (c_X12_cut l D al dt10002 x0_10 kx0_10 dt10004 hc10003) yl_X12_cut vl_X12_cut ml_RX12_236 (ci := 12) rfl kx0_10 (by decide) rfl ⟨Nat.le_of_ble_eq_true rfl, Nat.le_of_ble_eq_true rfl⟩ hl rfl (Nat.le_of_ble_eq_true rfl) dX12_read_42 ⟨Nat.le_refl _, Nat.le_refl _⟩ rfl (fun H locs k10005 hW hS => ?_)
        refine lv_aload_n hx hb dX12_read_45 rfl (lv_at hl 0 rfl) ?_
        refine lv_iconst (v := 0) hx hb dX12_read_46 (by decide) ?_
        refine r_putI C hW hS hm (ci := 12) kx0_10 ff_12_11 cl_12 fl_RX12_215 (nf_12_11) rfl dX12_read_47 (fun dt10006 H locs hm hW hS => ?_)
        refine lv_aload_n hx hb dX12_read_50 rfl (lv_at hl 0 rfl) ?_
        refine lv_iconst (v := 0) hx hb dX12_read_51 (by decide) ?_
        refine r_putI C hW hS hm (ci := 12) kx0_10 ff_12_12 cl_12 fl_RX12_239 (nf_12_12) rfl dX12_read_52 (fun dt10007 H locs hm hW hS => ?_)
        refine lv_aload_n hx hb dX12_read_55 rfl (lv_at hl 0 rfl) ?_
        refine lv_iconst (v := 0) hx hb dX12_read_56 (by decide) ?_
        refine r_putI C hW hS hm (ci := 12) kx0_10 ff_12_13 cl_12 fl_RX12_212 (nf_12_13) rfl dX12_read_57 (fun dt10008 H locs hm hW hS => ?_)
        refine lv_aload_n hx hb dX12_read_60 rfl (lv_at hl 0 rfl) ?_
        refine lv_iconst (v := 0) hx hb dX12_read_61 (by decide) ?_
        refine r_putI C hW hS hm (ci := 12) kx0_10 ff_12_15 cl_12 fl_RX12_221 (nf_12_15) rfl dX12_read_62 (fun dt10009 H locs hm hW hS => ?_)
        refine lv_aload_n hx hb dX12_read_65 rfl (lv_at hl 0 rfl) ?_
        refine lv_iconst (v := 1) hx hb dX12_read_66 (by decide) ?_
        refine lv_aload_n hx hb dX12_read_67 rfl (lv_at hl 0 rfl) ?_
        refine r_getI C hW (ci := 12) kx0_10 ff_12_18 cl_12 fl_RX12_242 dX12_read_68 ?_
        refine lv_isub hx hb dX12_read_71 ?_
        refine r_putI C hW hS hm (ci := 12) kx0_10 ff_12_19 cl_12 fl_RX12_245 (nf_12_19) rfl dX12_read_72 (fun dt10010 H locs hm hW hS => ?_)
        refine lv_aload_n hx hb dX12_read_75 rfl (lv_at hl 0 rfl) ?_
        refine lv_iconst (v := 0) hx hb dX12_read_76 (by decide) ?_
        refine r_putI C hW hS hm (ci := 12) kx0_10 ff_12_20 cl_12 fl_RX12_248 (nf_12_20) rfl dX12_read_77 (fun dt10011 H locs hm hW hS => ?_)
        refine lv_aload_n hx hb dX12_read_80 rfl (lv_at hl 0 rfl) ?_
        refine r_getF C hW (ci := 12) kx0_10 ff_12_24 cl_12 fl_RX12_49 dX12_read_81 (fun k10012 => ?_)
        refine lv_aload_n hx hb dX12_read_84 rfl (lv_at hl 0 rfl) ?_
        refine r_getI C hW (ci := 12) kx0_10 ff_12_19 cl_12 fl_RX12_245 dX12_read_85 ?_
        refine lv_iconst (v := 0) hx hb dX12_read_88 (by decide) ?_
        refine r_iast C hW hS hm k10012 dX12_read_89 (fun dt10013 H locs hm hW hS => ?_)
        refine lv_aload_n hx hb dX12_read_90 rfl (lv_at hl 0 rfl) ?_
        refine r_getF C hW (ci := 12) kx0_10 ff_12_27 cl_12 fl_RX12_58 dX12_read_91 (fun k10014 => ?_)
        refine lv_aload_n hx hb dX12_read_94 rfl (lv_at hl 0 rfl) ?_
        refine r_getI C hW (ci := 12) kx0_10 ff_12_19 cl_12 fl_RX12_245 dX12_read_95 ?_
        refine lv_iconst (v := 0) hx hb dX12_read_98 (by decide) ?_
        refine r_iast C hW hS hm k10014 dX12_read_99 (fun dt10015 H locs hm hW hS => ?_)
        refine lv_aload_n hx hb dX12_read_100 rfl (lv_at hl 0 rfl) ?_
        refine r_getF C hW (ci := 12) kx0_10 ff_12_31 cl_12 fl_RX12_70 dX12_read_101 (fun k10016 => ?_)
        refine lv_aload_n hx hb dX12_read_104 rfl (lv_at hl 0 rfl) ?_
        refine r_getI C hW (ci := 12) kx0_10 ff_12_19 cl_12 fl_RX12_245 dX12_read_105 ?_
        refine lv_iconst (v := 0) hx hb dX12_read_108 (by decide) ?_
        refine r_iast C hW hS hm k10016 dX12_read_109 (fun dt10017 H locs hm hW hS => ?_)
        refine lv_aload_n hx hb dX12_read_110 rfl (lv_at hl 0 rfl) ?_
        refine r_getF C hW (ci := 12) kx0_10 ff_12_38 cl_12 fl_RX12_91 dX12_read_111 (fun k10018 => ?_)
        refine lv_aload_n hx hb dX12_read_114 rfl (lv_at hl 0 rfl) ?_
        refine r_getI C hW (ci := 12) kx0_10 ff_12_19 cl_12 fl_RX12_245 dX12_read_115 ?_
        refine lv_iconst (v := 0) hx hb dX12_read_118 (by decide) ?_
        refine r_iast C hW hS hm k10018 dX12_read_119 (fun dt10019 H locs hm hW hS => ?_)
        refine lv_aload_n hx hb dX12_read_120 rfl (lv_at hl 0 rfl) ?_
        refine r_getF C hW (ci := 12) kx0_10 ff_12_42 cl_12 fl_RX12_103 dX12_read_121 (fun k10020 => ?_)
        refine lv_aload_n hx hb dX12_read_124 rfl (lv_at hl 0 rfl) ?_
        refine r_getI C hW (ci := 12) kx0_10 ff_12_19 cl_12 fl_RX12_245 dX12_read_125 ?_
        refine lv_iconst (v := 0) hx hb dX12_read_128 (by decide) ?_
        refine r_iast C hW hS hm k10020 dX12_read_129 (fun dt10021 H locs hm hW hS => ?_)
        refine lv_aload_n hx hb dX12_read_130 rfl (lv_at hl 0 rfl) ?_
        refine r_getF C hW (ci := 12) kx0_10 ff_12_47 cl_12 fl_RX12_118 dX12_read_131 (fun k10022 => ?_)
        refine lv_aload_n hx hb dX12_read_134 rfl (lv_at hl 0 rfl) ?_
        refine r_getI C hW (ci := 12) kx0_10 ff_12_19 cl_12 fl_RX12_245 dX12_read_135 ?_
        refine lv_iconst (v := 0) hx hb dX12_read_138 (by decide) ?_
        refine r_iast C hW hS hm k10022 dX12_read_139 (fun dt10023 H locs hm hW hS => ?_)
        refine lv_aload_n hx hb dX12_read_140 rfl (lv_at hl 0 rfl) ?_
        refine r_getF C hW (ci := 12) kx0_10 ff_12_48 cl_12 fl_RX12_121 dX12_read_141 (fun k10024 => ?_)
        refine lv_aload_n hx hb dX12_read_144 rfl (lv_at hl 0 rfl) ?_
        refine r_getI C hW (ci := 12) kx0_10 ff_12_19 cl_12 fl_RX12_245 dX12_read_145 ?_
        refine lv_iconst (v := 0) hx hb dX12_read_148 (by decide) ?_
        refine r_iast C hW hS hm k10024 dX12_read_149 (fun dt10025 H locs hm hW hS => ?_)
        refine lv_aload_n hx hb dX12_read_150 rfl (lv_at hl 0 rfl) ?_
        refine r_getF C hW (ci := 12) kx0_10 ff_12_49 cl_12 fl_RX12_124 dX12_read_151 (fun k10026 => ?_)
        refine lv_aload_n hx hb dX12_read_154 rfl (lv_at hl 0 rfl) ?_
        refine r_getI C hW (ci := 12) kx0_10 ff_12_19 cl_12 fl_RX12_245 dX12_read_155 ?_
        refine lv_sipush (v := 256) hx hb dX12_read_158 (by decide) ?_
        refine r_iast C hW hS hm k10026 dX12_read_161 (fun dt10027 H locs hm hW hS => ?_)
        exact hB162 x0_10 kx0_10 q_FU dt10027 _ _ _ hm hW hS (lv_sub hl [0] rfl)
      refine lv_icmp_ge (tgt := 36) hx hb dX12_read_15 (by decide) (fun h => absurd h c10001) (fun _ => ?_)
      refine lv_aload_n hx hb dX12_read_18 rfl (lv_at hl 0 rfl) ?_
      refine r_getF C hW (ci := 12) kx0_10 ff_12_3 cl_12 fl_RX12_17 dX12_read_19 (fun k10028 => ?_)
      refine lv_iload_n hx hb dX12_read_22 rfl (lv_at hl 1 rfl) ?_
      refine lv_aload_n hx hb dX12_read_23 rfl (lv_at hl 0 rfl) ?_
      refine r_getF C hW (ci := 12) kx0_10 ff_12_1 cl_12 fl_RX12_13 dX12_read_24 (fun k10029 => ?_)
      refine lv_iload_n hx hb dX12_read_27 rfl (lv_at hl 1 rfl) ?_
      refine r_bald C hW hm k10029 dX12_read_28 (fun hm => ?_)
      refine r_bast C hW hS hm k10028 dX12_read_29 (fun dt10030 H locs hm hW hS => ?_)
      refine lv_iinc (v := (x1_10 + 1)) (lv' := [(1, .int (x1_10 + 1)), (0, .ref x0_10)]) hx hb dX12_read_30 hl (k := 1) rfl rfl (by decide) rfl (fun ls hl => ?_)
      refine lv_goto (tgt := 10) hx hb dX12_read_33 (by decide) ?_
      exact ih10 (x1_10 + 1) dt10030 _ _ _ hm hW hS (lv_sub hl [1, 0] rfl)
  refine lv_aload_n hx hb dX12_read_0 rfl (lv_at hl 0 rfl) ?_
  refine lv_aload_n hx hb dX12_read_1 rfl (lv_at hl 0 rfl) ?_
  refine r_getI C hW (ci := 12) kx0 ff_12_2 cl_12 fl_RX12_174 dX12_read_2 ?_
  refine r_putI C hW hS hm (ci := 12) kx0 ff_12_4 cl_12 fl_RX12_181 (nf_12_4) rfl dX12_read_5 (fun dt1000001 H locs hm hW hS => ?_)
  refine lv_iconst (v := 0) hx hb dX12_read_8 (by decide) ?_
  refine lv_istore_n (i := 1) (lv' := [(1, .int 0), (0, .ref x0)]) hx hb dX12_read_9 rfl hl (by decide) rfl (fun ls hl => ?_)
  exact hB10 x0 kx0 q_FU 0 dt1000001 _ _ _ hm hW hS (lv_sub hl [1, 0] rfl)
theorem dX12_place_0 : decode cX12_place 0 = .ok (.aload_n 0, 1) := by decide +kernel
theorem dX12_place_1 : decode cX12_place 1 = .ok (.getfield 37, 3) := by decide +kernel
theorem dX12_place_4 : decode cX12_place 4 = .ok (.ireturn, 1) := by decide +kernel
set_option maxRecDepth 100000 in
theorem c_X12_place (l : Launch) (D : q_D) (al : q_Al) (dt : q_Dt) (x0 : Nat) (kx0 : al.1 x0 = 13) (r0 : Int32) (hm : X12_place al dt x0 = some r0) : q_Mt l yX12_place cX12_place 1 (some FieldType.int) 0 0 D al [.ref x0] dt 0 (some (.int r0)) dt := by
  refine q_Mt.of (by decide) (Nat.le_of_ble_eq_true rfl) ?_
  intro p e s m args below meth c ls C hargs hW hl
  have hx := C.1
  have hb := C.2.1
  have hown := C.2.2.2.2.2.1
  have hts := C.2.2.2.2.2.2.1
  have hS : va_S (q_A al) s.heap s.heap [] := va_S.rf
  have hl : lv_has ls 1 [(0, .ref x0)] := hl
  unfold X12_place at hm
  refine lv_aload_n hx hb dX12_place_0 rfl (lv_at hl 0 rfl) ?_
  refine r_getI C hW (ci := 12) kx0 ff_12_17 cl_12 fl_RX12_37 dX12_place_1 ?_
  exact e_i C hW hS hm dX12_place_4
theorem dX12_in_0 : decode cX12_in 0 = .ok (.iload_n 0, 1) := by decide +kernel
theorem dX12_in_1 : decode cX12_in 1 = .ok (.iload_n 1, 1) := by decide +kernel
theorem dX12_in_2 : decode cX12_in 2 = .ok (.if_icmp .lt 12, 3) := by decide +kernel
theorem dX12_in_5 : decode cX12_in 5 = .ok (.iload_n 0, 1) := by decide +kernel
theorem dX12_in_6 : decode cX12_in 6 = .ok (.iload_n 2, 1) := by decide +kernel
theorem dX12_in_7 : decode cX12_in 7 = .ok (.if_icmp .gt 7, 3) := by decide +kernel
theorem dX12_in_10 : decode cX12_in 10 = .ok (.iconst 1, 1) := by decide +kernel
theorem dX12_in_11 : decode cX12_in 11 = .ok (.goto 4, 3) := by decide +kernel
theorem dX12_in_14 : decode cX12_in 14 = .ok (.iconst 0, 1) := by decide +kernel
theorem dX12_in_15 : decode cX12_in 15 = .ok (.ireturn, 1) := by decide +kernel
set_option maxRecDepth 100000 in
theorem c_X12_in (l : Launch) (D : q_D) (al : q_Al) (dt : q_Dt) (x0 : Int32) (x1 : Int32) (x2 : Int32) (r0 : Int32) (hm : X12_in x0 x1 x2 = some r0) : q_Mt l yX12_in cX12_in 3 (some FieldType.boolean) 0 0 D al [.int x0, .int x1, .int x2] dt 0 (some (.int r0)) dt := by
  refine q_Mt.of (by decide) (Nat.le_of_ble_eq_true rfl) ?_
  intro p e s m args below meth c ls C hargs hW hl
  have hx := C.1
  have hb := C.2.1
  have hown := C.2.2.2.2.2.1
  have hts := C.2.2.2.2.2.2.1
  have hS : va_S (q_A al) s.heap s.heap [] := va_S.rf
  have hl : lv_has ls 3 [(0, .int x0), (1, .int x1), (2, .int x2)] := hl
  unfold X12_in at hm
  refine lv_iload_n hx hb dX12_in_0 rfl (lv_at hl 0 rfl) ?_
  refine lv_iload_n hx hb dX12_in_1 rfl (lv_at hl 1 rfl) ?_
  refine q_ifc hm (fun c1000001 hm => ?_) (fun c1000001 hm => ?_)
  · refine lv_icmp_lt (tgt := 14) hx hb dX12_in_2 (by decide) (fun _ => ?_) (fun h => absurd c1000001 h)
    refine lv_iconst (v := 0) hx hb dX12_in_14 (by decide) ?_
    exact e_zl C hW hS (Or.inl rfl) hm dX12_in_15
  refine lv_icmp_lt (tgt := 14) hx hb dX12_in_2 (by decide) (fun h => absurd h c1000001) (fun _ => ?_)
  refine lv_iload_n hx hb dX12_in_5 rfl (lv_at hl 0 rfl) ?_
  refine lv_iload_n hx hb dX12_in_6 rfl (lv_at hl 2 rfl) ?_
  refine q_ifc hm (fun c1000002 hm => ?_) (fun c1000002 hm => ?_)
  · refine lv_icmp_gt (tgt := 14) hx hb dX12_in_7 (by decide) (fun _ => ?_) (fun h => absurd c1000002 h)
    refine lv_iconst (v := 0) hx hb dX12_in_14 (by decide) ?_
    exact e_zl C hW hS (Or.inl rfl) hm dX12_in_15
  refine lv_icmp_gt (tgt := 14) hx hb dX12_in_7 (by decide) (fun h => absurd h c1000002) (fun _ => ?_)
  refine lv_iconst (v := 1) hx hb dX12_in_10 (by decide) ?_
  refine lv_goto (tgt := 15) hx hb dX12_in_11 (by decide) ?_
  exact e_zl C hW hS (Or.inr rfl) hm dX12_in_15
theorem dX12_isCode_0 : decode cX12_isCode 0 = .ok (.iload_n 1, 1) := by decide +kernel
theorem dX12_isCode_1 : decode cX12_isCode 1 = .ok (.iconst 0, 1) := by decide +kernel
theorem dX12_isCode_2 : decode cX12_isCode 2 = .ok (.aload_n 0, 1) := by decide +kernel
theorem dX12_isCode_3 : decode cX12_isCode 3 = .ok (.getfield 49, 3) := by decide +kernel
theorem dX12_isCode_6 : decode cX12_isCode 6 = .ok (.aload_n 0, 1) := by decide +kernel
theorem dX12_isCode_7 : decode cX12_isCode 7 = .ok (.getfield 242, 3) := by decide +kernel
theorem dX12_isCode_10 : decode cX12_isCode 10 = .ok (.iaload, 1) := by decide +kernel
theorem dX12_isCode_11 : decode cX12_isCode 11 = .ok (.iconst 1, 1) := by decide +kernel
theorem dX12_isCode_12 : decode cX12_isCode 12 = .ok (.isub, 1) := by decide +kernel
theorem dX12_isCode_13 : decode cX12_isCode 13 = .ok (.invokestatic 376, 3) := by decide +kernel
theorem dX12_isCode_16 : decode cX12_isCode 16 = .ok (.ireturn, 1) := by decide +kernel
set_option maxRecDepth 100000 in
theorem c_X12_isCode (l : Launch) (D : q_D) (al : q_Al) (dt : q_Dt) (x0 : Nat) (x1 : Int32) (kx0 : al.1 x0 = 13) (r0 : Int32) (hm : X12_isCode al dt x0 x1 = some r0) : q_Mt l yX12_isCode cX12_isCode 2 (some FieldType.boolean) 1 22 D al [.ref x0, .int x1] dt 0 (some (.int r0)) dt := by
  refine q_Mt.of (by decide) (Nat.le_of_ble_eq_true rfl) ?_
  intro p e s m args below meth c ls C hargs hW hl
  have hx := C.1
  have hb := C.2.1
  have hown := C.2.2.2.2.2.1
  have hts := C.2.2.2.2.2.2.1
  have hS : va_S (q_A al) s.heap s.heap [] := va_S.rf
  have hl : lv_has ls 2 [(0, .ref x0), (1, .int x1)] := hl
  unfold X12_isCode at hm
  refine lv_iload_n hx hb dX12_isCode_0 rfl (lv_at hl 1 rfl) ?_
  refine lv_iconst (v := 0) hx hb dX12_isCode_1 (by decide) ?_
  refine lv_aload_n hx hb dX12_isCode_2 rfl (lv_at hl 0 rfl) ?_
  refine r_getF C hW (ci := 12) kx0 ff_12_24 cl_12 fl_RX12_49 dX12_isCode_3 (fun k1000001 => ?_)
  refine lv_aload_n hx hb dX12_isCode_6 rfl (lv_at hl 0 rfl) ?_
  refine r_getI C hW (ci := 12) kx0 ff_12_18 cl_12 fl_RX12_242 dX12_isCode_7 ?_
  refine r_iald C hW hm k1000001 dX12_isCode_10 (fun hm => ?_)
  refine lv_iconst (v := 1) hx hb dX12_isCode_11 (by decide) ?_
  refine lv_isub hx hb dX12_isCode_12 ?_
  obtain ⟨v1000003, hc1000002, hm⟩ := q_b1i hm
  refine q_callS C hW hS (As := [.int x1, .int 0, .int ((dt.1 (al.2.2 x0 24) (Int32.toNatClampNeg (dt.1 x0 18))) - 1)]) (rest := []) (st1 := [.int v1000003]) (c_X12_in l D al dt x1 0 ((dt.1 (al.2.2 x0 24) (Int32.toNatClampNeg (dt.1 x0 18))) - 1) v1000003 hc1000002) yl_X12_in sl_X12_in ml_RX12_376 rfl ⟨Nat.le_of_ble_eq_true rfl, Nat.le_of_ble_eq_true rfl⟩ hl rfl (Nat.le_of_ble_eq_true rfl) dX12_isCode_13 ⟨Nat.le_refl _, Nat.le_refl _⟩ rfl (fun H locs k1000004 hW hS => ?_)
  exact e_z C hW hS hm dX12_isCode_16
theorem dX12_arePair_0 : decode cX12_arePair 0 = .ok (.aload_n 0, 1) := by decide +kernel
theorem dX12_arePair_1 : decode cX12_arePair 1 = .ok (.iload_n 1, 1) := by decide +kernel
theorem dX12_arePair_2 : decode cX12_arePair 2 = .ok (.invokevirtual 380, 3) := by decide +kernel
theorem dX12_arePair_5 : decode cX12_arePair 5 = .ok (.ifCond .eq 28, 3) := by decide +kernel
theorem dX12_arePair_8 : decode cX12_arePair 8 = .ok (.aload_n 0, 1) := by decide +kernel
theorem dX12_arePair_9 : decode cX12_arePair 9 = .ok (.iload_n 2, 1) := by decide +kernel
theorem dX12_arePair_10 : decode cX12_arePair 10 = .ok (.invokevirtual 380, 3) := by decide +kernel
theorem dX12_arePair_13 : decode cX12_arePair 13 = .ok (.ifCond .eq 20, 3) := by decide +kernel
theorem dX12_arePair_16 : decode cX12_arePair 16 = .ok (.aload_n 0, 1) := by decide +kernel
theorem dX12_arePair_17 : decode cX12_arePair 17 = .ok (.iload_n 1, 1) := by decide +kernel
theorem dX12_arePair_18 : decode cX12_arePair 18 = .ok (.invokevirtual 327, 3) := by decide +kernel
theorem dX12_arePair_21 : decode cX12_arePair 21 = .ok (.aload_n 0, 1) := by decide +kernel
theorem dX12_arePair_22 : decode cX12_arePair 22 = .ok (.iload_n 2, 1) := by decide +kernel
theorem dX12_arePair_23 : decode cX12_arePair 23 = .ok (.invokevirtual 327, 3) := by decide +kernel
theorem dX12_arePair_26 : decode cX12_arePair 26 = .ok (.if_icmp .ne 7, 3) := by decide +kernel
theorem dX12_arePair_29 : decode cX12_arePair 29 = .ok (.iconst 1, 1) := by decide +kernel
theorem dX12_arePair_30 : decode cX12_arePair 30 = .ok (.goto 4, 3) := by decide +kernel
theorem dX12_arePair_33 : decode cX12_arePair 33 = .ok (.iconst 0, 1) := by decide +kernel
theorem dX12_arePair_34 : decode cX12_arePair 34 = .ok (.ireturn, 1) := by decide +kernel
set_option maxRecDepth 100000 in
theorem c_X12_arePair (l : Launch) (D : q_D) (al : q_Al) (dt : q_Dt) (x0 : Nat) (x1 : Int32) (x2 : Int32) (kx0 : al.1 x0 = 13) (r0 : Int32) (hm : X12_arePair al dt x0 x1 x2 = some r0) : q_Mt l yX12_arePair cX12_arePair 3 (some FieldType.boolean) 2 43 D al [.ref x0, .int x1, .int x2] dt 0 (some (.int r0)) dt := by
  refine q_Mt.of (by decide) (Nat.le_of_ble_eq_true rfl) ?_
  intro p e s m args below meth c ls C hargs hW hl
  have hx := C.1
  have hb := C.2.1
  have hown := C.2.2.2.2.2.1
  have hts := C.2.2.2.2.2.2.1
  have hS : va_S (q_A al) s.heap s.heap [] := va_S.rf
  have hl : lv_has ls 3 [(0, .ref x0), (1, .int x1), (2, .int x2)] := hl
  unfold X12_arePair at hm
  refine lv_aload_n hx hb dX12_arePair_0 rfl (lv_at hl 0 rfl) ?_
  refine lv_iload_n hx hb dX12_arePair_1 rfl (lv_at hl 1 rfl) ?_
  obtain ⟨v1000002, hc1000001, hm⟩ := q_b1i hm
  refine q_callV C hW hS (As := [.int x1]) (rest := []) (st1 := [.int v1000002]) (c_X12_isCode l D al dt x0 x1 kx0 v1000002 hc1000001) yl_X12_isCode vl_X12_isCode ml_RX12_380 (ci := 12) rfl kx0 (by decide) rfl ⟨Nat.le_of_ble_eq_true rfl, Nat.le_of_ble_eq_true rfl⟩ hl rfl (Nat.le_of_ble_eq_true rfl) dX12_arePair_2 ⟨Nat.le_refl _, Nat.le_refl _⟩ rfl (fun H locs k1000003 hW hS => ?_)
  refine q_ifc hm (fun c1000004 hm => ?_) (fun c1000004 hm => ?_)
  · refine lv_if_eq (tgt := 33) hx hb dX12_arePair_5 (by decide) (fun _ => ?_) (fun h => absurd c1000004 h)
    refine lv_iconst (v := 0) hx hb dX12_arePair_33 (by decide) ?_
    exact e_zl C hW hS (Or.inl rfl) hm dX12_arePair_34
  refine lv_if_eq (tgt := 33) hx hb dX12_arePair_5 (by decide) (fun h => absurd h c1000004) (fun _ => ?_)
  refine lv_aload_n hx hb dX12_arePair_8 rfl (lv_at hl 0 rfl) ?_
  refine lv_iload_n hx hb dX12_arePair_9 rfl (lv_at hl 2 rfl) ?_
  obtain ⟨v1000006, hc1000005, hm⟩ := q_b1i hm
  refine q_callV C hW hS (As := [.int x2]) (rest := []) (st1 := [.int v1000006]) (c_X12_isCode l D al dt x0 x2 kx0 v1000006 hc1000005) yl_X12_isCode vl_X12_isCode ml_RX12_380 (ci := 12) rfl kx0 (by decide) rfl ⟨Nat.le_of_ble_eq_true rfl, Nat.le_of_ble_eq_true rfl⟩ hl rfl (Nat.le_of_ble_eq_true rfl) dX12_arePair_10 ⟨Nat.le_refl _, Nat.le_refl _⟩ rfl (fun H locs k1000007 hW hS => ?_)
  refine q_ifc hm (fun c1000008 hm => ?_) (fun c1000008 hm => ?_)
  · refine lv_if_eq (tgt := 33) hx hb dX12_arePair_13 (by decide) (fun _ => ?_) (fun h => absurd c1000008 h)
    refine lv_iconst (v := 0) hx hb dX12_arePair_33 (by decide) ?_
    exact e_zl C hW hS (Or.inl rfl) hm dX12_arePair_34
  refine lv_if_eq (tgt := 33) hx hb dX12_arePair_13 (by decide) (fun h => absurd h c1000008) (fun _ => ?_)
  refine lv_aload_n hx hb dX12_arePair_16 rfl (lv_at hl 0 rfl) ?_
  refine lv_iload_n hx hb dX12_arePair_17 rfl (lv_at hl 1 rfl) ?_
  obtain ⟨v1000010, hc1000009, hm⟩ := q_b1i hm
  refine q_callV C hW hS (As := [.int x1]) (rest := []) (st1 := [.int v1000010]) (c_X12_long0 l D al dt x0 x1 kx0 v1000010 hc1000009) yl_X12_long0 vl_X12_long0 ml_RX12_327 (ci := 12) rfl kx0 (by decide) rfl ⟨Nat.le_of_ble_eq_true rfl, Nat.le_of_ble_eq_true rfl⟩ hl rfl (Nat.le_of_ble_eq_true rfl) dX12_arePair_18 ⟨Nat.le_refl _, Nat.le_refl _⟩ rfl (fun H locs k1000011 hW hS => ?_)
  refine lv_aload_n hx hb dX12_arePair_21 rfl (lv_at hl 0 rfl) ?_
  refine lv_iload_n hx hb dX12_arePair_22 rfl (lv_at hl 2 rfl) ?_
  obtain ⟨v1000013, hc1000012, hm⟩ := q_b1i hm
  refine q_callV C hW hS (As := [.int x2]) (rest := [.int v1000010]) (st1 := [.int v1000013, .int v1000010]) (c_X12_long0 l D al dt x0 x2 kx0 v1000013 hc1000012) yl_X12_long0 vl_X12_long0 ml_RX12_327 (ci := 12) rfl kx0 (by decide) rfl ⟨Nat.le_of_ble_eq_true rfl, Nat.le_of_ble_eq_true rfl⟩ hl rfl (Nat.le_of_ble_eq_true rfl) dX12_arePair_23 ⟨Nat.le_refl _, Nat.le_refl _⟩ rfl (fun H locs k1000014 hW hS => ?_)
  refine q_ifc hm (fun c1000015 hm => ?_) (fun c1000015 hm => ?_)
  · refine lv_icmp_ne (tgt := 33) hx hb dX12_arePair_26 (by decide) (fun h => absurd c1000015 h) (fun _ => ?_)
    refine lv_iconst (v := 1) hx hb dX12_arePair_29 (by decide) ?_
    refine lv_goto (tgt := 34) hx hb dX12_arePair_30 (by decide) ?_
    exact e_zl C hW hS (Or.inr rfl) hm dX12_arePair_34
  refine lv_icmp_ne (tgt := 33) hx hb dX12_arePair_26 (by decide) (fun _ => ?_) (fun h => absurd h c1000015)
  refine lv_iconst (v := 0) hx hb dX12_arePair_33 (by decide) ?_
  exact e_zl C hW hS (Or.inl rfl) hm dX12_arePair_34
theorem dX12_alikeAt_0 : decode cX12_alikeAt 0 = .ok (.aload_n 0, 1) := by decide +kernel
theorem dX12_alikeAt_1 : decode cX12_alikeAt 1 = .ok (.iload_n 1, 1) := by decide +kernel
theorem dX12_alikeAt_2 : decode cX12_alikeAt 2 = .ok (.invokevirtual 327, 3) := by decide +kernel
theorem dX12_alikeAt_5 : decode cX12_alikeAt 5 = .ok (.istore 4, 2) := by decide +kernel
theorem dX12_alikeAt_7 : decode cX12_alikeAt 7 = .ok (.iconst 0, 1) := by decide +kernel
theorem dX12_alikeAt_8 : decode cX12_alikeAt 8 = .ok (.istore 5, 2) := by decide +kernel
theorem dX12_alikeAt_10 : decode cX12_alikeAt 10 = .ok (.iconst 0, 1) := by decide +kernel
theorem dX12_alikeAt_11 : decode cX12_alikeAt 11 = .ok (.istore 6, 2) := by decide +kernel
theorem dX12_alikeAt_13 : decode cX12_alikeAt 13 = .ok (.iload 6, 2) := by decide +kernel
theorem dX12_alikeAt_15 : decode cX12_alikeAt 15 = .ok (.iload 4, 2) := by decide +kernel
theorem dX12_alikeAt_17 : decode cX12_alikeAt 17 = .ok (.if_icmp .ge 34, 3) := by decide +kernel
theorem dX12_alikeAt_20 : decode cX12_alikeAt 20 = .ok (.iload 5, 2) := by decide +kernel
theorem dX12_alikeAt_22 : decode cX12_alikeAt 22 = .ok (.aload_n 0, 1) := by decide +kernel
theorem dX12_alikeAt_23 : decode cX12_alikeAt 23 = .ok (.iload_n 1, 1) := by decide +kernel
theorem dX12_alikeAt_24 : decode cX12_alikeAt 24 = .ok (.iload 6, 2) := by decide +kernel
theorem dX12_alikeAt_26 : decode cX12_alikeAt 26 = .ok (.invokevirtual 333, 3) := by decide +kernel
theorem dX12_alikeAt_29 : decode cX12_alikeAt 29 = .ok (.aload_n 0, 1) := by decide +kernel
theorem dX12_alikeAt_30 : decode cX12_alikeAt 30 = .ok (.iload_n 2, 1) := by decide +kernel
theorem dX12_alikeAt_31 : decode cX12_alikeAt 31 = .ok (.iload 6, 2) := by decide +kernel
theorem dX12_alikeAt_33 : decode cX12_alikeAt 33 = .ok (.iload_n 3, 1) := by decide +kernel
theorem dX12_alikeAt_34 : decode cX12_alikeAt 34 = .ok (.iadd, 1) := by decide +kernel
theorem dX12_alikeAt_35 : decode cX12_alikeAt 35 = .ok (.iload 4, 2) := by decide +kernel
theorem dX12_alikeAt_37 : decode cX12_alikeAt 37 = .ok (.irem, 1) := by decide +kernel
theorem dX12_alikeAt_38 : decode cX12_alikeAt 38 = .ok (.invokevirtual 333, 3) := by decide +kernel
theorem dX12_alikeAt_41 : decode cX12_alikeAt 41 = .ok (.imul, 1) := by decide +kernel
theorem dX12_alikeAt_42 : decode cX12_alikeAt 42 = .ok (.iadd, 1) := by decide +kernel
theorem dX12_alikeAt_43 : decode cX12_alikeAt 43 = .ok (.istore 5, 2) := by decide +kernel
theorem dX12_alikeAt_45 : decode cX12_alikeAt 45 = .ok (.iinc 6 1, 3) := by decide +kernel
theorem dX12_alikeAt_48 : decode cX12_alikeAt 48 = .ok (.goto (-35), 3) := by decide +kernel
theorem dX12_alikeAt_51 : decode cX12_alikeAt 51 = .ok (.iload 5, 2) := by decide +kernel
theorem dX12_alikeAt_53 : decode cX12_alikeAt 53 = .ok (.ireturn, 1) := by decide +kernel
set_option maxRecDepth 100000 in
theorem c_X12_alikeAt (l : Launch) (D : q_D) (al : q_Al) (dt : q_Dt) (x0 : Nat) (x1 : Int32) (x2 : Int32) (x3 : Int32) (kx0 : al.1 x0 = 13) (r0 : Int32) (hm : X12_alikeAt al dt x0 x1 x2 x3 = some r0) : q_Mt l yX12_alikeAt cX12_alikeAt 7 (some FieldType.int) 1 22 D al [.ref x0, .int x1, .int x2, .int x3] dt 0 (some (.int r0)) dt := by
  refine q_Mt.of (by decide) (Nat.le_of_ble_eq_true rfl) ?_
  intro p e s m args below meth c ls C hargs hW hl
  have hx := C.1
  have hb := C.2.1
  have hown := C.2.2.2.2.2.1
  have hts := C.2.2.2.2.2.2.1
  have hS : va_S (q_A al) s.heap s.heap [] := va_S.rf
  have hl : lv_has ls 7 [(0, .ref x0), (1, .int x1), (2, .int x2), (3, .int x3)] := hl
  unfold X12_alikeAt at hm
  have hB13 : ∀ (x0_13 : Nat) (x1_13 : Int32) (x2_13 : Int32) (x3_13 : Int32) (x4_13 : Int32) (kx0_13 : al.1 x0_13 = 13) (n_13 : Nat) (x5_13 : Int32) (x6_13 : Int32) (H : Heap) (locs : List Loc) (ls : Array Slot) (hm : X12_alikeAt_b13 al dt x0_13 x1_13 x2_13 x3_13 x4_13 n_13 x5_13 x6_13 = some r0) (hW : q_W D al dt H) (hS : va_S (q_A al) s.heap H locs) (hl : lv_has ls 7 [(0, .ref x0_13), (1, .int x1_13), (2, .int x2_13), (3, .int x3_13), (4, .int x4_13), (5, .int x5_13), (6, .int x6_13)]), W p l e { frames := 1, cells := 0, slots := 0, locals := 22 } s m args below meth c H locs 0 0 (MQ below (q_Q (some (.int r0)) (fun H => q_W D al dt H ∧ q_Rk al 0 (some (.int r0))) (q_A al)) args s 0 0 (q_A al)) (F0 m 13 ls []) := by
    intro x0_13 x1_13 x2_13 x3_13 x4_13 kx0_13
    intro n_13
    induction n_13 with
    | zero => intro x5_13 x6_13 H locs ls hm hW hS hl; cases hm
    | succ n_13 ih13 =>
      intro x5_13 x6_13 H locs ls hm hW hS hl
      rw [X12_alikeAt_b13] at hm
      refine lv_iload hx hb dX12_alikeAt_13 (lv_at hl 6 rfl) ?_
      refine lv_iload hx hb dX12_alikeAt_15 (lv_at hl 4 rfl) ?_
      refine q_ifc hm (fun c13001 hm => ?_) (fun c13001 hm => ?_)
      · refine lv_icmp_ge (tgt := 51) hx hb dX12_alikeAt_17 (by decide) (fun _ => ?_) (fun h => absurd c13001 h)
        refine lv_iload hx hb dX12_alikeAt_51 (lv_at hl 5 rfl) ?_
        exact e_i C hW hS hm dX12_alikeAt_53
      refine lv_icmp_ge (tgt := 51) hx hb dX12_alikeAt_17 (by decide) (fun h => absurd h c13001) (fun _ => ?_)
      refine lv_iload hx hb dX12_alikeAt_20 (lv_at hl 5 rfl) ?_
      refine lv_aload_n hx hb dX12_alikeAt_22 rfl (lv_at hl 0 rfl) ?_
      refine lv_iload_n hx hb dX12_alikeAt_23 rfl (lv_at hl 1 rfl) ?_
      refine lv_iload hx hb dX12_alikeAt_24 (lv_at hl 6 rfl) ?_
      obtain ⟨v13003, hc13002, hm⟩ := q_b1i hm
      refine q_callV C hW hS (As := [.int x1_13, .int x6_13]) (rest := [.int x5_13]) (st1 := [.int v13003, .int x5_13]) (c_X12_chipOf l D al dt x0_13 x1_13 x6_13 kx0_13 v13003 hc13002) yl_X12_chipOf vl_X12_chipOf ml_RX12_333 (ci := 12) rfl kx0_13 (by decide) rfl ⟨Nat.le_of_ble_eq_true rfl, Nat.le_of_ble_eq_true rfl⟩ hl rfl (Nat.le_of_ble_eq_true rfl) dX12_alikeAt_26 ⟨Nat.le_refl _, Nat.le_refl _⟩ rfl (fun H locs k13004 hW hS => ?_)
      refine lv_aload_n hx hb dX12_alikeAt_29 rfl (lv_at hl 0 rfl) ?_
      refine lv_iload_n hx hb dX12_alikeAt_30 rfl (lv_at hl 2 rfl) ?_
      refine lv_iload hx hb dX12_alikeAt_31 (lv_at hl 6 rfl) ?_
      refine lv_iload_n hx hb dX12_alikeAt_33 rfl (lv_at hl 3 rfl) ?_
      refine lv_iadd hx hb dX12_alikeAt_34 ?_
      refine lv_iload hx hb dX12_alikeAt_35 (lv_at hl 4 rfl) ?_
      obtain ⟨c13005, hm⟩ := q_ini hm
      refine lv_irem hx hb dX12_alikeAt_37 c13005 ?_
      obtain ⟨v13007, hc13006, hm⟩ := q_b1i hm
      refine q_callV C hW hS (As := [.int x2_13, .int (q_ir (x6_13 + x3_13) x4_13)]) (rest := [.int v13003, .int x5_13]) (st1 := [.int v13007, .int v13003, .int x5_13]) (c_X12_chipOf l D al dt x0_13 x2_13 (q_ir (x6_13 + x3_13) x4_13) kx0_13 v13007 hc13006) yl_X12_chipOf vl_X12_chipOf ml_RX12_333 (ci := 12) rfl kx0_13 (by decide) rfl ⟨Nat.le_of_ble_eq_true rfl, Nat.le_of_ble_eq_true rfl⟩ hl rfl (Nat.le_of_ble_eq_true rfl) dX12_alikeAt_38 ⟨Nat.le_refl _, Nat.le_refl _⟩ rfl (fun H locs k13008 hW hS => ?_)
      refine lv_imul hx hb dX12_alikeAt_41 ?_
      refine lv_iadd hx hb dX12_alikeAt_42 ?_
      refine lv_istore (i := 5) (lv' := [(5, .int (x5_13 + (v13003 * v13007))), (0, .ref x0_13), (1, .int x1_13), (2, .int x2_13), (3, .int x3_13), (4, .int x4_13), (6, .int x6_13)]) hx hb dX12_alikeAt_43 hl (by decide) rfl (fun ls hl => ?_)
      refine lv_iinc (v := (x6_13 + 1)) (lv' := [(6, .int (x6_13 + 1)), (5, .int (x5_13 + (v13003 * v13007))), (0, .ref x0_13), (1, .int x1_13), (2, .int x2_13), (3, .int x3_13), (4, .int x4_13)]) hx hb dX12_alikeAt_45 hl (k := 6) rfl rfl (by decide) rfl (fun ls hl => ?_)
      refine lv_goto (tgt := 13) hx hb dX12_alikeAt_48 (by decide) ?_
      exact ih13 (x5_13 + (v13003 * v13007)) (x6_13 + 1) _ _ _ hm hW hS (lv_sub hl [2, 3, 4, 5, 6, 1, 0] rfl)
  refine lv_aload_n hx hb dX12_alikeAt_0 rfl (lv_at hl 0 rfl) ?_
  refine lv_iload_n hx hb dX12_alikeAt_1 rfl (lv_at hl 1 rfl) ?_
  obtain ⟨v1000002, hc1000001, hm⟩ := q_b1i hm
  refine q_callV C hW hS (As := [.int x1]) (rest := []) (st1 := [.int v1000002]) (c_X12_long0 l D al dt x0 x1 kx0 v1000002 hc1000001) yl_X12_long0 vl_X12_long0 ml_RX12_327 (ci := 12) rfl kx0 (by decide) rfl ⟨Nat.le_of_ble_eq_true rfl, Nat.le_of_ble_eq_true rfl⟩ hl rfl (Nat.le_of_ble_eq_true rfl) dX12_alikeAt_2 ⟨Nat.le_refl _, Nat.le_refl _⟩ rfl (fun H locs k1000003 hW hS => ?_)
  refine lv_istore (i := 4) (lv' := [(4, .int v1000002), (0, .ref x0), (1, .int x1), (2, .int x2), (3, .int x3)]) hx hb dX12_alikeAt_5 hl (by decide) rfl (fun ls hl => ?_)
  refine lv_iconst (v := 0) hx hb dX12_alikeAt_7 (by decide) ?_
  refine lv_istore (i := 5) (lv' := [(5, .int 0), (4, .int v1000002), (0, .ref x0), (1, .int x1), (2, .int x2), (3, .int x3)]) hx hb dX12_alikeAt_8 hl (by decide) rfl (fun ls hl => ?_)
  refine lv_iconst (v := 0) hx hb dX12_alikeAt_10 (by decide) ?_
  refine lv_istore (i := 6) (lv' := [(6, .int 0), (5, .int 0), (4, .int v1000002), (0, .ref x0), (1, .int x1), (2, .int x2), (3, .int x3)]) hx hb dX12_alikeAt_11 hl (by decide) rfl (fun ls hl => ?_)
  exact hB13 x0 x1 x2 x3 v1000002 kx0 q_FU 0 0 _ _ _ hm hW hS (lv_sub hl [3, 4, 5, 6, 2, 1, 0] rfl)
theorem dX12_roundOf_0 : decode cX12_roundOf 0 = .ok (.iconst 1, 1) := by decide +kernel
theorem dX12_roundOf_1 : decode cX12_roundOf 1 = .ok (.istore_n 2, 1) := by decide +kernel
theorem dX12_roundOf_2 : decode cX12_roundOf 2 = .ok (.iload_n 2, 1) := by decide +kernel
theorem dX12_roundOf_3 : decode cX12_roundOf 3 = .ok (.aload_n 0, 1) := by decide +kernel
theorem dX12_roundOf_4 : decode cX12_roundOf 4 = .ok (.iload_n 1, 1) := by decide +kernel
theorem dX12_roundOf_5 : decode cX12_roundOf 5 = .ok (.invokevirtual 327, 3) := by decide +kernel
theorem dX12_roundOf_8 : decode cX12_roundOf 8 = .ok (.if_icmp .ge 26, 3) := by decide +kernel
theorem dX12_roundOf_11 : decode cX12_roundOf 11 = .ok (.aload_n 0, 1) := by decide +kernel
theorem dX12_roundOf_12 : decode cX12_roundOf 12 = .ok (.iload_n 1, 1) := by decide +kernel
theorem dX12_roundOf_13 : decode cX12_roundOf 13 = .ok (.iload_n 1, 1) := by decide +kernel
theorem dX12_roundOf_14 : decode cX12_roundOf 14 = .ok (.iload_n 2, 1) := by decide +kernel
theorem dX12_roundOf_15 : decode cX12_roundOf 15 = .ok (.invokevirtual 383, 3) := by decide +kernel
theorem dX12_roundOf_18 : decode cX12_roundOf 18 = .ok (.aload_n 0, 1) := by decide +kernel
theorem dX12_roundOf_19 : decode cX12_roundOf 19 = .ok (.iload_n 1, 1) := by decide +kernel
theorem dX12_roundOf_20 : decode cX12_roundOf 20 = .ok (.invokevirtual 327, 3) := by decide +kernel
theorem dX12_roundOf_23 : decode cX12_roundOf 23 = .ok (.if_icmp .ne 5, 3) := by decide +kernel
theorem dX12_roundOf_26 : decode cX12_roundOf 26 = .ok (.iload_n 2, 1) := by decide +kernel
theorem dX12_roundOf_27 : decode cX12_roundOf 27 = .ok (.ireturn, 1) := by decide +kernel
theorem dX12_roundOf_28 : decode cX12_roundOf 28 = .ok (.iinc 2 1, 3) := by decide +kernel
theorem dX12_roundOf_31 : decode cX12_roundOf 31 = .ok (.goto (-29), 3) := by decide +kernel
theorem dX12_roundOf_34 : decode cX12_roundOf 34 = .ok (.aload_n 0, 1) := by decide +kernel
theorem dX12_roundOf_35 : decode cX12_roundOf 35 = .ok (.iload_n 1, 1) := by decide +kernel
theorem dX12_roundOf_36 : decode cX12_roundOf 36 = .ok (.invokevirtual 327, 3) := by decide +kernel
theorem dX12_roundOf_39 : decode cX12_roundOf 39 = .ok (.ireturn, 1) := by decide +kernel
set_option maxRecDepth 100000 in
theorem c_X12_roundOf (l : Launch) (D : q_D) (al : q_Al) (dt : q_Dt) (x0 : Nat) (x1 : Int32) (kx0 : al.1 x0 = 13) (r0 : Int32) (hm : X12_roundOf al dt x0 x1 = some r0) : q_Mt l yX12_roundOf cX12_roundOf 3 (some FieldType.int) 2 48 D al [.ref x0, .int x1] dt 0 (some (.int r0)) dt := by
  refine q_Mt.of (by decide) (Nat.le_of_ble_eq_true rfl) ?_
  intro p e s m args below meth c ls C hargs hW hl
  have hx := C.1
  have hb := C.2.1
  have hown := C.2.2.2.2.2.1
  have hts := C.2.2.2.2.2.2.1
  have hS : va_S (q_A al) s.heap s.heap [] := va_S.rf
  have hl : lv_has ls 3 [(0, .ref x0), (1, .int x1)] := hl
  unfold X12_roundOf at hm
  have hB2 : ∀ (x0_2 : Nat) (x1_2 : Int32) (kx0_2 : al.1 x0_2 = 13) (n_2 : Nat) (x2_2 : Int32) (H : Heap) (locs : List Loc) (ls : Array Slot) (hm : X12_roundOf_b2 al dt x0_2 x1_2 n_2 x2_2 = some r0) (hW : q_W D al dt H) (hS : va_S (q_A al) s.heap H locs) (hl : lv_has ls 3 [(0, .ref x0_2), (1, .int x1_2), (2, .int x2_2)]), W p l e { frames := 2, cells := 0, slots := 0, locals := 48 } s m args below meth c H locs 0 0 (MQ below (q_Q (some (.int r0)) (fun H => q_W D al dt H ∧ q_Rk al 0 (some (.int r0))) (q_A al)) args s 0 0 (q_A al)) (F0 m 2 ls []) := by
    intro x0_2 x1_2 kx0_2
    intro n_2
    induction n_2 with
    | zero => intro x2_2 H locs ls hm hW hS hl; cases hm
    | succ n_2 ih2 =>
      intro x2_2 H locs ls hm hW hS hl
      rw [X12_roundOf_b2] at hm
      refine lv_iload_n hx hb dX12_roundOf_2 rfl (lv_at hl 2 rfl) ?_
      refine lv_aload_n hx hb dX12_roundOf_3 rfl (lv_at hl 0 rfl) ?_
      refine lv_iload_n hx hb dX12_roundOf_4 rfl (lv_at hl 1 rfl) ?_
      obtain ⟨v2002, hc2001, hm⟩ := q_b1i hm
      refine q_callV C hW hS (As := [.int x1_2]) (rest := [.int x2_2]) (st1 := [.int v2002, .int x2_2]) (c_X12_long0 l D al dt x0_2 x1_2 kx0_2 v2002 hc2001) yl_X12_long0 vl_X12_long0 ml_RX12_327 (ci := 12) rfl kx0_2 (by decide) rfl ⟨Nat.le_of_ble_eq_true rfl, Nat.le_of_ble_eq_true rfl⟩ hl rfl (Nat.le_of_ble_eq_true rfl) dX12_roundOf_5 ⟨Nat.le_refl _, Nat.le_refl _⟩ rfl (fun H locs k2003 hW hS => ?_)
      refine q_ifc hm (fun c2004 hm => ?_) (fun c2004 hm => ?_)
      · refine lv_icmp_ge (tgt := 34) hx hb dX12_roundOf_8 (by decide) (fun _ => ?_) (fun h => absurd c2004 h)
        refine lv_aload_n hx hb dX12_roundOf_34 rfl (lv_at hl 0 rfl) ?_
        refine lv_iload_n hx hb dX12_roundOf_35 rfl (lv_at hl 1 rfl) ?_
        obtain ⟨v2006, hc2005, hm⟩ := q_b1i hm
        refine q_callV C hW hS (As := [.int x1_2]) (rest := []) (st1 := [.int v2006]) (c_X12_long0 l D al dt x0_2 x1_2 kx0_2 v2006 hc2005) yl_X12_long0 vl_X12_long0 ml_RX12_327 (ci := 12) rfl kx0_2 (by decide) rfl ⟨Nat.le_of_ble_eq_true rfl, Nat.le_of_ble_eq_true rfl⟩ hl rfl (Nat.le_of_ble_eq_true rfl) dX12_roundOf_36 ⟨Nat.le_refl _, Nat.le_refl _⟩ rfl (fun H locs k2007 hW hS => ?_)
        exact e_i C hW hS hm dX12_roundOf_39
      refine lv_icmp_ge (tgt := 34) hx hb dX12_roundOf_8 (by decide) (fun h => absurd h c2004) (fun _ => ?_)
      refine lv_aload_n hx hb dX12_roundOf_11 rfl (lv_at hl 0 rfl) ?_
      refine lv_iload_n hx hb dX12_roundOf_12 rfl (lv_at hl 1 rfl) ?_
      refine lv_iload_n hx hb dX12_roundOf_13 rfl (lv_at hl 1 rfl) ?_
      refine lv_iload_n hx hb dX12_roundOf_14 rfl (lv_at hl 2 rfl) ?_
      obtain ⟨v2009, hc2008, hm⟩ := q_b1i hm
      refine q_callV C hW hS (As := [.int x1_2, .int x1_2, .int x2_2]) (rest := []) (st1 := [.int v2009]) (c_X12_alikeAt l D al dt x0_2 x1_2 x1_2 x2_2 kx0_2 v2009 hc2008) yl_X12_alikeAt vl_X12_alikeAt ml_RX12_383 (ci := 12) rfl kx0_2 (by decide) rfl ⟨Nat.le_of_ble_eq_true rfl, Nat.le_of_ble_eq_true rfl⟩ hl rfl (Nat.le_of_ble_eq_true rfl) dX12_roundOf_15 ⟨Nat.le_refl _, Nat.le_refl _⟩ rfl (fun H locs k2010 hW hS => ?_)
      refine lv_aload_n hx hb dX12_roundOf_18 rfl (lv_at hl 0 rfl) ?_
      refine lv_iload_n hx hb dX12_roundOf_19 rfl (lv_at hl 1 rfl) ?_
      obtain ⟨v2012, hc2011, hm⟩ := q_b1i hm
      refine q_callV C hW hS (As := [.int x1_2]) (rest := [.int v2009]) (st1 := [.int v2012, .int v2009]) (c_X12_long0 l D al dt x0_2 x1_2 kx0_2 v2012 hc2011) yl_X12_long0 vl_X12_long0 ml_RX12_327 (ci := 12) rfl kx0_2 (by decide) rfl ⟨Nat.le_of_ble_eq_true rfl, Nat.le_of_ble_eq_true rfl⟩ hl rfl (Nat.le_of_ble_eq_true rfl) dX12_roundOf_20 ⟨Nat.le_refl _, Nat.le_refl _⟩ rfl (fun H locs k2013 hW hS => ?_)
      refine q_ifc hm (fun c2014 hm => ?_) (fun c2014 hm => ?_)
      · refine lv_icmp_ne (tgt := 28) hx hb dX12_roundOf_23 (by decide) (fun h => absurd c2014 h) (fun _ => ?_)
        refine lv_iload_n hx hb dX12_roundOf_26 rfl (lv_at hl 2 rfl) ?_
        exact e_i C hW hS hm dX12_roundOf_27
      refine lv_icmp_ne (tgt := 28) hx hb dX12_roundOf_23 (by decide) (fun _ => ?_) (fun h => absurd h c2014)
      refine lv_iinc (v := (x2_2 + 1)) (lv' := [(2, .int (x2_2 + 1)), (0, .ref x0_2), (1, .int x1_2)]) hx hb dX12_roundOf_28 hl (k := 2) rfl rfl (by decide) rfl (fun ls hl => ?_)
      refine lv_goto (tgt := 2) hx hb dX12_roundOf_31 (by decide) ?_
      exact ih2 (x2_2 + 1) _ _ _ hm hW hS (lv_sub hl [1, 2, 0] rfl)
  refine lv_iconst (v := 1) hx hb dX12_roundOf_0 (by decide) ?_
  refine lv_istore_n (i := 2) (lv' := [(2, .int 1), (0, .ref x0), (1, .int x1)]) hx hb dX12_roundOf_1 rfl hl (by decide) rfl (fun ls hl => ?_)
  exact hB2 x0 x1 kx0 q_FU 1 _ _ _ hm hW hS (lv_sub hl [1, 2, 0] rfl)
theorem dX12_code_0 : decode cX12_code 0 = .ok (.aload_n 0, 1) := by decide +kernel
theorem dX12_code_1 : decode cX12_code 1 = .ok (.iload_n 1, 1) := by decide +kernel
theorem dX12_code_2 : decode cX12_code 2 = .ok (.invokevirtual 380, 3) := by decide +kernel
theorem dX12_code_5 : decode cX12_code 5 = .ok (.ifCond .eq 12, 3) := by decide +kernel
theorem dX12_code_8 : decode cX12_code 8 = .ok (.iload_n 2, 1) := by decide +kernel
theorem dX12_code_9 : decode cX12_code 9 = .ok (.iconst 0, 1) := by decide +kernel
theorem dX12_code_10 : decode cX12_code 10 = .ok (.iconst 3, 1) := by decide +kernel
theorem dX12_code_11 : decode cX12_code 11 = .ok (.invokestatic 376, 3) := by decide +kernel
theorem dX12_code_14 : decode cX12_code 14 = .ok (.ifCond .ne 5, 3) := by decide +kernel
theorem dX12_code_17 : decode cX12_code 17 = .ok (.iconst (-1), 1) := by decide +kernel
theorem dX12_code_18 : decode cX12_code 18 = .ok (.ireturn, 1) := by decide +kernel
theorem dX12_code_19 : decode cX12_code 19 = .ok (.aload_n 0, 1) := by decide +kernel
theorem dX12_code_20 : decode cX12_code 20 = .ok (.iload_n 1, 1) := by decide +kernel
theorem dX12_code_21 : decode cX12_code 21 = .ok (.invokevirtual 327, 3) := by decide +kernel
theorem dX12_code_24 : decode cX12_code 24 = .ok (.istore_n 3, 1) := by decide +kernel
theorem dX12_code_25 : decode cX12_code 25 = .ok (.iload_n 2, 1) := by decide +kernel
theorem dX12_code_26 : decode cX12_code 26 = .ok (.ifCond .ne 5, 3) := by decide +kernel
theorem dX12_code_29 : decode cX12_code 29 = .ok (.iload_n 3, 1) := by decide +kernel
theorem dX12_code_30 : decode cX12_code 30 = .ok (.ireturn, 1) := by decide +kernel
theorem dX12_code_31 : decode cX12_code 31 = .ok (.iload_n 2, 1) := by decide +kernel
theorem dX12_code_32 : decode cX12_code 32 = .ok (.iconst 2, 1) := by decide +kernel
theorem dX12_code_33 : decode cX12_code 33 = .ok (.if_icmp .ne 9, 3) := by decide +kernel
theorem dX12_code_36 : decode cX12_code 36 = .ok (.aload_n 0, 1) := by decide +kernel
theorem dX12_code_37 : decode cX12_code 37 = .ok (.iload_n 1, 1) := by decide +kernel
theorem dX12_code_38 : decode cX12_code 38 = .ok (.invokevirtual 386, 3) := by decide +kernel
theorem dX12_code_41 : decode cX12_code 41 = .ok (.ireturn, 1) := by decide +kernel
theorem dX12_code_42 : decode cX12_code 42 = .ok (.iconst 0, 1) := by decide +kernel
theorem dX12_code_43 : decode cX12_code 43 = .ok (.istore 4, 2) := by decide +kernel
theorem dX12_code_45 : decode cX12_code 45 = .ok (.iconst 0, 1) := by decide +kernel
theorem dX12_code_46 : decode cX12_code 46 = .ok (.istore 5, 2) := by decide +kernel
theorem dX12_code_48 : decode cX12_code 48 = .ok (.iload 5, 2) := by decide +kernel
theorem dX12_code_50 : decode cX12_code 50 = .ok (.iload_n 3, 1) := by decide +kernel
theorem dX12_code_51 : decode cX12_code 51 = .ok (.if_icmp .ge 51, 3) := by decide +kernel
theorem dX12_code_54 : decode cX12_code 54 = .ok (.iload_n 2, 1) := by decide +kernel
theorem dX12_code_55 : decode cX12_code 55 = .ok (.iconst 1, 1) := by decide +kernel
theorem dX12_code_56 : decode cX12_code 56 = .ok (.if_icmp .ne 16, 3) := by decide +kernel
theorem dX12_code_59 : decode cX12_code 59 = .ok (.aload_n 0, 1) := by decide +kernel
theorem dX12_code_60 : decode cX12_code 60 = .ok (.iload_n 1, 1) := by decide +kernel
theorem dX12_code_61 : decode cX12_code 61 = .ok (.iload 5, 2) := by decide +kernel
theorem dX12_code_63 : decode cX12_code 63 = .ok (.invokevirtual 333, 3) := by decide +kernel
theorem dX12_code_66 : decode cX12_code 66 = .ok (.ifCond .ge 30, 3) := by decide +kernel
theorem dX12_code_69 : decode cX12_code 69 = .ok (.goto 24, 3) := by decide +kernel
theorem dX12_code_72 : decode cX12_code 72 = .ok (.aload_n 0, 1) := by decide +kernel
theorem dX12_code_73 : decode cX12_code 73 = .ok (.iload_n 1, 1) := by decide +kernel
theorem dX12_code_74 : decode cX12_code 74 = .ok (.iload 5, 2) := by decide +kernel
theorem dX12_code_76 : decode cX12_code 76 = .ok (.invokevirtual 333, 3) := by decide +kernel
theorem dX12_code_79 : decode cX12_code 79 = .ok (.aload_n 0, 1) := by decide +kernel
theorem dX12_code_80 : decode cX12_code 80 = .ok (.iload_n 1, 1) := by decide +kernel
theorem dX12_code_81 : decode cX12_code 81 = .ok (.iload 5, 2) := by decide +kernel
theorem dX12_code_83 : decode cX12_code 83 = .ok (.iconst 1, 1) := by decide +kernel
theorem dX12_code_84 : decode cX12_code 84 = .ok (.iadd, 1) := by decide +kernel
theorem dX12_code_85 : decode cX12_code 85 = .ok (.iload_n 3, 1) := by decide +kernel
theorem dX12_code_86 : decode cX12_code 86 = .ok (.irem, 1) := by decide +kernel
theorem dX12_code_87 : decode cX12_code 87 = .ok (.invokevirtual 333, 3) := by decide +kernel
theorem dX12_code_90 : decode cX12_code 90 = .ok (.if_icmp .eq 6, 3) := by decide +kernel
theorem dX12_code_93 : decode cX12_code 93 = .ok (.iinc 4 1, 3) := by decide +kernel
theorem dX12_code_96 : decode cX12_code 96 = .ok (.iinc 5 1, 3) := by decide +kernel
theorem dX12_code_99 : decode cX12_code 99 = .ok (.goto (-51), 3) := by decide +kernel
theorem dX12_code_102 : decode cX12_code 102 = .ok (.iload 4, 2) := by decide +kernel
theorem dX12_code_104 : decode cX12_code 104 = .ok (.ireturn, 1) := by decide +kernel
set_option maxRecDepth 100000 in
theorem c_X12_code (l : Launch) (D : q_D) (al : q_Al) (dt : q_Dt) (x0 : Nat) (x1 : Int32) (x2 : Int32) (kx0 : al.1 x0 = 13) (r0 : Int32) (hm : X12_code al dt x0 x1 x2 = some r0) : q_Mt l yX12_code cX12_code 6 (some FieldType.int) 3 70 D al [.ref x0, .int x1, .int x2] dt 0 (some (.int r0)) dt := by
  refine q_Mt.of (by decide) (Nat.le_of_ble_eq_true rfl) ?_
  intro p e s m args below meth c ls C hargs hW hl
  have hx := C.1
  have hb := C.2.1
  have hown := C.2.2.2.2.2.1
  have hts := C.2.2.2.2.2.2.1
  have hS : va_S (q_A al) s.heap s.heap [] := va_S.rf
  have hl : lv_has ls 6 [(0, .ref x0), (1, .int x1), (2, .int x2)] := hl
  unfold X12_code at hm
  have hB48 : ∀ (x0_48 : Nat) (x1_48 : Int32) (x2_48 : Int32) (x3_48 : Int32) (kx0_48 : al.1 x0_48 = 13) (n_48 : Nat) (x4_48 : Int32) (x5_48 : Int32) (H : Heap) (locs : List Loc) (ls : Array Slot) (hm : X12_code_b48 al dt x0_48 x1_48 x2_48 x3_48 n_48 x4_48 x5_48 = some r0) (hW : q_W D al dt H) (hS : va_S (q_A al) s.heap H locs) (hl : lv_has ls 6 [(0, .ref x0_48), (1, .int x1_48), (2, .int x2_48), (3, .int x3_48), (4, .int x4_48), (5, .int x5_48)]), W p l e { frames := 3, cells := 0, slots := 0, locals := 70 } s m args below meth c H locs 0 0 (MQ below (q_Q (some (.int r0)) (fun H => q_W D al dt H ∧ q_Rk al 0 (some (.int r0))) (q_A al)) args s 0 0 (q_A al)) (F0 m 48 ls []) := by
    intro x0_48 x1_48 x2_48 x3_48 kx0_48
    intro n_48
    induction n_48 with
    | zero => intro x4_48 x5_48 H locs ls hm hW hS hl; cases hm
    | succ n_48 ih48 =>
      have hB96 : ∀ (x4_96 : Int32) (x5_96 : Int32) (H : Heap) (locs : List Loc) (ls : Array Slot) (hm : X12_code_b96 al dt (X12_code_b48 al dt x0_48 x1_48 x2_48 x3_48 n_48) x0_48 x1_48 x2_48 x3_48 x4_96 x5_96 = some r0) (hW : q_W D al dt H) (hS : va_S (q_A al) s.heap H locs) (hl : lv_has ls 6 [(0, .ref x0_48), (1, .int x1_48), (2, .int x2_48), (3, .int x3_48), (4, .int x4_96), (5, .int x5_96)]), W p l e { frames := 3, cells := 0, slots := 0, locals := 70 } s m args below meth c H locs 0 0 (MQ below (q_Q (some (.int r0)) (fun H => q_W D al dt H ∧ q_Rk al 0 (some (.int r0))) (q_A al)) args s 0 0 (q_A al)) (F0 m 96 ls []) := by
        intro x4_96 x5_96 H locs ls hm hW hS hl
        unfold X12_code_b96 at hm
        refine lv_iinc (v := (x5_96 + 1)) (lv' := [(5, .int (x5_96 + 1)), (0, .ref x0_48), (1, .int x1_48), (2, .int x2_48), (3, .int x3_48), (4, .int x4_96)]) hx hb dX12_code_96 hl (k := 5) rfl rfl (by decide) rfl (fun ls hl => ?_)
        refine lv_goto (tgt := 48) hx hb dX12_code_99 (by decide) ?_
        exact ih48 x4_96 (x5_96 + 1) _ _ _ hm hW hS (lv_sub hl [1, 2, 3, 4, 5, 0] rfl)
      have hB93 : ∀ (x4_93 : Int32) (x5_93 : Int32) (H : Heap) (locs : List Loc) (ls : Array Slot) (hm : X12_code_b93 al dt (X12_code_b48 al dt x0_48 x1_48 x2_48 x3_48 n_48) x0_48 x1_48 x2_48 x3_48 x4_93 x5_93 = some r0) (hW : q_W D al dt H) (hS : va_S (q_A al) s.heap H locs) (hl : lv_has ls 6 [(0, .ref x0_48), (1, .int x1_48), (2, .int x2_48), (3, .int x3_48), (4, .int x4_93), (5, .int x5_93)]), W p l e { frames := 3, cells := 0, slots := 0, locals := 70 } s m args below meth c H locs 0 0 (MQ below (q_Q (some (.int r0)) (fun H => q_W D al dt H ∧ q_Rk al 0 (some (.int r0))) (q_A al)) args s 0 0 (q_A al)) (F0 m 93 ls []) := by
        intro x4_93 x5_93 H locs ls hm hW hS hl
        unfold X12_code_b93 at hm
        refine lv_iinc (v := (x4_93 + 1)) (lv' := [(4, .int (x4_93 + 1)), (0, .ref x0_48), (1, .int x1_48), (2, .int x2_48), (3, .int x3_48), (5, .int x5_93)]) hx hb dX12_code_93 hl (k := 4) rfl rfl (by decide) rfl (fun ls hl => ?_)
        exact hB96 (x4_93 + 1) x5_93 _ _ _ hm hW hS (lv_sub hl [1, 2, 3, 4, 0, 5] rfl)
      intro x4_48 x5_48 H locs ls hm hW hS hl
      rw [X12_code_b48] at hm
      refine lv_iload hx hb dX12_code_48 (lv_at hl 5 rfl) ?_
      refine lv_iload_n hx hb dX12_code_50 rfl (lv_at hl 3 rfl) ?_
      refine q_ifc hm (fun c48001 hm => ?_) (fun c48001 hm => ?_)
      · refine lv_icmp_ge (tgt := 102) hx hb dX12_code_51 (by decide) (fun _ => ?_) (fun h => absurd c48001 h)
        refine lv_iload hx hb dX12_code_102 (lv_at hl 4 rfl) ?_
        exact e_i C hW hS hm dX12_code_104
      refine lv_icmp_ge (tgt := 102) hx hb dX12_code_51 (by decide) (fun h => absurd h c48001) (fun _ => ?_)
      refine lv_iload_n hx hb dX12_code_54 rfl (lv_at hl 2 rfl) ?_
      refine lv_iconst (v := 1) hx hb dX12_code_55 (by decide) ?_
      refine q_ifc hm (fun c48002 hm => ?_) (fun c48002 hm => ?_)
      · refine lv_icmp_ne (tgt := 72) hx hb dX12_code_56 (by decide) (fun h => absurd c48002 h) (fun _ => ?_)
        refine lv_aload_n hx hb dX12_code_59 rfl (lv_at hl 0 rfl) ?_
        refine lv_iload_n hx hb dX12_code_60 rfl (lv_at hl 1 rfl) ?_
        refine lv_iload hx hb dX12_code_61 (lv_at hl 5 rfl) ?_
        obtain ⟨v48004, hc48003, hm⟩ := q_b1i hm
        refine q_callV C hW hS (As := [.int x1_48, .int x5_48]) (rest := []) (st1 := [.int v48004]) (c_X12_chipOf l D al dt x0_48 x1_48 x5_48 kx0_48 v48004 hc48003) yl_X12_chipOf vl_X12_chipOf ml_RX12_333 (ci := 12) rfl kx0_48 (by decide) rfl ⟨Nat.le_of_ble_eq_true rfl, Nat.le_of_ble_eq_true rfl⟩ hl rfl (Nat.le_of_ble_eq_true rfl) dX12_code_63 ⟨Nat.le_refl _, Nat.le_refl _⟩ rfl (fun H locs k48005 hW hS => ?_)
        refine q_ifc hm (fun c48006 hm => ?_) (fun c48006 hm => ?_)
        · refine lv_if_ge (tgt := 96) hx hb dX12_code_66 (by decide) (fun _ => ?_) (fun h => absurd c48006 h)
          exact hB96 x4_48 x5_48 _ _ _ hm hW hS (lv_sub hl [0, 1, 2, 3, 4, 5] rfl)
        refine lv_if_ge (tgt := 96) hx hb dX12_code_66 (by decide) (fun h => absurd h c48006) (fun _ => ?_)
        refine lv_goto (tgt := 93) hx hb dX12_code_69 (by decide) ?_
        exact hB93 x4_48 x5_48 _ _ _ hm hW hS (lv_sub hl [0, 1, 2, 3, 4, 5] rfl)
      refine lv_icmp_ne (tgt := 72) hx hb dX12_code_56 (by decide) (fun _ => ?_) (fun h => absurd h c48002)
      refine lv_aload_n hx hb dX12_code_72 rfl (lv_at hl 0 rfl) ?_
      refine lv_iload_n hx hb dX12_code_73 rfl (lv_at hl 1 rfl) ?_
      refine lv_iload hx hb dX12_code_74 (lv_at hl 5 rfl) ?_
      obtain ⟨v48008, hc48007, hm⟩ := q_b1i hm
      refine q_callV C hW hS (As := [.int x1_48, .int x5_48]) (rest := []) (st1 := [.int v48008]) (c_X12_chipOf l D al dt x0_48 x1_48 x5_48 kx0_48 v48008 hc48007) yl_X12_chipOf vl_X12_chipOf ml_RX12_333 (ci := 12) rfl kx0_48 (by decide) rfl ⟨Nat.le_of_ble_eq_true rfl, Nat.le_of_ble_eq_true rfl⟩ hl rfl (Nat.le_of_ble_eq_true rfl) dX12_code_76 ⟨Nat.le_refl _, Nat.le_refl _⟩ rfl (fun H locs k48009 hW hS => ?_)
      refine lv_aload_n hx hb dX12_code_79 rfl (lv_at hl 0 rfl) ?_
      refine lv_iload_n hx hb dX12_code_80 rfl (lv_at hl 1 rfl) ?_
      refine lv_iload hx hb dX12_code_81 (lv_at hl 5 rfl) ?_
      refine lv_iconst (v := 1) hx hb dX12_code_83 (by decide) ?_
      refine lv_iadd hx hb dX12_code_84 ?_
      refine lv_iload_n hx hb dX12_code_85 rfl (lv_at hl 3 rfl) ?_
      obtain ⟨c48010, hm⟩ := q_ini hm
      refine lv_irem hx hb dX12_code_86 c48010 ?_
      obtain ⟨v48012, hc48011, hm⟩ := q_b1i hm
      refine q_callV C hW hS (As := [.int x1_48, .int (q_ir (x5_48 + 1) x3_48)]) (rest := [.int v48008]) (st1 := [.int v48012, .int v48008]) (c_X12_chipOf l D al dt x0_48 x1_48 (q_ir (x5_48 + 1) x3_48) kx0_48 v48012 hc48011) yl_X12_chipOf vl_X12_chipOf ml_RX12_333 (ci := 12) rfl kx0_48 (by decide) rfl ⟨Nat.le_of_ble_eq_true rfl, Nat.le_of_ble_eq_true rfl⟩ hl rfl (Nat.le_of_ble_eq_true rfl) dX12_code_87 ⟨Nat.le_refl _, Nat.le_refl _⟩ rfl (fun H locs k48013 hW hS => ?_)
      refine q_ifc hm (fun c48014 hm => ?_) (fun c48014 hm => ?_)
      · refine lv_icmp_eq (tgt := 96) hx hb dX12_code_90 (by decide) (fun _ => ?_) (fun h => absurd c48014 h)
        exact hB96 x4_48 x5_48 _ _ _ hm hW hS (lv_sub hl [0, 1, 2, 3, 4, 5] rfl)
      refine lv_icmp_eq (tgt := 96) hx hb dX12_code_90 (by decide) (fun h => absurd h c48014) (fun _ => ?_)
      exact hB93 x4_48 x5_48 _ _ _ hm hW hS (lv_sub hl [0, 1, 2, 3, 4, 5] rfl)
  refine lv_aload_n hx hb dX12_code_0 rfl (lv_at hl 0 rfl) ?_
  refine lv_iload_n hx hb dX12_code_1 rfl (lv_at hl 1 rfl) ?_
  obtain ⟨v1000002, hc1000001, hm⟩ := q_b1i hm
  refine q_callV C hW hS (As := [.int x1]) (rest := []) (st1 := [.int v1000002]) (c_X12_isCode l D al dt x0 x1 kx0 v1000002 hc1000001) yl_X12_isCode vl_X12_isCode ml_RX12_380 (ci := 12) rfl kx0 (by decide) rfl ⟨Nat.le_of_ble_eq_true rfl, Nat.le_of_ble_eq_true rfl⟩ hl rfl (Nat.le_of_ble_eq_true rfl) dX12_code_2 ⟨Nat.le_refl _, Nat.le_refl _⟩ rfl (fun H locs k1000003 hW hS => ?_)
  refine q_ifc hm (fun c1000004 hm => ?_) (fun c1000004 hm => ?_)
  · refine lv_if_eq (tgt := 17) hx hb dX12_code_5 (by decide) (fun _ => ?_) (fun h => absurd c1000004 h)
    refine lv_iconst (v := (-1)) hx hb dX12_code_17 (by decide) ?_
    exact e_i C hW hS hm dX12_code_18
  refine lv_if_eq (tgt := 17) hx hb dX12_code_5 (by decide) (fun h => absurd h c1000004) (fun _ => ?_)
  refine lv_iload_n hx hb dX12_code_8 rfl (lv_at hl 2 rfl) ?_
  refine lv_iconst (v := 0) hx hb dX12_code_9 (by decide) ?_
  refine lv_iconst (v := 3) hx hb dX12_code_10 (by decide) ?_
  obtain ⟨v1000006, hc1000005, hm⟩ := q_b1i hm
  refine q_callS C hW hS (As := [.int x2, .int 0, .int 3]) (rest := []) (st1 := [.int v1000006]) (c_X12_in l D al dt x2 0 3 v1000006 hc1000005) yl_X12_in sl_X12_in ml_RX12_376 rfl ⟨Nat.le_of_ble_eq_true rfl, Nat.le_of_ble_eq_true rfl⟩ hl rfl (Nat.le_of_ble_eq_true rfl) dX12_code_11 ⟨Nat.le_refl _, Nat.le_refl _⟩ rfl (fun H locs k1000007 hW hS => ?_)
  refine q_ifc hm (fun c1000008 hm => ?_) (fun c1000008 hm => ?_)
  · refine lv_if_ne (tgt := 19) hx hb dX12_code_14 (by decide) (fun h => absurd c1000008 h) (fun _ => ?_)
    refine lv_iconst (v := (-1)) hx hb dX12_code_17 (by decide) ?_
    exact e_i C hW hS hm dX12_code_18
  refine lv_if_ne (tgt := 19) hx hb dX12_code_14 (by decide) (fun _ => ?_) (fun h => absurd h c1000008)
  refine lv_aload_n hx hb dX12_code_19 rfl (lv_at hl 0 rfl) ?_
  refine lv_iload_n hx hb dX12_code_20 rfl (lv_at hl 1 rfl) ?_
  obtain ⟨v1000010, hc1000009, hm⟩ := q_b1i hm
  refine q_callV C hW hS (As := [.int x1]) (rest := []) (st1 := [.int v1000010]) (c_X12_long0 l D al dt x0 x1 kx0 v1000010 hc1000009) yl_X12_long0 vl_X12_long0 ml_RX12_327 (ci := 12) rfl kx0 (by decide) rfl ⟨Nat.le_of_ble_eq_true rfl, Nat.le_of_ble_eq_true rfl⟩ hl rfl (Nat.le_of_ble_eq_true rfl) dX12_code_21 ⟨Nat.le_refl _, Nat.le_refl _⟩ rfl (fun H locs k1000011 hW hS => ?_)
  refine lv_istore_n (i := 3) (lv' := [(3, .int v1000010), (0, .ref x0), (1, .int x1), (2, .int x2)]) hx hb dX12_code_24 rfl hl (by decide) rfl (fun ls hl => ?_)
  refine lv_iload_n hx hb dX12_code_25 rfl (lv_at hl 3 rfl) ?_
  refine q_ifc hm (fun c1000012 hm => ?_) (fun c1000012 hm => ?_)
  · refine lv_if_ne (tgt := 31) hx hb dX12_code_26 (by decide) (fun h => absurd c1000012 h) (fun _ => ?_)
    refine lv_iload_n hx hb dX12_code_29 rfl (lv_at hl 0 rfl) ?_
    exact e_i C hW hS hm dX12_code_30
  refine lv_if_ne (tgt := 31) hx hb dX12_code_26 (by decide) (fun _ => ?_) (fun h => absurd h c1000012)
  refine lv_iload_n hx hb dX12_code_31 rfl (lv_at hl 3 rfl) ?_
  refine lv_iconst (v := 2) hx hb dX12_code_32 (by decide) ?_
  refine q_ifc hm (fun c1000013 hm => ?_) (fun c1000013 hm => ?_)
  · refine lv_icmp_ne (tgt := 42) hx hb dX12_code_33 (by decide) (fun h => absurd c1000013 h) (fun _ => ?_)
    refine lv_aload_n hx hb dX12_code_36 rfl (lv_at hl 1 rfl) ?_
    refine lv_iload_n hx hb dX12_code_37 rfl (lv_at hl 2 rfl) ?_
    obtain ⟨v1000015, hc1000014, hm⟩ := q_b1i hm
    refine q_callV C hW hS (As := [.int x1]) (rest := []) (st1 := [.int v1000015]) (c_X12_roundOf l D al dt x0 x1 kx0 v1000015 hc1000014) yl_X12_roundOf vl_X12_roundOf ml_RX12_386 (ci := 12) rfl kx0 (by decide) rfl ⟨Nat.le_of_ble_eq_true rfl, Nat.le_of_ble_eq_true rfl⟩ hl rfl (Nat.le_of_ble_eq_true rfl) dX12_code_38 ⟨Nat.le_refl _, Nat.le_refl _⟩ rfl (fun H locs k1000016 hW hS => ?_)
    exact e_i C hW hS hm dX12_code_41
  refine lv_icmp_ne (tgt := 42) hx hb dX12_code_33 (by decide) (fun _ => ?_) (fun h => absurd h c1000013)
  refine lv_iconst (v := 0) hx hb dX12_code_42 (by decide) ?_
  refine lv_istore (i := 4) (lv' := [(4, .int 0), (3, .int v1000010), (0, .ref x0), (1, .int x1), (2, .int x2)]) hx hb dX12_code_43 hl (by decide) rfl (fun ls hl => ?_)
  refine lv_iconst (v := 0) hx hb dX12_code_45 (by decide) ?_
  refine lv_istore (i := 5) (lv' := [(5, .int 0), (4, .int 0), (3, .int v1000010), (0, .ref x0), (1, .int x1), (2, .int x2)]) hx hb dX12_code_46 hl (by decide) rfl (fun ls hl => ?_)
  exact hB48 x0 x1 x2 v1000010 kx0 q_FU 0 0 _ _ _ hm hW hS (lv_sub hl [3, 4, 5, 2, 1, 0] rfl)
theorem dX12_chip_0 : decode cX12_chip 0 = .ok (.aload_n 0, 1) := by decide +kernel
theorem dX12_chip_1 : decode cX12_chip 1 = .ok (.iload_n 1, 1) := by decide +kernel
theorem dX12_chip_2 : decode cX12_chip 2 = .ok (.invokevirtual 380, 3) := by decide +kernel
theorem dX12_chip_5 : decode cX12_chip 5 = .ok (.ifCond .eq 27, 3) := by decide +kernel
theorem dX12_chip_8 : decode cX12_chip 8 = .ok (.iload_n 2, 1) := by decide +kernel
theorem dX12_chip_9 : decode cX12_chip 9 = .ok (.iconst 0, 1) := by decide +kernel
theorem dX12_chip_10 : decode cX12_chip 10 = .ok (.aload_n 0, 1) := by decide +kernel
theorem dX12_chip_11 : decode cX12_chip 11 = .ok (.iload_n 1, 1) := by decide +kernel
theorem dX12_chip_12 : decode cX12_chip 12 = .ok (.invokevirtual 327, 3) := by decide +kernel
theorem dX12_chip_15 : decode cX12_chip 15 = .ok (.iconst 1, 1) := by decide +kernel
theorem dX12_chip_16 : decode cX12_chip 16 = .ok (.isub, 1) := by decide +kernel
theorem dX12_chip_17 : decode cX12_chip 17 = .ok (.invokestatic 376, 3) := by decide +kernel
theorem dX12_chip_20 : decode cX12_chip 20 = .ok (.ifCond .eq 12, 3) := by decide +kernel
theorem dX12_chip_23 : decode cX12_chip 23 = .ok (.aload_n 0, 1) := by decide +kernel
theorem dX12_chip_24 : decode cX12_chip 24 = .ok (.iload_n 1, 1) := by decide +kernel
theorem dX12_chip_25 : decode cX12_chip 25 = .ok (.iload_n 2, 1) := by decide +kernel
theorem dX12_chip_26 : decode cX12_chip 26 = .ok (.invokevirtual 333, 3) := by decide +kernel
theorem dX12_chip_29 : decode cX12_chip 29 = .ok (.goto 4, 3) := by decide +kernel
theorem dX12_chip_32 : decode cX12_chip 32 = .ok (.iconst 0, 1) := by decide +kernel
theorem dX12_chip_33 : decode cX12_chip 33 = .ok (.ireturn, 1) := by decide +kernel
set_option maxRecDepth 100000 in
theorem c_X12_chip (l : Launch) (D : q_D) (al : q_Al) (dt : q_Dt) (x0 : Nat) (x1 : Int32) (x2 : Int32) (kx0 : al.1 x0 = 13) (r0 : Int32) (hm : X12_chip al dt x0 x1 x2 = some r0) : q_Mt l yX12_chip cX12_chip 3 (some FieldType.int) 2 43 D al [.ref x0, .int x1, .int x2] dt 0 (some (.int r0)) dt := by
  refine q_Mt.of (by decide) (Nat.le_of_ble_eq_true rfl) ?_
  intro p e s m args below meth c ls C hargs hW hl
  have hx := C.1
  have hb := C.2.1
  have hown := C.2.2.2.2.2.1
  have hts := C.2.2.2.2.2.2.1
  have hS : va_S (q_A al) s.heap s.heap [] := va_S.rf
  have hl : lv_has ls 3 [(0, .ref x0), (1, .int x1), (2, .int x2)] := hl
  unfold X12_chip at hm
  refine lv_aload_n hx hb dX12_chip_0 rfl (lv_at hl 0 rfl) ?_
  refine lv_iload_n hx hb dX12_chip_1 rfl (lv_at hl 1 rfl) ?_
  obtain ⟨v1000002, hc1000001, hm⟩ := q_b1i hm
  refine q_callV C hW hS (As := [.int x1]) (rest := []) (st1 := [.int v1000002]) (c_X12_isCode l D al dt x0 x1 kx0 v1000002 hc1000001) yl_X12_isCode vl_X12_isCode ml_RX12_380 (ci := 12) rfl kx0 (by decide) rfl ⟨Nat.le_of_ble_eq_true rfl, Nat.le_of_ble_eq_true rfl⟩ hl rfl (Nat.le_of_ble_eq_true rfl) dX12_chip_2 ⟨Nat.le_refl _, Nat.le_refl _⟩ rfl (fun H locs k1000003 hW hS => ?_)
  refine q_ifc hm (fun c1000004 hm => ?_) (fun c1000004 hm => ?_)
  · refine lv_if_eq (tgt := 32) hx hb dX12_chip_5 (by decide) (fun _ => ?_) (fun h => absurd c1000004 h)
    refine lv_iconst (v := 0) hx hb dX12_chip_32 (by decide) ?_
    exact e_i C hW hS hm dX12_chip_33
  refine lv_if_eq (tgt := 32) hx hb dX12_chip_5 (by decide) (fun h => absurd h c1000004) (fun _ => ?_)
  refine lv_iload_n hx hb dX12_chip_8 rfl (lv_at hl 2 rfl) ?_
  refine lv_iconst (v := 0) hx hb dX12_chip_9 (by decide) ?_
  refine lv_aload_n hx hb dX12_chip_10 rfl (lv_at hl 0 rfl) ?_
  refine lv_iload_n hx hb dX12_chip_11 rfl (lv_at hl 1 rfl) ?_
  obtain ⟨v1000006, hc1000005, hm⟩ := q_b1i hm
  refine q_callV C hW hS (As := [.int x1]) (rest := [.int 0, .int x2]) (st1 := [.int v1000006, .int 0, .int x2]) (c_X12_long0 l D al dt x0 x1 kx0 v1000006 hc1000005) yl_X12_long0 vl_X12_long0 ml_RX12_327 (ci := 12) rfl kx0 (by decide) rfl ⟨Nat.le_of_ble_eq_true rfl, Nat.le_of_ble_eq_true rfl⟩ hl rfl (Nat.le_of_ble_eq_true rfl) dX12_chip_12 ⟨Nat.le_refl _, Nat.le_refl _⟩ rfl (fun H locs k1000007 hW hS => ?_)
  refine lv_iconst (v := 1) hx hb dX12_chip_15 (by decide) ?_
  refine lv_isub hx hb dX12_chip_16 ?_
  obtain ⟨v1000009, hc1000008, hm⟩ := q_b1i hm
  refine q_callS C hW hS (As := [.int x2, .int 0, .int (v1000006 - 1)]) (rest := []) (st1 := [.int v1000009]) (c_X12_in l D al dt x2 0 (v1000006 - 1) v1000009 hc1000008) yl_X12_in sl_X12_in ml_RX12_376 rfl ⟨Nat.le_of_ble_eq_true rfl, Nat.le_of_ble_eq_true rfl⟩ hl rfl (Nat.le_of_ble_eq_true rfl) dX12_chip_17 ⟨Nat.le_refl _, Nat.le_refl _⟩ rfl (fun H locs k1000010 hW hS => ?_)
  refine q_ifc hm (fun c1000011 hm => ?_) (fun c1000011 hm => ?_)
  · refine lv_if_eq (tgt := 32) hx hb dX12_chip_20 (by decide) (fun _ => ?_) (fun h => absurd c1000011 h)
    refine lv_iconst (v := 0) hx hb dX12_chip_32 (by decide) ?_
    exact e_i C hW hS hm dX12_chip_33
  refine lv_if_eq (tgt := 32) hx hb dX12_chip_20 (by decide) (fun h => absurd h c1000011) (fun _ => ?_)
  refine lv_aload_n hx hb dX12_chip_23 rfl (lv_at hl 0 rfl) ?_
  refine lv_iload_n hx hb dX12_chip_24 rfl (lv_at hl 1 rfl) ?_
  refine lv_iload_n hx hb dX12_chip_25 rfl (lv_at hl 2 rfl) ?_
  obtain ⟨v1000013, hc1000012, hm⟩ := q_b1i hm
  refine q_callV C hW hS (As := [.int x1, .int x2]) (rest := []) (st1 := [.int v1000013]) (c_X12_chipOf l D al dt x0 x1 x2 kx0 v1000013 hc1000012) yl_X12_chipOf vl_X12_chipOf ml_RX12_333 (ci := 12) rfl kx0 (by decide) rfl ⟨Nat.le_of_ble_eq_true rfl, Nat.le_of_ble_eq_true rfl⟩ hl rfl (Nat.le_of_ble_eq_true rfl) dX12_chip_26 ⟨Nat.le_refl _, Nat.le_refl _⟩ rfl (fun H locs k1000014 hW hS => ?_)
  refine lv_goto (tgt := 33) hx hb dX12_chip_29 (by decide) ?_
  exact e_i C hW hS hm dX12_chip_33
theorem dX12_alike_0 : decode cX12_alike 0 = .ok (.aload_n 0, 1) := by decide +kernel
theorem dX12_alike_1 : decode cX12_alike 1 = .ok (.iload_n 1, 1) := by decide +kernel
theorem dX12_alike_2 : decode cX12_alike 2 = .ok (.iload_n 2, 1) := by decide +kernel
theorem dX12_alike_3 : decode cX12_alike 3 = .ok (.invokevirtual 389, 3) := by decide +kernel
theorem dX12_alike_6 : decode cX12_alike 6 = .ok (.ifCond .eq 28, 3) := by decide +kernel
theorem dX12_alike_9 : decode cX12_alike 9 = .ok (.iload_n 3, 1) := by decide +kernel
theorem dX12_alike_10 : decode cX12_alike 10 = .ok (.iconst 0, 1) := by decide +kernel
theorem dX12_alike_11 : decode cX12_alike 11 = .ok (.aload_n 0, 1) := by decide +kernel
theorem dX12_alike_12 : decode cX12_alike 12 = .ok (.iload_n 1, 1) := by decide +kernel
theorem dX12_alike_13 : decode cX12_alike 13 = .ok (.invokevirtual 327, 3) := by decide +kernel
theorem dX12_alike_16 : decode cX12_alike 16 = .ok (.iconst 1, 1) := by decide +kernel
theorem dX12_alike_17 : decode cX12_alike 17 = .ok (.isub, 1) := by decide +kernel
theorem dX12_alike_18 : decode cX12_alike 18 = .ok (.invokestatic 376, 3) := by decide +kernel
theorem dX12_alike_21 : decode cX12_alike 21 = .ok (.ifCond .eq 13, 3) := by decide +kernel
theorem dX12_alike_24 : decode cX12_alike 24 = .ok (.aload_n 0, 1) := by decide +kernel
theorem dX12_alike_25 : decode cX12_alike 25 = .ok (.iload_n 1, 1) := by decide +kernel
theorem dX12_alike_26 : decode cX12_alike 26 = .ok (.iload_n 2, 1) := by decide +kernel
theorem dX12_alike_27 : decode cX12_alike 27 = .ok (.iload_n 3, 1) := by decide +kernel
theorem dX12_alike_28 : decode cX12_alike 28 = .ok (.invokevirtual 383, 3) := by decide +kernel
theorem dX12_alike_31 : decode cX12_alike 31 = .ok (.goto 6, 3) := by decide +kernel
theorem dX12_alike_34 : decode cX12_alike 34 = .ok (.sipush (-1000), 3) := by decide +kernel
theorem dX12_alike_37 : decode cX12_alike 37 = .ok (.ireturn, 1) := by decide +kernel
set_option maxRecDepth 100000 in
theorem c_X12_alike (l : Launch) (D : q_D) (al : q_Al) (dt : q_Dt) (x0 : Nat) (x1 : Int32) (x2 : Int32) (x3 : Int32) (kx0 : al.1 x0 = 13) (r0 : Int32) (hm : X12_alike al dt x0 x1 x2 x3 = some r0) : q_Mt l yX12_alike cX12_alike 4 (some FieldType.int) 3 65 D al [.ref x0, .int x1, .int x2, .int x3] dt 0 (some (.int r0)) dt := by
  refine q_Mt.of (by decide) (Nat.le_of_ble_eq_true rfl) ?_
  intro p e s m args below meth c ls C hargs hW hl
  have hx := C.1
  have hb := C.2.1
  have hown := C.2.2.2.2.2.1
  have hts := C.2.2.2.2.2.2.1
  have hS : va_S (q_A al) s.heap s.heap [] := va_S.rf
  have hl : lv_has ls 4 [(0, .ref x0), (1, .int x1), (2, .int x2), (3, .int x3)] := hl
  unfold X12_alike at hm
  refine lv_aload_n hx hb dX12_alike_0 rfl (lv_at hl 0 rfl) ?_
  refine lv_iload_n hx hb dX12_alike_1 rfl (lv_at hl 1 rfl) ?_
  refine lv_iload_n hx hb dX12_alike_2 rfl (lv_at hl 2 rfl) ?_
  obtain ⟨v1000002, hc1000001, hm⟩ := q_b1i hm
  refine q_callV C hW hS (As := [.int x1, .int x2]) (rest := []) (st1 := [.int v1000002]) (c_X12_arePair l D al dt x0 x1 x2 kx0 v1000002 hc1000001) yl_X12_arePair vl_X12_arePair ml_RX12_389 (ci := 12) rfl kx0 (by decide) rfl ⟨Nat.le_of_ble_eq_true rfl, Nat.le_of_ble_eq_true rfl⟩ hl rfl (Nat.le_of_ble_eq_true rfl) dX12_alike_3 ⟨Nat.le_refl _, Nat.le_refl _⟩ rfl (fun H locs k1000003 hW hS => ?_)
  refine q_ifc hm (fun c1000004 hm => ?_) (fun c1000004 hm => ?_)
  · refine lv_if_eq (tgt := 34) hx hb dX12_alike_6 (by decide) (fun _ => ?_) (fun h => absurd c1000004 h)
    refine lv_sipush (v := (-1000)) hx hb dX12_alike_34 (by decide) ?_
    exact e_i C hW hS hm dX12_alike_37
  refine lv_if_eq (tgt := 34) hx hb dX12_alike_6 (by decide) (fun h => absurd h c1000004) (fun _ => ?_)
  refine lv_iload_n hx hb dX12_alike_9 rfl (lv_at hl 3 rfl) ?_
  refine lv_iconst (v := 0) hx hb dX12_alike_10 (by decide) ?_
  refine lv_aload_n hx hb dX12_alike_11 rfl (lv_at hl 0 rfl) ?_
  refine lv_iload_n hx hb dX12_alike_12 rfl (lv_at hl 1 rfl) ?_
  obtain ⟨v1000006, hc1000005, hm⟩ := q_b1i hm
  refine q_callV C hW hS (As := [.int x1]) (rest := [.int 0, .int x3]) (st1 := [.int v1000006, .int 0, .int x3]) (c_X12_long0 l D al dt x0 x1 kx0 v1000006 hc1000005) yl_X12_long0 vl_X12_long0 ml_RX12_327 (ci := 12) rfl kx0 (by decide) rfl ⟨Nat.le_of_ble_eq_true rfl, Nat.le_of_ble_eq_true rfl⟩ hl rfl (Nat.le_of_ble_eq_true rfl) dX12_alike_13 ⟨Nat.le_refl _, Nat.le_refl _⟩ rfl (fun H locs k1000007 hW hS => ?_)
  refine lv_iconst (v := 1) hx hb dX12_alike_16 (by decide) ?_
  refine lv_isub hx hb dX12_alike_17 ?_
  obtain ⟨v1000009, hc1000008, hm⟩ := q_b1i hm
  refine q_callS C hW hS (As := [.int x3, .int 0, .int (v1000006 - 1)]) (rest := []) (st1 := [.int v1000009]) (c_X12_in l D al dt x3 0 (v1000006 - 1) v1000009 hc1000008) yl_X12_in sl_X12_in ml_RX12_376 rfl ⟨Nat.le_of_ble_eq_true rfl, Nat.le_of_ble_eq_true rfl⟩ hl rfl (Nat.le_of_ble_eq_true rfl) dX12_alike_18 ⟨Nat.le_refl _, Nat.le_refl _⟩ rfl (fun H locs k1000010 hW hS => ?_)
  refine q_ifc hm (fun c1000011 hm => ?_) (fun c1000011 hm => ?_)
  · refine lv_if_eq (tgt := 34) hx hb dX12_alike_21 (by decide) (fun _ => ?_) (fun h => absurd c1000011 h)
    refine lv_sipush (v := (-1000)) hx hb dX12_alike_34 (by decide) ?_
    exact e_i C hW hS hm dX12_alike_37
  refine lv_if_eq (tgt := 34) hx hb dX12_alike_21 (by decide) (fun h => absurd h c1000011) (fun _ => ?_)
  refine lv_aload_n hx hb dX12_alike_24 rfl (lv_at hl 0 rfl) ?_
  refine lv_iload_n hx hb dX12_alike_25 rfl (lv_at hl 1 rfl) ?_
  refine lv_iload_n hx hb dX12_alike_26 rfl (lv_at hl 2 rfl) ?_
  refine lv_iload_n hx hb dX12_alike_27 rfl (lv_at hl 3 rfl) ?_
  obtain ⟨v1000013, hc1000012, hm⟩ := q_b1i hm
  refine q_callV C hW hS (As := [.int x1, .int x2, .int x3]) (rest := []) (st1 := [.int v1000013]) (c_X12_alikeAt l D al dt x0 x1 x2 x3 kx0 v1000013 hc1000012) yl_X12_alikeAt vl_X12_alikeAt ml_RX12_383 (ci := 12) rfl kx0 (by decide) rfl ⟨Nat.le_of_ble_eq_true rfl, Nat.le_of_ble_eq_true rfl⟩ hl rfl (Nat.le_of_ble_eq_true rfl) dX12_alike_28 ⟨Nat.le_refl _, Nat.le_refl _⟩ rfl (fun H locs k1000014 hW hS => ?_)
  refine lv_goto (tgt := 37) hx hb dX12_alike_31 (by decide) ?_
  exact e_i C hW hS hm dX12_alike_37
