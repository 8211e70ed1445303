theorem dX4_takeAllOut_0 : decode cX4_takeAllOut 0 = .ok (.iconst 0, 1) := by decide +kernel
theorem dX4_takeAllOut_1 : decode cX4_takeAllOut 1 = .ok (.istore_n 2, 1) := by decide +kernel
theorem dX4_takeAllOut_2 : decode cX4_takeAllOut 2 = .ok (.iload_n 2, 1) := by decide +kernel
theorem dX4_takeAllOut_3 : decode cX4_takeAllOut 3 = .ok (.aload_n 0, 1) := by decide +kernel
theorem dX4_takeAllOut_4 : decode cX4_takeAllOut 4 = .ok (.getfield 27, 3) := by decide +kernel
theorem dX4_takeAllOut_7 : decode cX4_takeAllOut 7 = .ok (.arraylength, 1) := by decide +kernel
theorem dX4_takeAllOut_8 : decode cX4_takeAllOut 8 = .ok (.if_icmp .ge 58, 3) := by decide +kernel
theorem dX4_takeAllOut_11 : decode cX4_takeAllOut 11 = .ok (.iload_n 2, 1) := by decide +kernel
theorem dX4_takeAllOut_12 : decode cX4_takeAllOut 12 = .ok (.aload_n 0, 1) := by decide +kernel
theorem dX4_takeAllOut_13 : decode cX4_takeAllOut 13 = .ok (.getfield 31, 3) := by decide +kernel
theorem dX4_takeAllOut_16 : decode cX4_takeAllOut 16 = .ok (.arraylength, 1) := by decide +kernel
theorem dX4_takeAllOut_17 : decode cX4_takeAllOut 17 = .ok (.if_icmp .ge 49, 3) := by decide +kernel
theorem dX4_takeAllOut_20 : decode cX4_takeAllOut 20 = .ok (.aload_n 1, 1) := by decide +kernel
theorem dX4_takeAllOut_21 : decode cX4_takeAllOut 21 = .ok (.iload_n 2, 1) := by decide +kernel
theorem dX4_takeAllOut_22 : decode cX4_takeAllOut 22 = .ok (.invokevirtual 127, 3) := by decide +kernel
theorem dX4_takeAllOut_25 : decode cX4_takeAllOut 25 = .ok (.astore_n 3, 1) := by decide +kernel
theorem dX4_takeAllOut_26 : decode cX4_takeAllOut 26 = .ok (.aload_n 3, 1) := by decide +kernel
theorem dX4_takeAllOut_27 : decode cX4_takeAllOut 27 = .ok (.ifnull 33, 3) := by decide +kernel
theorem dX4_takeAllOut_30 : decode cX4_takeAllOut 30 = .ok (.aload_n 0, 1) := by decide +kernel
theorem dX4_takeAllOut_31 : decode cX4_takeAllOut 31 = .ok (.getfield 31, 3) := by decide +kernel
theorem dX4_takeAllOut_34 : decode cX4_takeAllOut 34 = .ok (.iload_n 2, 1) := by decide +kernel
theorem dX4_takeAllOut_35 : decode cX4_takeAllOut 35 = .ok (.aaload, 1) := by decide +kernel
theorem dX4_takeAllOut_36 : decode cX4_takeAllOut 36 = .ok (.aload_n 0, 1) := by decide +kernel
theorem dX4_takeAllOut_37 : decode cX4_takeAllOut 37 = .ok (.getfield 27, 3) := by decide +kernel
theorem dX4_takeAllOut_40 : decode cX4_takeAllOut 40 = .ok (.iload_n 2, 1) := by decide +kernel
theorem dX4_takeAllOut_41 : decode cX4_takeAllOut 41 = .ok (.aaload, 1) := by decide +kernel
theorem dX4_takeAllOut_42 : decode cX4_takeAllOut 42 = .ok (.invokevirtual 153, 3) := by decide +kernel
theorem dX4_takeAllOut_45 : decode cX4_takeAllOut 45 = .ok (.aload_n 0, 1) := by decide +kernel
theorem dX4_takeAllOut_46 : decode cX4_takeAllOut 46 = .ok (.getfield 23, 3) := by decide +kernel
theorem dX4_takeAllOut_49 : decode cX4_takeAllOut 49 = .ok (.aload_n 3, 1) := by decide +kernel
theorem dX4_takeAllOut_50 : decode cX4_takeAllOut 50 = .ok (.aload_n 0, 1) := by decide +kernel
theorem dX4_takeAllOut_51 : decode cX4_takeAllOut 51 = .ok (.getfield 31, 3) := by decide +kernel
theorem dX4_takeAllOut_54 : decode cX4_takeAllOut 54 = .ok (.iload_n 2, 1) := by decide +kernel
theorem dX4_takeAllOut_55 : decode cX4_takeAllOut 55 = .ok (.aaload, 1) := by decide +kernel
theorem dX4_takeAllOut_56 : decode cX4_takeAllOut 56 = .ok (.iconst (-1), 1) := by decide +kernel
theorem dX4_takeAllOut_57 : decode cX4_takeAllOut 57 = .ok (.invokevirtual 138, 3) := by decide +kernel
theorem dX4_takeAllOut_60 : decode cX4_takeAllOut 60 = .ok (.iinc 2 1, 3) := by decide +kernel
theorem dX4_takeAllOut_63 : decode cX4_takeAllOut 63 = .ok (.goto (-61), 3) := by decide +kernel
theorem dX4_takeAllOut_66 : decode cX4_takeAllOut 66 = .ok (.return_, 1) := by decide +kernel
set_option maxRecDepth 100000 in
theorem c_X4_takeAllOut (l : Launch) (D : q_D) (al : q_Al) (dt : q_Dt) (x0 : Nat) (x1 : Option Nat) (kx0 : al.1 x0 = 5) (kx1 : ∀ b, x1 = some b → al.1 b = 11) (dt0 : q_Dt) (hm : X4_takeAllOut al dt x0 x1 = some dt0) : q_Mt l yX4_takeAllOut cX4_takeAllOut 4 (none) 4 98 D al [.ref x0, va_rf x1] dt 0 none dt0 := by
  refine q_Mt.of (by decide) (by simp [lg_sl, q_cat, q_catR, q_catI, q_catL]) ?_
  intro p e s m args below meth c ls C hargs hW hl
  have hx := C.1
  have hb := C.2.1
  have hown := C.2.2.2.2.2.1
  have hts := C.2.2.2.2.2.2.1
  have hS : va_S (q_A al) s.heap s.heap [] := va_S.rf
  have hl : lv_has ls 4 [(0, .ref x0), (1, va_rf x1)] := by simpa [lv_args, q_cat, q_catR, q_catI, q_catL] using hl
  unfold X4_takeAllOut at hm
  have hB2 : ∀ (x0_2 : Nat) (x1_2 : Option Nat) (kx0_2 : al.1 x0_2 = 5) (kx1_2 : ∀ b, x1_2 = some b → al.1 b = 11) (n_2 : Nat) (x2_2 : Int32) (dt : q_Dt) (H : Heap) (locs : List Loc) (ls : Array Slot) (hm : X4_takeAllOut_b2 al x0_2 x1_2 n_2 x2_2 dt = some dt0) (hW : q_W D al dt H) (hS : va_S (q_A al) s.heap H locs) (hl : lv_has ls 4 [(0, .ref x0_2), (1, va_rf x1_2), (2, .int x2_2)]), W p l e { frames := 4, cells := 0, slots := 0, locals := 98 } s m args below meth c H locs 0 0 (MQ below (q_Q none (fun H => q_W D al dt0 H ∧ q_Rk al 0 none) (q_A al)) args s 0 0 (q_A al)) (F0 m 2 ls []) := by
    intro x0_2 x1_2 kx0_2 kx1_2
    intro n_2
    induction n_2 with
    | zero => intro x2_2 dt H locs ls hm hW hS hl; cases hm
    | succ n_2 ih2 =>
      have hB60 : ∀ (x2_60 : Int32) (dt : q_Dt) (H : Heap) (locs : List Loc) (ls : Array Slot) (hm : X4_takeAllOut_b60 al (X4_takeAllOut_b2 al x0_2 x1_2 n_2) x0_2 x1_2 x2_60 dt = some dt0) (hW : q_W D al dt H) (hS : va_S (q_A al) s.heap H locs) (hl : lv_has ls 4 [(0, .ref x0_2), (1, va_rf x1_2), (2, .int x2_60)]), W p l e { frames := 4, cells := 0, slots := 0, locals := 98 } s m args below meth c H locs 0 0 (MQ below (q_Q none (fun H => q_W D al dt0 H ∧ q_Rk al 0 none) (q_A al)) args s 0 0 (q_A al)) (F0 m 60 ls []) := by
        intro x2_60 dt H locs ls hm hW hS hl
        unfold X4_takeAllOut_b60 at hm
        refine lv_iinc (v := (x2_60 + 1)) (lv' := [(2, .int (x2_60 + 1)), (0, .ref x0_2), (1, va_rf x1_2)]) hx hb dX4_takeAllOut_60 hl (k := 2) rfl rfl (by decide) (by simp [q_cat, q_catR, q_catI, q_catL] <;> rfl) (fun ls hl => ?_)
        refine lv_goto (tgt := 2) hx hb dX4_takeAllOut_63 (by decide) ?_
        exact ih2 (x2_60 + 1) dt _ _ _ hm hW hS (lv_sub hl [1, 2, 0] rfl)
      intro x2_2 dt H locs ls hm hW hS hl
      rw [X4_takeAllOut_b2] at hm
      refine lv_iload_n hx hb dX4_takeAllOut_2 rfl (lv_at hl 2 rfl) ?_
      refine lv_aload_n hx hb dX4_takeAllOut_3 rfl (lv_at hl 0 rfl) ?_
      refine r_getF C hW (ci := 4) kx0_2 ff_4_2 cl_4 fl_RX4_27 dX4_takeAllOut_4 (fun k2001 => ?_)
      refine q_alenR C hW (ci := 5) (t0 := 6) k2001 (by decide) rfl dX4_takeAllOut_7 ?_
      refine q_ifc hm (fun c2002 hm => ?_) (fun c2002 hm => ?_)
      · refine lv_icmp_ge (tgt := 66) hx hb dX4_takeAllOut_8 (by decide) (fun _ => ?_) (fun h => absurd c2002 h)
        exact e_vD C hW hS hm dX4_takeAllOut_66
      refine lv_icmp_ge (tgt := 66) hx hb dX4_takeAllOut_8 (by decide) (fun h => absurd h c2002) (fun _ => ?_)
      refine lv_iload_n hx hb dX4_takeAllOut_11 rfl (lv_at hl 2 rfl) ?_
      refine lv_aload_n hx hb dX4_takeAllOut_12 rfl (lv_at hl 0 rfl) ?_
      refine r_getF C hW (ci := 4) kx0_2 ff_4_3 cl_4 fl_RX4_31 dX4_takeAllOut_13 (fun k2003 => ?_)
      refine q_alenR C hW (ci := 5) (t0 := 6) k2003 (by decide) rfl dX4_takeAllOut_16 ?_
      refine q_ifc hm (fun c2004 hm => ?_) (fun c2004 hm => ?_)
      · refine lv_icmp_ge (tgt := 66) hx hb dX4_takeAllOut_17 (by decide) (fun _ => ?_) (fun h => absurd c2004 h)
        exact e_vD C hW hS hm dX4_takeAllOut_66
      refine lv_icmp_ge (tgt := 66) hx hb dX4_takeAllOut_17 (by decide) (fun h => absurd h c2004) (fun _ => ?_)
      refine q_aloadQ_n C dX4_takeAllOut_20 rfl (lv_at hl 1 rfl) ?_
      refine lv_iload_n hx hb dX4_takeAllOut_21 rfl (lv_at hl 2 rfl) ?_
      obtain ⟨b2005, e2006, hq2007⟩ := q_mi hm
      subst e2006
      have hm := hq2007
      have k2008 := kx1_2 b2005 rfl
      obtain ⟨v2010, hc2009, hm⟩ := q_b1i hm
      refine q_callV C hW hS (As := [.int x2_2]) (rest := []) (st1 := [va_rf v2010]) (c_X10_senderAt l D al dt b2005 x2_2 k2008 v2010 hc2009) yl_X10_senderAt vl_X10_senderAt ml_RX4_127 (ci := 10) rfl k2008 (by decide) rfl ⟨Nat.le_of_ble_eq_true rfl, Nat.le_of_ble_eq_true rfl⟩ hl rfl (Nat.le_of_ble_eq_true rfl) dX4_takeAllOut_22 ⟨Nat.le_refl _, Nat.le_refl _⟩ rfl (fun H locs k2011 hW hS => ?_)
      have k2011 := q_rk k2011 (by decide)
      refine q_astoreQ_n (i := 3) (lv' := [(3, va_rf v2010), (0, .ref x0_2), (1, .ref b2005), (2, .int x2_2)]) C dX4_takeAllOut_25 rfl hl (by decide) rfl (fun ls hl => ?_)
      refine q_aloadQ_n C dX4_takeAllOut_26 rfl (lv_at hl 0 rfl) ?_
      refine q_ifnull C hm (tgt := 60) dX4_takeAllOut_27 (by decide) (fun e2014 hq2015 => ?_) (fun b2012 e2014 hq2015 => ?_)
      · subst e2014
        have hm := hq2015
        exact hB60 x2_2 dt _ _ _ hm hW hS (lv_sub hl [1, 2, 3] rfl)
      subst e2014
      have hm := hq2015
      have k2013 := k2011 b2012 rfl
      refine lv_aload_n hx hb dX4_takeAllOut_30 rfl (lv_at hl 1 rfl) ?_
      refine r_getF C hW (ci := 4) kx0_2 ff_4_3 cl_4 fl_RX4_31 dX4_takeAllOut_31 (fun k2016 => ?_)
      refine lv_iload_n hx hb dX4_takeAllOut_34 rfl (lv_at hl 3 rfl) ?_
      refine r_aald C hW hm (ci := 5) (t0 := 6) k2016 (by decide) rfl dX4_takeAllOut_35 (fun k2017 hm => ?_)
      refine lv_aload_n hx hb dX4_takeAllOut_36 rfl (lv_at hl 1 rfl) ?_
      refine r_getF C hW (ci := 4) kx0_2 ff_4_2 cl_4 fl_RX4_27 dX4_takeAllOut_37 (fun k2018 => ?_)
      refine lv_iload_n hx hb dX4_takeAllOut_40 rfl (lv_at hl 3 rfl) ?_
      refine r_aald C hW hm (ci := 5) (t0 := 6) k2018 (by decide) rfl dX4_takeAllOut_41 (fun k2019 hm => ?_)
      obtain ⟨dt2021, hc2020, hm⟩ := q_b1i hm
      refine q_callV C hW hS (As := [.ref (al.2.2 (al.2.2 x0_2 2) (Int32.toNatClampNeg x2_2))]) (rest := []) (st1 := []) (c_X5_takeOver l D al dt (al.2.2 (al.2.2 x0_2 3) (Int32.toNatClampNeg x2_2)) (al.2.2 (al.2.2 x0_2 2) (Int32.toNatClampNeg x2_2)) k2017 k2019 dt2021 hc2020) yl_X5_takeOver vl_X5_takeOver ml_RX4_153 (ci := 5) rfl k2017 (by decide) rfl ⟨Nat.le_of_ble_eq_true rfl, Nat.le_of_ble_eq_true rfl⟩ hl rfl (Nat.le_of_ble_eq_true rfl) dX4_takeAllOut_42 ⟨Nat.le_refl _, Nat.le_refl _⟩ rfl (fun H locs k2022 hW hS => ?_)
      refine lv_aload_n hx hb dX4_takeAllOut_45 rfl (lv_at hl 1 rfl) ?_
      refine r_getF C hW (ci := 4) kx0_2 ff_4_1 cl_4 fl_RX4_23 dX4_takeAllOut_46 (fun k2023 => ?_)
      refine lv_aload_n hx hb dX4_takeAllOut_49 rfl (lv_at hl 0 rfl) ?_
      refine lv_aload_n hx hb dX4_takeAllOut_50 rfl (lv_at hl 1 rfl) ?_
      refine r_getF C hW (ci := 4) kx0_2 ff_4_3 cl_4 fl_RX4_31 dX4_takeAllOut_51 (fun k2024 => ?_)
      refine lv_iload_n hx hb dX4_takeAllOut_54 rfl (lv_at hl 3 rfl) ?_
      refine r_aald C hW hm (ci := 5) (t0 := 6) k2024 (by decide) rfl dX4_takeAllOut_55 (fun k2025 hm => ?_)
      refine lv_iconst (v := (-1)) hx hb dX4_takeAllOut_56 (by decide) ?_
      obtain ⟨dt2027, hc2026, hm⟩ := q_b1i hm
      refine q_callV C hW hS (As := [.ref b2012, .ref (al.2.2 (al.2.2 x0_2 3) (Int32.toNatClampNeg x2_2)), .int (-1)]) (rest := []) (st1 := []) (c_X8_layWave l D al dt2021 (al.2.2 x0_2 1) b2012 (some (al.2.2 (al.2.2 x0_2 3) (Int32.toNatClampNeg x2_2))) (-1) k2023 k2013 (q_ks k2025) dt2027 hc2026) yl_X8_layWave vl_X8_layWave ml_RX4_138 (ci := 8) rfl k2023 (by decide) rfl ⟨Nat.le_of_ble_eq_true rfl, Nat.le_of_ble_eq_true rfl⟩ hl rfl (Nat.le_of_ble_eq_true rfl) dX4_takeAllOut_57 ⟨Nat.le_refl _, Nat.le_refl _⟩ rfl (fun H locs k2028 hW hS => ?_)
      exact hB60 x2_2 dt2027 _ _ _ hm hW hS (lv_sub hl [1, 2, 3] rfl)
  refine lv_iconst (v := 0) hx hb dX4_takeAllOut_0 (by decide) ?_
  refine lv_istore_n (i := 2) (lv' := [(2, .int 0), (0, .ref x0), (1, va_rf x1)]) hx hb dX4_takeAllOut_1 rfl hl (by decide) (by simp [q_cat, q_catR, q_catI, q_catL] <;> rfl) (fun ls hl => ?_)
  exact hB2 x0 x1 kx0 kx1 q_FU 0 dt _ _ _ hm hW hS (lv_sub hl [1, 2, 0] rfl)
theorem dX4_readAll_0 : decode cX4_readAll 0 = .ok (.iconst 0, 1) := by decide +kernel
theorem dX4_readAll_1 : decode cX4_readAll 1 = .ok (.istore_n 3, 1) := by decide +kernel
theorem dX4_readAll_2 : decode cX4_readAll 2 = .ok (.iconst 0, 1) := by decide +kernel
theorem dX4_readAll_3 : decode cX4_readAll 3 = .ok (.istore 4, 2) := by decide +kernel
theorem dX4_readAll_5 : decode cX4_readAll 5 = .ok (.iload 4, 2) := by decide +kernel
theorem dX4_readAll_7 : decode cX4_readAll 7 = .ok (.aload_n 0, 1) := by decide +kernel
theorem dX4_readAll_8 : decode cX4_readAll 8 = .ok (.getfield 27, 3) := by decide +kernel
theorem dX4_readAll_11 : decode cX4_readAll 11 = .ok (.arraylength, 1) := by decide +kernel
theorem dX4_readAll_12 : decode cX4_readAll 12 = .ok (.if_icmp .ge 119, 3) := by decide +kernel
theorem dX4_readAll_15 : decode cX4_readAll 15 = .ok (.iload 4, 2) := by decide +kernel
theorem dX4_readAll_17 : decode cX4_readAll 17 = .ok (.aload_n 0, 1) := by decide +kernel
theorem dX4_readAll_18 : decode cX4_readAll 18 = .ok (.getfield 31, 3) := by decide +kernel
theorem dX4_readAll_21 : decode cX4_readAll 21 = .ok (.arraylength, 1) := by decide +kernel
theorem dX4_readAll_22 : decode cX4_readAll 22 = .ok (.if_icmp .ge 109, 3) := by decide +kernel
theorem dX4_readAll_25 : decode cX4_readAll 25 = .ok (.aload_n 1, 1) := by decide +kernel
theorem dX4_readAll_26 : decode cX4_readAll 26 = .ok (.iload 4, 2) := by decide +kernel
theorem dX4_readAll_28 : decode cX4_readAll 28 = .ok (.invokevirtual 127, 3) := by decide +kernel
theorem dX4_readAll_31 : decode cX4_readAll 31 = .ok (.astore 5, 2) := by decide +kernel
theorem dX4_readAll_33 : decode cX4_readAll 33 = .ok (.aload 5, 2) := by decide +kernel
theorem dX4_readAll_35 : decode cX4_readAll 35 = .ok (.ifnull 90, 3) := by decide +kernel
theorem dX4_readAll_38 : decode cX4_readAll 38 = .ok (.iload_n 2, 1) := by decide +kernel
theorem dX4_readAll_39 : decode cX4_readAll 39 = .ok (.ifCond .eq 20, 3) := by decide +kernel
theorem dX4_readAll_42 : decode cX4_readAll 42 = .ok (.aload_n 0, 1) := by decide +kernel
theorem dX4_readAll_43 : decode cX4_readAll 43 = .ok (.getfield 23, 3) := by decide +kernel
theorem dX4_readAll_46 : decode cX4_readAll 46 = .ok (.aload 5, 2) := by decide +kernel
theorem dX4_readAll_48 : decode cX4_readAll 48 = .ok (.aload_n 0, 1) := by decide +kernel
theorem dX4_readAll_49 : decode cX4_readAll 49 = .ok (.getfield 31, 3) := by decide +kernel
theorem dX4_readAll_52 : decode cX4_readAll 52 = .ok (.iload 4, 2) := by decide +kernel
theorem dX4_readAll_54 : decode cX4_readAll 54 = .ok (.aaload, 1) := by decide +kernel
theorem dX4_readAll_55 : decode cX4_readAll 55 = .ok (.iconst 1, 1) := by decide +kernel
theorem dX4_readAll_56 : decode cX4_readAll 56 = .ok (.invokevirtual 138, 3) := by decide +kernel
theorem dX4_readAll_59 : decode cX4_readAll 59 = .ok (.aload_n 0, 1) := by decide +kernel
theorem dX4_readAll_60 : decode cX4_readAll 60 = .ok (.aload_n 0, 1) := by decide +kernel
theorem dX4_readAll_61 : decode cX4_readAll 61 = .ok (.getfield 23, 3) := by decide +kernel
theorem dX4_readAll_64 : decode cX4_readAll 64 = .ok (.aload 5, 2) := by decide +kernel
theorem dX4_readAll_66 : decode cX4_readAll 66 = .ok (.invokevirtual 104, 3) := by decide +kernel
theorem dX4_readAll_69 : decode cX4_readAll 69 = .ok (.iload_n 2, 1) := by decide +kernel
theorem dX4_readAll_70 : decode cX4_readAll 70 = .ok (.ifCond .eq 20, 3) := by decide +kernel
theorem dX4_readAll_73 : decode cX4_readAll 73 = .ok (.aload_n 0, 1) := by decide +kernel
theorem dX4_readAll_74 : decode cX4_readAll 74 = .ok (.getfield 23, 3) := by decide +kernel
theorem dX4_readAll_77 : decode cX4_readAll 77 = .ok (.aload 5, 2) := by decide +kernel
theorem dX4_readAll_79 : decode cX4_readAll 79 = .ok (.aload_n 0, 1) := by decide +kernel
theorem dX4_readAll_80 : decode cX4_readAll 80 = .ok (.getfield 31, 3) := by decide +kernel
theorem dX4_readAll_83 : decode cX4_readAll 83 = .ok (.iload 4, 2) := by decide +kernel
theorem dX4_readAll_85 : decode cX4_readAll 85 = .ok (.aaload, 1) := by decide +kernel
theorem dX4_readAll_86 : decode cX4_readAll 86 = .ok (.iconst (-1), 1) := by decide +kernel
theorem dX4_readAll_87 : decode cX4_readAll 87 = .ok (.invokevirtual 138, 3) := by decide +kernel
theorem dX4_readAll_90 : decode cX4_readAll 90 = .ok (.aload_n 0, 1) := by decide +kernel
theorem dX4_readAll_91 : decode cX4_readAll 91 = .ok (.getfield 27, 3) := by decide +kernel
theorem dX4_readAll_94 : decode cX4_readAll 94 = .ok (.iload 4, 2) := by decide +kernel
theorem dX4_readAll_96 : decode cX4_readAll 96 = .ok (.aaload, 1) := by decide +kernel
theorem dX4_readAll_97 : decode cX4_readAll 97 = .ok (.aload_n 0, 1) := by decide +kernel
theorem dX4_readAll_98 : decode cX4_readAll 98 = .ok (.getfield 14, 3) := by decide +kernel
theorem dX4_readAll_101 : decode cX4_readAll 101 = .ok (.invokevirtual 153, 3) := by decide +kernel
theorem dX4_readAll_104 : decode cX4_readAll 104 = .ok (.iload_n 3, 1) := by decide +kernel
theorem dX4_readAll_105 : decode cX4_readAll 105 = .ok (.aload_n 0, 1) := by decide +kernel
theorem dX4_readAll_106 : decode cX4_readAll 106 = .ok (.aload 5, 2) := by decide +kernel
theorem dX4_readAll_108 : decode cX4_readAll 108 = .ok (.aload 5, 2) := by decide +kernel
theorem dX4_readAll_110 : decode cX4_readAll 110 = .ok (.aload_n 0, 1) := by decide +kernel
theorem dX4_readAll_111 : decode cX4_readAll 111 = .ok (.getfield 23, 3) := by decide +kernel
theorem dX4_readAll_114 : decode cX4_readAll 114 = .ok (.getfield 44, 3) := by decide +kernel
theorem dX4_readAll_117 : decode cX4_readAll 117 = .ok (.invokevirtual 108, 3) := by decide +kernel
theorem dX4_readAll_120 : decode cX4_readAll 120 = .ok (.invokevirtual 111, 3) := by decide +kernel
theorem dX4_readAll_123 : decode cX4_readAll 123 = .ok (.iadd, 1) := by decide +kernel
theorem dX4_readAll_124 : decode cX4_readAll 124 = .ok (.istore_n 3, 1) := by decide +kernel
theorem dX4_readAll_125 : decode cX4_readAll 125 = .ok (.iinc 4 1, 3) := by decide +kernel
theorem dX4_readAll_128 : decode cX4_readAll 128 = .ok (.goto (-123), 3) := by decide +kernel
theorem dX4_readAll_131 : decode cX4_readAll 131 = .ok (.iload_n 3, 1) := by decide +kernel
theorem dX4_readAll_132 : decode cX4_readAll 132 = .ok (.ireturn, 1) := by decide +kernel
set_option maxRecDepth 100000 in
theorem c_X4_readAll (l : Launch) (D : q_D) (al : q_Al) (dt : q_Dt) (x0 : Nat) (x1 : Option Nat) (x2 : Int32) (kx0 : al.1 x0 = 5) (kx1 : ∀ b, x1 = some b → al.1 b = 11) (r0 : Int32) (dt0 : q_Dt) (hm : X4_readAll al dt x0 x1 x2 = some (r0, dt0)) : q_Mt l yX4_readAll cX4_readAll 6 (some FieldType.int) 4 98 D al [.ref x0, va_rf x1, .int x2] dt 0 (some (.int r0)) dt0 := by
  refine q_Mt.of (by decide) (by simp [lg_sl, q_cat, q_catR, q_catI, q_catL]) ?_
  intro p e s m args below meth c ls C hargs hW hl
  have hx := C.1
  have hb := C.2.1
  have hown := C.2.2.2.2.2.1
  have hts := C.2.2.2.2.2.2.1
  have hS : va_S (q_A al) s.heap s.heap [] := va_S.rf
  have hl : lv_has ls 6 [(0, .ref x0), (1, va_rf x1), (2, .int x2)] := by simpa [lv_args, q_cat, q_catR, q_catI, q_catL] using hl
  unfold X4_readAll at hm
  have hB131 : ∀ (x3_131 : Int32) (dt : q_Dt) (H : Heap) (locs : List Loc) (ls : Array Slot) (hm : X4_readAll_b131 al x3_131 dt = some (r0, dt0)) (hW : q_W D al dt H) (hS : va_S (q_A al) s.heap H locs) (hl : lv_has ls 6 [(3, .int x3_131)]), W p l e { frames := 4, cells := 0, slots := 0, locals := 98 } s m args below meth c H locs 0 0 (MQ below (q_Q (some (.int r0)) (fun H => q_W D al dt0 H ∧ q_Rk al 0 (some (.int r0))) (q_A al)) args s 0 0 (q_A al)) (F0 m 131 ls []) := by
    intro x3_131 dt H locs ls hm hW hS hl
    unfold X4_readAll_b131 at hm
    refine lv_iload_n hx hb dX4_readAll_131 rfl (lv_at hl 0 rfl) ?_
    exact e_iD C hW hS hm dX4_readAll_132
  have hB5 : ∀ (x0_5 : Nat) (x1_5 : Option Nat) (x2_5 : Int32) (kx0_5 : al.1 x0_5 = 5) (kx1_5 : ∀ b, x1_5 = some b → al.1 b = 11) (n_5 : Nat) (x3_5 : Int32) (x4_5 : Int32) (dt : q_Dt) (H : Heap) (locs : List Loc) (ls : Array Slot) (hm : X4_readAll_b5 al x0_5 x1_5 x2_5 n_5 x3_5 x4_5 dt = some (r0, dt0)) (hW : q_W D al dt H) (hS : va_S (q_A al) s.heap H locs) (hl : lv_has ls 6 [(0, .ref x0_5), (1, va_rf x1_5), (2, .int x2_5), (3, .int x3_5), (4, .int x4_5)]), W p l e { frames := 4, cells := 0, slots := 0, locals := 98 } s m args below meth c H locs 0 0 (MQ below (q_Q (some (.int r0)) (fun H => q_W D al dt0 H ∧ q_Rk al 0 (some (.int r0))) (q_A al)) args s 0 0 (q_A al)) (F0 m 5 ls []) := by
    intro x0_5 x1_5 x2_5 kx0_5 kx1_5
    intro n_5
    induction n_5 with
    | zero => intro x3_5 x4_5 dt H locs ls hm hW hS hl; cases hm
    | succ n_5 ih5 =>
      have hB125 : ∀ (x3_125 : Int32) (x4_125 : Int32) (dt : q_Dt) (H : Heap) (locs : List Loc) (ls : Array Slot) (hm : X4_readAll_b125 al (X4_readAll_b5 al x0_5 x1_5 x2_5 n_5) x0_5 x1_5 x2_5 x3_125 x4_125 dt = some (r0, dt0)) (hW : q_W D al dt H) (hS : va_S (q_A al) s.heap H locs) (hl : lv_has ls 6 [(0, .ref x0_5), (1, va_rf x1_5), (2, .int x2_5), (3, .int x3_125), (4, .int x4_125)]), W p l e { frames := 4, cells := 0, slots := 0, locals := 98 } s m args below meth c H locs 0 0 (MQ below (q_Q (some (.int r0)) (fun H => q_W D al dt0 H ∧ q_Rk al 0 (some (.int r0))) (q_A al)) args s 0 0 (q_A al)) (F0 m 125 ls []) := by
        intro x3_125 x4_125 dt H locs ls hm hW hS hl
        unfold X4_readAll_b125 at hm
        refine lv_iinc (v := (x4_125 + 1)) (lv' := [(4, .int (x4_125 + 1)), (0, .ref x0_5), (1, va_rf x1_5), (2, .int x2_5), (3, .int x3_125)]) hx hb dX4_readAll_125 hl (k := 4) rfl rfl (by decide) rfl (fun ls hl => ?_)
        refine lv_goto (tgt := 5) hx hb dX4_readAll_128 (by decide) ?_
        exact ih5 x3_125 (x4_125 + 1) dt _ _ _ hm hW hS (lv_sub hl [1, 2, 3, 4, 0] rfl)
      have hB90 : ∀ (x3_90 : Int32) (x4_90 : Int32) (x5_90 : Nat) (kx5_90 : al.1 x5_90 = 8) (dt : q_Dt) (H : Heap) (locs : List Loc) (ls : Array Slot) (hm : X4_readAll_b90 al (X4_readAll_b5 al x0_5 x1_5 x2_5 n_5) x0_5 x1_5 x2_5 x3_90 x4_90 x5_90 dt = some (r0, dt0)) (hW : q_W D al dt H) (hS : va_S (q_A al) s.heap H locs) (hl : lv_has ls 6 [(0, .ref x0_5), (1, va_rf x1_5), (2, .int x2_5), (3, .int x3_90), (4, .int x4_90), (5, .ref x5_90)]), W p l e { frames := 4, cells := 0, slots := 0, locals := 98 } s m args below meth c H locs 0 0 (MQ below (q_Q (some (.int r0)) (fun H => q_W D al dt0 H ∧ q_Rk al 0 (some (.int r0))) (q_A al)) args s 0 0 (q_A al)) (F0 m 90 ls []) := by
        intro x3_90 x4_90 x5_90 kx5_90 dt H locs ls hm hW hS hl
        unfold X4_readAll_b90 at hm
        refine lv_aload_n hx hb dX4_readAll_90 rfl (lv_at hl 0 rfl) ?_
        refine r_getF C hW (ci := 4) kx0_5 ff_4_2 cl_4 fl_RX4_27 dX4_readAll_91 (fun k90001 => ?_)
        refine lv_iload hx hb dX4_readAll_94 (lv_at hl 4 rfl) ?_
        refine r_aald C hW hm (ci := 5) (t0 := 6) k90001 (by decide) rfl dX4_readAll_96 (fun k90002 hm => ?_)
        refine lv_aload_n hx hb dX4_readAll_97 rfl (lv_at hl 0 rfl) ?_
        refine r_getF C hW (ci := 4) kx0_5 ff_4_0 cl_4 fl_RX4_14 dX4_readAll_98 (fun k90003 => ?_)
        obtain ⟨dt90005, hc90004, hm⟩ := q_b1i hm
        refine q_callV C hW hS (As := [.ref (al.2.2 x0_5 0)]) (rest := []) (st1 := []) (c_X5_takeOver l D al dt (al.2.2 (al.2.2 x0_5 2) (Int32.toNatClampNeg x4_90)) (al.2.2 x0_5 0) k90002 k90003 dt90005 hc90004) yl_X5_takeOver vl_X5_takeOver ml_RX4_153 (ci := 5) rfl k90002 (by decide) rfl ⟨Nat.le_of_ble_eq_true rfl, Nat.le_of_ble_eq_true rfl⟩ hl rfl (Nat.le_of_ble_eq_true rfl) dX4_readAll_101 ⟨Nat.le_refl _, Nat.le_refl _⟩ rfl (fun H locs k90006 hW hS => ?_)
        refine lv_iload_n hx hb dX4_readAll_104 rfl (lv_at hl 3 rfl) ?_
        refine lv_aload_n hx hb dX4_readAll_105 rfl (lv_at hl 0 rfl) ?_
        refine lv_aload hx hb dX4_readAll_106 (lv_at hl 5 rfl) ?_
        refine lv_aload hx hb dX4_readAll_108 (lv_at hl 5 rfl) ?_
        refine lv_aload_n hx hb dX4_readAll_110 rfl (lv_at hl 0 rfl) ?_
        refine r_getF C hW (ci := 4) kx0_5 ff_4_1 cl_4 fl_RX4_23 dX4_readAll_111 (fun k90007 => ?_)
        refine r_getI C hW (ci := 8) k90007 ff_8_2 cl_8 fl_RX4_44 dX4_readAll_114 ?_
        obtain ⟨v90009, hc90008, hm⟩ := q_b1i hm
        refine q_callV C hW hS (As := [.int (dt90005.1 (al.2.2 x0_5 1) 2)]) (rest := [.ref x5_90, .ref x0_5, .int x3_90]) (st1 := [.int v90009, .ref x5_90, .ref x0_5, .int x3_90]) (c_X7_periods l D al dt90005 x5_90 (dt90005.1 (al.2.2 x0_5 1) 2) kx5_90 v90009 hc90008) yl_X7_periods vl_X7_periods ml_RX4_108 (ci := 7) rfl kx5_90 (by decide) rfl ⟨Nat.le_of_ble_eq_true rfl, Nat.le_of_ble_eq_true rfl⟩ hl rfl (Nat.le_of_ble_eq_true rfl) dX4_readAll_117 ⟨Nat.le_refl _, Nat.le_refl _⟩ rfl (fun H locs k90010 hW hS => ?_)
        obtain ⟨v90012, hc90011, hm⟩ := q_b1i hm
        refine q_callV C hW hS (As := [.ref x5_90, .int v90009]) (rest := [.int x3_90]) (st1 := [.int v90012, .int x3_90]) (c_X4_wrongBits l D al dt90005 x0_5 x5_90 v90009 kx0_5 kx5_90 v90012 hc90011) yl_X4_wrongBits vl_X4_wrongBits ml_RX4_111 (ci := 4) rfl kx0_5 (by decide) rfl ⟨Nat.le_of_ble_eq_true rfl, Nat.le_of_ble_eq_true rfl⟩ hl rfl (Nat.le_of_ble_eq_true rfl) dX4_readAll_120 ⟨Nat.le_refl _, Nat.le_refl _⟩ rfl (fun H locs k90013 hW hS => ?_)
        refine lv_iadd hx hb dX4_readAll_123 ?_
        refine lv_istore_n (i := 3) (lv' := [(3, .int (x3_90 + v90012)), (0, .ref x0_5), (1, va_rf x1_5), (2, .int x2_5), (4, .int x4_90), (5, .ref x5_90)]) hx hb dX4_readAll_124 rfl hl (by decide) rfl (fun ls hl => ?_)
        exact hB125 (x3_90 + v90012) x4_90 dt90005 _ _ _ hm hW hS (lv_sub hl [1, 2, 3, 0, 4] rfl)
      have hB59 : ∀ (x3_59 : Int32) (x4_59 : Int32) (x5_59 : Nat) (kx5_59 : al.1 x5_59 = 8) (dt : q_Dt) (H : Heap) (locs : List Loc) (ls : Array Slot) (hm : X4_readAll_b59 al (X4_readAll_b5 al x0_5 x1_5 x2_5 n_5) x0_5 x1_5 x2_5 x3_59 x4_59 x5_59 dt = some (r0, dt0)) (hW : q_W D al dt H) (hS : va_S (q_A al) s.heap H locs) (hl : lv_has ls 6 [(0, .ref x0_5), (1, va_rf x1_5), (2, .int x2_5), (3, .int x3_59), (4, .int x4_59), (5, .ref x5_59)]), W p l e { frames := 4, cells := 0, slots := 0, locals := 98 } s m args below meth c H locs 0 0 (MQ below (q_Q (some (.int r0)) (fun H => q_W D al dt0 H ∧ q_Rk al 0 (some (.int r0))) (q_A al)) args s 0 0 (q_A al)) (F0 m 59 ls []) := by
        intro x3_59 x4_59 x5_59 kx5_59 dt H locs ls hm hW hS hl
        unfold X4_readAll_b59 at hm
        refine lv_aload_n hx hb dX4_readAll_59 rfl (lv_at hl 0 rfl) ?_
        refine lv_aload_n hx hb dX4_readAll_60 rfl (lv_at hl 0 rfl) ?_
        refine r_getF C hW (ci := 4) kx0_5 ff_4_1 cl_4 fl_RX4_23 dX4_readAll_61 (fun k59001 => ?_)
        refine lv_aload hx hb dX4_readAll_64 (lv_at hl 5 rfl) ?_
        obtain ⟨dt59003, hc59002, hm⟩ := q_b1i hm
        refine q_callV C hW hS (As := [.ref (al.2.2 x0_5 1), .ref x5_59]) (rest := []) (st1 := []) (c_X4_gather l D al dt x0_5 (al.2.2 x0_5 1) x5_59 kx0_5 k59001 kx5_59 dt59003 hc59002) yl_X4_gather vl_X4_gather ml_RX4_104 (ci := 4) rfl kx0_5 (by decide) rfl ⟨Nat.le_of_ble_eq_true rfl, Nat.le_of_ble_eq_true rfl⟩ hl rfl (Nat.le_of_ble_eq_true rfl) dX4_readAll_66 ⟨Nat.le_refl _, Nat.le_refl _⟩ rfl (fun H locs k59004 hW hS => ?_)
        refine lv_iload_n hx hb dX4_readAll_69 rfl (lv_at hl 2 rfl) ?_
        refine q_ifc hm (fun c59005 hm => ?_) (fun c59005 hm => ?_)
        · refine lv_if_eq (tgt := 90) hx hb dX4_readAll_70 (by decide) (fun _ => ?_) (fun h => absurd c59005 h)
          exact hB90 x3_59 x4_59 x5_59 kx5_59 dt59003 _ _ _ hm hW hS (lv_sub hl [0, 1, 2, 3, 4, 5] rfl)
        refine lv_if_eq (tgt := 90) hx hb dX4_readAll_70 (by decide) (fun h => absurd h c59005) (fun _ => ?_)
        refine lv_aload_n hx hb dX4_readAll_73 rfl (lv_at hl 0 rfl) ?_
        refine r_getF C hW (ci := 4) kx0_5 ff_4_1 cl_4 fl_RX4_23 dX4_readAll_74 (fun k59006 => ?_)
        refine lv_aload hx hb dX4_readAll_77 (lv_at hl 5 rfl) ?_
        refine lv_aload_n hx hb dX4_readAll_79 rfl (lv_at hl 0 rfl) ?_
        refine r_getF C hW (ci := 4) kx0_5 ff_4_3 cl_4 fl_RX4_31 dX4_readAll_80 (fun k59007 => ?_)
        refine lv_iload hx hb dX4_readAll_83 (lv_at hl 4 rfl) ?_
        refine r_aald C hW hm (ci := 5) (t0 := 6) k59007 (by decide) rfl dX4_readAll_85 (fun k59008 hm => ?_)
        refine lv_iconst (v := (-1)) hx hb dX4_readAll_86 (by decide) ?_
        obtain ⟨dt59010, hc59009, hm⟩ := q_b1i hm
        refine q_callV C hW hS (As := [.ref x5_59, .ref (al.2.2 (al.2.2 x0_5 3) (Int32.toNatClampNeg x4_59)), .int (-1)]) (rest := []) (st1 := []) (c_X8_layWave l D al dt59003 (al.2.2 x0_5 1) x5_59 (some (al.2.2 (al.2.2 x0_5 3) (Int32.toNatClampNeg x4_59))) (-1) k59006 kx5_59 (q_ks k59008) dt59010 hc59009) yl_X8_layWave vl_X8_layWave ml_RX4_138 (ci := 8) rfl k59006 (by decide) rfl ⟨Nat.le_of_ble_eq_true rfl, Nat.le_of_ble_eq_true rfl⟩ hl rfl (Nat.le_of_ble_eq_true rfl) dX4_readAll_87 ⟨Nat.le_refl _, Nat.le_refl _⟩ rfl (fun H locs k59011 hW hS => ?_)
        exact hB90 x3_59 x4_59 x5_59 kx5_59 dt59010 _ _ _ hm hW hS (lv_sub hl [0, 1, 2, 3, 4, 5] rfl)
      intro x3_5 x4_5 dt H locs ls hm hW hS hl
      rw [X4_readAll_b5] at hm
      refine lv_iload hx hb dX4_readAll_5 (lv_at hl 4 rfl) ?_
      refine lv_aload_n hx hb dX4_readAll_7 rfl (lv_at hl 0 rfl) ?_
      refine r_getF C hW (ci := 4) kx0_5 ff_4_2 cl_4 fl_RX4_27 dX4_readAll_8 (fun k5001 => ?_)
      refine q_alenR C hW (ci := 5) (t0 := 6) k5001 (by decide) rfl dX4_readAll_11 ?_
      refine q_ifc hm (fun c5002 hm => ?_) (fun c5002 hm => ?_)
      · refine lv_icmp_ge (tgt := 131) hx hb dX4_readAll_12 (by decide) (fun _ => ?_) (fun h => absurd c5002 h)
        exact hB131 x3_5 dt _ _ _ hm hW hS (lv_sub hl [3] rfl)
      refine lv_icmp_ge (tgt := 131) hx hb dX4_readAll_12 (by decide) (fun h => absurd h c5002) (fun _ => ?_)
      refine lv_iload hx hb dX4_readAll_15 (lv_at hl 4 rfl) ?_
      refine lv_aload_n hx hb dX4_readAll_17 rfl (lv_at hl 0 rfl) ?_
      refine r_getF C hW (ci := 4) kx0_5 ff_4_3 cl_4 fl_RX4_31 dX4_readAll_18 (fun k5003 => ?_)
      refine q_alenR C hW (ci := 5) (t0 := 6) k5003 (by decide) rfl dX4_readAll_21 ?_
      refine q_ifc hm (fun c5004 hm => ?_) (fun c5004 hm => ?_)
      · refine lv_icmp_ge (tgt := 131) hx hb dX4_readAll_22 (by decide) (fun _ => ?_) (fun h => absurd c5004 h)
        exact hB131 x3_5 dt _ _ _ hm hW hS (lv_sub hl [3] rfl)
      refine lv_icmp_ge (tgt := 131) hx hb dX4_readAll_22 (by decide) (fun h => absurd h c5004) (fun _ => ?_)
      refine q_aloadQ_n C dX4_readAll_25 rfl (lv_at hl 1 rfl) ?_
      refine lv_iload hx hb dX4_readAll_26 (lv_at hl 4 rfl) ?_
      obtain ⟨b5005, e5006, hq5007⟩ := q_mi hm
      subst e5006
      have hm := hq5007
      have k5008 := kx1_5 b5005 rfl
      obtain ⟨v5010, hc5009, hm⟩ := q_b1i hm
      refine q_callV C hW hS (As := [.int x4_5]) (rest := []) (st1 := [va_rf v5010]) (c_X10_senderAt l D al dt b5005 x4_5 k5008 v5010 hc5009) yl_X10_senderAt vl_X10_senderAt ml_RX4_127 (ci := 10) rfl k5008 (by decide) rfl ⟨Nat.le_of_ble_eq_true rfl, Nat.le_of_ble_eq_true rfl⟩ hl rfl (Nat.le_of_ble_eq_true rfl) dX4_readAll_28 ⟨Nat.le_refl _, Nat.le_refl _⟩ rfl (fun H locs k5011 hW hS => ?_)
      have k5011 := q_rk k5011 (by decide)
      refine q_astoreQ (i := 5) (lv' := [(5, va_rf v5010), (0, .ref x0_5), (1, .ref b5005), (2, .int x2_5), (3, .int x3_5), (4, .int x4_5)]) C dX4_readAll_31 hl (by decide) rfl (fun ls hl => ?_)
      refine q_aloadQ C dX4_readAll_33 (lv_at hl 0 rfl) ?_
      refine q_ifnull C hm (tgt := 125) dX4_readAll_35 (by decide) (fun e5014 hq5015 => ?_) (fun b5012 e5014 hq5015 => ?_)
      · subst e5014
        have hm := hq5015
        exact hB125 x3_5 x4_5 dt _ _ _ hm hW hS (lv_sub hl [1, 2, 3, 4, 5] rfl)
      subst e5014
      have hm := hq5015
      have k5013 := k5011 b5012 rfl
      refine lv_iload_n hx hb dX4_readAll_38 rfl (lv_at hl 3 rfl) ?_
      refine q_ifc hm (fun c5016 hm => ?_) (fun c5016 hm => ?_)
      · refine lv_if_eq (tgt := 59) hx hb dX4_readAll_39 (by decide) (fun _ => ?_) (fun h => absurd c5016 h)
        exact hB59 x3_5 x4_5 b5012 k5013 dt _ _ _ hm hW hS (lv_sub hl [1, 2, 3, 4, 5, 0] rfl)
      refine lv_if_eq (tgt := 59) hx hb dX4_readAll_39 (by decide) (fun h => absurd h c5016) (fun _ => ?_)
      refine lv_aload_n hx hb dX4_readAll_42 rfl (lv_at hl 1 rfl) ?_
      refine r_getF C hW (ci := 4) kx0_5 ff_4_1 cl_4 fl_RX4_23 dX4_readAll_43 (fun k5017 => ?_)
      refine lv_aload hx hb dX4_readAll_46 (lv_at hl 0 rfl) ?_
      refine lv_aload_n hx hb dX4_readAll_48 rfl (lv_at hl 1 rfl) ?_
      refine r_getF C hW (ci := 4) kx0_5 ff_4_3 cl_4 fl_RX4_31 dX4_readAll_49 (fun k5018 => ?_)
      refine lv_iload hx hb dX4_readAll_52 (lv_at hl 5 rfl) ?_
      refine r_aald C hW hm (ci := 5) (t0 := 6) k5018 (by decide) rfl dX4_readAll_54 (fun k5019 hm => ?_)
      refine lv_iconst (v := 1) hx hb dX4_readAll_55 (by decide) ?_
      obtain ⟨dt5021, hc5020, hm⟩ := q_b1i hm
      refine q_callV C hW hS (As := [.ref b5012, .ref (al.2.2 (al.2.2 x0_5 3) (Int32.toNatClampNeg x4_5)), .int 1]) (rest := []) (st1 := []) (c_X8_layWave l D al dt (al.2.2 x0_5 1) b5012 (some (al.2.2 (al.2.2 x0_5 3) (Int32.toNatClampNeg x4_5))) 1 k5017 k5013 (q_ks k5019) dt5021 hc5020) yl_X8_layWave vl_X8_layWave ml_RX4_138 (ci := 8) rfl k5017 (by decide) rfl ⟨Nat.le_of_ble_eq_true rfl, Nat.le_of_ble_eq_true rfl⟩ hl rfl (Nat.le_of_ble_eq_true rfl) dX4_readAll_56 ⟨Nat.le_refl _, Nat.le_refl _⟩ rfl (fun H locs k5022 hW hS => ?_)
      exact hB59 x3_5 x4_5 b5012 k5013 dt5021 _ _ _ hm hW hS (lv_sub hl [1, 2, 3, 4, 5, 0] rfl)
  refine lv_iconst (v := 0) hx hb dX4_readAll_0 (by decide) ?_
  refine lv_istore_n (i := 3) (lv' := [(3, .int 0), (0, .ref x0), (1, va_rf x1), (2, .int x2)]) hx hb dX4_readAll_1 rfl hl (by decide) rfl (fun ls hl => ?_)
  refine lv_iconst (v := 0) hx hb dX4_readAll_2 (by decide) ?_
  refine lv_istore (i := 4) (lv' := [(4, .int 0), (3, .int 0), (0, .ref x0), (1, va_rf x1), (2, .int x2)]) hx hb dX4_readAll_3 hl (by decide) rfl (fun ls hl => ?_)
  exact hB5 x0 x1 x2 kx0 kx1 q_FU 0 0 dt _ _ _ hm hW hS (lv_sub hl [2, 3, 4, 1, 0] rfl)
theorem dX4_wrongAtOnce_0 : decode cX4_wrongAtOnce 0 = .ok (.iconst 0, 1) := by decide +kernel
theorem dX4_wrongAtOnce_1 : decode cX4_wrongAtOnce 1 = .ok (.istore 4, 2) := by decide +kernel
theorem dX4_wrongAtOnce_3 : decode cX4_wrongAtOnce 3 = .ok (.iconst 0, 1) := by decide +kernel
theorem dX4_wrongAtOnce_4 : decode cX4_wrongAtOnce 4 = .ok (.istore 5, 2) := by decide +kernel
theorem dX4_wrongAtOnce_6 : decode cX4_wrongAtOnce 6 = .ok (.iload 5, 2) := by decide +kernel
theorem dX4_wrongAtOnce_8 : decode cX4_wrongAtOnce 8 = .ok (.iload_n 3, 1) := by decide +kernel
theorem dX4_wrongAtOnce_9 : decode cX4_wrongAtOnce 9 = .ok (.if_icmp .ge 44, 3) := by decide +kernel
theorem dX4_wrongAtOnce_12 : decode cX4_wrongAtOnce 12 = .ok (.aload_n 0, 1) := by decide +kernel
theorem dX4_wrongAtOnce_13 : decode cX4_wrongAtOnce 13 = .ok (.getfield 23, 3) := by decide +kernel
theorem dX4_wrongAtOnce_16 : decode cX4_wrongAtOnce 16 = .ok (.aload_n 2, 1) := by decide +kernel
theorem dX4_wrongAtOnce_17 : decode cX4_wrongAtOnce 17 = .ok (.invokevirtual 131, 3) := by decide +kernel
theorem dX4_wrongAtOnce_20 : decode cX4_wrongAtOnce 20 = .ok (.iload 5, 2) := by decide +kernel
theorem dX4_wrongAtOnce_22 : decode cX4_wrongAtOnce 22 = .ok (.ifCond .le 8, 3) := by decide +kernel
theorem dX4_wrongAtOnce_25 : decode cX4_wrongAtOnce 25 = .ok (.aload_n 0, 1) := by decide +kernel
theorem dX4_wrongAtOnce_26 : decode cX4_wrongAtOnce 26 = .ok (.aload_n 1, 1) := by decide +kernel
theorem dX4_wrongAtOnce_27 : decode cX4_wrongAtOnce 27 = .ok (.invokevirtual 145, 3) := by decide +kernel
theorem dX4_wrongAtOnce_30 : decode cX4_wrongAtOnce 30 = .ok (.aload_n 0, 1) := by decide +kernel
theorem dX4_wrongAtOnce_31 : decode cX4_wrongAtOnce 31 = .ok (.aload_n 1, 1) := by decide +kernel
theorem dX4_wrongAtOnce_32 : decode cX4_wrongAtOnce 32 = .ok (.iload 5, 2) := by decide +kernel
theorem dX4_wrongAtOnce_34 : decode cX4_wrongAtOnce 34 = .ok (.ifCond .le 7, 3) := by decide +kernel
theorem dX4_wrongAtOnce_37 : decode cX4_wrongAtOnce 37 = .ok (.iconst 1, 1) := by decide +kernel
theorem dX4_wrongAtOnce_38 : decode cX4_wrongAtOnce 38 = .ok (.goto 4, 3) := by decide +kernel
theorem dX4_wrongAtOnce_41 : decode cX4_wrongAtOnce 41 = .ok (.iconst 0, 1) := by decide +kernel
theorem dX4_wrongAtOnce_42 : decode cX4_wrongAtOnce 42 = .ok (.invokevirtual 149, 3) := by decide +kernel
theorem dX4_wrongAtOnce_45 : decode cX4_wrongAtOnce 45 = .ok (.istore 4, 2) := by decide +kernel
theorem dX4_wrongAtOnce_47 : decode cX4_wrongAtOnce 47 = .ok (.iinc 5 1, 3) := by decide +kernel
theorem dX4_wrongAtOnce_50 : decode cX4_wrongAtOnce 50 = .ok (.goto (-44), 3) := by decide +kernel
theorem dX4_wrongAtOnce_53 : decode cX4_wrongAtOnce 53 = .ok (.iload 4, 2) := by decide +kernel
theorem dX4_wrongAtOnce_55 : decode cX4_wrongAtOnce 55 = .ok (.ireturn, 1) := by decide +kernel
set_option maxRecDepth 100000 in
theorem c_X4_wrongAtOnce (l : Launch) (D : q_D) (al : q_Al) (dt : q_Dt) (x0 : Nat) (x1 : Option Nat) (x2 : Nat) (x3 : Int32) (kx0 : al.1 x0 = 5) (kx1 : ∀ b, x1 = some b → al.1 b = 11) (kx2 : al.1 x2 = 9) (r0 : Int32) (dt0 : q_Dt) (hm : X4_wrongAtOnce al dt x0 x1 x2 x3 = some (r0, dt0)) : q_Mt l yX4_wrongAtOnce cX4_wrongAtOnce 6 (some FieldType.int) 5 123 D al [.ref x0, va_rf x1, .ref x2, .int x3] dt 0 (some (.int r0)) dt0 := by
  refine q_Mt.of (by decide) (by simp [lg_sl, q_cat, q_catR, q_catI, q_catL]) ?_
  intro p e s m args below meth c ls C hargs hW hl
  have hx := C.1
  have hb := C.2.1
  have hown := C.2.2.2.2.2.1
  have hts := C.2.2.2.2.2.2.1
  have hS : va_S (q_A al) s.heap s.heap [] := va_S.rf
  have hl : lv_has ls 6 [(0, .ref x0), (1, va_rf x1), (2, .ref x2), (3, .int x3)] := by simpa [lv_args, q_cat, q_catR, q_catI, q_catL] using hl
  unfold X4_wrongAtOnce at hm
  have hB6 : ∀ (x0_6 : Nat) (x1_6 : Option Nat) (x2_6 : Nat) (x3_6 : Int32) (kx0_6 : al.1 x0_6 = 5) (kx1_6 : ∀ b, x1_6 = some b → al.1 b = 11) (kx2_6 : al.1 x2_6 = 9) (n_6 : Nat) (x4_6 : Int32) (x5_6 : Int32) (dt : q_Dt) (H : Heap) (locs : List Loc) (ls : Array Slot) (hm : X4_wrongAtOnce_b6 al x0_6 x1_6 x2_6 x3_6 n_6 x4_6 x5_6 dt = some (r0, dt0)) (hW : q_W D al dt H) (hS : va_S (q_A al) s.heap H locs) (hl : lv_has ls 6 [(0, .ref x0_6), (1, va_rf x1_6), (2, .ref x2_6), (3, .int x3_6), (4, .int x4_6), (5, .int x5_6)]), W p l e { frames := 5, cells := 0, slots := 0, locals := 123 } s m args below meth c H locs 0 0 (MQ below (q_Q (some (.int r0)) (fun H => q_W D al dt0 H ∧ q_Rk al 0 (some (.int r0))) (q_A al)) args s 0 0 (q_A al)) (F0 m 6 ls []) := by
    intro x0_6 x1_6 x2_6 x3_6 kx0_6 kx1_6 kx2_6
    intro n_6
    induction n_6 with
    | zero => intro x4_6 x5_6 dt H locs ls hm hW hS hl; cases hm
    | succ n_6 ih6 =>
      have hB42 : ∀ (x5_42 : Int32) (t0_42 : Nat) (t1_42 : Option Nat) (t2_42 : Int32) (kt0_42 : al.1 t0_42 = 5) (kt1_42 : ∀ b, t1_42 = some b → al.1 b = 11) (dt : q_Dt) (H : Heap) (locs : List Loc) (ls : Array Slot) (hm : X4_wrongAtOnce_b42 al (X4_wrongAtOnce_b6 al x0_6 x1_6 x2_6 x3_6 n_6) x0_6 x1_6 x2_6 x3_6 x5_42 t0_42 t1_42 t2_42 dt = some (r0, dt0)) (hW : q_W D al dt H) (hS : va_S (q_A al) s.heap H locs) (hl : lv_has ls 6 [(0, .ref x0_6), (1, va_rf x1_6), (2, .ref x2_6), (3, .int x3_6), (5, .int x5_42)]), W p l e { frames := 5, cells := 0, slots := 0, locals := 123 } s m args below meth c H locs 0 0 (MQ below (q_Q (some (.int r0)) (fun H => q_W D al dt0 H ∧ q_Rk al 0 (some (.int r0))) (q_A al)) args s 0 0 (q_A al)) (F0 m 42 ls [.int t2_42, va_rf t1_42, .ref t0_42]) := by
        intro x5_42 t0_42 t1_42 t2_42 kt0_42 kt1_42 dt H locs ls hm hW hS hl
        unfold X4_wrongAtOnce_b42 at hm
        obtain ⟨v42002, dt42003, hc42001, hm⟩ := q_b2i hm
        refine q_callV C hW hS (As := [va_rf t1_42, .int t2_42]) (rest := []) (st1 := [.int v42002]) (c_X4_readAll l D al dt t0_42 t1_42 t2_42 kt0_42 kt1_42 v42002 dt42003 hc42001) yl_X4_readAll vl_X4_readAll ml_RX4_149 (ci := 4) rfl kt0_42 (by decide) rfl ⟨Nat.le_of_ble_eq_true rfl, Nat.le_of_ble_eq_true rfl⟩ hl rfl (Nat.le_of_ble_eq_true rfl) dX4_wrongAtOnce_42 ⟨Nat.le_refl _, Nat.le_refl _⟩ rfl (fun H locs k42004 hW hS => ?_)
        refine lv_istore (i := 4) (lv' := [(4, .int v42002), (0, .ref x0_6), (1, va_rf x1_6), (2, .ref x2_6), (3, .int x3_6), (5, .int x5_42)]) hx hb dX4_wrongAtOnce_45 hl (by decide) rfl (fun ls hl => ?_)
        refine lv_iinc (v := (x5_42 + 1)) (lv' := [(5, .int (x5_42 + 1)), (4, .int v42002), (0, .ref x0_6), (1, va_rf x1_6), (2, .ref x2_6), (3, .int x3_6)]) hx hb dX4_wrongAtOnce_47 hl (k := 5) rfl rfl (by decide) rfl (fun ls hl => ?_)
        refine lv_goto (tgt := 6) hx hb dX4_wrongAtOnce_50 (by decide) ?_
        exact ih6 v42002 (x5_42 + 1) dt42003 _ _ _ hm hW hS (lv_sub hl [2, 3, 4, 5, 1, 0] rfl)
      have hB30 : ∀ (x5_30 : Int32) (dt : q_Dt) (H : Heap) (locs : List Loc) (ls : Array Slot) (hm : X4_wrongAtOnce_b30 al (X4_wrongAtOnce_b6 al x0_6 x1_6 x2_6 x3_6 n_6) x0_6 x1_6 x2_6 x3_6 x5_30 dt = some (r0, dt0)) (hW : q_W D al dt H) (hS : va_S (q_A al) s.heap H locs) (hl : lv_has ls 6 [(0, .ref x0_6), (1, va_rf x1_6), (2, .ref x2_6), (3, .int x3_6), (5, .int x5_30)]), W p l e { frames := 5, cells := 0, slots := 0, locals := 123 } s m args below meth c H locs 0 0 (MQ below (q_Q (some (.int r0)) (fun H => q_W D al dt0 H ∧ q_Rk al 0 (some (.int r0))) (q_A al)) args s 0 0 (q_A al)) (F0 m 30 ls []) := by
        intro x5_30 dt H locs ls hm hW hS hl
        unfold X4_wrongAtOnce_b30 at hm
        refine lv_aload_n hx hb dX4_wrongAtOnce_30 rfl (lv_at hl 0 rfl) ?_
        refine q_aloadQ_n C dX4_wrongAtOnce_31 rfl (lv_at hl 1 rfl) ?_
        refine lv_iload hx hb dX4_wrongAtOnce_32 (lv_at hl 4 rfl) ?_
        refine q_ifc hm (fun c30001 hm => ?_) (fun c30001 hm => ?_)
        · refine lv_if_le (tgt := 41) hx hb dX4_wrongAtOnce_34 (by decide) (fun _ => ?_) (fun h => absurd c30001 h)
          refine lv_iconst (v := 0) hx hb dX4_wrongAtOnce_41 (by decide) ?_
          exact hB42 x5_30 x0_6 x1_6 0 kx0_6 kx1_6 dt _ _ _ hm hW hS (lv_sub hl [0, 1, 2, 3, 4] rfl)
        refine lv_if_le (tgt := 41) hx hb dX4_wrongAtOnce_34 (by decide) (fun h => absurd h c30001) (fun _ => ?_)
        refine lv_iconst (v := 1) hx hb dX4_wrongAtOnce_37 (by decide) ?_
        refine lv_goto (tgt := 42) hx hb dX4_wrongAtOnce_38 (by decide) ?_
        exact hB42 x5_30 x0_6 x1_6 1 kx0_6 kx1_6 dt _ _ _ hm hW hS (lv_sub hl [0, 1, 2, 3, 4] rfl)
      intro x4_6 x5_6 dt H locs ls hm hW hS hl
      rw [X4_wrongAtOnce_b6] at hm
      refine lv_iload hx hb dX4_wrongAtOnce_6 (lv_at hl 5 rfl) ?_
      refine lv_iload_n hx hb dX4_wrongAtOnce_8 rfl (lv_at hl 3 rfl) ?_
      refine q_ifc hm (fun c6001 hm => ?_) (fun c6001 hm => ?_)
      · refine lv_icmp_ge (tgt := 53) hx hb dX4_wrongAtOnce_9 (by decide) (fun _ => ?_) (fun h => absurd c6001 h)
        refine lv_iload hx hb dX4_wrongAtOnce_53 (lv_at hl 4 rfl) ?_
        exact e_iD C hW hS hm dX4_wrongAtOnce_55
      refine lv_icmp_ge (tgt := 53) hx hb dX4_wrongAtOnce_9 (by decide) (fun h => absurd h c6001) (fun _ => ?_)
      refine lv_aload_n hx hb dX4_wrongAtOnce_12 rfl (lv_at hl 0 rfl) ?_
      refine r_getF C hW (ci := 4) kx0_6 ff_4_1 cl_4 fl_RX4_23 dX4_wrongAtOnce_13 (fun k6002 => ?_)
      refine lv_aload_n hx hb dX4_wrongAtOnce_16 rfl (lv_at hl 2 rfl) ?_
      obtain ⟨dt6004, hc6003, hm⟩ := q_b1i hm
      refine q_callV C hW hS (As := [.ref x2_6]) (rest := []) (st1 := []) (c_X8_takeOver l D al dt (al.2.2 x0_6 1) x2_6 k6002 kx2_6 dt6004 hc6003) yl_X8_takeOver vl_X8_takeOver ml_RX4_131 (ci := 8) rfl k6002 (by decide) rfl ⟨Nat.le_of_ble_eq_true rfl, Nat.le_of_ble_eq_true rfl⟩ hl rfl (Nat.le_of_ble_eq_true rfl) dX4_wrongAtOnce_17 ⟨Nat.le_refl _, Nat.le_refl _⟩ rfl (fun H locs k6005 hW hS => ?_)
      refine lv_iload hx hb dX4_wrongAtOnce_20 (lv_at hl 5 rfl) ?_
      refine q_ifc hm (fun c6006 hm => ?_) (fun c6006 hm => ?_)
      · refine lv_if_le (tgt := 30) hx hb dX4_wrongAtOnce_22 (by decide) (fun _ => ?_) (fun h => absurd c6006 h)
        exact hB30 x5_6 dt6004 _ _ _ hm hW hS (lv_sub hl [0, 1, 2, 3, 5] rfl)
      refine lv_if_le (tgt := 30) hx hb dX4_wrongAtOnce_22 (by decide) (fun h => absurd h c6006) (fun _ => ?_)
      refine lv_aload_n hx hb dX4_wrongAtOnce_25 rfl (lv_at hl 0 rfl) ?_
      refine q_aloadQ_n C dX4_wrongAtOnce_26 rfl (lv_at hl 1 rfl) ?_
      obtain ⟨dt6008, hc6007, hm⟩ := q_b1i hm
      refine q_callV C hW hS (As := [va_rf x1_6]) (rest := []) (st1 := []) (c_X4_takeAllOut l D al dt6004 x0_6 x1_6 kx0_6 kx1_6 dt6008 hc6007) yl_X4_takeAllOut vl_X4_takeAllOut ml_RX4_145 (ci := 4) rfl kx0_6 (by decide) rfl ⟨Nat.le_of_ble_eq_true rfl, Nat.le_of_ble_eq_true rfl⟩ hl rfl (Nat.le_of_ble_eq_true rfl) dX4_wrongAtOnce_27 ⟨Nat.le_refl _, Nat.le_refl _⟩ rfl (fun H locs k6009 hW hS => ?_)
      exact hB30 x5_6 dt6008 _ _ _ hm hW hS (lv_sub hl [0, 1, 2, 3, 5] rfl)
  refine lv_iconst (v := 0) hx hb dX4_wrongAtOnce_0 (by decide) ?_
  refine lv_istore (i := 4) (lv' := [(4, .int 0), (0, .ref x0), (1, va_rf x1), (2, .ref x2), (3, .int x3)]) hx hb dX4_wrongAtOnce_1 hl (by decide) rfl (fun ls hl => ?_)
  refine lv_iconst (v := 0) hx hb dX4_wrongAtOnce_3 (by decide) ?_
  refine lv_istore (i := 5) (lv' := [(5, .int 0), (4, .int 0), (0, .ref x0), (1, va_rf x1), (2, .ref x2), (3, .int x3)]) hx hb dX4_wrongAtOnce_4 hl (by decide) rfl (fun ls hl => ?_)
  exact hB6 x0 x1 x2 x3 kx0 kx1 kx2 q_FU 0 0 dt _ _ _ hm hW hS (lv_sub hl [2, 3, 4, 5, 1, 0] rfl)
theorem dX6_turnBack_0 : decode cX6_turnBack 0 = .ok (.iconst 0, 1) := by decide +kernel
theorem dX6_turnBack_1 : decode cX6_turnBack 1 = .ok (.istore 5, 2) := by decide +kernel
theorem dX6_turnBack_3 : decode cX6_turnBack 3 = .ok (.iload 5, 2) := by decide +kernel
theorem dX6_turnBack_5 : decode cX6_turnBack 5 = .ok (.iload_n 1, 1) := by decide +kernel
theorem dX6_turnBack_6 : decode cX6_turnBack 6 = .ok (.if_icmp .ge 123, 3) := by decide +kernel
theorem dX6_turnBack_9 : decode cX6_turnBack 9 = .ok (.iload_n 2, 1) := by decide +kernel
theorem dX6_turnBack_10 : decode cX6_turnBack 10 = .ok (.iload 4, 2) := by decide +kernel
theorem dX6_turnBack_12 : decode cX6_turnBack 12 = .ok (.iload 5, 2) := by decide +kernel
theorem dX6_turnBack_14 : decode cX6_turnBack 14 = .ok (.iadd, 1) := by decide +kernel
theorem dX6_turnBack_15 : decode cX6_turnBack 15 = .ok (.invokestatic 57, 3) := by decide +kernel
theorem dX6_turnBack_18 : decode cX6_turnBack 18 = .ok (.istore 6, 2) := by decide +kernel
theorem dX6_turnBack_20 : decode cX6_turnBack 20 = .ok (.aload_n 3, 1) := by decide +kernel
theorem dX6_turnBack_21 : decode cX6_turnBack 21 = .ok (.iload 4, 2) := by decide +kernel
theorem dX6_turnBack_23 : decode cX6_turnBack 23 = .ok (.iload 5, 2) := by decide +kernel
theorem dX6_turnBack_25 : decode cX6_turnBack 25 = .ok (.iadd, 1) := by decide +kernel
theorem dX6_turnBack_26 : decode cX6_turnBack 26 = .ok (.iconst 0, 1) := by decide +kernel
theorem dX6_turnBack_27 : decode cX6_turnBack 27 = .ok (.invokevirtual 61, 3) := by decide +kernel
theorem dX6_turnBack_30 : decode cX6_turnBack 30 = .ok (.lstore 7, 2) := by decide +kernel
theorem dX6_turnBack_32 : decode cX6_turnBack 32 = .ok (.aload_n 3, 1) := by decide +kernel
theorem dX6_turnBack_33 : decode cX6_turnBack 33 = .ok (.iload 4, 2) := by decide +kernel
theorem dX6_turnBack_35 : decode cX6_turnBack 35 = .ok (.iload 5, 2) := by decide +kernel
theorem dX6_turnBack_37 : decode cX6_turnBack 37 = .ok (.iadd, 1) := by decide +kernel
theorem dX6_turnBack_38 : decode cX6_turnBack 38 = .ok (.iconst 1, 1) := by decide +kernel
theorem dX6_turnBack_39 : decode cX6_turnBack 39 = .ok (.invokevirtual 61, 3) := by decide +kernel
theorem dX6_turnBack_42 : decode cX6_turnBack 42 = .ok (.lstore 9, 2) := by decide +kernel
theorem dX6_turnBack_44 : decode cX6_turnBack 44 = .ok (.iload 6, 2) := by decide +kernel
theorem dX6_turnBack_46 : decode cX6_turnBack 46 = .ok (.iconst 1, 1) := by decide +kernel
theorem dX6_turnBack_47 : decode cX6_turnBack 47 = .ok (.iand, 1) := by decide +kernel
theorem dX6_turnBack_48 : decode cX6_turnBack 48 = .ok (.ifCond .ne 8, 3) := by decide +kernel
theorem dX6_turnBack_51 : decode cX6_turnBack 51 = .ok (.lload 7, 2) := by decide +kernel
theorem dX6_turnBack_53 : decode cX6_turnBack 53 = .ok (.goto 5, 3) := by decide +kernel
theorem dX6_turnBack_56 : decode cX6_turnBack 56 = .ok (.lload 9, 2) := by decide +kernel
theorem dX6_turnBack_58 : decode cX6_turnBack 58 = .ok (.lstore 11, 2) := by decide +kernel
theorem dX6_turnBack_60 : decode cX6_turnBack 60 = .ok (.iload 6, 2) := by decide +kernel
theorem dX6_turnBack_62 : decode cX6_turnBack 62 = .ok (.iconst 1, 1) := by decide +kernel
theorem dX6_turnBack_63 : decode cX6_turnBack 63 = .ok (.iand, 1) := by decide +kernel
theorem dX6_turnBack_64 : decode cX6_turnBack 64 = .ok (.ifCond .ne 8, 3) := by decide +kernel
theorem dX6_turnBack_67 : decode cX6_turnBack 67 = .ok (.lload 9, 2) := by decide +kernel
theorem dX6_turnBack_69 : decode cX6_turnBack 69 = .ok (.goto 6, 3) := by decide +kernel
theorem dX6_turnBack_72 : decode cX6_turnBack 72 = .ok (.lload 7, 2) := by decide +kernel
theorem dX6_turnBack_74 : decode cX6_turnBack 74 = .ok (.lneg, 1) := by decide +kernel
theorem dX6_turnBack_75 : decode cX6_turnBack 75 = .ok (.lstore 13, 2) := by decide +kernel
theorem dX6_turnBack_77 : decode cX6_turnBack 77 = .ok (.aload_n 0, 1) := by decide +kernel
theorem dX6_turnBack_78 : decode cX6_turnBack 78 = .ok (.getfield 14, 3) := by decide +kernel
theorem dX6_turnBack_81 : decode cX6_turnBack 81 = .ok (.iload 5, 2) := by decide +kernel
theorem dX6_turnBack_83 : decode cX6_turnBack 83 = .ok (.iload 6, 2) := by decide +kernel
theorem dX6_turnBack_85 : decode cX6_turnBack 85 = .ok (.iconst 1, 1) := by decide +kernel
theorem dX6_turnBack_86 : decode cX6_turnBack 86 = .ok (.if_icmp .le 9, 3) := by decide +kernel
theorem dX6_turnBack_89 : decode cX6_turnBack 89 = .ok (.lload 11, 2) := by decide +kernel
theorem dX6_turnBack_91 : decode cX6_turnBack 91 = .ok (.lneg, 1) := by decide +kernel
theorem dX6_turnBack_92 : decode cX6_turnBack 92 = .ok (.goto 5, 3) := by decide +kernel
theorem dX6_turnBack_95 : decode cX6_turnBack 95 = .ok (.lload 11, 2) := by decide +kernel
theorem dX6_turnBack_97 : decode cX6_turnBack 97 = .ok (.invokevirtual 65, 3) := by decide +kernel
theorem dX6_turnBack_100 : decode cX6_turnBack 100 = .ok (.aload_n 0, 1) := by decide +kernel
theorem dX6_turnBack_101 : decode cX6_turnBack 101 = .ok (.getfield 20, 3) := by decide +kernel
theorem dX6_turnBack_104 : decode cX6_turnBack 104 = .ok (.iload 5, 2) := by decide +kernel
theorem dX6_turnBack_106 : decode cX6_turnBack 106 = .ok (.iload 6, 2) := by decide +kernel
theorem dX6_turnBack_108 : decode cX6_turnBack 108 = .ok (.iconst 1, 1) := by decide +kernel
theorem dX6_turnBack_109 : decode cX6_turnBack 109 = .ok (.if_icmp .le 9, 3) := by decide +kernel
theorem dX6_turnBack_112 : decode cX6_turnBack 112 = .ok (.lload 13, 2) := by decide +kernel
theorem dX6_turnBack_114 : decode cX6_turnBack 114 = .ok (.lneg, 1) := by decide +kernel
theorem dX6_turnBack_115 : decode cX6_turnBack 115 = .ok (.goto 5, 3) := by decide +kernel
theorem dX6_turnBack_118 : decode cX6_turnBack 118 = .ok (.lload 13, 2) := by decide +kernel
theorem dX6_turnBack_120 : decode cX6_turnBack 120 = .ok (.invokevirtual 65, 3) := by decide +kernel
theorem dX6_turnBack_123 : decode cX6_turnBack 123 = .ok (.iinc 5 1, 3) := by decide +kernel
theorem dX6_turnBack_126 : decode cX6_turnBack 126 = .ok (.goto (-123), 3) := by decide +kernel
theorem dX6_turnBack_129 : decode cX6_turnBack 129 = .ok (.return_, 1) := by decide +kernel
set_option maxRecDepth 100000 in
theorem c_X6_turnBack (l : Launch) (D : q_D) (al : q_Al) (dt : q_Dt) (x0 : Nat) (x1 : Int32) (x2 : Int32) (x3 : Nat) (x4 : Int32) (kx0 : al.1 x0 = 7) (kx3 : al.1 x3 = 9) (dt0 : q_Dt) (hm : X6_turnBack al dt x0 x1 x2 x3 x4 = some dt0) : q_Mt l yX6_turnBack cX6_turnBack 15 (none) 2 43 D al [.ref x0, .int x1, .int x2, .ref x3, .int x4] dt 0 none dt0 := by
  refine q_Mt.of (by decide) (Nat.le_of_ble_eq_true rfl) ?_
  intro p e s m args below meth c ls C hargs hW hl
  have hx := C.1
  have hb := C.2.1
  have hown := C.2.2.2.2.2.1
  have hts := C.2.2.2.2.2.2.1
  have hS : va_S (q_A al) s.heap s.heap [] := va_S.rf
  have hl : lv_has ls 15 [(0, .ref x0), (1, .int x1), (2, .int x2), (3, .ref x3), (4, .int x4)] := hl
  unfold X6_turnBack at hm
  have hB3 : ∀ (x0_3 : Nat) (x1_3 : Int32) (x2_3 : Int32) (x3_3 : Nat) (x4_3 : Int32) (kx0_3 : al.1 x0_3 = 7) (kx3_3 : al.1 x3_3 = 9) (n_3 : Nat) (x5_3 : Int32) (dt : q_Dt) (H : Heap) (locs : List Loc) (ls : Array Slot) (hm : X6_turnBack_b3 al x0_3 x1_3 x2_3 x3_3 x4_3 n_3 x5_3 dt = some dt0) (hW : q_W D al dt H) (hS : va_S (q_A al) s.heap H locs) (hl : lv_has ls 15 [(0, .ref x0_3), (1, .int x1_3), (2, .int x2_3), (3, .ref x3_3), (4, .int x4_3), (5, .int x5_3)]), W p l e { frames := 2, cells := 0, slots := 0, locals := 43 } s m args below meth c H locs 0 0 (MQ below (q_Q none (fun H => q_W D al dt0 H ∧ q_Rk al 0 none) (q_A al)) args s 0 0 (q_A al)) (F0 m 3 ls []) := by
    intro x0_3 x1_3 x2_3 x3_3 x4_3 kx0_3 kx3_3
    intro n_3
    induction n_3 with
    | zero => intro x5_3 dt H locs ls hm hW hS hl; cases hm
    | succ n_3 ih3 =>
      have hB120 : ∀ (x5_120 : Int32) (t0_120 : Nat) (t1_120 : Int32) (t2_120 : Int64) (kt0_120 : al.1 t0_120 = 6) (dt : q_Dt) (H : Heap) (locs : List Loc) (ls : Array Slot) (hm : X6_turnBack_b120 al (X6_turnBack_b3 al x0_3 x1_3 x2_3 x3_3 x4_3 n_3) x0_3 x1_3 x2_3 x3_3 x4_3 x5_120 t0_120 t1_120 t2_120 dt = some dt0) (hW : q_W D al dt H) (hS : va_S (q_A al) s.heap H locs) (hl : lv_has ls 15 [(0, .ref x0_3), (1, .int x1_3), (2, .int x2_3), (3, .ref x3_3), (4, .int x4_3), (5, .int x5_120)]), W p l e { frames := 2, cells := 0, slots := 0, locals := 43 } s m args below meth c H locs 0 0 (MQ below (q_Q none (fun H => q_W D al dt0 H ∧ q_Rk al 0 none) (q_A al)) args s 0 0 (q_A al)) (F0 m 120 ls [.long t2_120, .int t1_120, .ref t0_120]) := by
        intro x5_120 t0_120 t1_120 t2_120 kt0_120 dt H locs ls hm hW hS hl
        unfold X6_turnBack_b120 at hm
        obtain ⟨dt120002, hc120001, hm⟩ := q_b1i hm
        refine q_callV C hW hS (As := [.int t1_120, .long t2_120]) (rest := []) (st1 := []) (c_X5_put l D al dt t0_120 t1_120 t2_120 kt0_120 dt120002 hc120001) yl_X5_put vl_X5_put ml_RX6_65 (ci := 5) rfl kt0_120 (by decide) rfl ⟨Nat.le_of_ble_eq_true rfl, Nat.le_of_ble_eq_true rfl⟩ hl rfl (Nat.le_of_ble_eq_true rfl) dX6_turnBack_120 ⟨Nat.le_refl _, Nat.le_refl _⟩ rfl (fun H locs k120003 hW hS => ?_)
        refine lv_iinc (v := (x5_120 + 1)) (lv' := [(5, .int (x5_120 + 1)), (0, .ref x0_3), (1, .int x1_3), (2, .int x2_3), (3, .ref x3_3), (4, .int x4_3)]) hx hb dX6_turnBack_123 hl (k := 5) rfl rfl (by decide) rfl (fun ls hl => ?_)
        refine lv_goto (tgt := 3) hx hb dX6_turnBack_126 (by decide) ?_
        exact ih3 (x5_120 + 1) dt120002 _ _ _ hm hW hS (lv_sub hl [1, 2, 3, 4, 5, 0] rfl)
      have hB97 : ∀ (x5_97 : Int32) (x6_97 : Int32) (x13_97 : Int64) (t0_97 : Nat) (t1_97 : Int32) (t2_97 : Int64) (kt0_97 : al.1 t0_97 = 6) (dt : q_Dt) (H : Heap) (locs : List Loc) (ls : Array Slot) (hm : X6_turnBack_b97 al (X6_turnBack_b3 al x0_3 x1_3 x2_3 x3_3 x4_3 n_3) x0_3 x1_3 x2_3 x3_3 x4_3 x5_97 x6_97 x13_97 t0_97 t1_97 t2_97 dt = some dt0) (hW : q_W D al dt H) (hS : va_S (q_A al) s.heap H locs) (hl : lv_has ls 15 [(0, .ref x0_3), (1, .int x1_3), (2, .int x2_3), (3, .ref x3_3), (4, .int x4_3), (5, .int x5_97), (6, .int x6_97), (13, .long x13_97)]), W p l e { frames := 2, cells := 0, slots := 0, locals := 43 } s m args below meth c H locs 0 0 (MQ below (q_Q none (fun H => q_W D al dt0 H ∧ q_Rk al 0 none) (q_A al)) args s 0 0 (q_A al)) (F0 m 97 ls [.long t2_97, .int t1_97, .ref t0_97]) := by
        intro x5_97 x6_97 x13_97 t0_97 t1_97 t2_97 kt0_97 dt H locs ls hm hW hS hl
        unfold X6_turnBack_b97 at hm
        obtain ⟨dt97002, hc97001, hm⟩ := q_b1i hm
        refine q_callV C hW hS (As := [.int t1_97, .long t2_97]) (rest := []) (st1 := []) (c_X5_put l D al dt t0_97 t1_97 t2_97 kt0_97 dt97002 hc97001) yl_X5_put vl_X5_put ml_RX6_65 (ci := 5) rfl kt0_97 (by decide) rfl ⟨Nat.le_of_ble_eq_true rfl, Nat.le_of_ble_eq_true rfl⟩ hl rfl (Nat.le_of_ble_eq_true rfl) dX6_turnBack_97 ⟨Nat.le_refl _, Nat.le_refl _⟩ rfl (fun H locs k97003 hW hS => ?_)
        refine lv_aload_n hx hb dX6_turnBack_100 rfl (lv_at hl 0 rfl) ?_
        refine r_getF C hW (ci := 6) kx0_3 ff_6_1 cl_6 fl_RX6_20 dX6_turnBack_101 (fun k97004 => ?_)
        refine lv_iload hx hb dX6_turnBack_104 (lv_at hl 5 rfl) ?_
        refine lv_iload hx hb dX6_turnBack_106 (lv_at hl 6 rfl) ?_
        refine lv_iconst (v := 1) hx hb dX6_turnBack_108 (by decide) ?_
        refine q_ifc hm (fun c97005 hm => ?_) (fun c97005 hm => ?_)
        · refine lv_icmp_le (tgt := 118) hx hb dX6_turnBack_109 (by decide) (fun _ => ?_) (fun h => absurd c97005 h)
          refine lv_lload hx hb dX6_turnBack_118 (lv_at hl 7 rfl) ?_
          exact hB120 x5_97 (al.2.2 x0_3 1) x5_97 x13_97 k97004 dt97002 _ _ _ hm hW hS (lv_sub hl [0, 1, 2, 3, 4, 5] rfl)
        refine lv_icmp_le (tgt := 118) hx hb dX6_turnBack_109 (by decide) (fun h => absurd h c97005) (fun _ => ?_)
        refine lv_lload hx hb dX6_turnBack_112 (lv_at hl 7 rfl) ?_
        refine lv_lneg hx hb dX6_turnBack_114 ?_
        refine lv_goto (tgt := 120) hx hb dX6_turnBack_115 (by decide) ?_
        exact hB120 x5_97 (al.2.2 x0_3 1) x5_97 (-x13_97) k97004 dt97002 _ _ _ hm hW hS (lv_sub hl [0, 1, 2, 3, 4, 5] rfl)
      have hB75 : ∀ (x5_75 : Int32) (x6_75 : Int32) (x11_75 : Int64) (t0_75 : Int64) (dt : q_Dt) (H : Heap) (locs : List Loc) (ls : Array Slot) (hm : X6_turnBack_b75 al (X6_turnBack_b3 al x0_3 x1_3 x2_3 x3_3 x4_3 n_3) x0_3 x1_3 x2_3 x3_3 x4_3 x5_75 x6_75 x11_75 t0_75 dt = some dt0) (hW : q_W D al dt H) (hS : va_S (q_A al) s.heap H locs) (hl : lv_has ls 15 [(0, .ref x0_3), (1, .int x1_3), (2, .int x2_3), (3, .ref x3_3), (4, .int x4_3), (5, .int x5_75), (6, .int x6_75), (11, .long x11_75)]), W p l e { frames := 2, cells := 0, slots := 0, locals := 43 } s m args below meth c H locs 0 0 (MQ below (q_Q none (fun H => q_W D al dt0 H ∧ q_Rk al 0 none) (q_A al)) args s 0 0 (q_A al)) (F0 m 75 ls [.long t0_75]) := by
        intro x5_75 x6_75 x11_75 t0_75 dt H locs ls hm hW hS hl
        unfold X6_turnBack_b75 at hm
        refine lv_lstore (i := 13) (lv' := [(13, .long t0_75), (0, .ref x0_3), (1, .int x1_3), (2, .int x2_3), (3, .ref x3_3), (4, .int x4_3), (5, .int x5_75), (6, .int x6_75), (11, .long x11_75)]) hx hb dX6_turnBack_75 hl (by decide) rfl (fun ls hl => ?_)
        refine lv_aload_n hx hb dX6_turnBack_77 rfl (lv_at hl 1 rfl) ?_
        refine r_getF C hW (ci := 6) kx0_3 ff_6_0 cl_6 fl_RX6_14 dX6_turnBack_78 (fun k75001 => ?_)
        refine lv_iload hx hb dX6_turnBack_81 (lv_at hl 6 rfl) ?_
        refine lv_iload hx hb dX6_turnBack_83 (lv_at hl 7 rfl) ?_
        refine lv_iconst (v := 1) hx hb dX6_turnBack_85 (by decide) ?_
        refine q_ifc hm (fun c75002 hm => ?_) (fun c75002 hm => ?_)
        · refine lv_icmp_le (tgt := 95) hx hb dX6_turnBack_86 (by decide) (fun _ => ?_) (fun h => absurd c75002 h)
          refine lv_lload hx hb dX6_turnBack_95 (lv_at hl 8 rfl) ?_
          exact hB97 x5_75 x6_75 t0_75 (al.2.2 x0_3 0) x5_75 x11_75 k75001 dt _ _ _ hm hW hS (lv_sub hl [1, 2, 3, 4, 5, 6, 7, 0] rfl)
        refine lv_icmp_le (tgt := 95) hx hb dX6_turnBack_86 (by decide) (fun h => absurd h c75002) (fun _ => ?_)
        refine lv_lload hx hb dX6_turnBack_89 (lv_at hl 8 rfl) ?_
        refine lv_lneg hx hb dX6_turnBack_91 ?_
        refine lv_goto (tgt := 97) hx hb dX6_turnBack_92 (by decide) ?_
        exact hB97 x5_75 x6_75 t0_75 (al.2.2 x0_3 0) x5_75 (-x11_75) k75001 dt _ _ _ hm hW hS (lv_sub hl [1, 2, 3, 4, 5, 6, 7, 0] rfl)
      have hB58 : ∀ (x5_58 : Int32) (x6_58 : Int32) (x7_58 : Int64) (x9_58 : Int64) (t0_58 : Int64) (dt : q_Dt) (H : Heap) (locs : List Loc) (ls : Array Slot) (hm : X6_turnBack_b58 al (X6_turnBack_b3 al x0_3 x1_3 x2_3 x3_3 x4_3 n_3) x0_3 x1_3 x2_3 x3_3 x4_3 x5_58 x6_58 x7_58 x9_58 t0_58 dt = some dt0) (hW : q_W D al dt H) (hS : va_S (q_A al) s.heap H locs) (hl : lv_has ls 15 [(0, .ref x0_3), (1, .int x1_3), (2, .int x2_3), (3, .ref x3_3), (4, .int x4_3), (5, .int x5_58), (6, .int x6_58), (7, .long x7_58), (9, .long x9_58)]), W p l e { frames := 2, cells := 0, slots := 0, locals := 43 } s m args below meth c H locs 0 0 (MQ below (q_Q none (fun H => q_W D al dt0 H ∧ q_Rk al 0 none) (q_A al)) args s 0 0 (q_A al)) (F0 m 58 ls [.long t0_58]) := by
        intro x5_58 x6_58 x7_58 x9_58 t0_58 dt H locs ls hm hW hS hl
        unfold X6_turnBack_b58 at hm
        refine lv_lstore (i := 11) (lv' := [(11, .long t0_58), (0, .ref x0_3), (1, .int x1_3), (2, .int x2_3), (3, .ref x3_3), (4, .int x4_3), (5, .int x5_58), (6, .int x6_58), (7, .long x7_58), (9, .long x9_58)]) hx hb dX6_turnBack_58 hl (by decide) rfl (fun ls hl => ?_)
        refine lv_iload hx hb dX6_turnBack_60 (lv_at hl 7 rfl) ?_
        refine lv_iconst (v := 1) hx hb dX6_turnBack_62 (by decide) ?_
        refine lv_iand hx hb dX6_turnBack_63 ?_
        refine q_ifc hm (fun c58001 hm => ?_) (fun c58001 hm => ?_)
        · refine lv_if_ne (tgt := 72) hx hb dX6_turnBack_64 (by decide) (fun h => absurd c58001 h) (fun _ => ?_)
          refine lv_lload hx hb dX6_turnBack_67 (lv_at hl 9 rfl) ?_
          refine lv_goto (tgt := 75) hx hb dX6_turnBack_69 (by decide) ?_
          exact hB75 x5_58 x6_58 t0_58 x9_58 dt _ _ _ hm hW hS (lv_sub hl [1, 2, 3, 4, 5, 6, 7, 0] rfl)
        refine lv_if_ne (tgt := 72) hx hb dX6_turnBack_64 (by decide) (fun _ => ?_) (fun h => absurd h c58001)
        refine lv_lload hx hb dX6_turnBack_72 (lv_at hl 8 rfl) ?_
        refine lv_lneg hx hb dX6_turnBack_74 ?_
        exact hB75 x5_58 x6_58 t0_58 (-x7_58) dt _ _ _ hm hW hS (lv_sub hl [1, 2, 3, 4, 5, 6, 7, 0] rfl)
      intro x5_3 dt H locs ls hm hW hS hl
      rw [X6_turnBack_b3] at hm
      refine lv_iload hx hb dX6_turnBack_3 (lv_at hl 5 rfl) ?_
      refine lv_iload_n hx hb dX6_turnBack_5 rfl (lv_at hl 1 rfl) ?_
      refine q_ifc hm (fun c3001 hm => ?_) (fun c3001 hm => ?_)
      · refine lv_icmp_ge (tgt := 129) hx hb dX6_turnBack_6 (by decide) (fun _ => ?_) (fun h => absurd c3001 h)
        exact e_vD C hW hS hm dX6_turnBack_129
      refine lv_icmp_ge (tgt := 129) hx hb dX6_turnBack_6 (by decide) (fun h => absurd h c3001) (fun _ => ?_)
      refine lv_iload_n hx hb dX6_turnBack_9 rfl (lv_at hl 2 rfl) ?_
      refine lv_iload hx hb dX6_turnBack_10 (lv_at hl 4 rfl) ?_
      refine lv_iload hx hb dX6_turnBack_12 (lv_at hl 5 rfl) ?_
      refine lv_iadd hx hb dX6_turnBack_14 ?_
      obtain ⟨v3003, hc3002, hm⟩ := q_b1i hm
      refine q_callS C hW hS (As := [.int x2_3, .int (x4_3 + x5_3)]) (rest := []) (st1 := [.int v3003]) (c_X11_turnAt l D al dt x2_3 (x4_3 + x5_3) v3003 hc3002) yl_X11_turnAt sl_X11_turnAt ml_RX6_57 rfl ⟨Nat.le_of_ble_eq_true rfl, Nat.le_of_ble_eq_true rfl⟩ hl rfl (Nat.le_of_ble_eq_true rfl) dX6_turnBack_15 ⟨Nat.le_refl _, Nat.le_refl _⟩ rfl (fun H locs k3004 hW hS => ?_)
      refine lv_istore (i := 6) (lv' := [(6, .int v3003), (0, .ref x0_3), (1, .int x1_3), (2, .int x2_3), (3, .ref x3_3), (4, .int x4_3), (5, .int x5_3)]) hx hb dX6_turnBack_18 hl (by decide) rfl (fun ls hl => ?_)
      refine lv_aload_n hx hb dX6_turnBack_20 rfl (lv_at hl 4 rfl) ?_
      refine lv_iload hx hb dX6_turnBack_21 (lv_at hl 5 rfl) ?_
      refine lv_iload hx hb dX6_turnBack_23 (lv_at hl 6 rfl) ?_
      refine lv_iadd hx hb dX6_turnBack_25 ?_
      refine lv_iconst (v := 0) hx hb dX6_turnBack_26 (by decide) ?_
      obtain ⟨v3006, hc3005, hm⟩ := q_b1i hm
      refine q_callV C hW hS (As := [.int (x4_3 + x5_3), .int 0]) (rest := []) (st1 := [.long v3006]) (c_X8_value l D al dt x3_3 (x4_3 + x5_3) 0 kx3_3 v3006 hc3005) yl_X8_value vl_X8_value ml_RX6_61 (ci := 8) rfl kx3_3 (by decide) rfl ⟨Nat.le_of_ble_eq_true rfl, Nat.le_of_ble_eq_true rfl⟩ hl rfl (Nat.le_of_ble_eq_true rfl) dX6_turnBack_27 ⟨Nat.le_refl _, Nat.le_refl _⟩ rfl (fun H locs k3007 hW hS => ?_)
      refine lv_lstore (i := 7) (lv' := [(7, .long v3006), (6, .int v3003), (0, .ref x0_3), (1, .int x1_3), (2, .int x2_3), (3, .ref x3_3), (4, .int x4_3), (5, .int x5_3)]) hx hb dX6_turnBack_30 hl (by decide) rfl (fun ls hl => ?_)
      refine lv_aload_n hx hb dX6_turnBack_32 rfl (lv_at hl 5 rfl) ?_
      refine lv_iload hx hb dX6_turnBack_33 (lv_at hl 6 rfl) ?_
      refine lv_iload hx hb dX6_turnBack_35 (lv_at hl 7 rfl) ?_
      refine lv_iadd hx hb dX6_turnBack_37 ?_
      refine lv_iconst (v := 1) hx hb dX6_turnBack_38 (by decide) ?_
      obtain ⟨v3009, hc3008, hm⟩ := q_b1i hm
      refine q_callV C hW hS (As := [.int (x4_3 + x5_3), .int 1]) (rest := []) (st1 := [.long v3009]) (c_X8_value l D al dt x3_3 (x4_3 + x5_3) 1 kx3_3 v3009 hc3008) yl_X8_value vl_X8_value ml_RX6_61 (ci := 8) rfl kx3_3 (by decide) rfl ⟨Nat.le_of_ble_eq_true rfl, Nat.le_of_ble_eq_true rfl⟩ hl rfl (Nat.le_of_ble_eq_true rfl) dX6_turnBack_39 ⟨Nat.le_refl _, Nat.le_refl _⟩ rfl (fun H locs k3010 hW hS => ?_)
      refine lv_lstore (i := 9) (lv' := [(9, .long v3009), (7, .long v3006), (6, .int v3003), (0, .ref x0_3), (1, .int x1_3), (2, .int x2_3), (3, .ref x3_3), (4, .int x4_3), (5, .int x5_3)]) hx hb dX6_turnBack_42 hl (by decide) rfl (fun ls hl => ?_)
      refine lv_iload hx hb dX6_turnBack_44 (lv_at hl 2 rfl) ?_
      refine lv_iconst (v := 1) hx hb dX6_turnBack_46 (by decide) ?_
      refine lv_iand hx hb dX6_turnBack_47 ?_
      refine q_ifc hm (fun c3011 hm => ?_) (fun c3011 hm => ?_)
      · refine lv_if_ne (tgt := 56) hx hb dX6_turnBack_48 (by decide) (fun h => absurd c3011 h) (fun _ => ?_)
        refine lv_lload hx hb dX6_turnBack_51 (lv_at hl 1 rfl) ?_
        refine lv_goto (tgt := 58) hx hb dX6_turnBack_53 (by decide) ?_
        exact hB58 x5_3 v3003 v3006 v3009 v3006 dt _ _ _ hm hW hS (lv_sub hl [3, 4, 5, 6, 7, 8, 2, 1, 0] rfl)
      refine lv_if_ne (tgt := 56) hx hb dX6_turnBack_48 (by decide) (fun _ => ?_) (fun h => absurd h c3011)
      refine lv_lload hx hb dX6_turnBack_56 (lv_at hl 0 rfl) ?_
      exact hB58 x5_3 v3003 v3006 v3009 v3009 dt _ _ _ hm hW hS (lv_sub hl [3, 4, 5, 6, 7, 8, 2, 1, 0] rfl)
  refine lv_iconst (v := 0) hx hb dX6_turnBack_0 (by decide) ?_
  refine lv_istore (i := 5) (lv' := [(5, .int 0), (0, .ref x0), (1, .int x1), (2, .int x2), (3, .ref x3), (4, .int x4)]) hx hb dX6_turnBack_1 hl (by decide) rfl (fun ls hl => ?_)
  exact hB3 x0 x1 x2 x3 x4 kx0 kx3 q_FU 0 dt _ _ _ hm hW hS (lv_sub hl [1, 2, 3, 4, 5, 0] rfl)
theorem dX6_sumOf_0 : decode cX6_sumOf 0 = .ok (.aload_n 0, 1) := by decide +kernel
theorem dX6_sumOf_1 : decode cX6_sumOf 1 = .ok (.aload_n 1, 1) := by decide +kernel
theorem dX6_sumOf_2 : decode cX6_sumOf 2 = .ok (.getfield 30, 3) := by decide +kernel
theorem dX6_sumOf_5 : decode cX6_sumOf 5 = .ok (.iload_n 3, 1) := by decide +kernel
theorem dX6_sumOf_6 : decode cX6_sumOf 6 = .ok (.aload 4, 2) := by decide +kernel
theorem dX6_sumOf_8 : decode cX6_sumOf 8 = .ok (.iload 5, 2) := by decide +kernel
theorem dX6_sumOf_10 : decode cX6_sumOf 10 = .ok (.invokevirtual 33, 3) := by decide +kernel
theorem dX6_sumOf_13 : decode cX6_sumOf 13 = .ok (.aload_n 1, 1) := by decide +kernel
theorem dX6_sumOf_14 : decode cX6_sumOf 14 = .ok (.iload 6, 2) := by decide +kernel
theorem dX6_sumOf_16 : decode cX6_sumOf 16 = .ok (.ifCond .ne 10, 3) := by decide +kernel
theorem dX6_sumOf_19 : decode cX6_sumOf 19 = .ok (.aload_n 0, 1) := by decide +kernel
theorem dX6_sumOf_20 : decode cX6_sumOf 20 = .ok (.getfield 14, 3) := by decide +kernel
theorem dX6_sumOf_23 : decode cX6_sumOf 23 = .ok (.goto 7, 3) := by decide +kernel
theorem dX6_sumOf_26 : decode cX6_sumOf 26 = .ok (.aload_n 0, 1) := by decide +kernel
theorem dX6_sumOf_27 : decode cX6_sumOf 27 = .ok (.getfield 20, 3) := by decide +kernel
theorem dX6_sumOf_30 : decode cX6_sumOf 30 = .ok (.aload_n 1, 1) := by decide +kernel
theorem dX6_sumOf_31 : decode cX6_sumOf 31 = .ok (.getfield 30, 3) := by decide +kernel
theorem dX6_sumOf_34 : decode cX6_sumOf 34 = .ok (.iload_n 2, 1) := by decide +kernel
theorem dX6_sumOf_35 : decode cX6_sumOf 35 = .ok (.isub, 1) := by decide +kernel
theorem dX6_sumOf_36 : decode cX6_sumOf 36 = .ok (.invokevirtual 37, 3) := by decide +kernel
theorem dX6_sumOf_39 : decode cX6_sumOf 39 = .ok (.lreturn, 1) := by decide +kernel
set_option maxRecDepth 100000 in
theorem c_X6_sumOf (l : Launch) (D : q_D) (al : q_Al) (dt : q_Dt) (x0 : Nat) (x1 : Option Nat) (x2 : Int32) (x3 : Int32) (x4 : Nat) (x5 : Int32) (x6 : Int32) (kx0 : al.1 x0 = 7) (kx1 : ∀ b, x1 = some b → al.1 b = 1) (kx4 : al.1 x4 = 9) (r0 : Int64) (dt0 : q_Dt) (hm : X6_sumOf al dt x0 x1 x2 x3 x4 x5 x6 = some (r0, dt0)) : q_Mt l yX6_sumOf cX6_sumOf 7 (some FieldType.long) 3 77 D al [.ref x0, va_rf x1, .int x2, .int x3, .ref x4, .int x5, .int x6] dt 0 (some (.long r0)) dt0 := by
  refine q_Mt.of (by decide) (by simp [lg_sl, q_cat, q_catR, q_catI, q_catL]) ?_
  intro p e s m args below meth c ls C hargs hW hl
  have hx := C.1
  have hb := C.2.1
  have hown := C.2.2.2.2.2.1
  have hts := C.2.2.2.2.2.2.1
  have hS : va_S (q_A al) s.heap s.heap [] := va_S.rf
  have hl : lv_has ls 7 [(0, .ref x0), (1, va_rf x1), (2, .int x2), (3, .int x3), (4, .ref x4), (5, .int x5), (6, .int x6)] := by simpa [lv_args, q_cat, q_catR, q_catI, q_catL] using hl
  unfold X6_sumOf at hm
  have hB30 : ∀ (x1_30 : Nat) (x2_30 : Int32) (t0_30 : Nat) (t1_30 : Nat) (kx1_30 : al.1 x1_30 = 1) (kt0_30 : al.1 t0_30 = 1) (kt1_30 : al.1 t1_30 = 6) (dt : q_Dt) (H : Heap) (locs : List Loc) (ls : Array Slot) (hm : X6_sumOf_b30 al x1_30 x2_30 t0_30 t1_30 dt = some (r0, dt0)) (hW : q_W D al dt H) (hS : va_S (q_A al) s.heap H locs) (hl : lv_has ls 7 [(1, .ref x1_30), (2, .int x2_30)]), W p l e { frames := 3, cells := 0, slots := 0, locals := 77 } s m args below meth c H locs 0 0 (MQ below (q_Q (some (.long r0)) (fun H => q_W D al dt0 H ∧ q_Rk al 0 (some (.long r0))) (q_A al)) args s 0 0 (q_A al)) (F0 m 30 ls [.ref t1_30, .ref t0_30]) := by
    intro x1_30 x2_30 t0_30 t1_30 kx1_30 kt0_30 kt1_30 dt H locs ls hm hW hS hl
    unfold X6_sumOf_b30 at hm
    refine lv_aload_n hx hb dX6_sumOf_30 rfl (lv_at hl 0 rfl) ?_
    refine r_getI C hW (ci := 0) kx1_30 ff_0_1 cl_0 fl_RX6_30 dX6_sumOf_31 ?_
    refine lv_iload_n hx hb dX6_sumOf_34 rfl (lv_at hl 1 rfl) ?_
    refine lv_isub hx hb dX6_sumOf_35 ?_
    obtain ⟨v30002, hc30001, hm⟩ := q_b1i hm
    refine q_callV C hW hS (As := [.ref t1_30, .int ((dt.1 x1_30 1) - x2_30)]) (rest := []) (st1 := [.long v30002]) (c_X0_along l D al dt t0_30 t1_30 ((dt.1 x1_30 1) - x2_30) kt0_30 kt1_30 v30002 hc30001) yl_X0_along vl_X0_along ml_RX6_37 (ci := 0) rfl kt0_30 (by decide) rfl ⟨Nat.le_of_ble_eq_true rfl, Nat.le_of_ble_eq_true rfl⟩ hl rfl (Nat.le_of_ble_eq_true rfl) dX6_sumOf_36 ⟨Nat.le_refl _, Nat.le_refl _⟩ rfl (fun H locs k30003 hW hS => ?_)
    exact e_lD C hW hS hm dX6_sumOf_39
  refine lv_aload_n hx hb dX6_sumOf_0 rfl (lv_at hl 0 rfl) ?_
  refine q_aloadQ_n C dX6_sumOf_1 rfl (lv_at hl 1 rfl) ?_
  obtain ⟨b1000001, e1000002, hq1000003⟩ := q_mi hm
  subst e1000002
  have hm := hq1000003
  have k1000004 := kx1 b1000001 rfl
  refine r_getI C hW (ci := 0) k1000004 ff_0_1 cl_0 fl_RX6_30 dX6_sumOf_2 ?_
  refine lv_iload_n hx hb dX6_sumOf_5 rfl (lv_at hl 3 rfl) ?_
  refine lv_aload hx hb dX6_sumOf_6 (lv_at hl 4 rfl) ?_
  refine lv_iload hx hb dX6_sumOf_8 (lv_at hl 5 rfl) ?_
  obtain ⟨dt1000006, hc1000005, hm⟩ := q_b1i hm
  refine q_callV C hW hS (As := [.int (dt.1 b1000001 1), .int x3, .ref x4, .int x5]) (rest := []) (st1 := []) (c_X6_turnBack l D al dt x0 (dt.1 b1000001 1) x3 x4 x5 kx0 kx4 dt1000006 hc1000005) yl_X6_turnBack vl_X6_turnBack ml_RX6_33 (ci := 6) rfl kx0 (by decide) rfl ⟨Nat.le_of_ble_eq_true rfl, Nat.le_of_ble_eq_true rfl⟩ hl rfl (Nat.le_of_ble_eq_true rfl) dX6_sumOf_10 ⟨Nat.le_refl _, Nat.le_refl _⟩ rfl (fun H locs k1000007 hW hS => ?_)
  refine lv_aload_n hx hb dX6_sumOf_13 rfl (lv_at hl 1 rfl) ?_
  refine lv_iload hx hb dX6_sumOf_14 (lv_at hl 6 rfl) ?_
  refine q_ifc hm (fun c1000008 hm => ?_) (fun c1000008 hm => ?_)
  · refine lv_if_ne (tgt := 26) hx hb dX6_sumOf_16 (by decide) (fun h => absurd c1000008 h) (fun _ => ?_)
    refine lv_aload_n hx hb dX6_sumOf_19 rfl (lv_at hl 0 rfl) ?_
    refine r_getF C hW (ci := 6) kx0 ff_6_0 cl_6 fl_RX6_14 dX6_sumOf_20 (fun k1000009 => ?_)
    refine lv_goto (tgt := 30) hx hb dX6_sumOf_23 (by decide) ?_
    exact hB30 b1000001 x2 b1000001 (al.2.2 x0 0) k1000004 k1000004 k1000009 dt1000006 _ _ _ hm hW hS (lv_sub hl [1, 2] rfl)
  refine lv_if_ne (tgt := 26) hx hb dX6_sumOf_16 (by decide) (fun _ => ?_) (fun h => absurd h c1000008)
  refine lv_aload_n hx hb dX6_sumOf_26 rfl (lv_at hl 0 rfl) ?_
  refine r_getF C hW (ci := 6) kx0 ff_6_1 cl_6 fl_RX6_20 dX6_sumOf_27 (fun k1000010 => ?_)
  exact hB30 b1000001 x2 b1000001 (al.2.2 x0 1) k1000004 k1000004 k1000010 dt1000006 _ _ _ hm hW hS (lv_sub hl [1, 2] rfl)
theorem dX6_squares_0 : decode cX6_squares 0 = .ok (.aload_n 1, 1) := by decide +kernel
theorem dX6_squares_1 : decode cX6_squares 1 = .ok (.aload_n 0, 1) := by decide +kernel
theorem dX6_squares_2 : decode cX6_squares 2 = .ok (.getfield 14, 3) := by decide +kernel
theorem dX6_squares_5 : decode cX6_squares 5 = .ok (.aload_n 1, 1) := by decide +kernel
theorem dX6_squares_6 : decode cX6_squares 6 = .ok (.getfield 30, 3) := by decide +kernel
theorem dX6_squares_9 : decode cX6_squares 9 = .ok (.iload_n 2, 1) := by decide +kernel
theorem dX6_squares_10 : decode cX6_squares 10 = .ok (.isub, 1) := by decide +kernel
theorem dX6_squares_11 : decode cX6_squares 11 = .ok (.invokevirtual 37, 3) := by decide +kernel
theorem dX6_squares_14 : decode cX6_squares 14 = .ok (.lstore_n 3, 1) := by decide +kernel
theorem dX6_squares_15 : decode cX6_squares 15 = .ok (.aload_n 1, 1) := by decide +kernel
theorem dX6_squares_16 : decode cX6_squares 16 = .ok (.aload_n 0, 1) := by decide +kernel
theorem dX6_squares_17 : decode cX6_squares 17 = .ok (.getfield 20, 3) := by decide +kernel
theorem dX6_squares_20 : decode cX6_squares 20 = .ok (.aload_n 1, 1) := by decide +kernel
theorem dX6_squares_21 : decode cX6_squares 21 = .ok (.getfield 30, 3) := by decide +kernel
theorem dX6_squares_24 : decode cX6_squares 24 = .ok (.iload_n 2, 1) := by decide +kernel
theorem dX6_squares_25 : decode cX6_squares 25 = .ok (.isub, 1) := by decide +kernel
theorem dX6_squares_26 : decode cX6_squares 26 = .ok (.invokevirtual 37, 3) := by decide +kernel
theorem dX6_squares_29 : decode cX6_squares 29 = .ok (.lstore 5, 2) := by decide +kernel
theorem dX6_squares_31 : decode cX6_squares 31 = .ok (.lload_n 3, 1) := by decide +kernel
theorem dX6_squares_32 : decode cX6_squares 32 = .ok (.lload_n 3, 1) := by decide +kernel
theorem dX6_squares_33 : decode cX6_squares 33 = .ok (.lmul, 1) := by decide +kernel
theorem dX6_squares_34 : decode cX6_squares 34 = .ok (.lload 5, 2) := by decide +kernel
theorem dX6_squares_36 : decode cX6_squares 36 = .ok (.lload 5, 2) := by decide +kernel
theorem dX6_squares_38 : decode cX6_squares 38 = .ok (.lmul, 1) := by decide +kernel
theorem dX6_squares_39 : decode cX6_squares 39 = .ok (.ladd, 1) := by decide +kernel
theorem dX6_squares_40 : decode cX6_squares 40 = .ok (.lreturn, 1) := by decide +kernel
set_option maxRecDepth 100000 in
theorem c_X6_squares (l : Launch) (D : q_D) (al : q_Al) (dt : q_Dt) (x0 : Nat) (x1 : Nat) (x2 : Int32) (kx0 : al.1 x0 = 7) (kx1 : al.1 x1 = 1) (r0 : Int64) (hm : X6_squares al dt x0 x1 x2 = some r0) : q_Mt l yX6_squares cX6_squares 7 (some FieldType.long) 3 73 D al [.ref x0, .ref x1, .int x2] dt 0 (some (.long r0)) dt := by
  refine q_Mt.of (by decide) (Nat.le_of_ble_eq_true rfl) ?_
  intro p e s m args below meth c ls C hargs hW hl
  have hx := C.1
  have hb := C.2.1
  have hown := C.2.2.2.2.2.1
  have hts := C.2.2.2.2.2.2.1
  have hS : va_S (q_A al) s.heap s.heap [] := va_S.rf
  have hl : lv_has ls 7 [(0, .ref x0), (1, .ref x1), (2, .int x2)] := hl
  unfold X6_squares at hm
  refine lv_aload_n hx hb dX6_squares_0 rfl (lv_at hl 1 rfl) ?_
  refine lv_aload_n hx hb dX6_squares_1 rfl (lv_at hl 0 rfl) ?_
  refine r_getF C hW (ci := 6) kx0 ff_6_0 cl_6 fl_RX6_14 dX6_squares_2 (fun k1000001 => ?_)
  refine lv_aload_n hx hb dX6_squares_5 rfl (lv_at hl 1 rfl) ?_
  refine r_getI C hW (ci := 0) kx1 ff_0_1 cl_0 fl_RX6_30 dX6_squares_6 ?_
  refine lv_iload_n hx hb dX6_squares_9 rfl (lv_at hl 2 rfl) ?_
  refine lv_isub hx hb dX6_squares_10 ?_
  obtain ⟨v1000003, hc1000002, hm⟩ := q_b1i hm
  refine q_callV C hW hS (As := [.ref (al.2.2 x0 0), .int ((dt.1 x1 1) - x2)]) (rest := []) (st1 := [.long v1000003]) (c_X0_along l D al dt x1 (al.2.2 x0 0) ((dt.1 x1 1) - x2) kx1 k1000001 v1000003 hc1000002) yl_X0_along vl_X0_along ml_RX6_37 (ci := 0) rfl kx1 (by decide) rfl ⟨Nat.le_of_ble_eq_true rfl, Nat.le_of_ble_eq_true rfl⟩ hl rfl (Nat.le_of_ble_eq_true rfl) dX6_squares_11 ⟨Nat.le_refl _, Nat.le_refl _⟩ rfl (fun H locs k1000004 hW hS => ?_)
  refine lv_lstore_n (i := 3) (lv' := [(3, .long v1000003), (0, .ref x0), (1, .ref x1), (2, .int x2)]) hx hb dX6_squares_14 rfl hl (by decide) rfl (fun ls hl => ?_)
  refine lv_aload_n hx hb dX6_squares_15 rfl (lv_at hl 2 rfl) ?_
  refine lv_aload_n hx hb dX6_squares_16 rfl (lv_at hl 1 rfl) ?_
  refine r_getF C hW (ci := 6) kx0 ff_6_1 cl_6 fl_RX6_20 dX6_squares_17 (fun k1000005 => ?_)
  refine lv_aload_n hx hb dX6_squares_20 rfl (lv_at hl 2 rfl) ?_
  refine r_getI C hW (ci := 0) kx1 ff_0_1 cl_0 fl_RX6_30 dX6_squares_21 ?_
  refine lv_iload_n hx hb dX6_squares_24 rfl (lv_at hl 3 rfl) ?_
  refine lv_isub hx hb dX6_squares_25 ?_
  obtain ⟨v1000007, hc1000006, hm⟩ := q_b1i hm
  refine q_callV C hW hS (As := [.ref (al.2.2 x0 1), .int ((dt.1 x1 1) - x2)]) (rest := []) (st1 := [.long v1000007]) (c_X0_along l D al dt x1 (al.2.2 x0 1) ((dt.1 x1 1) - x2) kx1 k1000005 v1000007 hc1000006) yl_X0_along vl_X0_along ml_RX6_37 (ci := 0) rfl kx1 (by decide) rfl ⟨Nat.le_of_ble_eq_true rfl, Nat.le_of_ble_eq_true rfl⟩ hl rfl (Nat.le_of_ble_eq_true rfl) dX6_squares_26 ⟨Nat.le_refl _, Nat.le_refl _⟩ rfl (fun H locs k1000008 hW hS => ?_)
  refine lv_lstore (i := 5) (lv' := [(5, .long v1000007), (3, .long v1000003), (0, .ref x0), (1, .ref x1), (2, .int x2)]) hx hb dX6_squares_29 hl (by decide) rfl (fun ls hl => ?_)
  refine lv_lload_n hx hb dX6_squares_31 rfl (lv_at hl 1 rfl) ?_
  refine lv_lload_n hx hb dX6_squares_32 rfl (lv_at hl 1 rfl) ?_
  refine lv_lmul hx hb dX6_squares_33 ?_
  refine lv_lload hx hb dX6_squares_34 (lv_at hl 0 rfl) ?_
  refine lv_lload hx hb dX6_squares_36 (lv_at hl 0 rfl) ?_
  refine lv_lmul hx hb dX6_squares_38 ?_
  refine lv_ladd hx hb dX6_squares_39 ?_
  exact e_l C hW hS hm dX6_squares_40
theorem dX6_metricOf_0 : decode cX6_metricOf 0 = .ok (.lconst 0, 1) := by decide +kernel
theorem dX6_metricOf_1 : decode cX6_metricOf 1 = .ok (.lstore 6, 2) := by decide +kernel
theorem dX6_metricOf_3 : decode cX6_metricOf 3 = .ok (.iconst 0, 1) := by decide +kernel
theorem dX6_metricOf_4 : decode cX6_metricOf 4 = .ok (.istore 8, 2) := by decide +kernel
theorem dX6_metricOf_6 : decode cX6_metricOf 6 = .ok (.iload 8, 2) := by decide +kernel
theorem dX6_metricOf_8 : decode cX6_metricOf 8 = .ok (.iload 5, 2) := by decide +kernel
theorem dX6_metricOf_10 : decode cX6_metricOf 10 = .ok (.if_icmp .ge 44, 3) := by decide +kernel
theorem dX6_metricOf_13 : decode cX6_metricOf 13 = .ok (.aload_n 0, 1) := by decide +kernel
theorem dX6_metricOf_14 : decode cX6_metricOf 14 = .ok (.aload_n 1, 1) := by decide +kernel
theorem dX6_metricOf_15 : decode cX6_metricOf 15 = .ok (.getfield 30, 3) := by decide +kernel
theorem dX6_metricOf_18 : decode cX6_metricOf 18 = .ok (.iload_n 2, 1) := by decide +kernel
theorem dX6_metricOf_19 : decode cX6_metricOf 19 = .ok (.iconst 4, 1) := by decide +kernel
theorem dX6_metricOf_20 : decode cX6_metricOf 20 = .ok (.irem, 1) := by decide +kernel
theorem dX6_metricOf_21 : decode cX6_metricOf 21 = .ok (.aload_n 3, 1) := by decide +kernel
theorem dX6_metricOf_22 : decode cX6_metricOf 22 = .ok (.iload 4, 2) := by decide +kernel
theorem dX6_metricOf_24 : decode cX6_metricOf 24 = .ok (.iload 8, 2) := by decide +kernel
theorem dX6_metricOf_26 : decode cX6_metricOf 26 = .ok (.aload_n 1, 1) := by decide +kernel
theorem dX6_metricOf_27 : decode cX6_metricOf 27 = .ok (.getfield 30, 3) := by decide +kernel
theorem dX6_metricOf_30 : decode cX6_metricOf 30 = .ok (.imul, 1) := by decide +kernel
theorem dX6_metricOf_31 : decode cX6_metricOf 31 = .ok (.iadd, 1) := by decide +kernel
theorem dX6_metricOf_32 : decode cX6_metricOf 32 = .ok (.invokevirtual 33, 3) := by decide +kernel
theorem dX6_metricOf_35 : decode cX6_metricOf 35 = .ok (.lload 6, 2) := by decide +kernel
theorem dX6_metricOf_37 : decode cX6_metricOf 37 = .ok (.aload_n 0, 1) := by decide +kernel
theorem dX6_metricOf_38 : decode cX6_metricOf 38 = .ok (.aload_n 1, 1) := by decide +kernel
theorem dX6_metricOf_39 : decode cX6_metricOf 39 = .ok (.iload_n 2, 1) := by decide +kernel
theorem dX6_metricOf_40 : decode cX6_metricOf 40 = .ok (.iconst 4, 1) := by decide +kernel
theorem dX6_metricOf_41 : decode cX6_metricOf 41 = .ok (.idiv, 1) := by decide +kernel
theorem dX6_metricOf_42 : decode cX6_metricOf 42 = .ok (.invokevirtual 41, 3) := by decide +kernel
theorem dX6_metricOf_45 : decode cX6_metricOf 45 = .ok (.ladd, 1) := by decide +kernel
theorem dX6_metricOf_46 : decode cX6_metricOf 46 = .ok (.lstore 6, 2) := by decide +kernel
theorem dX6_metricOf_48 : decode cX6_metricOf 48 = .ok (.iinc 8 1, 3) := by decide +kernel
theorem dX6_metricOf_51 : decode cX6_metricOf 51 = .ok (.goto (-45), 3) := by decide +kernel
theorem dX6_metricOf_54 : decode cX6_metricOf 54 = .ok (.lload 6, 2) := by decide +kernel
theorem dX6_metricOf_56 : decode cX6_metricOf 56 = .ok (.lreturn, 1) := by decide +kernel
set_option maxRecDepth 100000 in
theorem c_X6_metricOf (l : Launch) (D : q_D) (al : q_Al) (dt : q_Dt) (x0 : Nat) (x1 : Nat) (x2 : Int32) (x3 : Nat) (x4 : Int32) (x5 : Int32) (kx0 : al.1 x0 = 7) (kx1 : al.1 x1 = 1) (kx3 : al.1 x3 = 9) (r0 : Int64) (dt0 : q_Dt) (hm : X6_metricOf al dt x0 x1 x2 x3 x4 x5 = some (r0, dt0)) : q_Mt l yX6_metricOf cX6_metricOf 9 (some FieldType.long) 4 99 D al [.ref x0, .ref x1, .int x2, .ref x3, .int x4, .int x5] dt 0 (some (.long r0)) dt0 := by
  refine q_Mt.of (by decide) (Nat.le_of_ble_eq_true rfl) ?_
  intro p e s m args below meth c ls C hargs hW hl
  have hx := C.1
  have hb := C.2.1
  have hown := C.2.2.2.2.2.1
  have hts := C.2.2.2.2.2.2.1
  have hS : va_S (q_A al) s.heap s.heap [] := va_S.rf
  have hl : lv_has ls 9 [(0, .ref x0), (1, .ref x1), (2, .int x2), (3, .ref x3), (4, .int x4), (5, .int x5)] := hl
  unfold X6_metricOf at hm
  have hB6 : ∀ (x0_6 : Nat) (x1_6 : Nat) (x2_6 : Int32) (x3_6 : Nat) (x4_6 : Int32) (x5_6 : Int32) (kx0_6 : al.1 x0_6 = 7) (kx1_6 : al.1 x1_6 = 1) (kx3_6 : al.1 x3_6 = 9) (n_6 : Nat) (x6_6 : Int64) (x8_6 : Int32) (dt : q_Dt) (H : Heap) (locs : List Loc) (ls : Array Slot) (hm : X6_metricOf_b6 al x0_6 x1_6 x2_6 x3_6 x4_6 x5_6 n_6 x6_6 x8_6 dt = some (r0, dt0)) (hW : q_W D al dt H) (hS : va_S (q_A al) s.heap H locs) (hl : lv_has ls 9 [(0, .ref x0_6), (1, .ref x1_6), (2, .int x2_6), (3, .ref x3_6), (4, .int x4_6), (5, .int x5_6), (6, .long x6_6), (8, .int x8_6)]), W p l e { frames := 4, cells := 0, slots := 0, locals := 99 } s m args below meth c H locs 0 0 (MQ below (q_Q (some (.long r0)) (fun H => q_W D al dt0 H ∧ q_Rk al 0 (some (.long r0))) (q_A al)) args s 0 0 (q_A al)) (F0 m 6 ls []) := by
    intro x0_6 x1_6 x2_6 x3_6 x4_6 x5_6 kx0_6 kx1_6 kx3_6
    intro n_6
    induction n_6 with
    | zero => intro x6_6 x8_6 dt H locs ls hm hW hS hl; cases hm
    | succ n_6 ih6 =>
      intro x6_6 x8_6 dt H locs ls hm hW hS hl
      rw [X6_metricOf_b6] at hm
      refine lv_iload hx hb dX6_metricOf_6 (lv_at hl 7 rfl) ?_
      refine lv_iload hx hb dX6_metricOf_8 (lv_at hl 5 rfl) ?_
      refine q_ifc hm (fun c6001 hm => ?_) (fun c6001 hm => ?_)
      · refine lv_icmp_ge (tgt := 54) hx hb dX6_metricOf_10 (by decide) (fun _ => ?_) (fun h => absurd c6001 h)
        refine lv_lload hx hb dX6_metricOf_54 (lv_at hl 6 rfl) ?_
        exact e_lD C hW hS hm dX6_metricOf_56
      refine lv_icmp_ge (tgt := 54) hx hb dX6_metricOf_10 (by decide) (fun h => absurd h c6001) (fun _ => ?_)
      refine lv_aload_n hx hb dX6_metricOf_13 rfl (lv_at hl 0 rfl) ?_
      refine lv_aload_n hx hb dX6_metricOf_14 rfl (lv_at hl 1 rfl) ?_
      refine r_getI C hW (ci := 0) kx1_6 ff_0_1 cl_0 fl_RX6_30 dX6_metricOf_15 ?_
      refine lv_iload_n hx hb dX6_metricOf_18 rfl (lv_at hl 2 rfl) ?_
      refine lv_iconst (v := 4) hx hb dX6_metricOf_19 (by decide) ?_
      refine lv_irem hx hb dX6_metricOf_20 (by decide) ?_
      refine lv_aload_n hx hb dX6_metricOf_21 rfl (lv_at hl 3 rfl) ?_
      refine lv_iload hx hb dX6_metricOf_22 (lv_at hl 4 rfl) ?_
      refine lv_iload hx hb dX6_metricOf_24 (lv_at hl 7 rfl) ?_
      refine lv_aload_n hx hb dX6_metricOf_26 rfl (lv_at hl 1 rfl) ?_
      refine r_getI C hW (ci := 0) kx1_6 ff_0_1 cl_0 fl_RX6_30 dX6_metricOf_27 ?_
      refine lv_imul hx hb dX6_metricOf_30 ?_
      refine lv_iadd hx hb dX6_metricOf_31 ?_
      obtain ⟨dt6004, hc6003, hm⟩ := q_b1i hm
      refine q_callV C hW hS (As := [.int (dt.1 x1_6 1), .int (q_ir x2_6 4), .ref x3_6, .int (x4_6 + (x8_6 * (dt.1 x1_6 1)))]) (rest := []) (st1 := []) (c_X6_turnBack l D al dt x0_6 (dt.1 x1_6 1) (q_ir x2_6 4) x3_6 (x4_6 + (x8_6 * (dt.1 x1_6 1))) kx0_6 kx3_6 dt6004 hc6003) yl_X6_turnBack vl_X6_turnBack ml_RX6_33 (ci := 6) rfl kx0_6 (by decide) rfl ⟨Nat.le_of_ble_eq_true rfl, Nat.le_of_ble_eq_true rfl⟩ hl rfl (Nat.le_of_ble_eq_true rfl) dX6_metricOf_32 ⟨Nat.le_refl _, Nat.le_refl _⟩ rfl (fun H locs k6005 hW hS => ?_)
      refine lv_lload hx hb dX6_metricOf_35 (lv_at hl 6 rfl) ?_
      refine lv_aload_n hx hb dX6_metricOf_37 rfl (lv_at hl 0 rfl) ?_
      refine lv_aload_n hx hb dX6_metricOf_38 rfl (lv_at hl 1 rfl) ?_
      refine lv_iload_n hx hb dX6_metricOf_39 rfl (lv_at hl 2 rfl) ?_
      refine lv_iconst (v := 4) hx hb dX6_metricOf_40 (by decide) ?_
      refine lv_idiv hx hb dX6_metricOf_41 (by decide) ?_
      obtain ⟨v6008, hc6007, hm⟩ := q_b1i hm
      refine q_callV C hW hS (As := [.ref x1_6, .int (x2_6 / 4)]) (rest := [.long x6_6]) (st1 := [.long v6008, .long x6_6]) (c_X6_squares l D al dt6004 x0_6 x1_6 (x2_6 / 4) kx0_6 kx1_6 v6008 hc6007) yl_X6_squares vl_X6_squares ml_RX6_41 (ci := 6) rfl kx0_6 (by decide) rfl ⟨Nat.le_of_ble_eq_true rfl, Nat.le_of_ble_eq_true rfl⟩ hl rfl (Nat.le_of_ble_eq_true rfl) dX6_metricOf_42 ⟨Nat.le_refl _, Nat.le_refl _⟩ rfl (fun H locs k6009 hW hS => ?_)
      refine lv_ladd hx hb dX6_metricOf_45 ?_
      refine lv_lstore (i := 6) (lv' := [(6, .long (x6_6 + v6008)), (0, .ref x0_6), (1, .ref x1_6), (2, .int x2_6), (3, .ref x3_6), (4, .int x4_6), (5, .int x5_6), (8, .int x8_6)]) hx hb dX6_metricOf_46 hl (by decide) rfl (fun ls hl => ?_)
      refine lv_iinc (v := (x8_6 + 1)) (lv' := [(8, .int (x8_6 + 1)), (6, .long (x6_6 + v6008)), (0, .ref x0_6), (1, .ref x1_6), (2, .int x2_6), (3, .ref x3_6), (4, .int x4_6), (5, .int x5_6)]) hx hb dX6_metricOf_48 hl (k := 7) rfl rfl (by decide) rfl (fun ls hl => ?_)
      refine lv_goto (tgt := 6) hx hb dX6_metricOf_51 (by decide) ?_
      exact ih6 (x6_6 + v6008) (x8_6 + 1) dt6004 _ _ _ hm hW hS (lv_sub hl [2, 3, 4, 5, 6, 7, 1, 0] rfl)
  refine lv_lconst (v := 0) hx hb dX6_metricOf_0 rfl ?_
  refine lv_lstore (i := 6) (lv' := [(6, .long 0), (0, .ref x0), (1, .ref x1), (2, .int x2), (3, .ref x3), (4, .int x4), (5, .int x5)]) hx hb dX6_metricOf_1 hl (by decide) rfl (fun ls hl => ?_)
  refine lv_iconst (v := 0) hx hb dX6_metricOf_3 (by decide) ?_
  refine lv_istore (i := 8) (lv' := [(8, .int 0), (6, .long 0), (0, .ref x0), (1, .ref x1), (2, .int x2), (3, .ref x3), (4, .int x4), (5, .int x5)]) hx hb dX6_metricOf_4 hl (by decide) rfl (fun ls hl => ?_)
  exact hB6 x0 x1 x2 x3 x4 x5 kx0 kx1 kx3 q_FU 0 0 dt _ _ _ hm hW hS (lv_sub hl [2, 3, 4, 5, 6, 7, 1, 0] rfl)
theorem dX6_survey_0 : decode cX6_survey 0 = .ok (.aload_n 0, 1) := by decide +kernel
theorem dX6_survey_1 : decode cX6_survey 1 = .ok (.aload_n 1, 1) := by decide +kernel
theorem dX6_survey_2 : decode cX6_survey 2 = .ok (.getfield 30, 3) := by decide +kernel
theorem dX6_survey_5 : decode cX6_survey 5 = .ok (.putfield 26, 3) := by decide +kernel
theorem dX6_survey_8 : decode cX6_survey 8 = .ok (.aload_n 0, 1) := by decide +kernel
theorem dX6_survey_9 : decode cX6_survey 9 = .ok (.getfield 23, 3) := by decide +kernel
theorem dX6_survey_12 : decode cX6_survey 12 = .ok (.invokevirtual 45, 3) := by decide +kernel
theorem dX6_survey_15 : decode cX6_survey 15 = .ok (.iconst 0, 1) := by decide +kernel
theorem dX6_survey_16 : decode cX6_survey 16 = .ok (.istore 5, 2) := by decide +kernel
theorem dX6_survey_18 : decode cX6_survey 18 = .ok (.iload 5, 2) := by decide +kernel
theorem dX6_survey_20 : decode cX6_survey 20 = .ok (.iconst 4, 1) := by decide +kernel
theorem dX6_survey_21 : decode cX6_survey 21 = .ok (.if_icmp .ge 100, 3) := by decide +kernel
theorem dX6_survey_24 : decode cX6_survey 24 = .ok (.iconst 0, 1) := by decide +kernel
theorem dX6_survey_25 : decode cX6_survey 25 = .ok (.istore 6, 2) := by decide +kernel
theorem dX6_survey_27 : decode cX6_survey 27 = .ok (.iload 6, 2) := by decide +kernel
theorem dX6_survey_29 : decode cX6_survey 29 = .ok (.iload 4, 2) := by decide +kernel
theorem dX6_survey_31 : decode cX6_survey 31 = .ok (.if_icmp .ge 84, 3) := by decide +kernel
theorem dX6_survey_34 : decode cX6_survey 34 = .ok (.iload_n 3, 1) := by decide +kernel
theorem dX6_survey_35 : decode cX6_survey 35 = .ok (.iload 6, 2) := by decide +kernel
theorem dX6_survey_37 : decode cX6_survey 37 = .ok (.aload_n 0, 1) := by decide +kernel
theorem dX6_survey_38 : decode cX6_survey 38 = .ok (.getfield 26, 3) := by decide +kernel
theorem dX6_survey_41 : decode cX6_survey 41 = .ok (.imul, 1) := by decide +kernel
theorem dX6_survey_42 : decode cX6_survey 42 = .ok (.iadd, 1) := by decide +kernel
theorem dX6_survey_43 : decode cX6_survey 43 = .ok (.aload_n 2, 1) := by decide +kernel
theorem dX6_survey_44 : decode cX6_survey 44 = .ok (.getfield 48, 3) := by decide +kernel
theorem dX6_survey_47 : decode cX6_survey 47 = .ok (.if_icmp .ge 68, 3) := by decide +kernel
theorem dX6_survey_50 : decode cX6_survey 50 = .ok (.aload_n 0, 1) := by decide +kernel
theorem dX6_survey_51 : decode cX6_survey 51 = .ok (.aload_n 0, 1) := by decide +kernel
theorem dX6_survey_52 : decode cX6_survey 52 = .ok (.getfield 26, 3) := by decide +kernel
theorem dX6_survey_55 : decode cX6_survey 55 = .ok (.iload 5, 2) := by decide +kernel
theorem dX6_survey_57 : decode cX6_survey 57 = .ok (.aload_n 2, 1) := by decide +kernel
theorem dX6_survey_58 : decode cX6_survey 58 = .ok (.iload_n 3, 1) := by decide +kernel
theorem dX6_survey_59 : decode cX6_survey 59 = .ok (.iload 6, 2) := by decide +kernel
theorem dX6_survey_61 : decode cX6_survey 61 = .ok (.aload_n 0, 1) := by decide +kernel
theorem dX6_survey_62 : decode cX6_survey 62 = .ok (.getfield 26, 3) := by decide +kernel
theorem dX6_survey_65 : decode cX6_survey 65 = .ok (.imul, 1) := by decide +kernel
theorem dX6_survey_66 : decode cX6_survey 66 = .ok (.iadd, 1) := by decide +kernel
theorem dX6_survey_67 : decode cX6_survey 67 = .ok (.invokevirtual 33, 3) := by decide +kernel
theorem dX6_survey_70 : decode cX6_survey 70 = .ok (.iconst 0, 1) := by decide +kernel
theorem dX6_survey_71 : decode cX6_survey 71 = .ok (.istore 7, 2) := by decide +kernel
theorem dX6_survey_73 : decode cX6_survey 73 = .ok (.iload 7, 2) := by decide +kernel
theorem dX6_survey_75 : decode cX6_survey 75 = .ok (.aload_n 0, 1) := by decide +kernel
theorem dX6_survey_76 : decode cX6_survey 76 = .ok (.getfield 26, 3) := by decide +kernel
theorem dX6_survey_79 : decode cX6_survey 79 = .ok (.if_icmp .ge 30, 3) := by decide +kernel
theorem dX6_survey_82 : decode cX6_survey 82 = .ok (.aload_n 0, 1) := by decide +kernel
theorem dX6_survey_83 : decode cX6_survey 83 = .ok (.getfield 23, 3) := by decide +kernel
theorem dX6_survey_86 : decode cX6_survey 86 = .ok (.iconst 4, 1) := by decide +kernel
theorem dX6_survey_87 : decode cX6_survey 87 = .ok (.iload 7, 2) := by decide +kernel
theorem dX6_survey_89 : decode cX6_survey 89 = .ok (.imul, 1) := by decide +kernel
theorem dX6_survey_90 : decode cX6_survey 90 = .ok (.iload 5, 2) := by decide +kernel
theorem dX6_survey_92 : decode cX6_survey 92 = .ok (.iadd, 1) := by decide +kernel
theorem dX6_survey_93 : decode cX6_survey 93 = .ok (.aload_n 0, 1) := by decide +kernel
theorem dX6_survey_94 : decode cX6_survey 94 = .ok (.aload_n 1, 1) := by decide +kernel
theorem dX6_survey_95 : decode cX6_survey 95 = .ok (.iload 7, 2) := by decide +kernel
theorem dX6_survey_97 : decode cX6_survey 97 = .ok (.invokevirtual 41, 3) := by decide +kernel
theorem dX6_survey_100 : decode cX6_survey 100 = .ok (.invokevirtual 53, 3) := by decide +kernel
theorem dX6_survey_103 : decode cX6_survey 103 = .ok (.iinc 7 1, 3) := by decide +kernel
theorem dX6_survey_106 : decode cX6_survey 106 = .ok (.goto (-33), 3) := by decide +kernel
theorem dX6_survey_109 : decode cX6_survey 109 = .ok (.iinc 6 1, 3) := by decide +kernel
theorem dX6_survey_112 : decode cX6_survey 112 = .ok (.goto (-85), 3) := by decide +kernel
theorem dX6_survey_115 : decode cX6_survey 115 = .ok (.iinc 5 1, 3) := by decide +kernel
theorem dX6_survey_118 : decode cX6_survey 118 = .ok (.goto (-100), 3) := by decide +kernel
theorem dX6_survey_121 : decode cX6_survey 121 = .ok (.return_, 1) := by decide +kernel
set_option maxRecDepth 100000 in
theorem c_X6_survey (l : Launch) (D : q_D) (al : q_Al) (dt : q_Dt) (x0 : Nat) (x1 : Option Nat) (x2 : Nat) (x3 : Int32) (x4 : Int32) (kx0 : al.1 x0 = 7) (kx1 : ∀ b, x1 = some b → al.1 b = 1) (kx2 : al.1 x2 = 9) (dt0 : q_Dt) (hm : X6_survey al dt x0 x1 x2 x3 x4 = some dt0) : q_Mt l yX6_survey cX6_survey 8 (none) 4 99 D al [.ref x0, va_rf x1, .ref x2, .int x3, .int x4] dt 0 none dt0 := by
  refine q_Mt.of (by decide) (by simp [lg_sl, q_cat, q_catR, q_catI, q_catL]) ?_
  intro p e s m args below meth c ls C hargs hW hl
  have hx := C.1
  have hb := C.2.1
  have hown := C.2.2.2.2.2.1
  have hts := C.2.2.2.2.2.2.1
  have hS : va_S (q_A al) s.heap s.heap [] := va_S.rf
  have hl : lv_has ls 8 [(0, .ref x0), (1, va_rf x1), (2, .ref x2), (3, .int x3), (4, .int x4)] := by simpa [lv_args, q_cat, q_catR, q_catI, q_catL] using hl
  unfold X6_survey at hm
  have hB18 : ∀ (x0_18 : Nat) (x1_18 : Nat) (x2_18 : Nat) (x3_18 : Int32) (x4_18 : Int32) (kx0_18 : al.1 x0_18 = 7) (kx1_18 : al.1 x1_18 = 1) (kx2_18 : al.1 x2_18 = 9) (n_18 : Nat) (x5_18 : Int32) (dt : q_Dt) (H : Heap) (locs : List Loc) (ls : Array Slot) (hm : X6_survey_b18 al x0_18 x1_18 x2_18 x3_18 x4_18 n_18 x5_18 dt = some dt0) (hW : q_W D al dt H) (hS : va_S (q_A al) s.heap H locs) (hl : lv_has ls 8 [(0, .ref x0_18), (1, .ref x1_18), (2, .ref x2_18), (3, .int x3_18), (4, .int x4_18), (5, .int x5_18)]), W p l e { frames := 4, cells := 0, slots := 0, locals := 99 } s m args below meth c H locs 0 0 (MQ below (q_Q none (fun H => q_W D al dt0 H ∧ q_Rk al 0 none) (q_A al)) args s 0 0 (q_A al)) (F0 m 18 ls []) := by
    intro x0_18 x1_18 x2_18 x3_18 x4_18 kx0_18 kx1_18 kx2_18
    intro n_18
    induction n_18 with
    | zero => intro x5_18 dt H locs ls hm hW hS hl; cases hm
    | succ n_18 ih18 =>
      have hB115 : ∀ (x5_115 : Int32) (dt : q_Dt) (H : Heap) (locs : List Loc) (ls : Array Slot) (hm : X6_survey_b115 al (X6_survey_b18 al x0_18 x1_18 x2_18 x3_18 x4_18 n_18) x0_18 x1_18 x2_18 x3_18 x4_18 x5_115 dt = some dt0) (hW : q_W D al dt H) (hS : va_S (q_A al) s.heap H locs) (hl : lv_has ls 8 [(0, .ref x0_18), (1, .ref x1_18), (2, .ref x2_18), (3, .int x3_18), (4, .int x4_18), (5, .int x5_115)]), W p l e { frames := 4, cells := 0, slots := 0, locals := 99 } s m args below meth c H locs 0 0 (MQ below (q_Q none (fun H => q_W D al dt0 H ∧ q_Rk al 0 none) (q_A al)) args s 0 0 (q_A al)) (F0 m 115 ls []) := by
        intro x5_115 dt H locs ls hm hW hS hl
        unfold X6_survey_b115 at hm
        refine lv_iinc (v := (x5_115 + 1)) (lv' := [(5, .int (x5_115 + 1)), (0, .ref x0_18), (1, .ref x1_18), (2, .ref x2_18), (3, .int x3_18), (4, .int x4_18)]) hx hb dX6_survey_115 hl (k := 5) rfl rfl (by decide) rfl (fun ls hl => ?_)
        refine lv_goto (tgt := 18) hx hb dX6_survey_118 (by decide) ?_
        exact ih18 (x5_115 + 1) dt _ _ _ hm hW hS (lv_sub hl [1, 2, 3, 4, 5, 0] rfl)
      have hB27 : ∀ (x5_27 : Int32) (n_27 : Nat) (x6_27 : Int32) (dt : q_Dt) (H : Heap) (locs : List Loc) (ls : Array Slot) (hm : X6_survey_b27 al (X6_survey_b18 al x0_18 x1_18 x2_18 x3_18 x4_18 n_18) x0_18 x1_18 x2_18 x3_18 x4_18 x5_27 n_27 x6_27 dt = some dt0) (hW : q_W D al dt H) (hS : va_S (q_A al) s.heap H locs) (hl : lv_has ls 8 [(0, .ref x0_18), (1, .ref x1_18), (2, .ref x2_18), (3, .int x3_18), (4, .int x4_18), (5, .int x5_27), (6, .int x6_27)]), W p l e { frames := 4, cells := 0, slots := 0, locals := 99 } s m args below meth c H locs 0 0 (MQ below (q_Q none (fun H => q_W D al dt0 H ∧ q_Rk al 0 none) (q_A al)) args s 0 0 (q_A al)) (F0 m 27 ls []) := by
        intro x5_27
        intro n_27
        induction n_27 with
        | zero => intro x6_27 dt H locs ls hm hW hS hl; cases hm
        | succ n_27 ih27 =>
          have hB73 : ∀ (x6_73 : Int32) (n_73 : Nat) (x7_73 : Int32) (dt : q_Dt) (H : Heap) (locs : List Loc) (ls : Array Slot) (hm : X6_survey_b73 al (X6_survey_b18 al x0_18 x1_18 x2_18 x3_18 x4_18 n_18) (X6_survey_b27 al (X6_survey_b18 al x0_18 x1_18 x2_18 x3_18 x4_18 n_18) x0_18 x1_18 x2_18 x3_18 x4_18 x5_27 n_27) x0_18 x1_18 x2_18 x3_18 x4_18 x5_27 x6_73 n_73 x7_73 dt = some dt0) (hW : q_W D al dt H) (hS : va_S (q_A al) s.heap H locs) (hl : lv_has ls 8 [(0, .ref x0_18), (1, .ref x1_18), (2, .ref x2_18), (3, .int x3_18), (4, .int x4_18), (5, .int x5_27), (6, .int x6_73), (7, .int x7_73)]), W p l e { frames := 4, cells := 0, slots := 0, locals := 99 } s m args below meth c H locs 0 0 (MQ below (q_Q none (fun H => q_W D al dt0 H ∧ q_Rk al 0 none) (q_A al)) args s 0 0 (q_A al)) (F0 m 73 ls []) := by
            intro x6_73
            intro n_73
            induction n_73 with
            | zero => intro x7_73 dt H locs ls hm hW hS hl; cases hm
            | succ n_73 ih73 =>
              intro x7_73 dt H locs ls hm hW hS hl
              rw [X6_survey_b73] at hm
              refine lv_iload hx hb dX6_survey_73 (lv_at hl 7 rfl) ?_
              refine lv_aload_n hx hb dX6_survey_75 rfl (lv_at hl 0 rfl) ?_
              refine r_getI C hW (ci := 6) kx0_18 ff_6_3 cl_6 fl_RX6_26 dX6_survey_76 ?_
              refine q_ifc hm (fun c73001 hm => ?_) (fun c73001 hm => ?_)
              · refine lv_icmp_ge (tgt := 109) hx hb dX6_survey_79 (by decide) (fun _ => ?_) (fun h => absurd c73001 h)
                refine lv_iinc (v := (x6_73 + 1)) (lv' := [(6, .int (x6_73 + 1)), (0, .ref x0_18), (1, .ref x1_18), (2, .ref x2_18), (3, .int x3_18), (4, .int x4_18), (5, .int x5_27), (7, .int x7_73)]) hx hb dX6_survey_109 hl (k := 6) rfl rfl (by decide) rfl (fun ls hl => ?_)
                refine lv_goto (tgt := 27) hx hb dX6_survey_112 (by decide) ?_
                exact ih27 (x6_73 + 1) dt _ _ _ hm hW hS (lv_sub hl [1, 2, 3, 4, 5, 6, 0] rfl)
              refine lv_icmp_ge (tgt := 109) hx hb dX6_survey_79 (by decide) (fun h => absurd h c73001) (fun _ => ?_)
              refine lv_aload_n hx hb dX6_survey_82 rfl (lv_at hl 0 rfl) ?_
              refine r_getF C hW (ci := 6) kx0_18 ff_6_2 cl_6 fl_RX6_23 dX6_survey_83 (fun k73002 => ?_)
              refine lv_iconst (v := 4) hx hb dX6_survey_86 (by decide) ?_
              refine lv_iload hx hb dX6_survey_87 (lv_at hl 7 rfl) ?_
              refine lv_imul hx hb dX6_survey_89 ?_
              refine lv_iload hx hb dX6_survey_90 (lv_at hl 5 rfl) ?_
              refine lv_iadd hx hb dX6_survey_92 ?_
              refine lv_aload_n hx hb dX6_survey_93 rfl (lv_at hl 0 rfl) ?_
              refine lv_aload_n hx hb dX6_survey_94 rfl (lv_at hl 1 rfl) ?_
              refine lv_iload hx hb dX6_survey_95 (lv_at hl 7 rfl) ?_
              obtain ⟨v73004, hc73003, hm⟩ := q_b1i hm
              refine q_callV C hW hS (As := [.ref x1_18, .int x7_73]) (rest := [.int ((4 * x7_73) + x5_27), .ref (al.2.2 x0_18 2)]) (st1 := [.long v73004, .int ((4 * x7_73) + x5_27), .ref (al.2.2 x0_18 2)]) (c_X6_squares l D al dt x0_18 x1_18 x7_73 kx0_18 kx1_18 v73004 hc73003) yl_X6_squares vl_X6_squares ml_RX6_41 (ci := 6) rfl kx0_18 (by decide) rfl ⟨Nat.le_of_ble_eq_true rfl, Nat.le_of_ble_eq_true rfl⟩ hl rfl (Nat.le_of_ble_eq_true rfl) dX6_survey_97 ⟨Nat.le_refl _, Nat.le_refl _⟩ rfl (fun H locs k73005 hW hS => ?_)
              obtain ⟨dt73007, hc73006, hm⟩ := q_b1i hm
              refine q_callV C hW hS (As := [.int ((4 * x7_73) + x5_27), .long v73004]) (rest := []) (st1 := []) (c_X5_increase l D al dt (al.2.2 x0_18 2) ((4 * x7_73) + x5_27) v73004 k73002 dt73007 hc73006) yl_X5_increase vl_X5_increase ml_RX6_53 (ci := 5) rfl k73002 (by decide) rfl ⟨Nat.le_of_ble_eq_true rfl, Nat.le_of_ble_eq_true rfl⟩ hl rfl (Nat.le_of_ble_eq_true rfl) dX6_survey_100 ⟨Nat.le_refl _, Nat.le_refl _⟩ rfl (fun H locs k73008 hW hS => ?_)
              refine lv_iinc (v := (x7_73 + 1)) (lv' := [(7, .int (x7_73 + 1)), (0, .ref x0_18), (1, .ref x1_18), (2, .ref x2_18), (3, .int x3_18), (4, .int x4_18), (5, .int x5_27), (6, .int x6_73)]) hx hb dX6_survey_103 hl (k := 7) rfl rfl (by decide) rfl (fun ls hl => ?_)
              refine lv_goto (tgt := 73) hx hb dX6_survey_106 (by decide) ?_
              exact ih73 (x7_73 + 1) dt73007 _ _ _ hm hW hS (lv_sub hl [1, 2, 3, 4, 5, 6, 7, 0] rfl)
          intro x6_27 dt H locs ls hm hW hS hl
          rw [X6_survey_b27] at hm
          refine lv_iload hx hb dX6_survey_27 (lv_at hl 6 rfl) ?_
          refine lv_iload hx hb dX6_survey_29 (lv_at hl 4 rfl) ?_
          refine q_ifc hm (fun c27001 hm => ?_) (fun c27001 hm => ?_)
          · refine lv_icmp_ge (tgt := 115) hx hb dX6_survey_31 (by decide) (fun _ => ?_) (fun h => absurd c27001 h)
            exact hB115 x5_27 dt _ _ _ hm hW hS (lv_sub hl [0, 1, 2, 3, 4, 5] rfl)
          refine lv_icmp_ge (tgt := 115) hx hb dX6_survey_31 (by decide) (fun h => absurd h c27001) (fun _ => ?_)
          refine lv_iload_n hx hb dX6_survey_34 rfl (lv_at hl 3 rfl) ?_
          refine lv_iload hx hb dX6_survey_35 (lv_at hl 6 rfl) ?_
          refine lv_aload_n hx hb dX6_survey_37 rfl (lv_at hl 0 rfl) ?_
          refine r_getI C hW (ci := 6) kx0_18 ff_6_3 cl_6 fl_RX6_26 dX6_survey_38 ?_
          refine lv_imul hx hb dX6_survey_41 ?_
          refine lv_iadd hx hb dX6_survey_42 ?_
          refine lv_aload_n hx hb dX6_survey_43 rfl (lv_at hl 2 rfl) ?_
          refine r_getI C hW (ci := 8) kx2_18 ff_8_2 cl_8 fl_RX6_48 dX6_survey_44 ?_
          refine q_ifc hm (fun c27002 hm => ?_) (fun c27002 hm => ?_)
          · refine lv_icmp_ge (tgt := 115) hx hb dX6_survey_47 (by decide) (fun _ => ?_) (fun h => absurd c27002 h)
            exact hB115 x5_27 dt _ _ _ hm hW hS (lv_sub hl [0, 1, 2, 3, 4, 5] rfl)
          refine lv_icmp_ge (tgt := 115) hx hb dX6_survey_47 (by decide) (fun h => absurd h c27002) (fun _ => ?_)
          refine lv_aload_n hx hb dX6_survey_50 rfl (lv_at hl 0 rfl) ?_
          refine lv_aload_n hx hb dX6_survey_51 rfl (lv_at hl 0 rfl) ?_
          refine r_getI C hW (ci := 6) kx0_18 ff_6_3 cl_6 fl_RX6_26 dX6_survey_52 ?_
          refine lv_iload hx hb dX6_survey_55 (lv_at hl 5 rfl) ?_
          refine lv_aload_n hx hb dX6_survey_57 rfl (lv_at hl 2 rfl) ?_
          refine lv_iload_n hx hb dX6_survey_58 rfl (lv_at hl 3 rfl) ?_
          refine lv_iload hx hb dX6_survey_59 (lv_at hl 6 rfl) ?_
          refine lv_aload_n hx hb dX6_survey_61 rfl (lv_at hl 0 rfl) ?_
          refine r_getI C hW (ci := 6) kx0_18 ff_6_3 cl_6 fl_RX6_26 dX6_survey_62 ?_
          refine lv_imul hx hb dX6_survey_65 ?_
          refine lv_iadd hx hb dX6_survey_66 ?_
          obtain ⟨dt27004, hc27003, hm⟩ := q_b1i hm
          refine q_callV C hW hS (As := [.int (dt.1 x0_18 3), .int x5_27, .ref x2_18, .int (x3_18 + (x6_27 * (dt.1 x0_18 3)))]) (rest := []) (st1 := []) (c_X6_turnBack l D al dt x0_18 (dt.1 x0_18 3) x5_27 x2_18 (x3_18 + (x6_27 * (dt.1 x0_18 3))) kx0_18 kx2_18 dt27004 hc27003) yl_X6_turnBack vl_X6_turnBack ml_RX6_33 (ci := 6) rfl kx0_18 (by decide) rfl ⟨Nat.le_of_ble_eq_true rfl, Nat.le_of_ble_eq_true rfl⟩ hl rfl (Nat.le_of_ble_eq_true rfl) dX6_survey_67 ⟨Nat.le_refl _, Nat.le_refl _⟩ rfl (fun H locs k27005 hW hS => ?_)
          refine lv_iconst (v := 0) hx hb dX6_survey_70 (by decide) ?_
          refine lv_istore (i := 7) (lv' := [(7, .int 0), (0, .ref x0_18), (1, .ref x1_18), (2, .ref x2_18), (3, .int x3_18), (4, .int x4_18), (5, .int x5_27), (6, .int x6_27)]) hx hb dX6_survey_71 hl (by decide) rfl (fun ls hl => ?_)
          exact hB73 x6_27 q_FU 0 dt27004 _ _ _ hm hW hS (lv_sub hl [1, 2, 3, 4, 5, 6, 7, 0] rfl)
      intro x5_18 dt H locs ls hm hW hS hl
      rw [X6_survey_b18] at hm
      refine lv_iload hx hb dX6_survey_18 (lv_at hl 5 rfl) ?_
      refine lv_iconst (v := 4) hx hb dX6_survey_20 (by decide) ?_
      refine q_ifc hm (fun c18001 hm => ?_) (fun c18001 hm => ?_)
      · refine lv_icmp_ge (tgt := 121) hx hb dX6_survey_21 (by decide) (fun _ => ?_) (fun h => absurd c18001 h)
        exact e_vD C hW hS hm dX6_survey_121
      refine lv_icmp_ge (tgt := 121) hx hb dX6_survey_21 (by decide) (fun h => absurd h c18001) (fun _ => ?_)
      refine lv_iconst (v := 0) hx hb dX6_survey_24 (by decide) ?_
      refine lv_istore (i := 6) (lv' := [(6, .int 0), (0, .ref x0_18), (1, .ref x1_18), (2, .ref x2_18), (3, .int x3_18), (4, .int x4_18), (5, .int x5_18)]) hx hb dX6_survey_25 hl (by decide) rfl (fun ls hl => ?_)
      exact hB27 x5_18 q_FU 0 dt _ _ _ hm hW hS (lv_sub hl [1, 2, 3, 4, 5, 6, 0] rfl)
  refine lv_aload_n hx hb dX6_survey_0 rfl (lv_at hl 0 rfl) ?_
  refine q_aloadQ_n C dX6_survey_1 rfl (lv_at hl 1 rfl) ?_
  obtain ⟨b1000001, e1000002, hq1000003⟩ := q_mi hm
  subst e1000002
  have hm := hq1000003
  have k1000004 := kx1 b1000001 rfl
  refine r_getI C hW (ci := 0) k1000004 ff_0_1 cl_0 fl_RX6_30 dX6_survey_2 ?_
  refine r_putI C hW hS hm (ci := 6) kx0 ff_6_3 cl_6 fl_RX6_26 (nf_6_3) rfl dX6_survey_5 (fun dt1000005 H locs hm hW hS => ?_)
  refine lv_aload_n hx hb dX6_survey_8 rfl (lv_at hl 0 rfl) ?_
  refine r_getF C hW (ci := 6) kx0 ff_6_2 cl_6 fl_RX6_23 dX6_survey_9 (fun k1000006 => ?_)
  obtain ⟨dt1000008, hc1000007, hm⟩ := q_b1i hm
  refine q_callV C hW hS (As := []) (rest := []) (st1 := []) (c_X5_clear l D al dt1000005 (al.2.2 x0 2) k1000006 dt1000008 hc1000007) yl_X5_clear vl_X5_clear ml_RX6_45 (ci := 5) rfl k1000006 (by decide) rfl ⟨Nat.le_of_ble_eq_true rfl, Nat.le_of_ble_eq_true rfl⟩ hl rfl (Nat.le_of_ble_eq_true rfl) dX6_survey_12 ⟨Nat.le_refl _, Nat.le_refl _⟩ rfl (fun H locs k1000009 hW hS => ?_)
  refine lv_iconst (v := 0) hx hb dX6_survey_15 (by decide) ?_
  refine lv_istore (i := 5) (lv' := [(5, .int 0), (0, .ref x0), (1, .ref b1000001), (2, .ref x2), (3, .int x3), (4, .int x4)]) hx hb dX6_survey_16 hl (by decide) rfl (fun ls hl => ?_)
  exact hB18 x0 b1000001 x2 x3 x4 kx0 k1000004 kx2 q_FU 0 dt1000008 _ _ _ hm hW hS (lv_sub hl [1, 2, 3, 4, 5, 0] rfl)
theorem dX6_greatestCell_0 : decode cX6_greatestCell 0 = .ok (.iconst 0, 1) := by decide +kernel
theorem dX6_greatestCell_1 : decode cX6_greatestCell 1 = .ok (.istore_n 1, 1) := by decide +kernel
theorem dX6_greatestCell_2 : decode cX6_greatestCell 2 = .ok (.iconst 1, 1) := by decide +kernel
theorem dX6_greatestCell_3 : decode cX6_greatestCell 3 = .ok (.istore_n 2, 1) := by decide +kernel
theorem dX6_greatestCell_4 : decode cX6_greatestCell 4 = .ok (.iload_n 2, 1) := by decide +kernel
theorem dX6_greatestCell_5 : decode cX6_greatestCell 5 = .ok (.iconst 4, 1) := by decide +kernel
theorem dX6_greatestCell_6 : decode cX6_greatestCell 6 = .ok (.aload_n 0, 1) := by decide +kernel
theorem dX6_greatestCell_7 : decode cX6_greatestCell 7 = .ok (.getfield 26, 3) := by decide +kernel
theorem dX6_greatestCell_10 : decode cX6_greatestCell 10 = .ok (.imul, 1) := by decide +kernel
theorem dX6_greatestCell_11 : decode cX6_greatestCell 11 = .ok (.if_icmp .ge 31, 3) := by decide +kernel
theorem dX6_greatestCell_14 : decode cX6_greatestCell 14 = .ok (.aload_n 0, 1) := by decide +kernel
theorem dX6_greatestCell_15 : decode cX6_greatestCell 15 = .ok (.getfield 23, 3) := by decide +kernel
theorem dX6_greatestCell_18 : decode cX6_greatestCell 18 = .ok (.iload_n 2, 1) := by decide +kernel
theorem dX6_greatestCell_19 : decode cX6_greatestCell 19 = .ok (.invokevirtual 68, 3) := by decide +kernel
theorem dX6_greatestCell_22 : decode cX6_greatestCell 22 = .ok (.aload_n 0, 1) := by decide +kernel
theorem dX6_greatestCell_23 : decode cX6_greatestCell 23 = .ok (.getfield 23, 3) := by decide +kernel
theorem dX6_greatestCell_26 : decode cX6_greatestCell 26 = .ok (.iload_n 1, 1) := by decide +kernel
theorem dX6_greatestCell_27 : decode cX6_greatestCell 27 = .ok (.invokevirtual 68, 3) := by decide +kernel
theorem dX6_greatestCell_30 : decode cX6_greatestCell 30 = .ok (.lcmp, 1) := by decide +kernel
theorem dX6_greatestCell_31 : decode cX6_greatestCell 31 = .ok (.ifCond .le 5, 3) := by decide +kernel
theorem dX6_greatestCell_34 : decode cX6_greatestCell 34 = .ok (.iload_n 2, 1) := by decide +kernel
theorem dX6_greatestCell_35 : decode cX6_greatestCell 35 = .ok (.istore_n 1, 1) := by decide +kernel
theorem dX6_greatestCell_36 : decode cX6_greatestCell 36 = .ok (.iinc 2 1, 3) := by decide +kernel
theorem dX6_greatestCell_39 : decode cX6_greatestCell 39 = .ok (.goto (-35), 3) := by decide +kernel
theorem dX6_greatestCell_42 : decode cX6_greatestCell 42 = .ok (.iload_n 1, 1) := by decide +kernel
theorem dX6_greatestCell_43 : decode cX6_greatestCell 43 = .ok (.ireturn, 1) := by decide +kernel
set_option maxRecDepth 100000 in
theorem c_X6_greatestCell (l : Launch) (D : q_D) (al : q_Al) (dt : q_Dt) (x0 : Nat) (kx0 : al.1 x0 = 7) (r0 : Int32) (hm : X6_greatestCell al dt x0 = some r0) : q_Mt l yX6_greatestCell cX6_greatestCell 3 (some FieldType.int) 1 21 D al [.ref x0] dt 0 (some (.int r0)) dt := by
  refine q_Mt.of (by decide) (Nat.le_of_ble_eq_true rfl) ?_
  intro p e s m args below meth c ls C hargs hW hl
  have hx := C.1
  have hb := C.2.1
  have hown := C.2.2.2.2.2.1
  have hts := C.2.2.2.2.2.2.1
  have hS : va_S (q_A al) s.heap s.heap [] := va_S.rf
  have hl : lv_has ls 3 [(0, .ref x0)] := hl
  unfold X6_greatestCell at hm
  have hB4 : ∀ (x0_4 : Nat) (kx0_4 : al.1 x0_4 = 7) (n_4 : Nat) (x1_4 : Int32) (x2_4 : Int32) (H : Heap) (locs : List Loc) (ls : Array Slot) (hm : X6_greatestCell_b4 al dt x0_4 n_4 x1_4 x2_4 = some r0) (hW : q_W D al dt H) (hS : va_S (q_A al) s.heap H locs) (hl : lv_has ls 3 [(0, .ref x0_4), (1, .int x1_4), (2, .int x2_4)]), W p l e { frames := 1, cells := 0, slots := 0, locals := 21 } s m args below meth c H locs 0 0 (MQ below (q_Q (some (.int r0)) (fun H => q_W D al dt H ∧ q_Rk al 0 (some (.int r0))) (q_A al)) args s 0 0 (q_A al)) (F0 m 4 ls []) := by
    intro x0_4 kx0_4
    intro n_4
    induction n_4 with
    | zero => intro x1_4 x2_4 H locs ls hm hW hS hl; cases hm
    | succ n_4 ih4 =>
      have hB36 : ∀ (x1_36 : Int32) (x2_36 : Int32) (H : Heap) (locs : List Loc) (ls : Array Slot) (hm : X6_greatestCell_b36 al dt (X6_greatestCell_b4 al dt x0_4 n_4) x0_4 x1_36 x2_36 = some r0) (hW : q_W D al dt H) (hS : va_S (q_A al) s.heap H locs) (hl : lv_has ls 3 [(0, .ref x0_4), (1, .int x1_36), (2, .int x2_36)]), W p l e { frames := 1, cells := 0, slots := 0, locals := 21 } s m args below meth c H locs 0 0 (MQ below (q_Q (some (.int r0)) (fun H => q_W D al dt H ∧ q_Rk al 0 (some (.int r0))) (q_A al)) args s 0 0 (q_A al)) (F0 m 36 ls []) := by
        intro x1_36 x2_36 H locs ls hm hW hS hl
        unfold X6_greatestCell_b36 at hm
        refine lv_iinc (v := (x2_36 + 1)) (lv' := [(2, .int (x2_36 + 1)), (0, .ref x0_4), (1, .int x1_36)]) hx hb dX6_greatestCell_36 hl (k := 2) rfl rfl (by decide) rfl (fun ls hl => ?_)
        refine lv_goto (tgt := 4) hx hb dX6_greatestCell_39 (by decide) ?_
        exact ih4 x1_36 (x2_36 + 1) _ _ _ hm hW hS (lv_sub hl [1, 2, 0] rfl)
      intro x1_4 x2_4 H locs ls hm hW hS hl
      rw [X6_greatestCell_b4] at hm
      refine lv_iload_n hx hb dX6_greatestCell_4 rfl (lv_at hl 2 rfl) ?_
      refine lv_iconst (v := 4) hx hb dX6_greatestCell_5 (by decide) ?_
      refine lv_aload_n hx hb dX6_greatestCell_6 rfl (lv_at hl 0 rfl) ?_
      refine r_getI C hW (ci := 6) kx0_4 ff_6_3 cl_6 fl_RX6_26 dX6_greatestCell_7 ?_
      refine lv_imul hx hb dX6_greatestCell_10 ?_
      refine q_ifc hm (fun c4001 hm => ?_) (fun c4001 hm => ?_)
      · refine lv_icmp_ge (tgt := 42) hx hb dX6_greatestCell_11 (by decide) (fun _ => ?_) (fun h => absurd c4001 h)
        refine lv_iload_n hx hb dX6_greatestCell_42 rfl (lv_at hl 1 rfl) ?_
        exact e_i C hW hS hm dX6_greatestCell_43
      refine lv_icmp_ge (tgt := 42) hx hb dX6_greatestCell_11 (by decide) (fun h => absurd h c4001) (fun _ => ?_)
      refine lv_aload_n hx hb dX6_greatestCell_14 rfl (lv_at hl 0 rfl) ?_
      refine r_getF C hW (ci := 6) kx0_4 ff_6_2 cl_6 fl_RX6_23 dX6_greatestCell_15 (fun k4002 => ?_)
      refine lv_iload_n hx hb dX6_greatestCell_18 rfl (lv_at hl 2 rfl) ?_
      obtain ⟨v4004, hc4003, hm⟩ := q_b1i hm
      refine q_callV C hW hS (As := [.int x2_4]) (rest := []) (st1 := [.long v4004]) (c_X5_at l D al dt (al.2.2 x0_4 2) x2_4 k4002 v4004 hc4003) yl_X5_at vl_X5_at ml_RX6_68 (ci := 5) rfl k4002 (by decide) rfl ⟨Nat.le_of_ble_eq_true rfl, Nat.le_of_ble_eq_true rfl⟩ hl rfl (Nat.le_of_ble_eq_true rfl) dX6_greatestCell_19 ⟨Nat.le_refl _, Nat.le_refl _⟩ rfl (fun H locs k4005 hW hS => ?_)
      refine lv_aload_n hx hb dX6_greatestCell_22 rfl (lv_at hl 0 rfl) ?_
      refine r_getF C hW (ci := 6) kx0_4 ff_6_2 cl_6 fl_RX6_23 dX6_greatestCell_23 (fun k4006 => ?_)
      refine lv_iload_n hx hb dX6_greatestCell_26 rfl (lv_at hl 1 rfl) ?_
      obtain ⟨v4008, hc4007, hm⟩ := q_b1i hm
      refine q_callV C hW hS (As := [.int x1_4]) (rest := [.long v4004]) (st1 := [.long v4008, .long v4004]) (c_X5_at l D al dt (al.2.2 x0_4 2) x1_4 k4006 v4008 hc4007) yl_X5_at vl_X5_at ml_RX6_68 (ci := 5) rfl k4006 (by decide) rfl ⟨Nat.le_of_ble_eq_true rfl, Nat.le_of_ble_eq_true rfl⟩ hl rfl (Nat.le_of_ble_eq_true rfl) dX6_greatestCell_27 ⟨Nat.le_refl _, Nat.le_refl _⟩ rfl (fun H locs k4009 hW hS => ?_)
      refine W.lcmp hx hb dX6_greatestCell_30 ?_
      refine q_ifc hm (fun c4010 hm => ?_) (fun c4010 hm => ?_)
      · refine lv_if_le (tgt := 36) hx hb dX6_greatestCell_31 (by decide) (fun _ => ?_) (fun h => absurd (q_cmp_le.mpr c4010) h)
        exact hB36 x1_4 x2_4 _ _ _ hm hW hS (lv_sub hl [0, 1, 2] rfl)
      refine lv_if_le (tgt := 36) hx hb dX6_greatestCell_31 (by decide) (fun h => absurd (q_cmp_le.mp h) c4010) (fun _ => ?_)
      refine lv_iload_n hx hb dX6_greatestCell_34 rfl (lv_at hl 2 rfl) ?_
      refine lv_istore_n (i := 1) (lv' := [(1, .int x2_4), (0, .ref x0_4), (2, .int x2_4)]) hx hb dX6_greatestCell_35 rfl hl (by decide) rfl (fun ls hl => ?_)
      exact hB36 x2_4 x2_4 _ _ _ hm hW hS (lv_sub hl [1, 0, 2] rfl)
  refine lv_iconst (v := 0) hx hb dX6_greatestCell_0 (by decide) ?_
  refine lv_istore_n (i := 1) (lv' := [(1, .int 0), (0, .ref x0)]) hx hb dX6_greatestCell_1 rfl hl (by decide) rfl (fun ls hl => ?_)
  refine lv_iconst (v := 1) hx hb dX6_greatestCell_2 (by decide) ?_
  refine lv_istore_n (i := 2) (lv' := [(2, .int 1), (1, .int 0), (0, .ref x0)]) hx hb dX6_greatestCell_3 rfl hl (by decide) rfl (fun ls hl => ?_)
  exact hB4 x0 kx0 q_FU 0 1 _ _ _ hm hW hS (lv_sub hl [2, 1, 0] rfl)
theorem dX11_apart_0 : decode cX11_apart 0 = .ok (.iload_n 0, 1) := by decide +kernel
theorem dX11_apart_1 : decode cX11_apart 1 = .ok (.i2l, 1) := by decide +kernel
theorem dX11_apart_2 : decode cX11_apart 2 = .ok (.iload_n 1, 1) := by decide +kernel
theorem dX11_apart_3 : decode cX11_apart 3 = .ok (.i2l, 1) := by decide +kernel
theorem dX11_apart_4 : decode cX11_apart 4 = .ok (.lsub, 1) := by decide +kernel
theorem dX11_apart_5 : decode cX11_apart 5 = .ok (.iload_n 2, 1) := by decide +kernel
theorem dX11_apart_6 : decode cX11_apart 6 = .ok (.i2l, 1) := by decide +kernel
theorem dX11_apart_7 : decode cX11_apart 7 = .ok (.invokestatic 314, 3) := by decide +kernel
theorem dX11_apart_10 : decode cX11_apart 10 = .ok (.l2i, 1) := by decide +kernel
theorem dX11_apart_11 : decode cX11_apart 11 = .ok (.istore_n 3, 1) := by decide +kernel
theorem dX11_apart_12 : decode cX11_apart 12 = .ok (.iload_n 3, 1) := by decide +kernel
theorem dX11_apart_13 : decode cX11_apart 13 = .ok (.iload_n 2, 1) := by decide +kernel
theorem dX11_apart_14 : decode cX11_apart 14 = .ok (.iload_n 3, 1) := by decide +kernel
theorem dX11_apart_15 : decode cX11_apart 15 = .ok (.isub, 1) := by decide +kernel
theorem dX11_apart_16 : decode cX11_apart 16 = .ok (.invokestatic 377, 3) := by decide +kernel
theorem dX11_apart_19 : decode cX11_apart 19 = .ok (.ireturn, 1) := by decide +kernel
set_option maxRecDepth 100000 in
theorem c_X11_apart (l : Launch) (D : q_D) (al : q_Al) (dt : q_Dt) (x0 : Int32) (x1 : Int32) (x2 : Int32) (r0 : Int32) (hm : X11_apart x0 x1 x2 = some r0) : q_Mt l yX11_apart cX11_apart 4 (some FieldType.int) 1 25 D al [.int x0, .int x1, .int x2] dt 0 (some (.int r0)) dt := by
  refine q_Mt.of (by decide) (Nat.le_of_ble_eq_true rfl) ?_
  intro p e s m args below meth c ls C hargs hW hl
  have hx := C.1
  have hb := C.2.1
  have hown := C.2.2.2.2.2.1
  have hts := C.2.2.2.2.2.2.1
  have hS : va_S (q_A al) s.heap s.heap [] := va_S.rf
  have hl : lv_has ls 4 [(0, .int x0), (1, .int x1), (2, .int x2)] := hl
  unfold X11_apart at hm
  refine lv_iload_n hx hb dX11_apart_0 rfl (lv_at hl 0 rfl) ?_
  refine lv_i2l (v := (Int32.toInt64 x0)) hx hb dX11_apart_1 rfl ?_
  refine lv_iload_n hx hb dX11_apart_2 rfl (lv_at hl 1 rfl) ?_
  refine lv_i2l (v := (Int32.toInt64 x1)) hx hb dX11_apart_3 rfl ?_
  refine lv_lsub hx hb dX11_apart_4 ?_
  refine lv_iload_n hx hb dX11_apart_5 rfl (lv_at hl 2 rfl) ?_
  refine lv_i2l (v := (Int32.toInt64 x2)) hx hb dX11_apart_6 rfl ?_
  obtain ⟨v1000002, hc1000001, hm⟩ := q_b1i hm
  refine q_callS C hW hS (As := [.long ((Int32.toInt64 x0) - (Int32.toInt64 x1)), .long (Int32.toInt64 x2)]) (rest := []) (st1 := [.long v1000002]) (c_X11_remainder l D al dt ((Int32.toInt64 x0) - (Int32.toInt64 x1)) (Int32.toInt64 x2) v1000002 hc1000001) yl_X11_remainder sl_X11_remainder ml_RX11_314 rfl ⟨Nat.le_of_ble_eq_true rfl, Nat.le_of_ble_eq_true rfl⟩ hl rfl (Nat.le_of_ble_eq_true rfl) dX11_apart_7 ⟨Nat.le_refl _, Nat.le_refl _⟩ rfl (fun H locs k1000003 hW hS => ?_)
  refine lv_l2i (v := (Int64.toInt32 v1000002)) hx hb dX11_apart_10 rfl ?_
  refine lv_istore_n (i := 3) (lv' := [(3, .int (Int64.toInt32 v1000002)), (0, .int x0), (1, .int x1), (2, .int x2)]) hx hb dX11_apart_11 rfl hl (by decide) rfl (fun ls hl => ?_)
  refine lv_iload_n hx hb dX11_apart_12 rfl (lv_at hl 0 rfl) ?_
  refine lv_iload_n hx hb dX11_apart_13 rfl (lv_at hl 3 rfl) ?_
  refine lv_iload_n hx hb dX11_apart_14 rfl (lv_at hl 0 rfl) ?_
  refine lv_isub hx hb dX11_apart_15 ?_
  refine q_mmin C hl wm_RX11_377 wms_min wmi wmc_min (Nat.le_of_ble_eq_true rfl) (Nat.le_of_ble_eq_true rfl) ⟨Nat.le_refl _, Nat.le_refl _⟩ dX11_apart_16 ?_
  exact e_i C hW hS hm dX11_apart_19
theorem dX6_cellBeside_0 : decode cX6_cellBeside 0 = .ok (.bipush (-2), 2) := by decide +kernel
theorem dX6_cellBeside_2 : decode cX6_cellBeside 2 = .ok (.istore_n 3, 1) := by decide +kernel
theorem dX6_cellBeside_3 : decode cX6_cellBeside 3 = .ok (.iconst 0, 1) := by decide +kernel
theorem dX6_cellBeside_4 : decode cX6_cellBeside 4 = .ok (.istore 4, 2) := by decide +kernel
theorem dX6_cellBeside_6 : decode cX6_cellBeside 6 = .ok (.iload 4, 2) := by decide +kernel
theorem dX6_cellBeside_8 : decode cX6_cellBeside 8 = .ok (.iconst 4, 1) := by decide +kernel
theorem dX6_cellBeside_9 : decode cX6_cellBeside 9 = .ok (.aload_n 0, 1) := by decide +kernel
theorem dX6_cellBeside_10 : decode cX6_cellBeside 10 = .ok (.getfield 26, 3) := by decide +kernel
theorem dX6_cellBeside_13 : decode cX6_cellBeside 13 = .ok (.imul, 1) := by decide +kernel
theorem dX6_cellBeside_14 : decode cX6_cellBeside 14 = .ok (.if_icmp .ge 89, 3) := by decide +kernel
theorem dX6_cellBeside_17 : decode cX6_cellBeside 17 = .ok (.iload 4, 2) := by decide +kernel
theorem dX6_cellBeside_19 : decode cX6_cellBeside 19 = .ok (.iconst 4, 1) := by decide +kernel
theorem dX6_cellBeside_20 : decode cX6_cellBeside 20 = .ok (.idiv, 1) := by decide +kernel
theorem dX6_cellBeside_21 : decode cX6_cellBeside 21 = .ok (.iload_n 1, 1) := by decide +kernel
theorem dX6_cellBeside_22 : decode cX6_cellBeside 22 = .ok (.iconst 4, 1) := by decide +kernel
theorem dX6_cellBeside_23 : decode cX6_cellBeside 23 = .ok (.idiv, 1) := by decide +kernel
theorem dX6_cellBeside_24 : decode cX6_cellBeside 24 = .ok (.aload_n 0, 1) := by decide +kernel
theorem dX6_cellBeside_25 : decode cX6_cellBeside 25 = .ok (.getfield 26, 3) := by decide +kernel
theorem dX6_cellBeside_28 : decode cX6_cellBeside 28 = .ok (.invokestatic 72, 3) := by decide +kernel
theorem dX6_cellBeside_31 : decode cX6_cellBeside 31 = .ok (.iload_n 2, 1) := by decide +kernel
theorem dX6_cellBeside_32 : decode cX6_cellBeside 32 = .ok (.if_icmp .le 7, 3) := by decide +kernel
theorem dX6_cellBeside_35 : decode cX6_cellBeside 35 = .ok (.iconst 1, 1) := by decide +kernel
theorem dX6_cellBeside_36 : decode cX6_cellBeside 36 = .ok (.goto 4, 3) := by decide +kernel
theorem dX6_cellBeside_39 : decode cX6_cellBeside 39 = .ok (.iconst 0, 1) := by decide +kernel
theorem dX6_cellBeside_40 : decode cX6_cellBeside 40 = .ok (.istore 5, 2) := by decide +kernel
theorem dX6_cellBeside_42 : decode cX6_cellBeside 42 = .ok (.iload 5, 2) := by decide +kernel
theorem dX6_cellBeside_44 : decode cX6_cellBeside 44 = .ok (.ifCond .ne 13, 3) := by decide +kernel
theorem dX6_cellBeside_47 : decode cX6_cellBeside 47 = .ok (.iload 4, 2) := by decide +kernel
theorem dX6_cellBeside_49 : decode cX6_cellBeside 49 = .ok (.iconst 4, 1) := by decide +kernel
theorem dX6_cellBeside_50 : decode cX6_cellBeside 50 = .ok (.irem, 1) := by decide +kernel
theorem dX6_cellBeside_51 : decode cX6_cellBeside 51 = .ok (.iload_n 1, 1) := by decide +kernel
theorem dX6_cellBeside_52 : decode cX6_cellBeside 52 = .ok (.iconst 4, 1) := by decide +kernel
theorem dX6_cellBeside_53 : decode cX6_cellBeside 53 = .ok (.irem, 1) := by decide +kernel
theorem dX6_cellBeside_54 : decode cX6_cellBeside 54 = .ok (.if_icmp .eq 7, 3) := by decide +kernel
theorem dX6_cellBeside_57 : decode cX6_cellBeside 57 = .ok (.iconst 1, 1) := by decide +kernel
theorem dX6_cellBeside_58 : decode cX6_cellBeside 58 = .ok (.goto 4, 3) := by decide +kernel
theorem dX6_cellBeside_61 : decode cX6_cellBeside 61 = .ok (.iconst 0, 1) := by decide +kernel
theorem dX6_cellBeside_62 : decode cX6_cellBeside 62 = .ok (.istore 6, 2) := by decide +kernel
theorem dX6_cellBeside_64 : decode cX6_cellBeside 64 = .ok (.iload 6, 2) := by decide +kernel
theorem dX6_cellBeside_66 : decode cX6_cellBeside 66 = .ok (.ifCond .eq 31, 3) := by decide +kernel
theorem dX6_cellBeside_69 : decode cX6_cellBeside 69 = .ok (.iload_n 3, 1) := by decide +kernel
theorem dX6_cellBeside_70 : decode cX6_cellBeside 70 = .ok (.ifCond .lt 24, 3) := by decide +kernel
theorem dX6_cellBeside_73 : decode cX6_cellBeside 73 = .ok (.aload_n 0, 1) := by decide +kernel
theorem dX6_cellBeside_74 : decode cX6_cellBeside 74 = .ok (.getfield 23, 3) := by decide +kernel
theorem dX6_cellBeside_77 : decode cX6_cellBeside 77 = .ok (.iload 4, 2) := by decide +kernel
theorem dX6_cellBeside_79 : decode cX6_cellBeside 79 = .ok (.invokevirtual 68, 3) := by decide +kernel
theorem dX6_cellBeside_82 : decode cX6_cellBeside 82 = .ok (.aload_n 0, 1) := by decide +kernel
theorem dX6_cellBeside_83 : decode cX6_cellBeside 83 = .ok (.getfield 23, 3) := by decide +kernel
theorem dX6_cellBeside_86 : decode cX6_cellBeside 86 = .ok (.iload_n 3, 1) := by decide +kernel
theorem dX6_cellBeside_87 : decode cX6_cellBeside 87 = .ok (.invokevirtual 68, 3) := by decide +kernel
theorem dX6_cellBeside_90 : decode cX6_cellBeside 90 = .ok (.lcmp, 1) := by decide +kernel
theorem dX6_cellBeside_91 : decode cX6_cellBeside 91 = .ok (.ifCond .le 6, 3) := by decide +kernel
theorem dX6_cellBeside_94 : decode cX6_cellBeside 94 = .ok (.iload 4, 2) := by decide +kernel
theorem dX6_cellBeside_96 : decode cX6_cellBeside 96 = .ok (.istore_n 3, 1) := by decide +kernel
theorem dX6_cellBeside_97 : decode cX6_cellBeside 97 = .ok (.iinc 4 1, 3) := by decide +kernel
theorem dX6_cellBeside_100 : decode cX6_cellBeside 100 = .ok (.goto (-94), 3) := by decide +kernel
theorem dX6_cellBeside_103 : decode cX6_cellBeside 103 = .ok (.iload_n 3, 1) := by decide +kernel
theorem dX6_cellBeside_104 : decode cX6_cellBeside 104 = .ok (.ireturn, 1) := by decide +kernel
set_option maxRecDepth 100000 in
theorem c_X6_cellBeside (l : Launch) (D : q_D) (al : q_Al) (dt : q_Dt) (x0 : Nat) (x1 : Int32) (x2 : Int32) (kx0 : al.1 x0 = 7) (r0 : Int32) (hm : X6_cellBeside al dt x0 x1 x2 = some r0) : q_Mt l yX6_cellBeside cX6_cellBeside 7 (some FieldType.int) 2 48 D al [.ref x0, .int x1, .int x2] dt 0 (some (.int r0)) dt := by
  refine q_Mt.of (by decide) (Nat.le_of_ble_eq_true rfl) ?_
  intro p e s m args below meth c ls C hargs hW hl
  have hx := C.1
  have hb := C.2.1
  have hown := C.2.2.2.2.2.1
  have hts := C.2.2.2.2.2.2.1
  have hS : va_S (q_A al) s.heap s.heap [] := va_S.rf
  have hl : lv_has ls 7 [(0, .ref x0), (1, .int x1), (2, .int x2)] := hl
  unfold X6_cellBeside at hm
  have hB6 : ∀ (x0_6 : Nat) (x1_6 : Int32) (x2_6 : Int32) (kx0_6 : al.1 x0_6 = 7) (n_6 : Nat) (x3_6 : Int32) (x4_6 : Int32) (H : Heap) (locs : List Loc) (ls : Array Slot) (hm : X6_cellBeside_b6 al dt x0_6 x1_6 x2_6 n_6 x3_6 x4_6 = some r0) (hW : q_W D al dt H) (hS : va_S (q_A al) s.heap H locs) (hl : lv_has ls 7 [(0, .ref x0_6), (1, .int x1_6), (2, .int x2_6), (3, .int x3_6), (4, .int x4_6)]), W p l e { frames := 2, cells := 0, slots := 0, locals := 48 } s m args below meth c H locs 0 0 (MQ below (q_Q (some (.int r0)) (fun H => q_W D al dt H ∧ q_Rk al 0 (some (.int r0))) (q_A al)) args s 0 0 (q_A al)) (F0 m 6 ls []) := by
    intro x0_6 x1_6 x2_6 kx0_6
    intro n_6
    induction n_6 with
    | zero => intro x3_6 x4_6 H locs ls hm hW hS hl; cases hm
    | succ n_6 ih6 =>
      have hB97 : ∀ (x3_97 : Int32) (x4_97 : Int32) (H : Heap) (locs : List Loc) (ls : Array Slot) (hm : X6_cellBeside_b97 al dt (X6_cellBeside_b6 al dt x0_6 x1_6 x2_6 n_6) x0_6 x1_6 x2_6 x3_97 x4_97 = some r0) (hW : q_W D al dt H) (hS : va_S (q_A al) s.heap H locs) (hl : lv_has ls 7 [(0, .ref x0_6), (1, .int x1_6), (2, .int x2_6), (3, .int x3_97), (4, .int x4_97)]), W p l e { frames := 2, cells := 0, slots := 0, locals := 48 } s m args below meth c H locs 0 0 (MQ below (q_Q (some (.int r0)) (fun H => q_W D al dt H ∧ q_Rk al 0 (some (.int r0))) (q_A al)) args s 0 0 (q_A al)) (F0 m 97 ls []) := by
        intro x3_97 x4_97 H locs ls hm hW hS hl
        unfold X6_cellBeside_b97 at hm
        refine lv_iinc (v := (x4_97 + 1)) (lv' := [(4, .int (x4_97 + 1)), (0, .ref x0_6), (1, .int x1_6), (2, .int x2_6), (3, .int x3_97)]) hx hb dX6_cellBeside_97 hl (k := 4) rfl rfl (by decide) rfl (fun ls hl => ?_)
        refine lv_goto (tgt := 6) hx hb dX6_cellBeside_100 (by decide) ?_
        exact ih6 x3_97 (x4_97 + 1) _ _ _ hm hW hS (lv_sub hl [1, 2, 3, 4, 0] rfl)
      have hB94 : ∀ (x4_94 : Int32) (H : Heap) (locs : List Loc) (ls : Array Slot) (hm : X6_cellBeside_b94 al dt (X6_cellBeside_b6 al dt x0_6 x1_6 x2_6 n_6) x0_6 x1_6 x2_6 x4_94 = some r0) (hW : q_W D al dt H) (hS : va_S (q_A al) s.heap H locs) (hl : lv_has ls 7 [(0, .ref x0_6), (1, .int x1_6), (2, .int x2_6), (4, .int x4_94)]), W p l e { frames := 2, cells := 0, slots := 0, locals := 48 } s m args below meth c H locs 0 0 (MQ below (q_Q (some (.int r0)) (fun H => q_W D al dt H ∧ q_Rk al 0 (some (.int r0))) (q_A al)) args s 0 0 (q_A al)) (F0 m 94 ls []) := by
        intro x4_94 H locs ls hm hW hS hl
        unfold X6_cellBeside_b94 at hm
        refine lv_iload hx hb dX6_cellBeside_94 (lv_at hl 3 rfl) ?_
        refine lv_istore_n (i := 3) (lv' := [(3, .int x4_94), (0, .ref x0_6), (1, .int x1_6), (2, .int x2_6), (4, .int x4_94)]) hx hb dX6_cellBeside_96 rfl hl (by decide) rfl (fun ls hl => ?_)
        exact hB97 x4_94 x4_94 _ _ _ hm hW hS (lv_sub hl [1, 2, 3, 0, 4] rfl)
      have hB62 : ∀ (x3_62 : Int32) (x4_62 : Int32) (t0_62 : Int32) (H : Heap) (locs : List Loc) (ls : Array Slot) (hm : X6_cellBeside_b62 al dt (X6_cellBeside_b6 al dt x0_6 x1_6 x2_6 n_6) x0_6 x1_6 x2_6 x3_62 x4_62 t0_62 = some r0) (hW : q_W D al dt H) (hS : va_S (q_A al) s.heap H locs) (hl : lv_has ls 7 [(0, .ref x0_6), (1, .int x1_6), (2, .int x2_6), (3, .int x3_62), (4, .int x4_62)]), W p l e { frames := 2, cells := 0, slots := 0, locals := 48 } s m args below meth c H locs 0 0 (MQ below (q_Q (some (.int r0)) (fun H => q_W D al dt H ∧ q_Rk al 0 (some (.int r0))) (q_A al)) args s 0 0 (q_A al)) (F0 m 62 ls [.int t0_62]) := by
        intro x3_62 x4_62 t0_62 H locs ls hm hW hS hl
        unfold X6_cellBeside_b62 at hm
        refine lv_istore (i := 6) (lv' := [(6, .int t0_62), (0, .ref x0_6), (1, .int x1_6), (2, .int x2_6), (3, .int x3_62), (4, .int x4_62)]) hx hb dX6_cellBeside_62 hl (by decide) rfl (fun ls hl => ?_)
        refine lv_iload hx hb dX6_cellBeside_64 (lv_at hl 0 rfl) ?_
        refine q_ifc hm (fun c62001 hm => ?_) (fun c62001 hm => ?_)
        · refine lv_if_eq (tgt := 97) hx hb dX6_cellBeside_66 (by decide) (fun _ => ?_) (fun h => absurd c62001 h)
          exact hB97 x3_62 x4_62 _ _ _ hm hW hS (lv_sub hl [1, 2, 3, 4, 5] rfl)
        refine lv_if_eq (tgt := 97) hx hb dX6_cellBeside_66 (by decide) (fun h => absurd h c62001) (fun _ => ?_)
        refine lv_iload_n hx hb dX6_cellBeside_69 rfl (lv_at hl 4 rfl) ?_
        refine q_ifc hm (fun c62002 hm => ?_) (fun c62002 hm => ?_)
        · refine lv_if_lt (tgt := 94) hx hb dX6_cellBeside_70 (by decide) (fun _ => ?_) (fun h => absurd c62002 h)
          exact hB94 x4_62 _ _ _ hm hW hS (lv_sub hl [1, 2, 3, 5] rfl)
        refine lv_if_lt (tgt := 94) hx hb dX6_cellBeside_70 (by decide) (fun h => absurd h c62002) (fun _ => ?_)
        refine lv_aload_n hx hb dX6_cellBeside_73 rfl (lv_at hl 1 rfl) ?_
        refine r_getF C hW (ci := 6) kx0_6 ff_6_2 cl_6 fl_RX6_23 dX6_cellBeside_74 (fun k62003 => ?_)
        refine lv_iload hx hb dX6_cellBeside_77 (lv_at hl 5 rfl) ?_
        obtain ⟨v62005, hc62004, hm⟩ := q_b1i hm
        refine q_callV C hW hS (As := [.int x4_62]) (rest := []) (st1 := [.long v62005]) (c_X5_at l D al dt (al.2.2 x0_6 2) x4_62 k62003 v62005 hc62004) yl_X5_at vl_X5_at ml_RX6_68 (ci := 5) rfl k62003 (by decide) rfl ⟨Nat.le_of_ble_eq_true rfl, Nat.le_of_ble_eq_true rfl⟩ hl rfl (Nat.le_of_ble_eq_true rfl) dX6_cellBeside_79 ⟨Nat.le_refl _, Nat.le_refl _⟩ rfl (fun H locs k62006 hW hS => ?_)
        refine lv_aload_n hx hb dX6_cellBeside_82 rfl (lv_at hl 1 rfl) ?_
        refine r_getF C hW (ci := 6) kx0_6 ff_6_2 cl_6 fl_RX6_23 dX6_cellBeside_83 (fun k62007 => ?_)
        refine lv_iload_n hx hb dX6_cellBeside_86 rfl (lv_at hl 4 rfl) ?_
        obtain ⟨v62009, hc62008, hm⟩ := q_b1i hm
        refine q_callV C hW hS (As := [.int x3_62]) (rest := [.long v62005]) (st1 := [.long v62009, .long v62005]) (c_X5_at l D al dt (al.2.2 x0_6 2) x3_62 k62007 v62009 hc62008) yl_X5_at vl_X5_at ml_RX6_68 (ci := 5) rfl k62007 (by decide) rfl ⟨Nat.le_of_ble_eq_true rfl, Nat.le_of_ble_eq_true rfl⟩ hl rfl (Nat.le_of_ble_eq_true rfl) dX6_cellBeside_87 ⟨Nat.le_refl _, Nat.le_refl _⟩ rfl (fun H locs k62010 hW hS => ?_)
        refine W.lcmp hx hb dX6_cellBeside_90 ?_
        refine q_ifc hm (fun c62011 hm => ?_) (fun c62011 hm => ?_)
        · refine lv_if_le (tgt := 97) hx hb dX6_cellBeside_91 (by decide) (fun _ => ?_) (fun h => absurd (q_cmp_le.mpr c62011) h)
          exact hB97 x3_62 x4_62 _ _ _ hm hW hS (lv_sub hl [1, 2, 3, 4, 5] rfl)
        refine lv_if_le (tgt := 97) hx hb dX6_cellBeside_91 (by decide) (fun h => absurd (q_cmp_le.mp h) c62011) (fun _ => ?_)
        exact hB94 x4_62 _ _ _ hm hW hS (lv_sub hl [1, 2, 3, 5] rfl)
      have hB57 : ∀ (x3_57 : Int32) (x4_57 : Int32) (H : Heap) (locs : List Loc) (ls : Array Slot) (hm : X6_cellBeside_b57 al dt (X6_cellBeside_b6 al dt x0_6 x1_6 x2_6 n_6) x0_6 x1_6 x2_6 x3_57 x4_57 = some r0) (hW : q_W D al dt H) (hS : va_S (q_A al) s.heap H locs) (hl : lv_has ls 7 [(0, .ref x0_6), (1, .int x1_6), (2, .int x2_6), (3, .int x3_57), (4, .int x4_57)]), W p l e { frames := 2, cells := 0, slots := 0, locals := 48 } s m args below meth c H locs 0 0 (MQ below (q_Q (some (.int r0)) (fun H => q_W D al dt H ∧ q_Rk al 0 (some (.int r0))) (q_A al)) args s 0 0 (q_A al)) (F0 m 57 ls []) := by
        intro x3_57 x4_57 H locs ls hm hW hS hl
        unfold X6_cellBeside_b57 at hm
        refine lv_iconst (v := 1) hx hb dX6_cellBeside_57 (by decide) ?_
        refine lv_goto (tgt := 62) hx hb dX6_cellBeside_58 (by decide) ?_
        exact hB62 x3_57 x4_57 1 _ _ _ hm hW hS (lv_sub hl [0, 1, 2, 3, 4] rfl)
      have hB40 : ∀ (x3_40 : Int32) (x4_40 : Int32) (t0_40 : Int32) (H : Heap) (locs : List Loc) (ls : Array Slot) (hm : X6_cellBeside_b40 al dt (X6_cellBeside_b6 al dt x0_6 x1_6 x2_6 n_6) x0_6 x1_6 x2_6 x3_40 x4_40 t0_40 = some r0) (hW : q_W D al dt H) (hS : va_S (q_A al) s.heap H locs) (hl : lv_has ls 7 [(0, .ref x0_6), (1, .int x1_6), (2, .int x2_6), (3, .int x3_40), (4, .int x4_40)]), W p l e { frames := 2, cells := 0, slots := 0, locals := 48 } s m args below meth c H locs 0 0 (MQ below (q_Q (some (.int r0)) (fun H => q_W D al dt H ∧ q_Rk al 0 (some (.int r0))) (q_A al)) args s 0 0 (q_A al)) (F0 m 40 ls [.int t0_40]) := by
        intro x3_40 x4_40 t0_40 H locs ls hm hW hS hl
        unfold X6_cellBeside_b40 at hm
        refine lv_istore (i := 5) (lv' := [(5, .int t0_40), (0, .ref x0_6), (1, .int x1_6), (2, .int x2_6), (3, .int x3_40), (4, .int x4_40)]) hx hb dX6_cellBeside_40 hl (by decide) rfl (fun ls hl => ?_)
        refine lv_iload hx hb dX6_cellBeside_42 (lv_at hl 0 rfl) ?_
        refine q_ifc hm (fun c40001 hm => ?_) (fun c40001 hm => ?_)
        · refine lv_if_ne (tgt := 57) hx hb dX6_cellBeside_44 (by decide) (fun h => absurd c40001 h) (fun _ => ?_)
          refine lv_iload hx hb dX6_cellBeside_47 (lv_at hl 5 rfl) ?_
          refine lv_iconst (v := 4) hx hb dX6_cellBeside_49 (by decide) ?_
          refine lv_irem hx hb dX6_cellBeside_50 (by decide) ?_
          refine lv_iload_n hx hb dX6_cellBeside_51 rfl (lv_at hl 2 rfl) ?_
          refine lv_iconst (v := 4) hx hb dX6_cellBeside_52 (by decide) ?_
          refine lv_irem hx hb dX6_cellBeside_53 (by decide) ?_
          refine q_ifc hm (fun c40004 hm => ?_) (fun c40004 hm => ?_)
          · refine lv_icmp_eq (tgt := 61) hx hb dX6_cellBeside_54 (by decide) (fun _ => ?_) (fun h => absurd c40004 h)
            refine lv_iconst (v := 0) hx hb dX6_cellBeside_61 (by decide) ?_
            exact hB62 x3_40 x4_40 0 _ _ _ hm hW hS (lv_sub hl [1, 2, 3, 4, 5] rfl)
          refine lv_icmp_eq (tgt := 61) hx hb dX6_cellBeside_54 (by decide) (fun h => absurd h c40004) (fun _ => ?_)
          exact hB57 x3_40 x4_40 _ _ _ hm hW hS (lv_sub hl [1, 2, 3, 4, 5] rfl)
        refine lv_if_ne (tgt := 57) hx hb dX6_cellBeside_44 (by decide) (fun _ => ?_) (fun h => absurd h c40001)
        exact hB57 x3_40 x4_40 _ _ _ hm hW hS (lv_sub hl [1, 2, 3, 4, 5] rfl)
      intro x3_6 x4_6 H locs ls hm hW hS hl
      rw [X6_cellBeside_b6] at hm
      refine lv_iload hx hb dX6_cellBeside_6 (lv_at hl 4 rfl) ?_
      refine lv_iconst (v := 4) hx hb dX6_cellBeside_8 (by decide) ?_
      refine lv_aload_n hx hb dX6_cellBeside_9 rfl (lv_at hl 0 rfl) ?_
      refine r_getI C hW (ci := 6) kx0_6 ff_6_3 cl_6 fl_RX6_26 dX6_cellBeside_10 ?_
      refine lv_imul hx hb dX6_cellBeside_13 ?_
      refine q_ifc hm (fun c6001 hm => ?_) (fun c6001 hm => ?_)
      · refine lv_icmp_ge (tgt := 103) hx hb dX6_cellBeside_14 (by decide) (fun _ => ?_) (fun h => absurd c6001 h)
        refine lv_iload_n hx hb dX6_cellBeside_103 rfl (lv_at hl 3 rfl) ?_
        exact e_i C hW hS hm dX6_cellBeside_104
      refine lv_icmp_ge (tgt := 103) hx hb dX6_cellBeside_14 (by decide) (fun h => absurd h c6001) (fun _ => ?_)
      refine lv_iload hx hb dX6_cellBeside_17 (lv_at hl 4 rfl) ?_
      refine lv_iconst (v := 4) hx hb dX6_cellBeside_19 (by decide) ?_
      refine lv_idiv hx hb dX6_cellBeside_20 (by decide) ?_
      refine lv_iload_n hx hb dX6_cellBeside_21 rfl (lv_at hl 1 rfl) ?_
      refine lv_iconst (v := 4) hx hb dX6_cellBeside_22 (by decide) ?_
      refine lv_idiv hx hb dX6_cellBeside_23 (by decide) ?_
      refine lv_aload_n hx hb dX6_cellBeside_24 rfl (lv_at hl 0 rfl) ?_
      refine r_getI C hW (ci := 6) kx0_6 ff_6_3 cl_6 fl_RX6_26 dX6_cellBeside_25 ?_
      obtain ⟨v6005, hc6004, hm⟩ := q_b1i hm
      refine q_callS C hW hS (As := [.int (x4_6 / 4), .int (x1_6 / 4), .int (dt.1 x0_6 3)]) (rest := []) (st1 := [.int v6005]) (c_X11_apart l D al dt (x4_6 / 4) (x1_6 / 4) (dt.1 x0_6 3) v6005 hc6004) yl_X11_apart sl_X11_apart ml_RX6_72 rfl ⟨Nat.le_of_ble_eq_true rfl, Nat.le_of_ble_eq_true rfl⟩ hl rfl (Nat.le_of_ble_eq_true rfl) dX6_cellBeside_28 ⟨Nat.le_refl _, Nat.le_refl _⟩ rfl (fun H locs k6006 hW hS => ?_)
      refine lv_iload_n hx hb dX6_cellBeside_31 rfl (lv_at hl 2 rfl) ?_
      refine q_ifc hm (fun c6007 hm => ?_) (fun c6007 hm => ?_)
      · refine lv_icmp_le (tgt := 39) hx hb dX6_cellBeside_32 (by decide) (fun _ => ?_) (fun h => absurd c6007 h)
        refine lv_iconst (v := 0) hx hb dX6_cellBeside_39 (by decide) ?_
        exact hB40 x3_6 x4_6 0 _ _ _ hm hW hS (lv_sub hl [0, 1, 2, 3, 4] rfl)
      refine lv_icmp_le (tgt := 39) hx hb dX6_cellBeside_32 (by decide) (fun h => absurd h c6007) (fun _ => ?_)
      refine lv_iconst (v := 1) hx hb dX6_cellBeside_35 (by decide) ?_
      refine lv_goto (tgt := 40) hx hb dX6_cellBeside_36 (by decide) ?_
      exact hB40 x3_6 x4_6 1 _ _ _ hm hW hS (lv_sub hl [0, 1, 2, 3, 4] rfl)
  refine lv_bipush (v := (-2)) hx hb dX6_cellBeside_0 (by decide) ?_
  refine lv_istore_n (i := 3) (lv' := [(3, .int (-2)), (0, .ref x0), (1, .int x1), (2, .int x2)]) hx hb dX6_cellBeside_2 rfl hl (by decide) rfl (fun ls hl => ?_)
  refine lv_iconst (v := 0) hx hb dX6_cellBeside_3 (by decide) ?_
  refine lv_istore (i := 4) (lv' := [(4, .int 0), (3, .int (-2)), (0, .ref x0), (1, .int x1), (2, .int x2)]) hx hb dX6_cellBeside_4 hl (by decide) rfl (fun ls hl => ?_)
  exact hB6 x0 x1 x2 kx0 q_FU (-2) 0 _ _ _ hm hW hS (lv_sub hl [2, 3, 4, 1, 0] rfl)
theorem dX6_rankOf_0 : decode cX6_rankOf 0 = .ok (.aload_n 0, 1) := by decide +kernel
theorem dX6_rankOf_1 : decode cX6_rankOf 1 = .ok (.getfield 23, 3) := by decide +kernel
theorem dX6_rankOf_4 : decode cX6_rankOf 4 = .ok (.iconst 4, 1) := by decide +kernel
theorem dX6_rankOf_5 : decode cX6_rankOf 5 = .ok (.iload_n 1, 1) := by decide +kernel
theorem dX6_rankOf_6 : decode cX6_rankOf 6 = .ok (.imul, 1) := by decide +kernel
theorem dX6_rankOf_7 : decode cX6_rankOf 7 = .ok (.iload_n 2, 1) := by decide +kernel
theorem dX6_rankOf_8 : decode cX6_rankOf 8 = .ok (.iadd, 1) := by decide +kernel
theorem dX6_rankOf_9 : decode cX6_rankOf 9 = .ok (.invokevirtual 68, 3) := by decide +kernel
theorem dX6_rankOf_12 : decode cX6_rankOf 12 = .ok (.lstore_n 3, 1) := by decide +kernel
theorem dX6_rankOf_13 : decode cX6_rankOf 13 = .ok (.iconst 0, 1) := by decide +kernel
theorem dX6_rankOf_14 : decode cX6_rankOf 14 = .ok (.istore 5, 2) := by decide +kernel
theorem dX6_rankOf_16 : decode cX6_rankOf 16 = .ok (.iconst 0, 1) := by decide +kernel
theorem dX6_rankOf_17 : decode cX6_rankOf 17 = .ok (.istore 6, 2) := by decide +kernel
theorem dX6_rankOf_19 : decode cX6_rankOf 19 = .ok (.iload 6, 2) := by decide +kernel
theorem dX6_rankOf_21 : decode cX6_rankOf 21 = .ok (.aload_n 0, 1) := by decide +kernel
theorem dX6_rankOf_22 : decode cX6_rankOf 22 = .ok (.getfield 26, 3) := by decide +kernel
theorem dX6_rankOf_25 : decode cX6_rankOf 25 = .ok (.if_icmp .ge 54, 3) := by decide +kernel
theorem dX6_rankOf_28 : decode cX6_rankOf 28 = .ok (.aload_n 0, 1) := by decide +kernel
theorem dX6_rankOf_29 : decode cX6_rankOf 29 = .ok (.getfield 23, 3) := by decide +kernel
theorem dX6_rankOf_32 : decode cX6_rankOf 32 = .ok (.iconst 4, 1) := by decide +kernel
theorem dX6_rankOf_33 : decode cX6_rankOf 33 = .ok (.iload 6, 2) := by decide +kernel
theorem dX6_rankOf_35 : decode cX6_rankOf 35 = .ok (.imul, 1) := by decide +kernel
theorem dX6_rankOf_36 : decode cX6_rankOf 36 = .ok (.iload_n 2, 1) := by decide +kernel
theorem dX6_rankOf_37 : decode cX6_rankOf 37 = .ok (.iadd, 1) := by decide +kernel
theorem dX6_rankOf_38 : decode cX6_rankOf 38 = .ok (.invokevirtual 68, 3) := by decide +kernel
theorem dX6_rankOf_41 : decode cX6_rankOf 41 = .ok (.lstore 7, 2) := by decide +kernel
theorem dX6_rankOf_43 : decode cX6_rankOf 43 = .ok (.iload 5, 2) := by decide +kernel
theorem dX6_rankOf_45 : decode cX6_rankOf 45 = .ok (.lload 7, 2) := by decide +kernel
theorem dX6_rankOf_47 : decode cX6_rankOf 47 = .ok (.lload_n 3, 1) := by decide +kernel
theorem dX6_rankOf_48 : decode cX6_rankOf 48 = .ok (.lcmp, 1) := by decide +kernel
theorem dX6_rankOf_49 : decode cX6_rankOf 49 = .ok (.ifCond .gt 16, 3) := by decide +kernel
theorem dX6_rankOf_52 : decode cX6_rankOf 52 = .ok (.lload 7, 2) := by decide +kernel
theorem dX6_rankOf_54 : decode cX6_rankOf 54 = .ok (.lload_n 3, 1) := by decide +kernel
theorem dX6_rankOf_55 : decode cX6_rankOf 55 = .ok (.lcmp, 1) := by decide +kernel
theorem dX6_rankOf_56 : decode cX6_rankOf 56 = .ok (.ifCond .ne 13, 3) := by decide +kernel
theorem dX6_rankOf_59 : decode cX6_rankOf 59 = .ok (.iload 6, 2) := by decide +kernel
theorem dX6_rankOf_61 : decode cX6_rankOf 61 = .ok (.iload_n 1, 1) := by decide +kernel
theorem dX6_rankOf_62 : decode cX6_rankOf 62 = .ok (.if_icmp .ge 7, 3) := by decide +kernel
theorem dX6_rankOf_65 : decode cX6_rankOf 65 = .ok (.iconst 1, 1) := by decide +kernel
theorem dX6_rankOf_66 : decode cX6_rankOf 66 = .ok (.goto 4, 3) := by decide +kernel
theorem dX6_rankOf_69 : decode cX6_rankOf 69 = .ok (.iconst 0, 1) := by decide +kernel
theorem dX6_rankOf_70 : decode cX6_rankOf 70 = .ok (.iadd, 1) := by decide +kernel
theorem dX6_rankOf_71 : decode cX6_rankOf 71 = .ok (.istore 5, 2) := by decide +kernel
theorem dX6_rankOf_73 : decode cX6_rankOf 73 = .ok (.iinc 6 1, 3) := by decide +kernel
theorem dX6_rankOf_76 : decode cX6_rankOf 76 = .ok (.goto (-57), 3) := by decide +kernel
theorem dX6_rankOf_79 : decode cX6_rankOf 79 = .ok (.iload 5, 2) := by decide +kernel
theorem dX6_rankOf_81 : decode cX6_rankOf 81 = .ok (.ireturn, 1) := by decide +kernel
set_option maxRecDepth 100000 in
theorem c_X6_rankOf (l : Launch) (D : q_D) (al : q_Al) (dt : q_Dt) (x0 : Nat) (x1 : Int32) (x2 : Int32) (kx0 : al.1 x0 = 7) (r0 : Int32) (hm : X6_rankOf al dt x0 x1 x2 = some r0) : q_Mt l yX6_rankOf cX6_rankOf 9 (some FieldType.int) 1 21 D al [.ref x0, .int x1, .int x2] dt 0 (some (.int r0)) dt := by
  refine q_Mt.of (by decide) (Nat.le_of_ble_eq_true rfl) ?_
  intro p e s m args below meth c ls C hargs hW hl
  have hx := C.1
  have hb := C.2.1
  have hown := C.2.2.2.2.2.1
  have hts := C.2.2.2.2.2.2.1
  have hS : va_S (q_A al) s.heap s.heap [] := va_S.rf
  have hl : lv_has ls 9 [(0, .ref x0), (1, .int x1), (2, .int x2)] := hl
  unfold X6_rankOf at hm
  have hB19 : ∀ (x0_19 : Nat) (x1_19 : Int32) (x2_19 : Int32) (x3_19 : Int64) (kx0_19 : al.1 x0_19 = 7) (n_19 : Nat) (x5_19 : Int32) (x6_19 : Int32) (H : Heap) (locs : List Loc) (ls : Array Slot) (hm : X6_rankOf_b19 al dt x0_19 x1_19 x2_19 x3_19 n_19 x5_19 x6_19 = some r0) (hW : q_W D al dt H) (hS : va_S (q_A al) s.heap H locs) (hl : lv_has ls 9 [(0, .ref x0_19), (1, .int x1_19), (2, .int x2_19), (3, .long x3_19), (5, .int x5_19), (6, .int x6_19)]), W p l e { frames := 1, cells := 0, slots := 0, locals := 21 } s m args below meth c H locs 0 0 (MQ below (q_Q (some (.int r0)) (fun H => q_W D al dt H ∧ q_Rk al 0 (some (.int r0))) (q_A al)) args s 0 0 (q_A al)) (F0 m 19 ls []) := by
    intro x0_19 x1_19 x2_19 x3_19 kx0_19
    intro n_19
    induction n_19 with
    | zero => intro x5_19 x6_19 H locs ls hm hW hS hl; cases hm
    | succ n_19 ih19 =>
      have hB70 : ∀ (x6_70 : Int32) (t0_70 : Int32) (t1_70 : Int32) (H : Heap) (locs : List Loc) (ls : Array Slot) (hm : X6_rankOf_b70 al dt (X6_rankOf_b19 al dt x0_19 x1_19 x2_19 x3_19 n_19) x0_19 x1_19 x2_19 x3_19 x6_70 t0_70 t1_70 = some r0) (hW : q_W D al dt H) (hS : va_S (q_A al) s.heap H locs) (hl : lv_has ls 9 [(0, .ref x0_19), (1, .int x1_19), (2, .int x2_19), (3, .long x3_19), (6, .int x6_70)]), W p l e { frames := 1, cells := 0, slots := 0, locals := 21 } s m args below meth c H locs 0 0 (MQ below (q_Q (some (.int r0)) (fun H => q_W D al dt H ∧ q_Rk al 0 (some (.int r0))) (q_A al)) args s 0 0 (q_A al)) (F0 m 70 ls [.int t1_70, .int t0_70]) := by
        intro x6_70 t0_70 t1_70 H locs ls hm hW hS hl
        unfold X6_rankOf_b70 at hm
        refine lv_iadd hx hb dX6_rankOf_70 ?_
        refine lv_istore (i := 5) (lv' := [(5, .int (t0_70 + t1_70)), (0, .ref x0_19), (1, .int x1_19), (2, .int x2_19), (3, .long x3_19), (6, .int x6_70)]) hx hb dX6_rankOf_71 hl (by decide) rfl (fun ls hl => ?_)
        refine lv_iinc (v := (x6_70 + 1)) (lv' := [(6, .int (x6_70 + 1)), (5, .int (t0_70 + t1_70)), (0, .ref x0_19), (1, .int x1_19), (2, .int x2_19), (3, .long x3_19)]) hx hb dX6_rankOf_73 hl (k := 5) rfl rfl (by decide) rfl (fun ls hl => ?_)
        refine lv_goto (tgt := 19) hx hb dX6_rankOf_76 (by decide) ?_
        exact ih19 (t0_70 + t1_70) (x6_70 + 1) _ _ _ hm hW hS (lv_sub hl [2, 3, 4, 5, 1, 0] rfl)
      have hB65 : ∀ (x6_65 : Int32) (t0_65 : Int32) (H : Heap) (locs : List Loc) (ls : Array Slot) (hm : X6_rankOf_b65 al dt (X6_rankOf_b19 al dt x0_19 x1_19 x2_19 x3_19 n_19) x0_19 x1_19 x2_19 x3_19 x6_65 t0_65 = some r0) (hW : q_W D al dt H) (hS : va_S (q_A al) s.heap H locs) (hl : lv_has ls 9 [(0, .ref x0_19), (1, .int x1_19), (2, .int x2_19), (3, .long x3_19), (6, .int x6_65)]), W p l e { frames := 1, cells := 0, slots := 0, locals := 21 } s m args below meth c H locs 0 0 (MQ below (q_Q (some (.int r0)) (fun H => q_W D al dt H ∧ q_Rk al 0 (some (.int r0))) (q_A al)) args s 0 0 (q_A al)) (F0 m 65 ls [.int t0_65]) := by
        intro x6_65 t0_65 H locs ls hm hW hS hl
        unfold X6_rankOf_b65 at hm
        refine lv_iconst (v := 1) hx hb dX6_rankOf_65 (by decide) ?_
        refine lv_goto (tgt := 70) hx hb dX6_rankOf_66 (by decide) ?_
        exact hB70 x6_65 t0_65 1 _ _ _ hm hW hS (lv_sub hl [0, 1, 2, 3, 4] rfl)
      have hB69 : ∀ (x6_69 : Int32) (t0_69 : Int32) (H : Heap) (locs : List Loc) (ls : Array Slot) (hm : X6_rankOf_b69 al dt (X6_rankOf_b19 al dt x0_19 x1_19 x2_19 x3_19 n_19) x0_19 x1_19 x2_19 x3_19 x6_69 t0_69 = some r0) (hW : q_W D al dt H) (hS : va_S (q_A al) s.heap H locs) (hl : lv_has ls 9 [(0, .ref x0_19), (1, .int x1_19), (2, .int x2_19), (3, .long x3_19), (6, .int x6_69)]), W p l e { frames := 1, cells := 0, slots := 0, locals := 21 } s m args below meth c H locs 0 0 (MQ below (q_Q (some (.int r0)) (fun H => q_W D al dt H ∧ q_Rk al 0 (some (.int r0))) (q_A al)) args s 0 0 (q_A al)) (F0 m 69 ls [.int t0_69]) := by
        intro x6_69 t0_69 H locs ls hm hW hS hl
        unfold X6_rankOf_b69 at hm
        refine lv_iconst (v := 0) hx hb dX6_rankOf_69 (by decide) ?_
        exact hB70 x6_69 t0_69 0 _ _ _ hm hW hS (lv_sub hl [0, 1, 2, 3, 4] rfl)
      intro x5_19 x6_19 H locs ls hm hW hS hl
      rw [X6_rankOf_b19] at hm
      refine lv_iload hx hb dX6_rankOf_19 (lv_at hl 5 rfl) ?_
      refine lv_aload_n hx hb dX6_rankOf_21 rfl (lv_at hl 0 rfl) ?_
      refine r_getI C hW (ci := 6) kx0_19 ff_6_3 cl_6 fl_RX6_26 dX6_rankOf_22 ?_
      refine q_ifc hm (fun c19001 hm => ?_) (fun c19001 hm => ?_)
      · refine lv_icmp_ge (tgt := 79) hx hb dX6_rankOf_25 (by decide) (fun _ => ?_) (fun h => absurd c19001 h)
        refine lv_iload hx hb dX6_rankOf_79 (lv_at hl 4 rfl) ?_
        exact e_i C hW hS hm dX6_rankOf_81
      refine lv_icmp_ge (tgt := 79) hx hb dX6_rankOf_25 (by decide) (fun h => absurd h c19001) (fun _ => ?_)
      refine lv_aload_n hx hb dX6_rankOf_28 rfl (lv_at hl 0 rfl) ?_
      refine r_getF C hW (ci := 6) kx0_19 ff_6_2 cl_6 fl_RX6_23 dX6_rankOf_29 (fun k19002 => ?_)
      refine lv_iconst (v := 4) hx hb dX6_rankOf_32 (by decide) ?_
      refine lv_iload hx hb dX6_rankOf_33 (lv_at hl 5 rfl) ?_
      refine lv_imul hx hb dX6_rankOf_35 ?_
      refine lv_iload_n hx hb dX6_rankOf_36 rfl (lv_at hl 2 rfl) ?_
      refine lv_iadd hx hb dX6_rankOf_37 ?_
      obtain ⟨v19004, hc19003, hm⟩ := q_b1i hm
      refine q_callV C hW hS (As := [.int ((4 * x6_19) + x2_19)]) (rest := []) (st1 := [.long v19004]) (c_X5_at l D al dt (al.2.2 x0_19 2) ((4 * x6_19) + x2_19) k19002 v19004 hc19003) yl_X5_at vl_X5_at ml_RX6_68 (ci := 5) rfl k19002 (by decide) rfl ⟨Nat.le_of_ble_eq_true rfl, Nat.le_of_ble_eq_true rfl⟩ hl rfl (Nat.le_of_ble_eq_true rfl) dX6_rankOf_38 ⟨Nat.le_refl _, Nat.le_refl _⟩ rfl (fun H locs k19005 hW hS => ?_)
      refine lv_lstore (i := 7) (lv' := [(7, .long v19004), (0, .ref x0_19), (1, .int x1_19), (2, .int x2_19), (3, .long x3_19), (5, .int x5_19), (6, .int x6_19)]) hx hb dX6_rankOf_41 hl (by decide) rfl (fun ls hl => ?_)
      refine lv_iload hx hb dX6_rankOf_43 (lv_at hl 5 rfl) ?_
      refine lv_lload hx hb dX6_rankOf_45 (lv_at hl 0 rfl) ?_
      refine lv_lload_n hx hb dX6_rankOf_47 rfl (lv_at hl 4 rfl) ?_
      refine W.lcmp hx hb dX6_rankOf_48 ?_
      refine q_ifc hm (fun c19006 hm => ?_) (fun c19006 hm => ?_)
      · refine lv_if_gt (tgt := 65) hx hb dX6_rankOf_49 (by decide) (fun _ => ?_) (fun h => absurd (q_cmp_gt.mpr c19006) h)
        exact hB65 x6_19 x5_19 _ _ _ hm hW hS (lv_sub hl [1, 2, 3, 4, 6] rfl)
      refine lv_if_gt (tgt := 65) hx hb dX6_rankOf_49 (by decide) (fun h => absurd (q_cmp_gt.mp h) c19006) (fun _ => ?_)
      refine lv_lload hx hb dX6_rankOf_52 (lv_at hl 0 rfl) ?_
      refine lv_lload_n hx hb dX6_rankOf_54 rfl (lv_at hl 4 rfl) ?_
      refine W.lcmp hx hb dX6_rankOf_55 ?_
      refine q_ifc hm (fun c19007 hm => ?_) (fun c19007 hm => ?_)
      · refine lv_if_ne (tgt := 69) hx hb dX6_rankOf_56 (by decide) (fun h => absurd (q_cmp_eq.mpr c19007) h) (fun _ => ?_)
        refine lv_iload hx hb dX6_rankOf_59 (lv_at hl 6 rfl) ?_
        refine lv_iload_n hx hb dX6_rankOf_61 rfl (lv_at hl 2 rfl) ?_
        refine q_ifc hm (fun c19008 hm => ?_) (fun c19008 hm => ?_)
        · refine lv_icmp_ge (tgt := 69) hx hb dX6_rankOf_62 (by decide) (fun _ => ?_) (fun h => absurd c19008 h)
          exact hB69 x6_19 x5_19 _ _ _ hm hW hS (lv_sub hl [1, 2, 3, 4, 6] rfl)
        refine lv_icmp_ge (tgt := 69) hx hb dX6_rankOf_62 (by decide) (fun h => absurd h c19008) (fun _ => ?_)
        exact hB65 x6_19 x5_19 _ _ _ hm hW hS (lv_sub hl [1, 2, 3, 4, 6] rfl)
      refine lv_if_ne (tgt := 69) hx hb dX6_rankOf_56 (by decide) (fun _ => ?_) (fun h => absurd (q_cmp_eq.mp h) c19007)
      exact hB69 x6_19 x5_19 _ _ _ hm hW hS (lv_sub hl [1, 2, 3, 4, 6] rfl)
  refine lv_aload_n hx hb dX6_rankOf_0 rfl (lv_at hl 0 rfl) ?_
  refine r_getF C hW (ci := 6) kx0 ff_6_2 cl_6 fl_RX6_23 dX6_rankOf_1 (fun k1000001 => ?_)
  refine lv_iconst (v := 4) hx hb dX6_rankOf_4 (by decide) ?_
  refine lv_iload_n hx hb dX6_rankOf_5 rfl (lv_at hl 1 rfl) ?_
  refine lv_imul hx hb dX6_rankOf_6 ?_
  refine lv_iload_n hx hb dX6_rankOf_7 rfl (lv_at hl 2 rfl) ?_
  refine lv_iadd hx hb dX6_rankOf_8 ?_
  obtain ⟨v1000003, hc1000002, hm⟩ := q_b1i hm
  refine q_callV C hW hS (As := [.int ((4 * x1) + x2)]) (rest := []) (st1 := [.long v1000003]) (c_X5_at l D al dt (al.2.2 x0 2) ((4 * x1) + x2) k1000001 v1000003 hc1000002) yl_X5_at vl_X5_at ml_RX6_68 (ci := 5) rfl k1000001 (by decide) rfl ⟨Nat.le_of_ble_eq_true rfl, Nat.le_of_ble_eq_true rfl⟩ hl rfl (Nat.le_of_ble_eq_true rfl) dX6_rankOf_9 ⟨Nat.le_refl _, Nat.le_refl _⟩ rfl (fun H locs k1000004 hW hS => ?_)
  refine lv_lstore_n (i := 3) (lv' := [(3, .long v1000003), (0, .ref x0), (1, .int x1), (2, .int x2)]) hx hb dX6_rankOf_12 rfl hl (by decide) rfl (fun ls hl => ?_)
  refine lv_iconst (v := 0) hx hb dX6_rankOf_13 (by decide) ?_
  refine lv_istore (i := 5) (lv' := [(5, .int 0), (3, .long v1000003), (0, .ref x0), (1, .int x1), (2, .int x2)]) hx hb dX6_rankOf_14 hl (by decide) rfl (fun ls hl => ?_)
  refine lv_iconst (v := 0) hx hb dX6_rankOf_16 (by decide) ?_
  refine lv_istore (i := 6) (lv' := [(6, .int 0), (5, .int 0), (3, .long v1000003), (0, .ref x0), (1, .int x1), (2, .int x2)]) hx hb dX6_rankOf_17 hl (by decide) rfl (fun ls hl => ?_)
  exact hB19 x0 x1 x2 v1000003 kx0 q_FU 0 0 _ _ _ hm hW hS (lv_sub hl [3, 4, 5, 2, 1, 0] rfl)
