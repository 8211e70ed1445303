theorem dX11_worstHits_0 : decode cX11_worstHits 0 = .ok (.aload_n 0, 1) := by decide +kernel
theorem dX11_worstHits_1 : decode cX11_worstHits 1 = .ok (.getfield 51, 3) := by decide +kernel
theorem dX11_worstHits_4 : decode cX11_worstHits 4 = .ok (.iload_n 1, 1) := by decide +kernel
theorem dX11_worstHits_5 : decode cX11_worstHits 5 = .ok (.invokevirtual 317, 3) := by decide +kernel
theorem dX11_worstHits_8 : decode cX11_worstHits 8 = .ok (.astore_n 3, 1) := by decide +kernel
theorem dX11_worstHits_9 : decode cX11_worstHits 9 = .ok (.aload_n 0, 1) := by decide +kernel
theorem dX11_worstHits_10 : decode cX11_worstHits 10 = .ok (.getfield 51, 3) := by decide +kernel
theorem dX11_worstHits_13 : decode cX11_worstHits 13 = .ok (.iload_n 2, 1) := by decide +kernel
theorem dX11_worstHits_14 : decode cX11_worstHits 14 = .ok (.invokevirtual 317, 3) := by decide +kernel
theorem dX11_worstHits_17 : decode cX11_worstHits 17 = .ok (.astore 4, 2) := by decide +kernel
theorem dX11_worstHits_19 : decode cX11_worstHits 19 = .ok (.aload_n 3, 1) := by decide +kernel
theorem dX11_worstHits_20 : decode cX11_worstHits 20 = .ok (.aload 4, 2) := by decide +kernel
theorem dX11_worstHits_22 : decode cX11_worstHits 22 = .ok (.invokestatic 326, 3) := by decide +kernel
theorem dX11_worstHits_25 : decode cX11_worstHits 25 = .ok (.ifCond .ne 5, 3) := by decide +kernel
theorem dX11_worstHits_28 : decode cX11_worstHits 28 = .ok (.iconst (-1), 1) := by decide +kernel
theorem dX11_worstHits_29 : decode cX11_worstHits 29 = .ok (.ireturn, 1) := by decide +kernel
theorem dX11_worstHits_30 : decode cX11_worstHits 30 = .ok (.iconst 0, 1) := by decide +kernel
theorem dX11_worstHits_31 : decode cX11_worstHits 31 = .ok (.istore 5, 2) := by decide +kernel
theorem dX11_worstHits_33 : decode cX11_worstHits 33 = .ok (.iload_n 1, 1) := by decide +kernel
theorem dX11_worstHits_34 : decode cX11_worstHits 34 = .ok (.iload_n 2, 1) := by decide +kernel
theorem dX11_worstHits_35 : decode cX11_worstHits 35 = .ok (.if_icmp .ne 7, 3) := by decide +kernel
theorem dX11_worstHits_38 : decode cX11_worstHits 38 = .ok (.iconst 1, 1) := by decide +kernel
theorem dX11_worstHits_39 : decode cX11_worstHits 39 = .ok (.goto 4, 3) := by decide +kernel
theorem dX11_worstHits_42 : decode cX11_worstHits 42 = .ok (.iconst 0, 1) := by decide +kernel
theorem dX11_worstHits_43 : decode cX11_worstHits 43 = .ok (.istore 6, 2) := by decide +kernel
theorem dX11_worstHits_45 : decode cX11_worstHits 45 = .ok (.iload 6, 2) := by decide +kernel
theorem dX11_worstHits_47 : decode cX11_worstHits 47 = .ok (.aload_n 3, 1) := by decide +kernel
theorem dX11_worstHits_48 : decode cX11_worstHits 48 = .ok (.getfield 330, 3) := by decide +kernel
theorem dX11_worstHits_51 : decode cX11_worstHits 51 = .ok (.if_icmp .ge 24, 3) := by decide +kernel
theorem dX11_worstHits_54 : decode cX11_worstHits 54 = .ok (.iload 5, 2) := by decide +kernel
theorem dX11_worstHits_56 : decode cX11_worstHits 56 = .ok (.aload_n 3, 1) := by decide +kernel
theorem dX11_worstHits_57 : decode cX11_worstHits 57 = .ok (.aload 4, 2) := by decide +kernel
theorem dX11_worstHits_59 : decode cX11_worstHits 59 = .ok (.iload 6, 2) := by decide +kernel
theorem dX11_worstHits_61 : decode cX11_worstHits 61 = .ok (.invokevirtual 333, 3) := by decide +kernel
theorem dX11_worstHits_64 : decode cX11_worstHits 64 = .ok (.invokestatic 337, 3) := by decide +kernel
theorem dX11_worstHits_67 : decode cX11_worstHits 67 = .ok (.istore 5, 2) := by decide +kernel
theorem dX11_worstHits_69 : decode cX11_worstHits 69 = .ok (.iinc 6 1, 3) := by decide +kernel
theorem dX11_worstHits_72 : decode cX11_worstHits 72 = .ok (.goto (-27), 3) := by decide +kernel
theorem dX11_worstHits_75 : decode cX11_worstHits 75 = .ok (.iload 5, 2) := by decide +kernel
theorem dX11_worstHits_77 : decode cX11_worstHits 77 = .ok (.ireturn, 1) := by decide +kernel
set_option maxRecDepth 100000 in
theorem c_X11_worstHits (l : Launch) (D : q_D) (al : q_Al) (dt : q_Dt) (x0 : Nat) (x1 : Int32) (x2 : Int32) (kx0 : al.1 x0 = 12) (r0 : Int32) (hm : X11_worstHits al dt x0 x1 x2 = some r0) : q_Mt l yX11_worstHits cX11_worstHits 7 (some FieldType.int) 3 71 D al [.ref x0, .int x1, .int x2] dt 0 (some (.int r0)) dt := by
  refine q_Mt.of (by decide) (Nat.le_of_ble_eq_true rfl) ?_
  intro p e s m args below meth c ls C hargs hW hl
  have hx := C.1
  have hb := C.2.1
  have hown := C.2.2.2.2.2.1
  have hts := C.2.2.2.2.2.2.1
  have hS : va_S (q_A al) s.heap s.heap [] := va_S.rf
  have hl : lv_has ls 7 [(0, .ref x0), (1, .int x1), (2, .int x2)] := hl
  unfold X11_worstHits at hm
  have hB45 : ∀ (x3_45 : Option Nat) (x4_45 : Option Nat) (kx3_45 : ∀ b, x3_45 = some b → al.1 b = 2) (kx4_45 : ∀ b, x4_45 = some b → al.1 b = 2) (n_45 : Nat) (x5_45 : Int32) (x6_45 : Int32) (H : Heap) (locs : List Loc) (ls : Array Slot) (hm : X11_worstHits_b45 al dt x3_45 x4_45 n_45 x5_45 x6_45 = some r0) (hW : q_W D al dt H) (hS : va_S (q_A al) s.heap H locs) (hl : lv_has ls 7 [(3, va_rf x3_45), (4, va_rf x4_45), (5, .int x5_45), (6, .int x6_45)]), W p l e { frames := 3, cells := 0, slots := 0, locals := 71 } s m args below meth c H locs 0 0 (MQ below (q_Q (some (.int r0)) (fun H => q_W D al dt H ∧ q_Rk al 0 (some (.int r0))) (q_A al)) args s 0 0 (q_A al)) (F0 m 45 ls []) := by
    intro x3_45 x4_45 kx3_45 kx4_45
    intro n_45
    induction n_45 with
    | zero => intro x5_45 x6_45 H locs ls hm hW hS hl; cases hm
    | succ n_45 ih45 =>
      intro x5_45 x6_45 H locs ls hm hW hS hl
      rw [X11_worstHits_b45] at hm
      refine lv_iload hx hb dX11_worstHits_45 (lv_at hl 3 rfl) ?_
      refine q_aloadQ_n C dX11_worstHits_47 rfl (lv_at hl 0 rfl) ?_
      obtain ⟨b45001, e45002, hq45003⟩ := q_mi hm
      subst e45002
      have hm := hq45003
      have k45004 := kx3_45 b45001 rfl
      refine r_getI C hW (ci := 1) k45004 ff_1_0 cl_1 fl_RX11_330 dX11_worstHits_48 ?_
      refine q_ifc hm (fun c45005 hm => ?_) (fun c45005 hm => ?_)
      · refine lv_icmp_ge (tgt := 75) hx hb dX11_worstHits_51 (by decide) (fun _ => ?_) (fun h => absurd c45005 h)
        refine lv_iload hx hb dX11_worstHits_75 (lv_at hl 2 rfl) ?_
        exact e_i C hW hS hm dX11_worstHits_77
      refine lv_icmp_ge (tgt := 75) hx hb dX11_worstHits_51 (by decide) (fun h => absurd h c45005) (fun _ => ?_)
      refine lv_iload hx hb dX11_worstHits_54 (lv_at hl 2 rfl) ?_
      refine lv_aload_n hx hb dX11_worstHits_56 rfl (lv_at hl 0 rfl) ?_
      refine q_aloadQ C dX11_worstHits_57 (lv_at hl 1 rfl) ?_
      refine lv_iload hx hb dX11_worstHits_59 (lv_at hl 3 rfl) ?_
      obtain ⟨v45007, hc45006, hm⟩ := q_b1i hm
      refine q_callV C hW hS (As := [va_rf x4_45, .int x6_45]) (rest := [.int x5_45]) (st1 := [.int v45007, .int x5_45]) (c_X1_meets l D al dt b45001 x4_45 x6_45 k45004 kx4_45 v45007 hc45006) yl_X1_meets vl_X1_meets ml_RX11_333 (ci := 1) rfl k45004 (by decide) rfl ⟨Nat.le_of_ble_eq_true rfl, Nat.le_of_ble_eq_true rfl⟩ hl rfl (Nat.le_of_ble_eq_true rfl) dX11_worstHits_61 ⟨Nat.le_refl _, Nat.le_refl _⟩ rfl (fun H locs k45008 hW hS => ?_)
      refine q_mmax C hl wm_RX11_337 wms_max wmi wmc_max (Nat.le_of_ble_eq_true rfl) (Nat.le_of_ble_eq_true rfl) ⟨Nat.le_refl _, Nat.le_refl _⟩ dX11_worstHits_64 ?_
      refine lv_istore (i := 5) (lv' := [(5, .int (q_max x5_45 v45007)), (3, .ref b45001), (4, va_rf x4_45), (6, .int x6_45)]) hx hb dX11_worstHits_67 hl (by decide) (by simp [q_cat, q_catR, q_catI, q_catL] <;> rfl) (fun ls hl => ?_)
      refine lv_iinc (v := (x6_45 + 1)) (lv' := [(6, .int (x6_45 + 1)), (5, .int (q_max x5_45 v45007)), (3, .ref b45001), (4, va_rf x4_45)]) hx hb dX11_worstHits_69 hl (k := 3) rfl rfl (by decide) rfl (fun ls hl => ?_)
      refine lv_goto (tgt := 45) hx hb dX11_worstHits_72 (by decide) ?_
      exact ih45 (q_max x5_45 v45007) (x6_45 + 1) _ _ _ hm hW hS (lv_sub hl [2, 3, 1, 0] rfl)
  have hB43 : ∀ (x3_43 : Option Nat) (x4_43 : Option Nat) (x5_43 : Int32) (t0_43 : Int32) (kx3_43 : ∀ b, x3_43 = some b → al.1 b = 2) (kx4_43 : ∀ b, x4_43 = some b → al.1 b = 2) (H : Heap) (locs : List Loc) (ls : Array Slot) (hm : X11_worstHits_b43 al dt x3_43 x4_43 x5_43 t0_43 = some r0) (hW : q_W D al dt H) (hS : va_S (q_A al) s.heap H locs) (hl : lv_has ls 7 [(3, va_rf x3_43), (4, va_rf x4_43), (5, .int x5_43)]), W p l e { frames := 3, cells := 0, slots := 0, locals := 71 } s m args below meth c H locs 0 0 (MQ below (q_Q (some (.int r0)) (fun H => q_W D al dt H ∧ q_Rk al 0 (some (.int r0))) (q_A al)) args s 0 0 (q_A al)) (F0 m 43 ls [.int t0_43]) := by
    intro x3_43 x4_43 x5_43 t0_43 kx3_43 kx4_43 H locs ls hm hW hS hl
    unfold X11_worstHits_b43 at hm
    refine lv_istore (i := 6) (lv' := [(6, .int t0_43), (3, va_rf x3_43), (4, va_rf x4_43), (5, .int x5_43)]) hx hb dX11_worstHits_43 hl (by decide) rfl (fun ls hl => ?_)
    exact hB45 x3_43 x4_43 kx3_43 kx4_43 q_FU x5_43 t0_43 _ _ _ hm hW hS (lv_sub hl [1, 2, 3, 0] rfl)
  refine lv_aload_n hx hb dX11_worstHits_0 rfl (lv_at hl 0 rfl) ?_
  refine r_getQ C hW hm (ci := 11) kx0 ff_11_6 cl_11 fl_RX11_51 dX11_worstHits_1 (fun o1000001 eo1000001 k1000002 hm => ?_)
  refine lv_iload_n hx hb dX11_worstHits_4 rfl (lv_at hl 1 rfl) ?_
  obtain ⟨b1000003, e1000004, hq1000005⟩ := q_mi hm
  subst e1000004
  have hm := hq1000005
  have k1000006 := k1000002 b1000003 rfl
  obtain ⟨v1000008, hc1000007, hm⟩ := q_b1i hm
  refine q_callV C hW hS (As := [.int x1]) (rest := []) (st1 := [va_rf v1000008]) (c_X10_hopAt l D al dt b1000003 x1 k1000006 v1000008 hc1000007) yl_X10_hopAt vl_X10_hopAt ml_RX11_317 (ci := 10) rfl k1000006 (by decide) rfl ⟨Nat.le_of_ble_eq_true rfl, Nat.le_of_ble_eq_true rfl⟩ hl rfl (Nat.le_of_ble_eq_true rfl) dX11_worstHits_5 ⟨Nat.le_refl _, Nat.le_refl _⟩ rfl (fun H locs k1000009 hW hS => ?_)
  have k1000009 := q_rk k1000009 (by decide)
  refine q_astoreQ_n (i := 3) (lv' := [(3, va_rf v1000008), (0, .ref x0), (1, .int x1), (2, .int x2)]) C dX11_worstHits_8 rfl hl (by decide) rfl (fun ls hl => ?_)
  refine lv_aload_n hx hb dX11_worstHits_9 rfl (lv_at hl 1 rfl) ?_
  refine r_getQ C hW hm (ci := 11) kx0 ff_11_6 cl_11 fl_RX11_51 dX11_worstHits_10 (fun o1000010 eo1000010 k1000011 hm => ?_)
  refine lv_iload_n hx hb dX11_worstHits_13 rfl (lv_at hl 3 rfl) ?_
  obtain ⟨b1000012, e1000013, hq1000014⟩ := q_mi hm
  subst e1000013
  have hm := hq1000014
  have k1000015 := k1000011 b1000012 rfl
  obtain ⟨v1000017, hc1000016, hm⟩ := q_b1i hm
  refine q_callV C hW hS (As := [.int x2]) (rest := []) (st1 := [va_rf v1000017]) (c_X10_hopAt l D al dt b1000012 x2 k1000015 v1000017 hc1000016) yl_X10_hopAt vl_X10_hopAt ml_RX11_317 (ci := 10) rfl k1000015 (by decide) rfl ⟨Nat.le_of_ble_eq_true rfl, Nat.le_of_ble_eq_true rfl⟩ hl rfl (Nat.le_of_ble_eq_true rfl) dX11_worstHits_14 ⟨Nat.le_refl _, Nat.le_refl _⟩ rfl (fun H locs k1000018 hW hS => ?_)
  have k1000018 := q_rk k1000018 (by decide)
  refine q_astoreQ (i := 4) (lv' := [(4, va_rf v1000017), (3, va_rf v1000008), (0, .ref x0), (1, .int x1), (2, .int x2)]) C dX11_worstHits_17 hl (by decide) (by simp [q_cat, q_catR, q_catI, q_catL] <;> rfl) (fun ls hl => ?_)
  refine q_aloadQ_n C dX11_worstHits_19 rfl (lv_at hl 1 rfl) ?_
  refine q_aloadQ C dX11_worstHits_20 (lv_at hl 0 rfl) ?_
  obtain ⟨v1000020, hc1000019, hm⟩ := q_b1i hm
  refine q_callS C hW hS (As := [va_rf v1000008, va_rf v1000017]) (rest := []) (st1 := [.int v1000020]) (c_X11_likePrimed l D al dt v1000008 v1000017 k1000009 k1000018 v1000020 hc1000019) yl_X11_likePrimed sl_X11_likePrimed ml_RX11_326 rfl ⟨Nat.le_of_ble_eq_true rfl, Nat.le_of_ble_eq_true rfl⟩ hl rfl (Nat.le_of_ble_eq_true rfl) dX11_worstHits_22 ⟨Nat.le_refl _, Nat.le_refl _⟩ rfl (fun H locs k1000021 hW hS => ?_)
  refine q_ifc hm (fun c1000022 hm => ?_) (fun c1000022 hm => ?_)
  · refine lv_if_ne (tgt := 30) hx hb dX11_worstHits_25 (by decide) (fun h => absurd c1000022 h) (fun _ => ?_)
    refine lv_iconst (v := (-1)) hx hb dX11_worstHits_28 (by decide) ?_
    exact e_i C hW hS hm dX11_worstHits_29
  refine lv_if_ne (tgt := 30) hx hb dX11_worstHits_25 (by decide) (fun _ => ?_) (fun h => absurd h c1000022)
  refine lv_iconst (v := 0) hx hb dX11_worstHits_30 (by decide) ?_
  refine lv_istore (i := 5) (lv' := [(5, .int 0), (4, va_rf v1000017), (3, va_rf v1000008), (0, .ref x0), (1, .int x1), (2, .int x2)]) hx hb dX11_worstHits_31 hl (by decide) (by simp [q_cat, q_catR, q_catI, q_catL] <;> rfl) (fun ls hl => ?_)
  refine lv_iload_n hx hb dX11_worstHits_33 rfl (lv_at hl 4 rfl) ?_
  refine lv_iload_n hx hb dX11_worstHits_34 rfl (lv_at hl 5 rfl) ?_
  refine q_ifc hm (fun c1000023 hm => ?_) (fun c1000023 hm => ?_)
  · refine lv_icmp_ne (tgt := 42) hx hb dX11_worstHits_35 (by decide) (fun h => absurd c1000023 h) (fun _ => ?_)
    refine lv_iconst (v := 1) hx hb dX11_worstHits_38 (by decide) ?_
    refine lv_goto (tgt := 43) hx hb dX11_worstHits_39 (by decide) ?_
    exact hB43 v1000008 v1000017 0 1 k1000009 k1000018 _ _ _ hm hW hS (lv_sub hl [2, 1, 0] rfl)
  refine lv_icmp_ne (tgt := 42) hx hb dX11_worstHits_35 (by decide) (fun _ => ?_) (fun h => absurd h c1000023)
  refine lv_iconst (v := 0) hx hb dX11_worstHits_42 (by decide) ?_
  exact hB43 v1000008 v1000017 0 0 k1000009 k1000018 _ _ _ hm hW hS (lv_sub hl [2, 1, 0] rfl)
theorem dX11_crowded_0 : decode cX11_crowded 0 = .ok (.iload_n 2, 1) := by decide +kernel
theorem dX11_crowded_1 : decode cX11_crowded 1 = .ok (.ifCond .lt 19, 3) := by decide +kernel
theorem dX11_crowded_4 : decode cX11_crowded 4 = .ok (.iload_n 3, 1) := by decide +kernel
theorem dX11_crowded_5 : decode cX11_crowded 5 = .ok (.iload_n 2, 1) := by decide +kernel
theorem dX11_crowded_6 : decode cX11_crowded 6 = .ok (.if_icmp .lt 14, 3) := by decide +kernel
theorem dX11_crowded_9 : decode cX11_crowded 9 = .ok (.iload_n 3, 1) := by decide +kernel
theorem dX11_crowded_10 : decode cX11_crowded 10 = .ok (.sipush 999, 3) := by decide +kernel
theorem dX11_crowded_13 : decode cX11_crowded 13 = .ok (.if_icmp .gt 7, 3) := by decide +kernel
theorem dX11_crowded_16 : decode cX11_crowded 16 = .ok (.iconst 1, 1) := by decide +kernel
theorem dX11_crowded_17 : decode cX11_crowded 17 = .ok (.goto 4, 3) := by decide +kernel
theorem dX11_crowded_20 : decode cX11_crowded 20 = .ok (.iconst 0, 1) := by decide +kernel
theorem dX11_crowded_21 : decode cX11_crowded 21 = .ok (.istore 4, 2) := by decide +kernel
theorem dX11_crowded_23 : decode cX11_crowded 23 = .ok (.iload 4, 2) := by decide +kernel
theorem dX11_crowded_25 : decode cX11_crowded 25 = .ok (.ifCond .eq 20, 3) := by decide +kernel
theorem dX11_crowded_28 : decode cX11_crowded 28 = .ok (.iload_n 1, 1) := by decide +kernel
theorem dX11_crowded_29 : decode cX11_crowded 29 = .ok (.ifCond .lt 16, 3) := by decide +kernel
theorem dX11_crowded_32 : decode cX11_crowded 32 = .ok (.iload_n 1, 1) := by decide +kernel
theorem dX11_crowded_33 : decode cX11_crowded 33 = .ok (.iconst 1, 1) := by decide +kernel
theorem dX11_crowded_34 : decode cX11_crowded 34 = .ok (.aload_n 0, 1) := by decide +kernel
theorem dX11_crowded_35 : decode cX11_crowded 35 = .ok (.getfield 51, 3) := by decide +kernel
theorem dX11_crowded_38 : decode cX11_crowded 38 = .ok (.getfield 342, 3) := by decide +kernel
theorem dX11_crowded_41 : decode cX11_crowded 41 = .ok (.ishl, 1) := by decide +kernel
theorem dX11_crowded_42 : decode cX11_crowded 42 = .ok (.if_icmp .lt 5, 3) := by decide +kernel
theorem dX11_crowded_45 : decode cX11_crowded 45 = .ok (.iconst (-1), 1) := by decide +kernel
theorem dX11_crowded_46 : decode cX11_crowded 46 = .ok (.ireturn, 1) := by decide +kernel
theorem dX11_crowded_47 : decode cX11_crowded 47 = .ok (.iconst 0, 1) := by decide +kernel
theorem dX11_crowded_48 : decode cX11_crowded 48 = .ok (.istore 5, 2) := by decide +kernel
theorem dX11_crowded_50 : decode cX11_crowded 50 = .ok (.iload_n 2, 1) := by decide +kernel
theorem dX11_crowded_51 : decode cX11_crowded 51 = .ok (.istore 6, 2) := by decide +kernel
theorem dX11_crowded_53 : decode cX11_crowded 53 = .ok (.iload 6, 2) := by decide +kernel
theorem dX11_crowded_55 : decode cX11_crowded 55 = .ok (.iload_n 3, 1) := by decide +kernel
theorem dX11_crowded_56 : decode cX11_crowded 56 = .ok (.if_icmp .gt 25, 3) := by decide +kernel
theorem dX11_crowded_59 : decode cX11_crowded 59 = .ok (.aload_n 0, 1) := by decide +kernel
theorem dX11_crowded_60 : decode cX11_crowded 60 = .ok (.getfield 51, 3) := by decide +kernel
theorem dX11_crowded_63 : decode cX11_crowded 63 = .ok (.iload_n 1, 1) := by decide +kernel
theorem dX11_crowded_64 : decode cX11_crowded 64 = .ok (.iload 6, 2) := by decide +kernel
theorem dX11_crowded_66 : decode cX11_crowded 66 = .ok (.invokevirtual 345, 3) := by decide +kernel
theorem dX11_crowded_69 : decode cX11_crowded 69 = .ok (.ifCond .eq 6, 3) := by decide +kernel
theorem dX11_crowded_72 : decode cX11_crowded 72 = .ok (.iinc 5 1, 3) := by decide +kernel
theorem dX11_crowded_75 : decode cX11_crowded 75 = .ok (.iinc 6 1, 3) := by decide +kernel
theorem dX11_crowded_78 : decode cX11_crowded 78 = .ok (.goto (-25), 3) := by decide +kernel
theorem dX11_crowded_81 : decode cX11_crowded 81 = .ok (.iload 5, 2) := by decide +kernel
theorem dX11_crowded_83 : decode cX11_crowded 83 = .ok (.ireturn, 1) := by decide +kernel
set_option maxRecDepth 100000 in
theorem c_X11_crowded (l : Launch) (D : q_D) (al : q_Al) (dt : q_Dt) (x0 : Nat) (x1 : Int32) (x2 : Int32) (x3 : Int32) (kx0 : al.1 x0 = 12) (r0 : Int32) (hm : X11_crowded al dt x0 x1 x2 x3 = some r0) : q_Mt l yX11_crowded cX11_crowded 7 (some FieldType.int) 3 73 D al [.ref x0, .int x1, .int x2, .int x3] dt 0 (some (.int r0)) dt := by
  refine q_Mt.of (by decide) (Nat.le_of_ble_eq_true rfl) ?_
  intro p e s m args below meth c ls C hargs hW hl
  have hx := C.1
  have hb := C.2.1
  have hown := C.2.2.2.2.2.1
  have hts := C.2.2.2.2.2.2.1
  have hS : va_S (q_A al) s.heap s.heap [] := va_S.rf
  have hl : lv_has ls 7 [(0, .ref x0), (1, .int x1), (2, .int x2), (3, .int x3)] := hl
  unfold X11_crowded at hm
  have hB53 : ∀ (x0_53 : Nat) (x1_53 : Int32) (x3_53 : Int32) (kx0_53 : al.1 x0_53 = 12) (n_53 : Nat) (x5_53 : Int32) (x6_53 : Int32) (H : Heap) (locs : List Loc) (ls : Array Slot) (hm : X11_crowded_b53 al dt x0_53 x1_53 x3_53 n_53 x5_53 x6_53 = some r0) (hW : q_W D al dt H) (hS : va_S (q_A al) s.heap H locs) (hl : lv_has ls 7 [(0, .ref x0_53), (1, .int x1_53), (3, .int x3_53), (5, .int x5_53), (6, .int x6_53)]), W p l e { frames := 3, cells := 0, slots := 0, locals := 73 } s m args below meth c H locs 0 0 (MQ below (q_Q (some (.int r0)) (fun H => q_W D al dt H ∧ q_Rk al 0 (some (.int r0))) (q_A al)) args s 0 0 (q_A al)) (F0 m 53 ls []) := by
    intro x0_53 x1_53 x3_53 kx0_53
    intro n_53
    induction n_53 with
    | zero => intro x5_53 x6_53 H locs ls hm hW hS hl; cases hm
    | succ n_53 ih53 =>
      have hB75 : ∀ (x5_75 : Int32) (x6_75 : Int32) (H : Heap) (locs : List Loc) (ls : Array Slot) (hm : X11_crowded_b75 al dt (X11_crowded_b53 al dt x0_53 x1_53 x3_53 n_53) x0_53 x1_53 x3_53 x5_75 x6_75 = some r0) (hW : q_W D al dt H) (hS : va_S (q_A al) s.heap H locs) (hl : lv_has ls 7 [(0, .ref x0_53), (1, .int x1_53), (3, .int x3_53), (5, .int x5_75), (6, .int x6_75)]), W p l e { frames := 3, cells := 0, slots := 0, locals := 73 } s m args below meth c H locs 0 0 (MQ below (q_Q (some (.int r0)) (fun H => q_W D al dt H ∧ q_Rk al 0 (some (.int r0))) (q_A al)) args s 0 0 (q_A al)) (F0 m 75 ls []) := by
        intro x5_75 x6_75 H locs ls hm hW hS hl
        unfold X11_crowded_b75 at hm
        refine lv_iinc (v := (x6_75 + 1)) (lv' := [(6, .int (x6_75 + 1)), (0, .ref x0_53), (1, .int x1_53), (3, .int x3_53), (5, .int x5_75)]) hx hb dX11_crowded_75 hl (k := 4) rfl rfl (by decide) rfl (fun ls hl => ?_)
        refine lv_goto (tgt := 53) hx hb dX11_crowded_78 (by decide) ?_
        exact ih53 x5_75 (x6_75 + 1) _ _ _ hm hW hS (lv_sub hl [1, 2, 3, 4, 0] rfl)
      intro x5_53 x6_53 H locs ls hm hW hS hl
      rw [X11_crowded_b53] at hm
      refine lv_iload hx hb dX11_crowded_53 (lv_at hl 4 rfl) ?_
      refine lv_iload_n hx hb dX11_crowded_55 rfl (lv_at hl 2 rfl) ?_
      refine q_ifc hm (fun c53001 hm => ?_) (fun c53001 hm => ?_)
      · refine lv_icmp_gt (tgt := 81) hx hb dX11_crowded_56 (by decide) (fun _ => ?_) (fun h => absurd c53001 h)
        refine lv_iload hx hb dX11_crowded_81 (lv_at hl 3 rfl) ?_
        exact e_i C hW hS hm dX11_crowded_83
      refine lv_icmp_gt (tgt := 81) hx hb dX11_crowded_56 (by decide) (fun h => absurd h c53001) (fun _ => ?_)
      refine lv_aload_n hx hb dX11_crowded_59 rfl (lv_at hl 0 rfl) ?_
      refine r_getQ C hW hm (ci := 11) kx0_53 ff_11_6 cl_11 fl_RX11_51 dX11_crowded_60 (fun o53002 eo53002 k53003 hm => ?_)
      refine lv_iload_n hx hb dX11_crowded_63 rfl (lv_at hl 1 rfl) ?_
      refine lv_iload hx hb dX11_crowded_64 (lv_at hl 4 rfl) ?_
      obtain ⟨b53004, e53005, hq53006⟩ := q_mi hm
      subst e53005
      have hm := hq53006
      have k53007 := k53003 b53004 rfl
      obtain ⟨v53009, hc53008, hm⟩ := q_b1i hm
      refine q_callV C hW hS (As := [.int x1_53, .int x6_53]) (rest := []) (st1 := [.int v53009]) (c_X10_isCrowded l D al dt b53004 x1_53 x6_53 k53007 v53009 hc53008) yl_X10_isCrowded vl_X10_isCrowded ml_RX11_345 (ci := 10) rfl k53007 (by decide) rfl ⟨Nat.le_of_ble_eq_true rfl, Nat.le_of_ble_eq_true rfl⟩ hl rfl (Nat.le_of_ble_eq_true rfl) dX11_crowded_66 ⟨Nat.le_refl _, Nat.le_refl _⟩ rfl (fun H locs k53010 hW hS => ?_)
      refine q_ifc hm (fun c53011 hm => ?_) (fun c53011 hm => ?_)
      · refine lv_if_eq (tgt := 75) hx hb dX11_crowded_69 (by decide) (fun _ => ?_) (fun h => absurd c53011 h)
        exact hB75 x5_53 x6_53 _ _ _ hm hW hS (lv_sub hl [0, 1, 2, 3, 4] rfl)
      refine lv_if_eq (tgt := 75) hx hb dX11_crowded_69 (by decide) (fun h => absurd h c53011) (fun _ => ?_)
      refine lv_iinc (v := (x5_53 + 1)) (lv' := [(5, .int (x5_53 + 1)), (0, .ref x0_53), (1, .int x1_53), (3, .int x3_53), (6, .int x6_53)]) hx hb dX11_crowded_72 hl (k := 3) rfl rfl (by decide) rfl (fun ls hl => ?_)
      exact hB75 (x5_53 + 1) x6_53 _ _ _ hm hW hS (lv_sub hl [1, 2, 3, 0, 4] rfl)
  have hB21 : ∀ (x0_21 : Nat) (x1_21 : Int32) (x2_21 : Int32) (x3_21 : Int32) (t0_21 : Int32) (kx0_21 : al.1 x0_21 = 12) (H : Heap) (locs : List Loc) (ls : Array Slot) (hm : X11_crowded_b21 al dt x0_21 x1_21 x2_21 x3_21 t0_21 = some r0) (hW : q_W D al dt H) (hS : va_S (q_A al) s.heap H locs) (hl : lv_has ls 7 [(0, .ref x0_21), (1, .int x1_21), (2, .int x2_21), (3, .int x3_21)]), W p l e { frames := 3, cells := 0, slots := 0, locals := 73 } s m args below meth c H locs 0 0 (MQ below (q_Q (some (.int r0)) (fun H => q_W D al dt H ∧ q_Rk al 0 (some (.int r0))) (q_A al)) args s 0 0 (q_A al)) (F0 m 21 ls [.int t0_21]) := by
    intro x0_21 x1_21 x2_21 x3_21 t0_21 kx0_21 H locs ls hm hW hS hl
    unfold X11_crowded_b21 at hm
    refine lv_istore (i := 4) (lv' := [(4, .int t0_21), (0, .ref x0_21), (1, .int x1_21), (2, .int x2_21), (3, .int x3_21)]) hx hb dX11_crowded_21 hl (by decide) rfl (fun ls hl => ?_)
    refine lv_iload hx hb dX11_crowded_23 (lv_at hl 0 rfl) ?_
    refine q_ifc hm (fun c21001 hm => ?_) (fun c21001 hm => ?_)
    · refine lv_if_eq (tgt := 45) hx hb dX11_crowded_25 (by decide) (fun _ => ?_) (fun h => absurd c21001 h)
      refine lv_iconst (v := (-1)) hx hb dX11_crowded_45 (by decide) ?_
      exact e_i C hW hS hm dX11_crowded_46
    refine lv_if_eq (tgt := 45) hx hb dX11_crowded_25 (by decide) (fun h => absurd h c21001) (fun _ => ?_)
    refine lv_iload_n hx hb dX11_crowded_28 rfl (lv_at hl 2 rfl) ?_
    refine q_ifc hm (fun c21002 hm => ?_) (fun c21002 hm => ?_)
    · refine lv_if_lt (tgt := 45) hx hb dX11_crowded_29 (by decide) (fun _ => ?_) (fun h => absurd c21002 h)
      refine lv_iconst (v := (-1)) hx hb dX11_crowded_45 (by decide) ?_
      exact e_i C hW hS hm dX11_crowded_46
    refine lv_if_lt (tgt := 45) hx hb dX11_crowded_29 (by decide) (fun h => absurd h c21002) (fun _ => ?_)
    refine lv_iload_n hx hb dX11_crowded_32 rfl (lv_at hl 2 rfl) ?_
    refine lv_iconst (v := 1) hx hb dX11_crowded_33 (by decide) ?_
    refine lv_aload_n hx hb dX11_crowded_34 rfl (lv_at hl 1 rfl) ?_
    refine r_getQ C hW hm (ci := 11) kx0_21 ff_11_6 cl_11 fl_RX11_51 dX11_crowded_35 (fun o21003 eo21003 k21004 hm => ?_)
    obtain ⟨b21005, e21006, hq21007⟩ := q_mi hm
    subst e21006
    have hm := hq21007
    have k21008 := k21004 b21005 rfl
    refine r_getI C hW (ci := 10) k21008 ff_10_8 cl_10 fl_RX11_342 dX11_crowded_38 ?_
    refine lv_ishl hx hb dX11_crowded_41 ?_
    refine q_ifc hm (fun c21009 hm => ?_) (fun c21009 hm => ?_)
    · refine lv_icmp_lt (tgt := 47) hx hb dX11_crowded_42 (by decide) (fun _ => ?_) (fun h => absurd c21009 h)
      refine lv_iconst (v := 0) hx hb dX11_crowded_47 (by decide) ?_
      refine lv_istore (i := 5) (lv' := [(5, .int 0), (4, .int t0_21), (0, .ref x0_21), (1, .int x1_21), (2, .int x2_21), (3, .int x3_21)]) hx hb dX11_crowded_48 hl (by decide) rfl (fun ls hl => ?_)
      refine lv_iload_n hx hb dX11_crowded_50 rfl (lv_at hl 4 rfl) ?_
      refine lv_istore (i := 6) (lv' := [(6, .int x2_21), (5, .int 0), (4, .int t0_21), (0, .ref x0_21), (1, .int x1_21), (2, .int x2_21), (3, .int x3_21)]) hx hb dX11_crowded_51 hl (by decide) rfl (fun ls hl => ?_)
      exact hB53 x0_21 x1_21 x3_21 kx0_21 q_FU 0 x2_21 _ _ _ hm hW hS (lv_sub hl [3, 4, 6, 1, 0] rfl)
    refine lv_icmp_lt (tgt := 47) hx hb dX11_crowded_42 (by decide) (fun h => absurd h c21009) (fun _ => ?_)
    refine lv_iconst (v := (-1)) hx hb dX11_crowded_45 (by decide) ?_
    exact e_i C hW hS hm dX11_crowded_46
  have hB20 : ∀ (x0_20 : Nat) (x1_20 : Int32) (x2_20 : Int32) (x3_20 : Int32) (kx0_20 : al.1 x0_20 = 12) (H : Heap) (locs : List Loc) (ls : Array Slot) (hm : X11_crowded_b20 al dt x0_20 x1_20 x2_20 x3_20 = some r0) (hW : q_W D al dt H) (hS : va_S (q_A al) s.heap H locs) (hl : lv_has ls 7 [(0, .ref x0_20), (1, .int x1_20), (2, .int x2_20), (3, .int x3_20)]), W p l e { frames := 3, cells := 0, slots := 0, locals := 73 } s m args below meth c H locs 0 0 (MQ below (q_Q (some (.int r0)) (fun H => q_W D al dt H ∧ q_Rk al 0 (some (.int r0))) (q_A al)) args s 0 0 (q_A al)) (F0 m 20 ls []) := by
    intro x0_20 x1_20 x2_20 x3_20 kx0_20 H locs ls hm hW hS hl
    unfold X11_crowded_b20 at hm
    refine lv_iconst (v := 0) hx hb dX11_crowded_20 (by decide) ?_
    exact hB21 x0_20 x1_20 x2_20 x3_20 0 kx0_20 _ _ _ hm hW hS (lv_sub hl [0, 1, 2, 3] rfl)
  refine lv_iload_n hx hb dX11_crowded_0 rfl (lv_at hl 2 rfl) ?_
  refine q_ifc hm (fun c1000001 hm => ?_) (fun c1000001 hm => ?_)
  · refine lv_if_lt (tgt := 20) hx hb dX11_crowded_1 (by decide) (fun _ => ?_) (fun h => absurd c1000001 h)
    exact hB20 x0 x1 x2 x3 kx0 _ _ _ hm hW hS (lv_sub hl [0, 1, 2, 3] rfl)
  refine lv_if_lt (tgt := 20) hx hb dX11_crowded_1 (by decide) (fun h => absurd h c1000001) (fun _ => ?_)
  refine lv_iload_n hx hb dX11_crowded_4 rfl (lv_at hl 3 rfl) ?_
  refine lv_iload_n hx hb dX11_crowded_5 rfl (lv_at hl 2 rfl) ?_
  refine q_ifc hm (fun c1000002 hm => ?_) (fun c1000002 hm => ?_)
  · refine lv_icmp_lt (tgt := 20) hx hb dX11_crowded_6 (by decide) (fun _ => ?_) (fun h => absurd c1000002 h)
    exact hB20 x0 x1 x2 x3 kx0 _ _ _ hm hW hS (lv_sub hl [0, 1, 2, 3] rfl)
  refine lv_icmp_lt (tgt := 20) hx hb dX11_crowded_6 (by decide) (fun h => absurd h c1000002) (fun _ => ?_)
  refine lv_iload_n hx hb dX11_crowded_9 rfl (lv_at hl 3 rfl) ?_
  refine lv_sipush (v := 999) hx hb dX11_crowded_10 (by decide) ?_
  refine q_ifc hm (fun c1000003 hm => ?_) (fun c1000003 hm => ?_)
  · refine lv_icmp_gt (tgt := 20) hx hb dX11_crowded_13 (by decide) (fun _ => ?_) (fun h => absurd c1000003 h)
    exact hB20 x0 x1 x2 x3 kx0 _ _ _ hm hW hS (lv_sub hl [0, 1, 2, 3] rfl)
  refine lv_icmp_gt (tgt := 20) hx hb dX11_crowded_13 (by decide) (fun h => absurd h c1000003) (fun _ => ?_)
  refine lv_iconst (v := 1) hx hb dX11_crowded_16 (by decide) ?_
  refine lv_goto (tgt := 21) hx hb dX11_crowded_17 (by decide) ?_
  exact hB21 x0 x1 x2 x3 1 kx0 _ _ _ hm hW hS (lv_sub hl [0, 1, 2, 3] rfl)
theorem dX11_jammed_0 : decode cX11_jammed 0 = .ok (.aload_n 0, 1) := by decide +kernel
theorem dX11_jammed_1 : decode cX11_jammed 1 = .ok (.getfield 51, 3) := by decide +kernel
theorem dX11_jammed_4 : decode cX11_jammed 4 = .ok (.iload_n 1, 1) := by decide +kernel
theorem dX11_jammed_5 : decode cX11_jammed 5 = .ok (.invokevirtual 317, 3) := by decide +kernel
theorem dX11_jammed_8 : decode cX11_jammed 8 = .ok (.astore_n 3, 1) := by decide +kernel
theorem dX11_jammed_9 : decode cX11_jammed 9 = .ok (.aload_n 3, 1) := by decide +kernel
theorem dX11_jammed_10 : decode cX11_jammed 10 = .ok (.ifnonnull 7, 3) := by decide +kernel
theorem dX11_jammed_13 : decode cX11_jammed 13 = .ok (.iconst (-1), 1) := by decide +kernel
theorem dX11_jammed_14 : decode cX11_jammed 14 = .ok (.goto 8, 3) := by decide +kernel
theorem dX11_jammed_17 : decode cX11_jammed 17 = .ok (.aload_n 3, 1) := by decide +kernel
theorem dX11_jammed_18 : decode cX11_jammed 18 = .ok (.iload_n 2, 1) := by decide +kernel
theorem dX11_jammed_19 : decode cX11_jammed 19 = .ok (.invokevirtual 348, 3) := by decide +kernel
theorem dX11_jammed_22 : decode cX11_jammed 22 = .ok (.ireturn, 1) := by decide +kernel
set_option maxRecDepth 100000 in
theorem c_X11_jammed (l : Launch) (D : q_D) (al : q_Al) (dt : q_Dt) (x0 : Nat) (x1 : Int32) (x2 : Int32) (kx0 : al.1 x0 = 12) (r0 : Int32) (hm : X11_jammed al dt x0 x1 x2 = some r0) : q_Mt l yX11_jammed cX11_jammed 4 (some FieldType.int) 3 70 D al [.ref x0, .int x1, .int x2] dt 0 (some (.int r0)) dt := by
  refine q_Mt.of (by decide) (Nat.le_of_ble_eq_true rfl) ?_
  intro p e s m args below meth c ls C hargs hW hl
  have hx := C.1
  have hb := C.2.1
  have hown := C.2.2.2.2.2.1
  have hts := C.2.2.2.2.2.2.1
  have hS : va_S (q_A al) s.heap s.heap [] := va_S.rf
  have hl : lv_has ls 4 [(0, .ref x0), (1, .int x1), (2, .int x2)] := hl
  unfold X11_jammed at hm
  refine lv_aload_n hx hb dX11_jammed_0 rfl (lv_at hl 0 rfl) ?_
  refine r_getQ C hW hm (ci := 11) kx0 ff_11_6 cl_11 fl_RX11_51 dX11_jammed_1 (fun o1000001 eo1000001 k1000002 hm => ?_)
  refine lv_iload_n hx hb dX11_jammed_4 rfl (lv_at hl 1 rfl) ?_
  obtain ⟨b1000003, e1000004, hq1000005⟩ := q_mi hm
  subst e1000004
  have hm := hq1000005
  have k1000006 := k1000002 b1000003 rfl
  obtain ⟨v1000008, hc1000007, hm⟩ := q_b1i hm
  refine q_callV C hW hS (As := [.int x1]) (rest := []) (st1 := [va_rf v1000008]) (c_X10_hopAt l D al dt b1000003 x1 k1000006 v1000008 hc1000007) yl_X10_hopAt vl_X10_hopAt ml_RX11_317 (ci := 10) rfl k1000006 (by decide) rfl ⟨Nat.le_of_ble_eq_true rfl, Nat.le_of_ble_eq_true rfl⟩ hl rfl (Nat.le_of_ble_eq_true rfl) dX11_jammed_5 ⟨Nat.le_refl _, Nat.le_refl _⟩ rfl (fun H locs k1000009 hW hS => ?_)
  have k1000009 := q_rk k1000009 (by decide)
  refine q_astoreQ_n (i := 3) (lv' := [(3, va_rf v1000008), (0, .ref x0), (1, .int x1), (2, .int x2)]) C dX11_jammed_8 rfl hl (by decide) rfl (fun ls hl => ?_)
  refine q_aloadQ_n C dX11_jammed_9 rfl (lv_at hl 0 rfl) ?_
  refine q_ifnonnull C hm (tgt := 17) dX11_jammed_10 (by decide) (fun e1000012 hq1000013 => ?_) (fun b1000010 e1000012 hq1000013 => ?_)
  · subst e1000012
    have hm := hq1000013
    refine lv_iconst (v := (-1)) hx hb dX11_jammed_13 (by decide) ?_
    refine lv_goto (tgt := 22) hx hb dX11_jammed_14 (by decide) ?_
    exact e_i C hW hS hm dX11_jammed_22
  subst e1000012
  have hm := hq1000013
  have k1000011 := k1000009 b1000010 rfl
  refine lv_aload_n hx hb dX11_jammed_17 rfl (lv_at hl 0 rfl) ?_
  refine lv_iload_n hx hb dX11_jammed_18 rfl (lv_at hl 3 rfl) ?_
  obtain ⟨v1000015, hc1000014, hm⟩ := q_b1i hm
  refine q_callV C hW hS (As := [.int x2]) (rest := []) (st1 := [.int v1000015]) (c_X1_slotsIn l D al dt b1000010 x2 k1000011 v1000015 hc1000014) yl_X1_slotsIn vl_X1_slotsIn ml_RX11_348 (ci := 1) rfl k1000011 (by decide) rfl ⟨Nat.le_of_ble_eq_true rfl, Nat.le_of_ble_eq_true rfl⟩ hl rfl (Nat.le_of_ble_eq_true rfl) dX11_jammed_19 ⟨Nat.le_refl _, Nat.le_refl _⟩ rfl (fun H locs k1000016 hW hS => ?_)
  exact e_i C hW hS hm dX11_jammed_22
theorem dX11_strongest_0 : decode cX11_strongest 0 = .ok (.aload_n 0, 1) := by decide +kernel
theorem dX11_strongest_1 : decode cX11_strongest 1 = .ok (.getfield 51, 3) := by decide +kernel
theorem dX11_strongest_4 : decode cX11_strongest 4 = .ok (.iload_n 1, 1) := by decide +kernel
theorem dX11_strongest_5 : decode cX11_strongest 5 = .ok (.invokevirtual 317, 3) := by decide +kernel
theorem dX11_strongest_8 : decode cX11_strongest 8 = .ok (.astore_n 3, 1) := by decide +kernel
theorem dX11_strongest_9 : decode cX11_strongest 9 = .ok (.aload_n 3, 1) := by decide +kernel
theorem dX11_strongest_10 : decode cX11_strongest 10 = .ok (.ifnull 15, 3) := by decide +kernel
theorem dX11_strongest_13 : decode cX11_strongest 13 = .ok (.iload_n 2, 1) := by decide +kernel
theorem dX11_strongest_14 : decode cX11_strongest 14 = .ok (.ifCond .lt 11, 3) := by decide +kernel
theorem dX11_strongest_17 : decode cX11_strongest 17 = .ok (.iload_n 2, 1) := by decide +kernel
theorem dX11_strongest_18 : decode cX11_strongest 18 = .ok (.aload_n 3, 1) := by decide +kernel
theorem dX11_strongest_19 : decode cX11_strongest 19 = .ok (.getfield 330, 3) := by decide +kernel
theorem dX11_strongest_22 : decode cX11_strongest 22 = .ok (.if_icmp .le 7, 3) := by decide +kernel
theorem dX11_strongest_25 : decode cX11_strongest 25 = .ok (.iconst (-1), 1) := by decide +kernel
theorem dX11_strongest_26 : decode cX11_strongest 26 = .ok (.goto 8, 3) := by decide +kernel
theorem dX11_strongest_29 : decode cX11_strongest 29 = .ok (.aload_n 3, 1) := by decide +kernel
theorem dX11_strongest_30 : decode cX11_strongest 30 = .ok (.iload_n 2, 1) := by decide +kernel
theorem dX11_strongest_31 : decode cX11_strongest 31 = .ok (.invokevirtual 351, 3) := by decide +kernel
theorem dX11_strongest_34 : decode cX11_strongest 34 = .ok (.ireturn, 1) := by decide +kernel
set_option maxRecDepth 100000 in
theorem c_X11_strongest (l : Launch) (D : q_D) (al : q_Al) (dt : q_Dt) (x0 : Nat) (x1 : Int32) (x2 : Int32) (kx0 : al.1 x0 = 12) (r0 : Int32) (hm : X11_strongest al dt x0 x1 x2 = some r0) : q_Mt l yX11_strongest cX11_strongest 4 (some FieldType.int) 5 118 D al [.ref x0, .int x1, .int x2] dt 0 (some (.int r0)) dt := by
  refine q_Mt.of (by decide) (Nat.le_of_ble_eq_true rfl) ?_
  intro p e s m args below meth c ls C hargs hW hl
  have hx := C.1
  have hb := C.2.1
  have hown := C.2.2.2.2.2.1
  have hts := C.2.2.2.2.2.2.1
  have hS : va_S (q_A al) s.heap s.heap [] := va_S.rf
  have hl : lv_has ls 4 [(0, .ref x0), (1, .int x1), (2, .int x2)] := hl
  unfold X11_strongest at hm
  have hB25 : ∀ (H : Heap) (locs : List Loc) (ls : Array Slot) (hm : X11_strongest_b25 al dt = some r0) (hW : q_W D al dt H) (hS : va_S (q_A al) s.heap H locs) (hl : lv_has ls 4 []), W p l e { frames := 5, cells := 0, slots := 0, locals := 118 } s m args below meth c H locs 0 0 (MQ below (q_Q (some (.int r0)) (fun H => q_W D al dt H ∧ q_Rk al 0 (some (.int r0))) (q_A al)) args s 0 0 (q_A al)) (F0 m 25 ls []) := by
    intro H locs ls hm hW hS hl
    unfold X11_strongest_b25 at hm
    refine lv_iconst (v := (-1)) hx hb dX11_strongest_25 (by decide) ?_
    refine lv_goto (tgt := 34) hx hb dX11_strongest_26 (by decide) ?_
    exact e_i C hW hS hm dX11_strongest_34
  refine lv_aload_n hx hb dX11_strongest_0 rfl (lv_at hl 0 rfl) ?_
  refine r_getQ C hW hm (ci := 11) kx0 ff_11_6 cl_11 fl_RX11_51 dX11_strongest_1 (fun o1000001 eo1000001 k1000002 hm => ?_)
  refine lv_iload_n hx hb dX11_strongest_4 rfl (lv_at hl 1 rfl) ?_
  obtain ⟨b1000003, e1000004, hq1000005⟩ := q_mi hm
  subst e1000004
  have hm := hq1000005
  have k1000006 := k1000002 b1000003 rfl
  obtain ⟨v1000008, hc1000007, hm⟩ := q_b1i hm
  refine q_callV C hW hS (As := [.int x1]) (rest := []) (st1 := [va_rf v1000008]) (c_X10_hopAt l D al dt b1000003 x1 k1000006 v1000008 hc1000007) yl_X10_hopAt vl_X10_hopAt ml_RX11_317 (ci := 10) rfl k1000006 (by decide) rfl ⟨Nat.le_of_ble_eq_true rfl, Nat.le_of_ble_eq_true rfl⟩ hl rfl (Nat.le_of_ble_eq_true rfl) dX11_strongest_5 ⟨Nat.le_refl _, Nat.le_refl _⟩ rfl (fun H locs k1000009 hW hS => ?_)
  have k1000009 := q_rk k1000009 (by decide)
  refine q_astoreQ_n (i := 3) (lv' := [(3, va_rf v1000008), (0, .ref x0), (1, .int x1), (2, .int x2)]) C dX11_strongest_8 rfl hl (by decide) rfl (fun ls hl => ?_)
  refine q_aloadQ_n C dX11_strongest_9 rfl (lv_at hl 0 rfl) ?_
  refine q_ifnull C hm (tgt := 25) dX11_strongest_10 (by decide) (fun e1000012 hq1000013 => ?_) (fun b1000010 e1000012 hq1000013 => ?_)
  · subst e1000012
    have hm := hq1000013
    exact hB25 _ _ _ hm hW hS (lv_sub hl [] rfl)
  subst e1000012
  have hm := hq1000013
  have k1000011 := k1000009 b1000010 rfl
  refine lv_iload_n hx hb dX11_strongest_13 rfl (lv_at hl 3 rfl) ?_
  refine q_ifc hm (fun c1000014 hm => ?_) (fun c1000014 hm => ?_)
  · refine lv_if_lt (tgt := 25) hx hb dX11_strongest_14 (by decide) (fun _ => ?_) (fun h => absurd c1000014 h)
    exact hB25 _ _ _ hm hW hS (lv_sub hl [] rfl)
  refine lv_if_lt (tgt := 25) hx hb dX11_strongest_14 (by decide) (fun h => absurd h c1000014) (fun _ => ?_)
  refine lv_iload_n hx hb dX11_strongest_17 rfl (lv_at hl 3 rfl) ?_
  refine lv_aload_n hx hb dX11_strongest_18 rfl (lv_at hl 0 rfl) ?_
  refine r_getI C hW (ci := 1) k1000011 ff_1_0 cl_1 fl_RX11_330 dX11_strongest_19 ?_
  refine q_ifc hm (fun c1000015 hm => ?_) (fun c1000015 hm => ?_)
  · refine lv_icmp_le (tgt := 29) hx hb dX11_strongest_22 (by decide) (fun _ => ?_) (fun h => absurd c1000015 h)
    refine lv_aload_n hx hb dX11_strongest_29 rfl (lv_at hl 0 rfl) ?_
    refine lv_iload_n hx hb dX11_strongest_30 rfl (lv_at hl 3 rfl) ?_
    obtain ⟨v1000017, hc1000016, hm⟩ := q_b1i hm
    refine q_callV C hW hS (As := [.int x2]) (rest := []) (st1 := [.int v1000017]) (c_X1_strongestChannels l D al dt b1000010 x2 k1000011 v1000017 hc1000016) yl_X1_strongestChannels vl_X1_strongestChannels ml_RX11_351 (ci := 1) rfl k1000011 (by decide) rfl ⟨Nat.le_of_ble_eq_true rfl, Nat.le_of_ble_eq_true rfl⟩ hl rfl (Nat.le_of_ble_eq_true rfl) dX11_strongest_31 ⟨Nat.le_refl _, Nat.le_refl _⟩ rfl (fun H locs k1000018 hW hS => ?_)
    exact e_i C hW hS hm dX11_strongest_34
  refine lv_icmp_le (tgt := 29) hx hb dX11_strongest_22 (by decide) (fun h => absurd h c1000015) (fun _ => ?_)
  exact hB25 _ _ _ hm hW hS (lv_sub hl [] rfl)
theorem dX11_slotAt_0 : decode cX11_slotAt 0 = .ok (.iload_n 1, 1) := by decide +kernel
theorem dX11_slotAt_1 : decode cX11_slotAt 1 = .ok (.ifCond .lt 21, 3) := by decide +kernel
theorem dX11_slotAt_4 : decode cX11_slotAt 4 = .ok (.iload_n 1, 1) := by decide +kernel
theorem dX11_slotAt_5 : decode cX11_slotAt 5 = .ok (.aload_n 0, 1) := by decide +kernel
theorem dX11_slotAt_6 : decode cX11_slotAt 6 = .ok (.getfield 23, 3) := by decide +kernel
theorem dX11_slotAt_9 : decode cX11_slotAt 9 = .ok (.arraylength, 1) := by decide +kernel
theorem dX11_slotAt_10 : decode cX11_slotAt 10 = .ok (.if_icmp .ge 12, 3) := by decide +kernel
theorem dX11_slotAt_13 : decode cX11_slotAt 13 = .ok (.aload_n 0, 1) := by decide +kernel
theorem dX11_slotAt_14 : decode cX11_slotAt 14 = .ok (.getfield 23, 3) := by decide +kernel
theorem dX11_slotAt_17 : decode cX11_slotAt 17 = .ok (.iload_n 1, 1) := by decide +kernel
theorem dX11_slotAt_18 : decode cX11_slotAt 18 = .ok (.aaload, 1) := by decide +kernel
theorem dX11_slotAt_19 : decode cX11_slotAt 19 = .ok (.goto 4, 3) := by decide +kernel
theorem dX11_slotAt_22 : decode cX11_slotAt 22 = .ok (.aconst_null, 1) := by decide +kernel
theorem dX11_slotAt_23 : decode cX11_slotAt 23 = .ok (.areturn, 1) := by decide +kernel
set_option maxRecDepth 100000 in
theorem c_X11_slotAt (l : Launch) (D : q_D) (al : q_Al) (dt : q_Dt) (x0 : Nat) (x1 : Int32) (kx0 : al.1 x0 = 12) (r0 : Option Nat) (hm : X11_slotAt al dt x0 x1 = some r0) : q_Mt l yX11_slotAt cX11_slotAt 2 (some (FieldType.object "SpreadRows$Signal")) 0 0 D al [.ref x0, .int x1] dt 9 (some (va_rf r0)) dt := by
  refine q_Mt.of (by decide) (Nat.le_of_ble_eq_true rfl) ?_
  intro p e s m args below meth c ls C hargs hW hl
  have hx := C.1
  have hb := C.2.1
  have hown := C.2.2.2.2.2.1
  have hts := C.2.2.2.2.2.2.1
  have hS : va_S (q_A al) s.heap s.heap [] := va_S.rf
  have hl : lv_has ls 2 [(0, .ref x0), (1, .int x1)] := hl
  unfold X11_slotAt at hm
  refine lv_iload_n hx hb dX11_slotAt_0 rfl (lv_at hl 1 rfl) ?_
  refine q_ifc hm (fun c1000001 hm => ?_) (fun c1000001 hm => ?_)
  · refine lv_if_lt (tgt := 22) hx hb dX11_slotAt_1 (by decide) (fun _ => ?_) (fun h => absurd c1000001 h)
    refine q_null C dX11_slotAt_22 ?_
    exact e_a C hW hS (v := none) hm (Or.inr q_kn) dX11_slotAt_23
  refine lv_if_lt (tgt := 22) hx hb dX11_slotAt_1 (by decide) (fun h => absurd h c1000001) (fun _ => ?_)
  refine lv_iload_n hx hb dX11_slotAt_4 rfl (lv_at hl 1 rfl) ?_
  refine lv_aload_n hx hb dX11_slotAt_5 rfl (lv_at hl 0 rfl) ?_
  refine r_getF C hW (ci := 11) kx0 ff_11_2 cl_11 fl_RX11_23 dX11_slotAt_6 (fun k1000002 => ?_)
  refine q_alenR C hW (ci := 8) (t0 := 8) k1000002 (by decide) rfl dX11_slotAt_9 ?_
  refine q_ifc hm (fun c1000003 hm => ?_) (fun c1000003 hm => ?_)
  · refine lv_icmp_ge (tgt := 22) hx hb dX11_slotAt_10 (by decide) (fun _ => ?_) (fun h => absurd c1000003 h)
    refine q_null C dX11_slotAt_22 ?_
    exact e_a C hW hS (v := none) hm (Or.inr q_kn) dX11_slotAt_23
  refine lv_icmp_ge (tgt := 22) hx hb dX11_slotAt_10 (by decide) (fun h => absurd h c1000003) (fun _ => ?_)
  refine lv_aload_n hx hb dX11_slotAt_13 rfl (lv_at hl 0 rfl) ?_
  refine r_getF C hW (ci := 11) kx0 ff_11_2 cl_11 fl_RX11_23 dX11_slotAt_14 (fun k1000004 => ?_)
  refine lv_iload_n hx hb dX11_slotAt_17 rfl (lv_at hl 1 rfl) ?_
  refine r_aald C hW hm (ci := 8) (t0 := 8) k1000004 (by decide) rfl dX11_slotAt_18 (fun k1000005 hm => ?_)
  refine lv_goto (tgt := 23) hx hb dX11_slotAt_19 (by decide) ?_
  exact e_a C hW hS (v := (some (al.2.2 (al.2.2 x0 2) (Int32.toNatClampNeg x1)))) hm (Or.inr (q_ks k1000005)) dX11_slotAt_23
theorem dX11_hold_0 : decode cX11_hold 0 = .ok (.aload_n 0, 1) := by decide +kernel
theorem dX11_hold_1 : decode cX11_hold 1 = .ok (.iload_n 1, 1) := by decide +kernel
theorem dX11_hold_2 : decode cX11_hold 2 = .ok (.invokevirtual 354, 3) := by decide +kernel
theorem dX11_hold_5 : decode cX11_hold 5 = .ok (.astore_n 2, 1) := by decide +kernel
theorem dX11_hold_6 : decode cX11_hold 6 = .ok (.aload_n 2, 1) := by decide +kernel
theorem dX11_hold_7 : decode cX11_hold 7 = .ok (.ifnonnull 5, 3) := by decide +kernel
theorem dX11_hold_10 : decode cX11_hold 10 = .ok (.iconst 0, 1) := by decide +kernel
theorem dX11_hold_11 : decode cX11_hold 11 = .ok (.ireturn, 1) := by decide +kernel
theorem dX11_hold_12 : decode cX11_hold 12 = .ok (.aload_n 2, 1) := by decide +kernel
theorem dX11_hold_13 : decode cX11_hold 13 = .ok (.aload_n 0, 1) := by decide +kernel
theorem dX11_hold_14 : decode cX11_hold 14 = .ok (.getfield 19, 3) := by decide +kernel
theorem dX11_hold_17 : decode cX11_hold 17 = .ok (.invokevirtual 358, 3) := by decide +kernel
theorem dX11_hold_20 : decode cX11_hold 20 = .ok (.aload_n 0, 1) := by decide +kernel
theorem dX11_hold_21 : decode cX11_hold 21 = .ok (.dup, 1) := by decide +kernel
theorem dX11_hold_22 : decode cX11_hold 22 = .ok (.getfield 62, 3) := by decide +kernel
theorem dX11_hold_25 : decode cX11_hold 25 = .ok (.iconst 1, 1) := by decide +kernel
theorem dX11_hold_26 : decode cX11_hold 26 = .ok (.iload_n 1, 1) := by decide +kernel
theorem dX11_hold_27 : decode cX11_hold 27 = .ok (.ishl, 1) := by decide +kernel
theorem dX11_hold_28 : decode cX11_hold 28 = .ok (.ior, 1) := by decide +kernel
theorem dX11_hold_29 : decode cX11_hold 29 = .ok (.putfield 62, 3) := by decide +kernel
theorem dX11_hold_32 : decode cX11_hold 32 = .ok (.iconst 1, 1) := by decide +kernel
theorem dX11_hold_33 : decode cX11_hold 33 = .ok (.ireturn, 1) := by decide +kernel
set_option maxRecDepth 100000 in
theorem c_X11_hold (l : Launch) (D : q_D) (al : q_Al) (dt : q_Dt) (x0 : Nat) (x1 : Int32) (kx0 : al.1 x0 = 12) (r0 : Int32) (dt0 : q_Dt) (hm : X11_hold al dt x0 x1 = some (r0, dt0)) : q_Mt l yX11_hold cX11_hold 3 (some FieldType.boolean) 3 64 D al [.ref x0, .int x1] dt 0 (some (.int r0)) dt0 := by
  refine q_Mt.of (by decide) (Nat.le_of_ble_eq_true rfl) ?_
  intro p e s m args below meth c ls C hargs hW hl
  have hx := C.1
  have hb := C.2.1
  have hown := C.2.2.2.2.2.1
  have hts := C.2.2.2.2.2.2.1
  have hS : va_S (q_A al) s.heap s.heap [] := va_S.rf
  have hl : lv_has ls 3 [(0, .ref x0), (1, .int x1)] := hl
  unfold X11_hold at hm
  refine lv_aload_n hx hb dX11_hold_0 rfl (lv_at hl 0 rfl) ?_
  refine lv_iload_n hx hb dX11_hold_1 rfl (lv_at hl 1 rfl) ?_
  obtain ⟨v1000002, hc1000001, hm⟩ := q_b1i hm
  refine q_callV C hW hS (As := [.int x1]) (rest := []) (st1 := [va_rf v1000002]) (c_X11_slotAt l D al dt x0 x1 kx0 v1000002 hc1000001) yl_X11_slotAt vl_X11_slotAt ml_RX11_354 (ci := 11) rfl kx0 (by decide) rfl ⟨Nat.le_of_ble_eq_true rfl, Nat.le_of_ble_eq_true rfl⟩ hl rfl (Nat.le_of_ble_eq_true rfl) dX11_hold_2 ⟨Nat.le_refl _, Nat.le_refl _⟩ rfl (fun H locs k1000003 hW hS => ?_)
  have k1000003 := q_rk k1000003 (by decide)
  refine q_astoreQ_n (i := 2) (lv' := [(2, va_rf v1000002), (0, .ref x0), (1, .int x1)]) C dX11_hold_5 rfl hl (by decide) rfl (fun ls hl => ?_)
  refine q_aloadQ_n C dX11_hold_6 rfl (lv_at hl 0 rfl) ?_
  refine q_ifnonnull C hm (tgt := 12) dX11_hold_7 (by decide) (fun e1000006 hq1000007 => ?_) (fun b1000004 e1000006 hq1000007 => ?_)
  · subst e1000006
    have hm := hq1000007
    refine lv_iconst (v := 0) hx hb dX11_hold_10 (by decide) ?_
    exact e_zlD C hW hS (Or.inl rfl) hm dX11_hold_11
  subst e1000006
  have hm := hq1000007
  have k1000005 := k1000003 b1000004 rfl
  refine lv_aload_n hx hb dX11_hold_12 rfl (lv_at hl 0 rfl) ?_
  refine lv_aload_n hx hb dX11_hold_13 rfl (lv_at hl 1 rfl) ?_
  refine r_getF C hW (ci := 11) kx0 ff_11_1 cl_11 fl_RX11_19 dX11_hold_14 (fun k1000008 => ?_)
  obtain ⟨dt1000010, hc1000009, hm⟩ := q_b1i hm
  refine q_callV C hW hS (As := [.ref (al.2.2 x0 1)]) (rest := []) (st1 := []) (c_X8_takeOver l D al dt b1000004 (al.2.2 x0 1) k1000005 k1000008 dt1000010 hc1000009) yl_X8_takeOver vl_X8_takeOver ml_RX11_358 (ci := 8) rfl k1000005 (by decide) rfl ⟨Nat.le_of_ble_eq_true rfl, Nat.le_of_ble_eq_true rfl⟩ hl rfl (Nat.le_of_ble_eq_true rfl) dX11_hold_17 ⟨Nat.le_refl _, Nat.le_refl _⟩ rfl (fun H locs k1000011 hW hS => ?_)
  refine lv_aload_n hx hb dX11_hold_20 rfl (lv_at hl 1 rfl) ?_
  refine lv_dup hx hb dX11_hold_21 rfl ?_
  refine r_getI C hW (ci := 11) kx0 ff_11_9 cl_11 fl_RX11_62 dX11_hold_22 ?_
  refine lv_iconst (v := 1) hx hb dX11_hold_25 (by decide) ?_
  refine lv_iload_n hx hb dX11_hold_26 rfl (lv_at hl 2 rfl) ?_
  refine lv_ishl hx hb dX11_hold_27 ?_
  refine lv_ior hx hb dX11_hold_28 ?_
  refine r_putI C hW hS hm (ci := 11) kx0 ff_11_9 cl_11 fl_RX11_62 (nf_11_9) rfl dX11_hold_29 (fun dt1000012 H locs hm hW hS => ?_)
  refine lv_iconst (v := 1) hx hb dX11_hold_32 (by decide) ?_
  exact e_zlD C hW hS (Or.inr rfl) hm dX11_hold_33
theorem dX11_restore_0 : decode cX11_restore 0 = .ok (.aload_n 0, 1) := by decide +kernel
theorem dX11_restore_1 : decode cX11_restore 1 = .ok (.iload_n 1, 1) := by decide +kernel
theorem dX11_restore_2 : decode cX11_restore 2 = .ok (.invokevirtual 354, 3) := by decide +kernel
theorem dX11_restore_5 : decode cX11_restore 5 = .ok (.astore_n 2, 1) := by decide +kernel
theorem dX11_restore_6 : decode cX11_restore 6 = .ok (.aload_n 2, 1) := by decide +kernel
theorem dX11_restore_7 : decode cX11_restore 7 = .ok (.ifnull 14, 3) := by decide +kernel
theorem dX11_restore_10 : decode cX11_restore 10 = .ok (.aload_n 0, 1) := by decide +kernel
theorem dX11_restore_11 : decode cX11_restore 11 = .ok (.getfield 62, 3) := by decide +kernel
theorem dX11_restore_14 : decode cX11_restore 14 = .ok (.iload_n 1, 1) := by decide +kernel
theorem dX11_restore_15 : decode cX11_restore 15 = .ok (.ishr, 1) := by decide +kernel
theorem dX11_restore_16 : decode cX11_restore 16 = .ok (.iconst 1, 1) := by decide +kernel
theorem dX11_restore_17 : decode cX11_restore 17 = .ok (.iand, 1) := by decide +kernel
theorem dX11_restore_18 : decode cX11_restore 18 = .ok (.ifCond .ne 5, 3) := by decide +kernel
theorem dX11_restore_21 : decode cX11_restore 21 = .ok (.iconst 0, 1) := by decide +kernel
theorem dX11_restore_22 : decode cX11_restore 22 = .ok (.ireturn, 1) := by decide +kernel
theorem dX11_restore_23 : decode cX11_restore 23 = .ok (.aload_n 0, 1) := by decide +kernel
theorem dX11_restore_24 : decode cX11_restore 24 = .ok (.getfield 19, 3) := by decide +kernel
theorem dX11_restore_27 : decode cX11_restore 27 = .ok (.aload_n 2, 1) := by decide +kernel
theorem dX11_restore_28 : decode cX11_restore 28 = .ok (.invokevirtual 358, 3) := by decide +kernel
theorem dX11_restore_31 : decode cX11_restore 31 = .ok (.iconst 1, 1) := by decide +kernel
theorem dX11_restore_32 : decode cX11_restore 32 = .ok (.ireturn, 1) := by decide +kernel
set_option maxRecDepth 100000 in
theorem c_X11_restore (l : Launch) (D : q_D) (al : q_Al) (dt : q_Dt) (x0 : Nat) (x1 : Int32) (kx0 : al.1 x0 = 12) (r0 : Int32) (dt0 : q_Dt) (hm : X11_restore al dt x0 x1 = some (r0, dt0)) : q_Mt l yX11_restore cX11_restore 3 (some FieldType.boolean) 3 64 D al [.ref x0, .int x1] dt 0 (some (.int r0)) dt0 := by
  refine q_Mt.of (by decide) (Nat.le_of_ble_eq_true rfl) ?_
  intro p e s m args below meth c ls C hargs hW hl
  have hx := C.1
  have hb := C.2.1
  have hown := C.2.2.2.2.2.1
  have hts := C.2.2.2.2.2.2.1
  have hS : va_S (q_A al) s.heap s.heap [] := va_S.rf
  have hl : lv_has ls 3 [(0, .ref x0), (1, .int x1)] := hl
  unfold X11_restore at hm
  refine lv_aload_n hx hb dX11_restore_0 rfl (lv_at hl 0 rfl) ?_
  refine lv_iload_n hx hb dX11_restore_1 rfl (lv_at hl 1 rfl) ?_
  obtain ⟨v1000002, hc1000001, hm⟩ := q_b1i hm
  refine q_callV C hW hS (As := [.int x1]) (rest := []) (st1 := [va_rf v1000002]) (c_X11_slotAt l D al dt x0 x1 kx0 v1000002 hc1000001) yl_X11_slotAt vl_X11_slotAt ml_RX11_354 (ci := 11) rfl kx0 (by decide) rfl ⟨Nat.le_of_ble_eq_true rfl, Nat.le_of_ble_eq_true rfl⟩ hl rfl (Nat.le_of_ble_eq_true rfl) dX11_restore_2 ⟨Nat.le_refl _, Nat.le_refl _⟩ rfl (fun H locs k1000003 hW hS => ?_)
  have k1000003 := q_rk k1000003 (by decide)
  refine q_astoreQ_n (i := 2) (lv' := [(2, va_rf v1000002), (0, .ref x0), (1, .int x1)]) C dX11_restore_5 rfl hl (by decide) rfl (fun ls hl => ?_)
  refine q_aloadQ_n C dX11_restore_6 rfl (lv_at hl 0 rfl) ?_
  refine q_ifnull C hm (tgt := 21) dX11_restore_7 (by decide) (fun e1000006 hq1000007 => ?_) (fun b1000004 e1000006 hq1000007 => ?_)
  · subst e1000006
    have hm := hq1000007
    refine lv_iconst (v := 0) hx hb dX11_restore_21 (by decide) ?_
    exact e_zlD C hW hS (Or.inl rfl) hm dX11_restore_22
  subst e1000006
  have hm := hq1000007
  have k1000005 := k1000003 b1000004 rfl
  refine lv_aload_n hx hb dX11_restore_10 rfl (lv_at hl 1 rfl) ?_
  refine r_getI C hW (ci := 11) kx0 ff_11_9 cl_11 fl_RX11_62 dX11_restore_11 ?_
  refine lv_iload_n hx hb dX11_restore_14 rfl (lv_at hl 2 rfl) ?_
  refine lv_ishr hx hb dX11_restore_15 ?_
  refine lv_iconst (v := 1) hx hb dX11_restore_16 (by decide) ?_
  refine lv_iand hx hb dX11_restore_17 ?_
  refine q_ifc hm (fun c1000008 hm => ?_) (fun c1000008 hm => ?_)
  · refine lv_if_ne (tgt := 23) hx hb dX11_restore_18 (by decide) (fun h => absurd c1000008 h) (fun _ => ?_)
    refine lv_iconst (v := 0) hx hb dX11_restore_21 (by decide) ?_
    exact e_zlD C hW hS (Or.inl rfl) hm dX11_restore_22
  refine lv_if_ne (tgt := 23) hx hb dX11_restore_18 (by decide) (fun _ => ?_) (fun h => absurd h c1000008)
  refine lv_aload_n hx hb dX11_restore_23 rfl (lv_at hl 1 rfl) ?_
  refine r_getF C hW (ci := 11) kx0 ff_11_1 cl_11 fl_RX11_19 dX11_restore_24 (fun k1000009 => ?_)
  refine lv_aload_n hx hb dX11_restore_27 rfl (lv_at hl 0 rfl) ?_
  obtain ⟨dt1000011, hc1000010, hm⟩ := q_b1i hm
  refine q_callV C hW hS (As := [.ref b1000004]) (rest := []) (st1 := []) (c_X8_takeOver l D al dt (al.2.2 x0 1) b1000004 k1000009 k1000005 dt1000011 hc1000010) yl_X8_takeOver vl_X8_takeOver ml_RX11_358 (ci := 8) rfl k1000009 (by decide) rfl ⟨Nat.le_of_ble_eq_true rfl, Nat.le_of_ble_eq_true rfl⟩ hl rfl (Nat.le_of_ble_eq_true rfl) dX11_restore_28 ⟨Nat.le_refl _, Nat.le_refl _⟩ rfl (fun H locs k1000012 hW hS => ?_)
  refine lv_iconst (v := 1) hx hb dX11_restore_31 (by decide) ?_
  exact e_zlD C hW hS (Or.inr rfl) hm dX11_restore_32
theorem dX11_countOfOne_0 : decode cX11_countOfOne 0 = .ok (.iload_n 1, 1) := by decide +kernel
theorem dX11_countOfOne_1 : decode cX11_countOfOne 1 = .ok (.bipush 10, 2) := by decide +kernel
theorem dX11_countOfOne_3 : decode cX11_countOfOne 3 = .ok (.if_icmp .ge 7, 3) := by decide +kernel
theorem dX11_countOfOne_6 : decode cX11_countOfOne 6 = .ok (.aconst_null, 1) := by decide +kernel
theorem dX11_countOfOne_7 : decode cX11_countOfOne 7 = .ok (.goto 14, 3) := by decide +kernel
theorem dX11_countOfOne_10 : decode cX11_countOfOne 10 = .ok (.aload_n 0, 1) := by decide +kernel
theorem dX11_countOfOne_11 : decode cX11_countOfOne 11 = .ok (.getfield 51, 3) := by decide +kernel
theorem dX11_countOfOne_14 : decode cX11_countOfOne 14 = .ok (.iload_n 1, 1) := by decide +kernel
theorem dX11_countOfOne_15 : decode cX11_countOfOne 15 = .ok (.bipush 10, 2) := by decide +kernel
theorem dX11_countOfOne_17 : decode cX11_countOfOne 17 = .ok (.isub, 1) := by decide +kernel
theorem dX11_countOfOne_18 : decode cX11_countOfOne 18 = .ok (.invokevirtual 154, 3) := by decide +kernel
theorem dX11_countOfOne_21 : decode cX11_countOfOne 21 = .ok (.astore_n 2, 1) := by decide +kernel
theorem dX11_countOfOne_22 : decode cX11_countOfOne 22 = .ok (.iload_n 1, 1) := by decide +kernel
theorem dX11_countOfOne_23 : decode cX11_countOfOne 23 = .ok (.bipush 20, 2) := by decide +kernel
theorem dX11_countOfOne_25 : decode cX11_countOfOne 25 = .ok (.if_icmp .ge 7, 3) := by decide +kernel
theorem dX11_countOfOne_28 : decode cX11_countOfOne 28 = .ok (.aconst_null, 1) := by decide +kernel
theorem dX11_countOfOne_29 : decode cX11_countOfOne 29 = .ok (.goto 14, 3) := by decide +kernel
theorem dX11_countOfOne_32 : decode cX11_countOfOne 32 = .ok (.aload_n 0, 1) := by decide +kernel
theorem dX11_countOfOne_33 : decode cX11_countOfOne 33 = .ok (.getfield 51, 3) := by decide +kernel
theorem dX11_countOfOne_36 : decode cX11_countOfOne 36 = .ok (.iload_n 1, 1) := by decide +kernel
theorem dX11_countOfOne_37 : decode cX11_countOfOne 37 = .ok (.bipush 20, 2) := by decide +kernel
theorem dX11_countOfOne_39 : decode cX11_countOfOne 39 = .ok (.isub, 1) := by decide +kernel
theorem dX11_countOfOne_40 : decode cX11_countOfOne 40 = .ok (.invokevirtual 317, 3) := by decide +kernel
theorem dX11_countOfOne_43 : decode cX11_countOfOne 43 = .ok (.astore_n 3, 1) := by decide +kernel
theorem dX11_countOfOne_44 : decode cX11_countOfOne 44 = .ok (.aload_n 2, 1) := by decide +kernel
theorem dX11_countOfOne_45 : decode cX11_countOfOne 45 = .ok (.ifnull 15, 3) := by decide +kernel
theorem dX11_countOfOne_48 : decode cX11_countOfOne 48 = .ok (.aload_n 2, 1) := by decide +kernel
theorem dX11_countOfOne_49 : decode cX11_countOfOne 49 = .ok (.aload_n 0, 1) := by decide +kernel
theorem dX11_countOfOne_50 : decode cX11_countOfOne 50 = .ok (.getfield 51, 3) := by decide +kernel
theorem dX11_countOfOne_53 : decode cX11_countOfOne 53 = .ok (.getfield 175, 3) := by decide +kernel
theorem dX11_countOfOne_56 : decode cX11_countOfOne 56 = .ok (.invokevirtual 232, 3) := by decide +kernel
theorem dX11_countOfOne_59 : decode cX11_countOfOne 59 = .ok (.ireturn, 1) := by decide +kernel
theorem dX11_countOfOne_60 : decode cX11_countOfOne 60 = .ok (.aload_n 3, 1) := by decide +kernel
theorem dX11_countOfOne_61 : decode cX11_countOfOne 61 = .ok (.ifnonnull 7, 3) := by decide +kernel
theorem dX11_countOfOne_64 : decode cX11_countOfOne 64 = .ok (.iconst (-1), 1) := by decide +kernel
theorem dX11_countOfOne_65 : decode cX11_countOfOne 65 = .ok (.goto 7, 3) := by decide +kernel
theorem dX11_countOfOne_68 : decode cX11_countOfOne 68 = .ok (.aload_n 3, 1) := by decide +kernel
theorem dX11_countOfOne_69 : decode cX11_countOfOne 69 = .ok (.getfield 330, 3) := by decide +kernel
theorem dX11_countOfOne_72 : decode cX11_countOfOne 72 = .ok (.ireturn, 1) := by decide +kernel
set_option maxRecDepth 100000 in
theorem c_X11_countOfOne (l : Launch) (D : q_D) (al : q_Al) (dt : q_Dt) (x0 : Nat) (x1 : Int32) (kx0 : al.1 x0 = 12) (r0 : Int32) (hm : X11_countOfOne al dt x0 x1 = some r0) : q_Mt l yX11_countOfOne cX11_countOfOne 4 (some FieldType.int) 4 87 D al [.ref x0, .int x1] dt 0 (some (.int r0)) dt := by
  refine q_Mt.of (by decide) (Nat.le_of_ble_eq_true rfl) ?_
  intro p e s m args below meth c ls C hargs hW hl
  have hx := C.1
  have hb := C.2.1
  have hown := C.2.2.2.2.2.1
  have hts := C.2.2.2.2.2.2.1
  have hS : va_S (q_A al) s.heap s.heap [] := va_S.rf
  have hl : lv_has ls 4 [(0, .ref x0), (1, .int x1)] := hl
  unfold X11_countOfOne at hm
  have hB43 : ∀ (x0_43 : Nat) (x2_43 : Option Nat) (t0_43 : Option Nat) (kx0_43 : al.1 x0_43 = 12) (kx2_43 : ∀ b, x2_43 = some b → al.1 b = 8) (kt0_43 : ∀ b, t0_43 = some b → al.1 b = 2) (H : Heap) (locs : List Loc) (ls : Array Slot) (hm : X11_countOfOne_b43 al dt x0_43 x2_43 t0_43 = some r0) (hW : q_W D al dt H) (hS : va_S (q_A al) s.heap H locs) (hl : lv_has ls 4 [(0, .ref x0_43), (2, va_rf x2_43)]), W p l e { frames := 4, cells := 0, slots := 0, locals := 87 } s m args below meth c H locs 0 0 (MQ below (q_Q (some (.int r0)) (fun H => q_W D al dt H ∧ q_Rk al 0 (some (.int r0))) (q_A al)) args s 0 0 (q_A al)) (F0 m 43 ls [va_rf t0_43]) := by
    intro x0_43 x2_43 t0_43 kx0_43 kx2_43 kt0_43 H locs ls hm hW hS hl
    unfold X11_countOfOne_b43 at hm
    refine q_astoreQ_n (i := 3) (lv' := [(3, va_rf t0_43), (0, .ref x0_43), (2, va_rf x2_43)]) C dX11_countOfOne_43 rfl hl (by decide) (by simp [q_cat, q_catR, q_catI, q_catL] <;> rfl) (fun ls hl => ?_)
    refine q_aloadQ_n C dX11_countOfOne_44 rfl (lv_at hl 2 rfl) ?_
    refine q_ifnull C hm (tgt := 60) dX11_countOfOne_45 (by decide) (fun e43003 hq43004 => ?_) (fun b43001 e43003 hq43004 => ?_)
    · subst e43003
      have hm := hq43004
      refine q_aloadQ_n C dX11_countOfOne_60 rfl (lv_at hl 0 rfl) ?_
      refine q_ifnonnull C hm (tgt := 68) dX11_countOfOne_61 (by decide) (fun e43007 hq43008 => ?_) (fun b43005 e43007 hq43008 => ?_)
      · subst e43007
        have hm := hq43008
        refine lv_iconst (v := (-1)) hx hb dX11_countOfOne_64 (by decide) ?_
        refine lv_goto (tgt := 72) hx hb dX11_countOfOne_65 (by decide) ?_
        exact e_i C hW hS hm dX11_countOfOne_72
      subst e43007
      have hm := hq43008
      have k43006 := kt0_43 b43005 rfl
      refine lv_aload_n hx hb dX11_countOfOne_68 rfl (lv_at hl 0 rfl) ?_
      refine r_getI C hW (ci := 1) k43006 ff_1_0 cl_1 fl_RX11_330 dX11_countOfOne_69 ?_
      exact e_i C hW hS hm dX11_countOfOne_72
    subst e43003
    have hm := hq43004
    have k43002 := kx2_43 b43001 rfl
    refine lv_aload_n hx hb dX11_countOfOne_48 rfl (lv_at hl 2 rfl) ?_
    refine lv_aload_n hx hb dX11_countOfOne_49 rfl (lv_at hl 1 rfl) ?_
    refine r_getQ C hW hm (ci := 11) kx0_43 ff_11_6 cl_11 fl_RX11_51 dX11_countOfOne_50 (fun o43009 eo43009 k43010 hm => ?_)
    obtain ⟨b43011, e43012, hq43013⟩ := q_mi hm
    subst e43012
    have hm := hq43013
    have k43014 := k43010 b43011 rfl
    refine r_getI C hW (ci := 10) k43014 ff_10_12 cl_10 fl_RX11_175 dX11_countOfOne_53 ?_
    obtain ⟨v43016, hc43015, hm⟩ := q_b1i hm
    refine q_callV C hW hS (As := [.int (dt.1 b43011 12)]) (rest := []) (st1 := [.int v43016]) (c_X7_periods l D al dt b43001 (dt.1 b43011 12) k43002 v43016 hc43015) yl_X7_periods vl_X7_periods ml_RX11_232 (ci := 7) rfl k43002 (by decide) rfl ⟨Nat.le_of_ble_eq_true rfl, Nat.le_of_ble_eq_true rfl⟩ hl rfl (Nat.le_of_ble_eq_true rfl) dX11_countOfOne_56 ⟨Nat.le_refl _, Nat.le_refl _⟩ rfl (fun H locs k43017 hW hS => ?_)
    exact e_i C hW hS hm dX11_countOfOne_59
  have hB21 : ∀ (x0_21 : Nat) (x1_21 : Int32) (t0_21 : Option Nat) (kx0_21 : al.1 x0_21 = 12) (kt0_21 : ∀ b, t0_21 = some b → al.1 b = 8) (H : Heap) (locs : List Loc) (ls : Array Slot) (hm : X11_countOfOne_b21 al dt x0_21 x1_21 t0_21 = some r0) (hW : q_W D al dt H) (hS : va_S (q_A al) s.heap H locs) (hl : lv_has ls 4 [(0, .ref x0_21), (1, .int x1_21)]), W p l e { frames := 4, cells := 0, slots := 0, locals := 87 } s m args below meth c H locs 0 0 (MQ below (q_Q (some (.int r0)) (fun H => q_W D al dt H ∧ q_Rk al 0 (some (.int r0))) (q_A al)) args s 0 0 (q_A al)) (F0 m 21 ls [va_rf t0_21]) := by
    intro x0_21 x1_21 t0_21 kx0_21 kt0_21 H locs ls hm hW hS hl
    unfold X11_countOfOne_b21 at hm
    refine q_astoreQ_n (i := 2) (lv' := [(2, va_rf t0_21), (0, .ref x0_21), (1, .int x1_21)]) C dX11_countOfOne_21 rfl hl (by decide) rfl (fun ls hl => ?_)
    refine lv_iload_n hx hb dX11_countOfOne_22 rfl (lv_at hl 2 rfl) ?_
    refine lv_bipush (v := 20) hx hb dX11_countOfOne_23 (by decide) ?_
    refine q_ifc hm (fun c21001 hm => ?_) (fun c21001 hm => ?_)
    · refine lv_icmp_ge (tgt := 32) hx hb dX11_countOfOne_25 (by decide) (fun _ => ?_) (fun h => absurd c21001 h)
      refine lv_aload_n hx hb dX11_countOfOne_32 rfl (lv_at hl 1 rfl) ?_
      refine r_getQ C hW hm (ci := 11) kx0_21 ff_11_6 cl_11 fl_RX11_51 dX11_countOfOne_33 (fun o21002 eo21002 k21003 hm => ?_)
      refine lv_iload_n hx hb dX11_countOfOne_36 rfl (lv_at hl 2 rfl) ?_
      refine lv_bipush (v := 20) hx hb dX11_countOfOne_37 (by decide) ?_
      refine lv_isub hx hb dX11_countOfOne_39 ?_
      obtain ⟨b21004, e21005, hq21006⟩ := q_mi hm
      subst e21005
      have hm := hq21006
      have k21007 := k21003 b21004 rfl
      obtain ⟨v21009, hc21008, hm⟩ := q_b1i hm
      refine q_callV C hW hS (As := [.int (x1_21 - 20)]) (rest := []) (st1 := [va_rf v21009]) (c_X10_hopAt l D al dt b21004 (x1_21 - 20) k21007 v21009 hc21008) yl_X10_hopAt vl_X10_hopAt ml_RX11_317 (ci := 10) rfl k21007 (by decide) rfl ⟨Nat.le_of_ble_eq_true rfl, Nat.le_of_ble_eq_true rfl⟩ hl rfl (Nat.le_of_ble_eq_true rfl) dX11_countOfOne_40 ⟨Nat.le_refl _, Nat.le_refl _⟩ rfl (fun H locs k21010 hW hS => ?_)
      have k21010 := q_rk k21010 (by decide)
      exact hB43 x0_21 t0_21 v21009 kx0_21 kt0_21 k21010 _ _ _ hm hW hS (lv_sub hl [1, 0] rfl)
    refine lv_icmp_ge (tgt := 32) hx hb dX11_countOfOne_25 (by decide) (fun h => absurd h c21001) (fun _ => ?_)
    refine q_null C dX11_countOfOne_28 ?_
    refine lv_goto (tgt := 43) hx hb dX11_countOfOne_29 (by decide) ?_
    exact hB43 x0_21 t0_21 none kx0_21 kt0_21 q_kn _ _ _ hm hW hS (lv_sub hl [1, 0] rfl)
  refine lv_iload_n hx hb dX11_countOfOne_0 rfl (lv_at hl 1 rfl) ?_
  refine lv_bipush (v := 10) hx hb dX11_countOfOne_1 (by decide) ?_
  refine q_ifc hm (fun c1000001 hm => ?_) (fun c1000001 hm => ?_)
  · refine lv_icmp_ge (tgt := 10) hx hb dX11_countOfOne_3 (by decide) (fun _ => ?_) (fun h => absurd c1000001 h)
    refine lv_aload_n hx hb dX11_countOfOne_10 rfl (lv_at hl 0 rfl) ?_
    refine r_getQ C hW hm (ci := 11) kx0 ff_11_6 cl_11 fl_RX11_51 dX11_countOfOne_11 (fun o1000002 eo1000002 k1000003 hm => ?_)
    refine lv_iload_n hx hb dX11_countOfOne_14 rfl (lv_at hl 1 rfl) ?_
    refine lv_bipush (v := 10) hx hb dX11_countOfOne_15 (by decide) ?_
    refine lv_isub hx hb dX11_countOfOne_17 ?_
    obtain ⟨b1000004, e1000005, hq1000006⟩ := q_mi hm
    subst e1000005
    have hm := hq1000006
    have k1000007 := k1000003 b1000004 rfl
    obtain ⟨v1000009, hc1000008, hm⟩ := q_b1i hm
    refine q_callV C hW hS (As := [.int (x1 - 10)]) (rest := []) (st1 := [va_rf v1000009]) (c_X10_senderAt l D al dt b1000004 (x1 - 10) k1000007 v1000009 hc1000008) yl_X10_senderAt vl_X10_senderAt ml_RX11_154 (ci := 10) rfl k1000007 (by decide) rfl ⟨Nat.le_of_ble_eq_true rfl, Nat.le_of_ble_eq_true rfl⟩ hl rfl (Nat.le_of_ble_eq_true rfl) dX11_countOfOne_18 ⟨Nat.le_refl _, Nat.le_refl _⟩ rfl (fun H locs k1000010 hW hS => ?_)
    have k1000010 := q_rk k1000010 (by decide)
    exact hB21 x0 x1 v1000009 kx0 k1000010 _ _ _ hm hW hS (lv_sub hl [0, 1] rfl)
  refine lv_icmp_ge (tgt := 10) hx hb dX11_countOfOne_3 (by decide) (fun h => absurd h c1000001) (fun _ => ?_)
  refine q_null C dX11_countOfOne_6 ?_
  refine lv_goto (tgt := 21) hx hb dX11_countOfOne_7 (by decide) ?_
  exact hB21 x0 x1 none kx0 q_kn _ _ _ hm hW hS (lv_sub hl [0, 1] rfl)
theorem dX11_count_0 : decode cX11_count 0 = .ok (.iload_n 1, 1) := by decide +kernel
theorem dX11_count_1 : decode cX11_count 1 = .ok (.tableswitch 126 0 8 #[51, 59, 67, 75, 83, 91, 99, 110, 118], 51) := by decide +kernel
theorem dX11_count_52 : decode cX11_count 52 = .ok (.aload_n 0, 1) := by decide +kernel
theorem dX11_count_53 : decode cX11_count 53 = .ok (.getfield 51, 3) := by decide +kernel
theorem dX11_count_56 : decode cX11_count 56 = .ok (.getfield 362, 3) := by decide +kernel
theorem dX11_count_59 : decode cX11_count 59 = .ok (.ireturn, 1) := by decide +kernel
theorem dX11_count_60 : decode cX11_count 60 = .ok (.aload_n 0, 1) := by decide +kernel
theorem dX11_count_61 : decode cX11_count 61 = .ok (.getfield 51, 3) := by decide +kernel
theorem dX11_count_64 : decode cX11_count 64 = .ok (.getfield 342, 3) := by decide +kernel
theorem dX11_count_67 : decode cX11_count 67 = .ok (.ireturn, 1) := by decide +kernel
theorem dX11_count_68 : decode cX11_count 68 = .ok (.aload_n 0, 1) := by decide +kernel
theorem dX11_count_69 : decode cX11_count 69 = .ok (.getfield 51, 3) := by decide +kernel
theorem dX11_count_72 : decode cX11_count 72 = .ok (.getfield 268, 3) := by decide +kernel
theorem dX11_count_75 : decode cX11_count 75 = .ok (.ireturn, 1) := by decide +kernel
theorem dX11_count_76 : decode cX11_count 76 = .ok (.aload_n 0, 1) := by decide +kernel
theorem dX11_count_77 : decode cX11_count 77 = .ok (.getfield 51, 3) := by decide +kernel
theorem dX11_count_80 : decode cX11_count 80 = .ok (.getfield 365, 3) := by decide +kernel
theorem dX11_count_83 : decode cX11_count 83 = .ok (.ireturn, 1) := by decide +kernel
theorem dX11_count_84 : decode cX11_count 84 = .ok (.aload_n 0, 1) := by decide +kernel
theorem dX11_count_85 : decode cX11_count 85 = .ok (.getfield 51, 3) := by decide +kernel
theorem dX11_count_88 : decode cX11_count 88 = .ok (.getfield 368, 3) := by decide +kernel
theorem dX11_count_91 : decode cX11_count 91 = .ok (.ireturn, 1) := by decide +kernel
theorem dX11_count_92 : decode cX11_count 92 = .ok (.aload_n 0, 1) := by decide +kernel
theorem dX11_count_93 : decode cX11_count 93 = .ok (.getfield 51, 3) := by decide +kernel
theorem dX11_count_96 : decode cX11_count 96 = .ok (.getfield 175, 3) := by decide +kernel
theorem dX11_count_99 : decode cX11_count 99 = .ok (.ireturn, 1) := by decide +kernel
theorem dX11_count_100 : decode cX11_count 100 = .ok (.aload_n 0, 1) := by decide +kernel
theorem dX11_count_101 : decode cX11_count 101 = .ok (.getfield 10, 3) := by decide +kernel
theorem dX11_count_104 : decode cX11_count 104 = .ok (.getfield 65, 3) := by decide +kernel
theorem dX11_count_107 : decode cX11_count 107 = .ok (.getfield 69, 3) := by decide +kernel
theorem dX11_count_110 : decode cX11_count 110 = .ok (.ireturn, 1) := by decide +kernel
theorem dX11_count_111 : decode cX11_count 111 = .ok (.aload_n 0, 1) := by decide +kernel
theorem dX11_count_112 : decode cX11_count 112 = .ok (.getfield 62, 3) := by decide +kernel
theorem dX11_count_115 : decode cX11_count 115 = .ok (.invokestatic 131, 3) := by decide +kernel
theorem dX11_count_118 : decode cX11_count 118 = .ok (.ireturn, 1) := by decide +kernel
theorem dX11_count_119 : decode cX11_count 119 = .ok (.aload_n 0, 1) := by decide +kernel
theorem dX11_count_120 : decode cX11_count 120 = .ok (.getfield 51, 3) := by decide +kernel
theorem dX11_count_123 : decode cX11_count 123 = .ok (.getfield 371, 3) := by decide +kernel
theorem dX11_count_126 : decode cX11_count 126 = .ok (.ireturn, 1) := by decide +kernel
theorem dX11_count_127 : decode cX11_count 127 = .ok (.aload_n 0, 1) := by decide +kernel
theorem dX11_count_128 : decode cX11_count 128 = .ok (.iload_n 1, 1) := by decide +kernel
theorem dX11_count_129 : decode cX11_count 129 = .ok (.invokevirtual 374, 3) := by decide +kernel
theorem dX11_count_132 : decode cX11_count 132 = .ok (.ireturn, 1) := by decide +kernel
set_option maxRecDepth 100000 in
theorem c_X11_count (l : Launch) (D : q_D) (al : q_Al) (dt : q_Dt) (x0 : Nat) (x1 : Int32) (kx0 : al.1 x0 = 12) (r0 : Int32) (hm : X11_count al dt x0 x1 = some r0) : q_Mt l yX11_count cX11_count 2 (some FieldType.int) 5 110 D al [.ref x0, .int x1] dt 0 (some (.int r0)) dt := by
  refine q_Mt.of (by decide) (Nat.le_of_ble_eq_true rfl) ?_
  intro p e s m args below meth c ls C hargs hW hl
  have hx := C.1
  have hb := C.2.1
  have hown := C.2.2.2.2.2.1
  have hts := C.2.2.2.2.2.2.1
  have hS : va_S (q_A al) s.heap s.heap [] := va_S.rf
  have hl : lv_has ls 2 [(0, .ref x0), (1, .int x1)] := hl
  unfold X11_count at hm
  refine lv_iload_n hx hb dX11_count_0 rfl (lv_at hl 1 rfl) ?_
  refine q_ifc hm (fun c1000001 hm => ?_) (fun c1000001 hm => ?_)
  · refine lv_tableIn (tgt := 52) hx hb dX11_count_1 (by rw [c1000001]; decide) (by rw [c1000001]; decide) (by rw [c1000001]; rfl) (by decide) ?_
    refine lv_aload_n hx hb dX11_count_52 rfl (lv_at hl 0 rfl) ?_
    refine r_getQ C hW hm (ci := 11) kx0 ff_11_6 cl_11 fl_RX11_51 dX11_count_53 (fun o1000002 eo1000002 k1000003 hm => ?_)
    obtain ⟨b1000004, e1000005, hq1000006⟩ := q_mi hm
    subst e1000005
    have hm := hq1000006
    have k1000007 := k1000003 b1000004 rfl
    refine r_getI C hW (ci := 10) k1000007 ff_10_7 cl_10 fl_RX11_362 dX11_count_56 ?_
    exact e_i C hW hS hm dX11_count_59
  refine q_ifc hm (fun c1000008 hm => ?_) (fun c1000008 hm => ?_)
  · refine lv_tableIn (tgt := 60) hx hb dX11_count_1 (by rw [c1000008]; decide) (by rw [c1000008]; decide) (by rw [c1000008]; rfl) (by decide) ?_
    refine lv_aload_n hx hb dX11_count_60 rfl (lv_at hl 0 rfl) ?_
    refine r_getQ C hW hm (ci := 11) kx0 ff_11_6 cl_11 fl_RX11_51 dX11_count_61 (fun o1000009 eo1000009 k1000010 hm => ?_)
    obtain ⟨b1000011, e1000012, hq1000013⟩ := q_mi hm
    subst e1000012
    have hm := hq1000013
    have k1000014 := k1000010 b1000011 rfl
    refine r_getI C hW (ci := 10) k1000014 ff_10_8 cl_10 fl_RX11_342 dX11_count_64 ?_
    exact e_i C hW hS hm dX11_count_67
  refine q_ifc hm (fun c1000015 hm => ?_) (fun c1000015 hm => ?_)
  · refine lv_tableIn (tgt := 68) hx hb dX11_count_1 (by rw [c1000015]; decide) (by rw [c1000015]; decide) (by rw [c1000015]; rfl) (by decide) ?_
    refine lv_aload_n hx hb dX11_count_68 rfl (lv_at hl 0 rfl) ?_
    refine r_getQ C hW hm (ci := 11) kx0 ff_11_6 cl_11 fl_RX11_51 dX11_count_69 (fun o1000016 eo1000016 k1000017 hm => ?_)
    obtain ⟨b1000018, e1000019, hq1000020⟩ := q_mi hm
    subst e1000019
    have hm := hq1000020
    have k1000021 := k1000017 b1000018 rfl
    refine r_getI C hW (ci := 10) k1000021 ff_10_9 cl_10 fl_RX11_268 dX11_count_72 ?_
    exact e_i C hW hS hm dX11_count_75
  refine q_ifc hm (fun c1000022 hm => ?_) (fun c1000022 hm => ?_)
  · refine lv_tableIn (tgt := 76) hx hb dX11_count_1 (by rw [c1000022]; decide) (by rw [c1000022]; decide) (by rw [c1000022]; rfl) (by decide) ?_
    refine lv_aload_n hx hb dX11_count_76 rfl (lv_at hl 0 rfl) ?_
    refine r_getQ C hW hm (ci := 11) kx0 ff_11_6 cl_11 fl_RX11_51 dX11_count_77 (fun o1000023 eo1000023 k1000024 hm => ?_)
    obtain ⟨b1000025, e1000026, hq1000027⟩ := q_mi hm
    subst e1000026
    have hm := hq1000027
    have k1000028 := k1000024 b1000025 rfl
    refine r_getI C hW (ci := 10) k1000028 ff_10_10 cl_10 fl_RX11_365 dX11_count_80 ?_
    exact e_i C hW hS hm dX11_count_83
  refine q_ifc hm (fun c1000029 hm => ?_) (fun c1000029 hm => ?_)
  · refine lv_tableIn (tgt := 84) hx hb dX11_count_1 (by rw [c1000029]; decide) (by rw [c1000029]; decide) (by rw [c1000029]; rfl) (by decide) ?_
    refine lv_aload_n hx hb dX11_count_84 rfl (lv_at hl 0 rfl) ?_
    refine r_getQ C hW hm (ci := 11) kx0 ff_11_6 cl_11 fl_RX11_51 dX11_count_85 (fun o1000030 eo1000030 k1000031 hm => ?_)
    obtain ⟨b1000032, e1000033, hq1000034⟩ := q_mi hm
    subst e1000033
    have hm := hq1000034
    have k1000035 := k1000031 b1000032 rfl
    refine r_getI C hW (ci := 10) k1000035 ff_10_11 cl_10 fl_RX11_368 dX11_count_88 ?_
    exact e_i C hW hS hm dX11_count_91
  refine q_ifc hm (fun c1000036 hm => ?_) (fun c1000036 hm => ?_)
  · refine lv_tableIn (tgt := 92) hx hb dX11_count_1 (by rw [c1000036]; decide) (by rw [c1000036]; decide) (by rw [c1000036]; rfl) (by decide) ?_
    refine lv_aload_n hx hb dX11_count_92 rfl (lv_at hl 0 rfl) ?_
    refine r_getQ C hW hm (ci := 11) kx0 ff_11_6 cl_11 fl_RX11_51 dX11_count_93 (fun o1000037 eo1000037 k1000038 hm => ?_)
    obtain ⟨b1000039, e1000040, hq1000041⟩ := q_mi hm
    subst e1000040
    have hm := hq1000041
    have k1000042 := k1000038 b1000039 rfl
    refine r_getI C hW (ci := 10) k1000042 ff_10_12 cl_10 fl_RX11_175 dX11_count_96 ?_
    exact e_i C hW hS hm dX11_count_99
  refine q_ifc hm (fun c1000043 hm => ?_) (fun c1000043 hm => ?_)
  · refine lv_tableIn (tgt := 100) hx hb dX11_count_1 (by rw [c1000043]; decide) (by rw [c1000043]; decide) (by rw [c1000043]; rfl) (by decide) ?_
    refine lv_aload_n hx hb dX11_count_100 rfl (lv_at hl 0 rfl) ?_
    refine r_getF C hW (ci := 11) kx0 ff_11_0 cl_11 fl_RX11_10 dX11_count_101 (fun k1000044 => ?_)
    refine r_getF C hW (ci := 3) k1000044 ff_3_0 cl_3 fl_RX11_65 dX11_count_104 (fun k1000045 => ?_)
    refine r_getI C hW (ci := 9) k1000045 ff_9_6 cl_9 fl_RX11_69 dX11_count_107 ?_
    exact e_i C hW hS hm dX11_count_110
  refine q_ifc hm (fun c1000046 hm => ?_) (fun c1000046 hm => ?_)
  · refine lv_tableIn (tgt := 111) hx hb dX11_count_1 (by rw [c1000046]; decide) (by rw [c1000046]; decide) (by rw [c1000046]; rfl) (by decide) ?_
    refine lv_aload_n hx hb dX11_count_111 rfl (lv_at hl 0 rfl) ?_
    refine r_getI C hW (ci := 11) kx0 ff_11_9 cl_11 fl_RX11_62 dX11_count_112 ?_
    obtain ⟨v1000048, hc1000047, hm⟩ := q_b1i hm
    refine q_callS C hW hS (As := [.int (dt.1 x0 9)]) (rest := []) (st1 := [.int v1000048]) (c_J6_bitCount_0f7a4 l D al dt (dt.1 x0 9) v1000048 hc1000047) yl_J6_bitCount_0f7a4 sl_J6_bitCount_0f7a4 ml_RX11_131 rfl ⟨Nat.le_of_ble_eq_true rfl, Nat.le_of_ble_eq_true rfl⟩ hl rfl (Nat.le_of_ble_eq_true rfl) dX11_count_115 ⟨Nat.le_refl _, Nat.le_refl _⟩ rfl (fun H locs k1000049 hW hS => ?_)
    exact e_i C hW hS hm dX11_count_118
  refine q_ifc hm (fun c1000050 hm => ?_) (fun c1000050 hm => ?_)
  · refine lv_tableIn (tgt := 119) hx hb dX11_count_1 (by rw [c1000050]; decide) (by rw [c1000050]; decide) (by rw [c1000050]; rfl) (by decide) ?_
    refine lv_aload_n hx hb dX11_count_119 rfl (lv_at hl 0 rfl) ?_
    refine r_getQ C hW hm (ci := 11) kx0 ff_11_6 cl_11 fl_RX11_51 dX11_count_120 (fun o1000051 eo1000051 k1000052 hm => ?_)
    obtain ⟨b1000053, e1000054, hq1000055⟩ := q_mi hm
    subst e1000054
    have hm := hq1000055
    have k1000056 := k1000052 b1000053 rfl
    refine r_getI C hW (ci := 10) k1000056 ff_10_13 cl_10 fl_RX11_371 dX11_count_123 ?_
    exact e_i C hW hS hm dX11_count_126
  have c1000001_z := lv_neT c1000001 (a := 0) rfl
  have c1000008_z := lv_neT c1000008 (a := 1) rfl
  have c1000015_z := lv_neT c1000015 (a := 2) rfl
  have c1000022_z := lv_neT c1000022 (a := 3) rfl
  have c1000029_z := lv_neT c1000029 (a := 4) rfl
  have c1000036_z := lv_neT c1000036 (a := 5) rfl
  have c1000043_z := lv_neT c1000043 (a := 6) rfl
  have c1000046_z := lv_neT c1000046 (a := 7) rfl
  have c1000050_z := lv_neT c1000050 (a := 8) rfl
  refine lv_tableOut (tgt := 127) hx hb dX11_count_1 (by omega) (by decide) ?_
  refine lv_aload_n hx hb dX11_count_127 rfl (lv_at hl 0 rfl) ?_
  refine lv_iload_n hx hb dX11_count_128 rfl (lv_at hl 1 rfl) ?_
  obtain ⟨v1000058, hc1000057, hm⟩ := q_b1i hm
  refine q_callV C hW hS (As := [.int x1]) (rest := []) (st1 := [.int v1000058]) (c_X11_countOfOne l D al dt x0 x1 kx0 v1000058 hc1000057) yl_X11_countOfOne vl_X11_countOfOne ml_RX11_374 (ci := 11) rfl kx0 (by decide) rfl ⟨Nat.le_of_ble_eq_true rfl, Nat.le_of_ble_eq_true rfl⟩ hl rfl (Nat.le_of_ble_eq_true rfl) dX11_count_129 ⟨Nat.le_refl _, Nat.le_refl _⟩ rfl (fun H locs k1000059 hW hS => ?_)
  exact e_i C hW hS hm dX11_count_132
theorem dX12_put_0 : decode cX12_put 0 = .ok (.bipush 24, 2) := by decide +kernel
theorem dX12_put_2 : decode cX12_put 2 = .ok (.istore_n 2, 1) := by decide +kernel
theorem dX12_put_3 : decode cX12_put 3 = .ok (.iload_n 2, 1) := by decide +kernel
theorem dX12_put_4 : decode cX12_put 4 = .ok (.ifCond .lt 32, 3) := by decide +kernel
theorem dX12_put_7 : decode cX12_put 7 = .ok (.aload_n 0, 1) := by decide +kernel
theorem dX12_put_8 : decode cX12_put 8 = .ok (.getfield 13, 3) := by decide +kernel
theorem dX12_put_11 : decode cX12_put 11 = .ok (.aload_n 0, 1) := by decide +kernel
theorem dX12_put_12 : decode cX12_put 12 = .ok (.getfield 174, 3) := by decide +kernel
theorem dX12_put_15 : decode cX12_put 15 = .ok (.iload_n 1, 1) := by decide +kernel
theorem dX12_put_16 : decode cX12_put 16 = .ok (.iload_n 2, 1) := by decide +kernel
theorem dX12_put_17 : decode cX12_put 17 = .ok (.ishr, 1) := by decide +kernel
theorem dX12_put_18 : decode cX12_put 18 = .ok (.i2b, 1) := by decide +kernel
theorem dX12_put_19 : decode cX12_put 19 = .ok (.bastore, 1) := by decide +kernel
theorem dX12_put_20 : decode cX12_put 20 = .ok (.aload_n 0, 1) := by decide +kernel
theorem dX12_put_21 : decode cX12_put 21 = .ok (.dup, 1) := by decide +kernel
theorem dX12_put_22 : decode cX12_put 22 = .ok (.getfield 174, 3) := by decide +kernel
theorem dX12_put_25 : decode cX12_put 25 = .ok (.iconst 1, 1) := by decide +kernel
theorem dX12_put_26 : decode cX12_put 26 = .ok (.iadd, 1) := by decide +kernel
theorem dX12_put_27 : decode cX12_put 27 = .ok (.putfield 174, 3) := by decide +kernel
theorem dX12_put_30 : decode cX12_put 30 = .ok (.iinc 2 (-8), 3) := by decide +kernel
theorem dX12_put_33 : decode cX12_put 33 = .ok (.goto (-30), 3) := by decide +kernel
theorem dX12_put_36 : decode cX12_put 36 = .ok (.return_, 1) := by decide +kernel
set_option maxRecDepth 100000 in
theorem c_X12_put (l : Launch) (D : q_D) (al : q_Al) (dt : q_Dt) (x0 : Nat) (x1 : Int32) (kx0 : al.1 x0 = 13) (dt0 : q_Dt) (hm : X12_put al dt x0 x1 = some dt0) : q_Mt l yX12_put cX12_put 3 (none) 0 0 D al [.ref x0, .int x1] dt 0 none dt0 := by
  refine q_Mt.of (by decide) (Nat.le_of_ble_eq_true rfl) ?_
  intro p e s m args below meth c ls C hargs hW hl
  have hx := C.1
  have hb := C.2.1
  have hown := C.2.2.2.2.2.1
  have hts := C.2.2.2.2.2.2.1
  have hS : va_S (q_A al) s.heap s.heap [] := va_S.rf
  have hl : lv_has ls 3 [(0, .ref x0), (1, .int x1)] := hl
  unfold X12_put at hm
  have hB3 : ∀ (x0_3 : Nat) (x1_3 : Int32) (kx0_3 : al.1 x0_3 = 13) (n_3 : Nat) (x2_3 : Int32) (dt : q_Dt) (H : Heap) (locs : List Loc) (ls : Array Slot) (hm : X12_put_b3 al x0_3 x1_3 n_3 x2_3 dt = some dt0) (hW : q_W D al dt H) (hS : va_S (q_A al) s.heap H locs) (hl : lv_has ls 3 [(0, .ref x0_3), (1, .int x1_3), (2, .int x2_3)]), W p l e { frames := 0, cells := 0, slots := 0, locals := 0 } s m args below meth c H locs 0 0 (MQ below (q_Q none (fun H => q_W D al dt0 H ∧ q_Rk al 0 none) (q_A al)) args s 0 0 (q_A al)) (F0 m 3 ls []) := by
    intro x0_3 x1_3 kx0_3
    intro n_3
    induction n_3 with
    | zero => intro x2_3 dt H locs ls hm hW hS hl; cases hm
    | succ n_3 ih3 =>
      intro x2_3 dt H locs ls hm hW hS hl
      rw [X12_put_b3] at hm
      refine lv_iload_n hx hb dX12_put_3 rfl (lv_at hl 2 rfl) ?_
      refine q_ifc hm (fun c3001 hm => ?_) (fun c3001 hm => ?_)
      · refine lv_if_lt (tgt := 36) hx hb dX12_put_4 (by decide) (fun _ => ?_) (fun h => absurd c3001 h)
        exact e_vD C hW hS hm dX12_put_36
      refine lv_if_lt (tgt := 36) hx hb dX12_put_4 (by decide) (fun h => absurd h c3001) (fun _ => ?_)
      refine lv_aload_n hx hb dX12_put_7 rfl (lv_at hl 0 rfl) ?_
      refine r_getF C hW (ci := 12) kx0_3 ff_12_1 cl_12 fl_RX12_13 dX12_put_8 (fun k3002 => ?_)
      refine lv_aload_n hx hb dX12_put_11 rfl (lv_at hl 0 rfl) ?_
      refine r_getI C hW (ci := 12) kx0_3 ff_12_2 cl_12 fl_RX12_174 dX12_put_12 ?_
      refine lv_iload_n hx hb dX12_put_15 rfl (lv_at hl 1 rfl) ?_
      refine lv_iload_n hx hb dX12_put_16 rfl (lv_at hl 2 rfl) ?_
      refine lv_ishr hx hb dX12_put_17 ?_
      refine lv_i2b (v := (Int8.toInt32 (Int32.toInt8 (x1_3 >>> (x2_3 &&& 31))))) hx hb dX12_put_18 rfl ?_
      refine r_bast C hW hS hm k3002 dX12_put_19 (fun dt3003 H locs hm hW hS => ?_)
      refine lv_aload_n hx hb dX12_put_20 rfl (lv_at hl 0 rfl) ?_
      refine lv_dup hx hb dX12_put_21 rfl ?_
      refine r_getI C hW (ci := 12) kx0_3 ff_12_2 cl_12 fl_RX12_174 dX12_put_22 ?_
      refine lv_iconst (v := 1) hx hb dX12_put_25 (by decide) ?_
      refine lv_iadd hx hb dX12_put_26 ?_
      refine r_putI C hW hS hm (ci := 12) kx0_3 ff_12_2 cl_12 fl_RX12_174 (nf_12_2) rfl dX12_put_27 (fun dt3004 H locs hm hW hS => ?_)
      refine lv_iinc (v := (x2_3 + (-8))) (lv' := [(2, .int (x2_3 + (-8))), (0, .ref x0_3), (1, .int x1_3)]) hx hb dX12_put_30 hl (k := 2) rfl rfl (by decide) rfl (fun ls hl => ?_)
      refine lv_goto (tgt := 3) hx hb dX12_put_33 (by decide) ?_
      exact ih3 (x2_3 + (-8)) dt3004 _ _ _ hm hW hS (lv_sub hl [1, 2, 0] rfl)
  refine lv_bipush (v := 24) hx hb dX12_put_0 (by decide) ?_
  refine lv_istore_n (i := 2) (lv' := [(2, .int 24), (0, .ref x0), (1, .int x1)]) hx hb dX12_put_2 rfl hl (by decide) rfl (fun ls hl => ?_)
  exact hB3 x0 x1 kx0 q_FU 24 dt _ _ _ hm hW hS (lv_sub hl [1, 2, 0] rfl)
theorem dX12_feed_0 : decode cX12_feed 0 = .ok (.aload_n 0, 1) := by decide +kernel
theorem dX12_feed_1 : decode cX12_feed 1 = .ok (.getfield 174, 3) := by decide +kernel
theorem dX12_feed_4 : decode cX12_feed 4 = .ok (.bipush 20, 2) := by decide +kernel
theorem dX12_feed_6 : decode cX12_feed 6 = .ok (.iadd, 1) := by decide +kernel
theorem dX12_feed_7 : decode cX12_feed 7 = .ok (.sipush 2000, 3) := by decide +kernel
theorem dX12_feed_10 : decode cX12_feed 10 = .ok (.if_icmp .le 5, 3) := by decide +kernel
theorem dX12_feed_13 : decode cX12_feed 13 = .ok (.iconst (-1), 1) := by decide +kernel
theorem dX12_feed_14 : decode cX12_feed 14 = .ok (.ireturn, 1) := by decide +kernel
theorem dX12_feed_15 : decode cX12_feed 15 = .ok (.aload_n 0, 1) := by decide +kernel
theorem dX12_feed_16 : decode cX12_feed 16 = .ok (.iload_n 1, 1) := by decide +kernel
theorem dX12_feed_17 : decode cX12_feed 17 = .ok (.invokevirtual 177, 3) := by decide +kernel
theorem dX12_feed_20 : decode cX12_feed 20 = .ok (.aload_n 0, 1) := by decide +kernel
theorem dX12_feed_21 : decode cX12_feed 21 = .ok (.iload_n 2, 1) := by decide +kernel
theorem dX12_feed_22 : decode cX12_feed 22 = .ok (.invokevirtual 177, 3) := by decide +kernel
theorem dX12_feed_25 : decode cX12_feed 25 = .ok (.aload_n 0, 1) := by decide +kernel
theorem dX12_feed_26 : decode cX12_feed 26 = .ok (.iload_n 3, 1) := by decide +kernel
theorem dX12_feed_27 : decode cX12_feed 27 = .ok (.invokevirtual 177, 3) := by decide +kernel
theorem dX12_feed_30 : decode cX12_feed 30 = .ok (.aload_n 0, 1) := by decide +kernel
theorem dX12_feed_31 : decode cX12_feed 31 = .ok (.iload 4, 2) := by decide +kernel
theorem dX12_feed_33 : decode cX12_feed 33 = .ok (.invokevirtual 177, 3) := by decide +kernel
theorem dX12_feed_36 : decode cX12_feed 36 = .ok (.aload_n 0, 1) := by decide +kernel
theorem dX12_feed_37 : decode cX12_feed 37 = .ok (.iload 5, 2) := by decide +kernel
theorem dX12_feed_39 : decode cX12_feed 39 = .ok (.invokevirtual 177, 3) := by decide +kernel
theorem dX12_feed_42 : decode cX12_feed 42 = .ok (.aload_n 0, 1) := by decide +kernel
theorem dX12_feed_43 : decode cX12_feed 43 = .ok (.getfield 174, 3) := by decide +kernel
theorem dX12_feed_46 : decode cX12_feed 46 = .ok (.ireturn, 1) := by decide +kernel
set_option maxRecDepth 100000 in
theorem c_X12_feed (l : Launch) (D : q_D) (al : q_Al) (dt : q_Dt) (x0 : Nat) (x1 : Int32) (x2 : Int32) (x3 : Int32) (x4 : Int32) (x5 : Int32) (kx0 : al.1 x0 = 13) (r0 : Int32) (dt0 : q_Dt) (hm : X12_feed al dt x0 x1 x2 x3 x4 x5 = some (r0, dt0)) : q_Mt l yX12_feed cX12_feed 6 (some FieldType.int) 1 22 D al [.ref x0, .int x1, .int x2, .int x3, .int x4, .int x5] dt 0 (some (.int r0)) dt0 := by
  refine q_Mt.of (by decide) (Nat.le_of_ble_eq_true rfl) ?_
  intro p e s m args below meth c ls C hargs hW hl
  have hx := C.1
  have hb := C.2.1
  have hown := C.2.2.2.2.2.1
  have hts := C.2.2.2.2.2.2.1
  have hS : va_S (q_A al) s.heap s.heap [] := va_S.rf
  have hl : lv_has ls 6 [(0, .ref x0), (1, .int x1), (2, .int x2), (3, .int x3), (4, .int x4), (5, .int x5)] := hl
  unfold X12_feed at hm
  refine lv_aload_n hx hb dX12_feed_0 rfl (lv_at hl 0 rfl) ?_
  refine r_getI C hW (ci := 12) kx0 ff_12_2 cl_12 fl_RX12_174 dX12_feed_1 ?_
  refine lv_bipush (v := 20) hx hb dX12_feed_4 (by decide) ?_
  refine lv_iadd hx hb dX12_feed_6 ?_
  refine lv_sipush (v := 2000) hx hb dX12_feed_7 (by decide) ?_
  refine q_ifc hm (fun c1000001 hm => ?_) (fun c1000001 hm => ?_)
  · refine lv_icmp_le (tgt := 15) hx hb dX12_feed_10 (by decide) (fun _ => ?_) (fun h => absurd c1000001 h)
    refine lv_aload_n hx hb dX12_feed_15 rfl (lv_at hl 0 rfl) ?_
    refine lv_iload_n hx hb dX12_feed_16 rfl (lv_at hl 1 rfl) ?_
    obtain ⟨dt1000003, hc1000002, hm⟩ := q_b1i hm
    refine q_callV C hW hS (As := [.int x1]) (rest := []) (st1 := []) (c_X12_put l D al dt x0 x1 kx0 dt1000003 hc1000002) yl_X12_put vl_X12_put ml_RX12_177 (ci := 12) rfl kx0 (by decide) rfl ⟨Nat.le_of_ble_eq_true rfl, Nat.le_of_ble_eq_true rfl⟩ hl rfl (Nat.le_of_ble_eq_true rfl) dX12_feed_17 ⟨Nat.le_refl _, Nat.le_refl _⟩ rfl (fun H locs k1000004 hW hS => ?_)
    refine lv_aload_n hx hb dX12_feed_20 rfl (lv_at hl 0 rfl) ?_
    refine lv_iload_n hx hb dX12_feed_21 rfl (lv_at hl 2 rfl) ?_
    obtain ⟨dt1000006, hc1000005, hm⟩ := q_b1i hm
    refine q_callV C hW hS (As := [.int x2]) (rest := []) (st1 := []) (c_X12_put l D al dt1000003 x0 x2 kx0 dt1000006 hc1000005) yl_X12_put vl_X12_put ml_RX12_177 (ci := 12) rfl kx0 (by decide) rfl ⟨Nat.le_of_ble_eq_true rfl, Nat.le_of_ble_eq_true rfl⟩ hl rfl (Nat.le_of_ble_eq_true rfl) dX12_feed_22 ⟨Nat.le_refl _, Nat.le_refl _⟩ rfl (fun H locs k1000007 hW hS => ?_)
    refine lv_aload_n hx hb dX12_feed_25 rfl (lv_at hl 0 rfl) ?_
    refine lv_iload_n hx hb dX12_feed_26 rfl (lv_at hl 3 rfl) ?_
    obtain ⟨dt1000009, hc1000008, hm⟩ := q_b1i hm
    refine q_callV C hW hS (As := [.int x3]) (rest := []) (st1 := []) (c_X12_put l D al dt1000006 x0 x3 kx0 dt1000009 hc1000008) yl_X12_put vl_X12_put ml_RX12_177 (ci := 12) rfl kx0 (by decide) rfl ⟨Nat.le_of_ble_eq_true rfl, Nat.le_of_ble_eq_true rfl⟩ hl rfl (Nat.le_of_ble_eq_true rfl) dX12_feed_27 ⟨Nat.le_refl _, Nat.le_refl _⟩ rfl (fun H locs k1000010 hW hS => ?_)
    refine lv_aload_n hx hb dX12_feed_30 rfl (lv_at hl 0 rfl) ?_
    refine lv_iload hx hb dX12_feed_31 (lv_at hl 4 rfl) ?_
    obtain ⟨dt1000012, hc1000011, hm⟩ := q_b1i hm
    refine q_callV C hW hS (As := [.int x4]) (rest := []) (st1 := []) (c_X12_put l D al dt1000009 x0 x4 kx0 dt1000012 hc1000011) yl_X12_put vl_X12_put ml_RX12_177 (ci := 12) rfl kx0 (by decide) rfl ⟨Nat.le_of_ble_eq_true rfl, Nat.le_of_ble_eq_true rfl⟩ hl rfl (Nat.le_of_ble_eq_true rfl) dX12_feed_33 ⟨Nat.le_refl _, Nat.le_refl _⟩ rfl (fun H locs k1000013 hW hS => ?_)
    refine lv_aload_n hx hb dX12_feed_36 rfl (lv_at hl 0 rfl) ?_
    refine lv_iload hx hb dX12_feed_37 (lv_at hl 5 rfl) ?_
    obtain ⟨dt1000015, hc1000014, hm⟩ := q_b1i hm
    refine q_callV C hW hS (As := [.int x5]) (rest := []) (st1 := []) (c_X12_put l D al dt1000012 x0 x5 kx0 dt1000015 hc1000014) yl_X12_put vl_X12_put ml_RX12_177 (ci := 12) rfl kx0 (by decide) rfl ⟨Nat.le_of_ble_eq_true rfl, Nat.le_of_ble_eq_true rfl⟩ hl rfl (Nat.le_of_ble_eq_true rfl) dX12_feed_39 ⟨Nat.le_refl _, Nat.le_refl _⟩ rfl (fun H locs k1000016 hW hS => ?_)
    refine lv_aload_n hx hb dX12_feed_42 rfl (lv_at hl 0 rfl) ?_
    refine r_getI C hW (ci := 12) kx0 ff_12_2 cl_12 fl_RX12_174 dX12_feed_43 ?_
    exact e_iD C hW hS hm dX12_feed_46
  refine lv_icmp_le (tgt := 15) hx hb dX12_feed_10 (by decide) (fun h => absurd h c1000001) (fun _ => ?_)
  refine lv_iconst (v := (-1)) hx hb dX12_feed_13 (by decide) ?_
  exact e_iD C hW hS hm dX12_feed_14
theorem dX12_back_0 : decode cX12_back 0 = .ok (.iload_n 1, 1) := by decide +kernel
theorem dX12_back_1 : decode cX12_back 1 = .ok (.ifCond .lt 11, 3) := by decide +kernel
theorem dX12_back_4 : decode cX12_back 4 = .ok (.iload_n 1, 1) := by decide +kernel
theorem dX12_back_5 : decode cX12_back 5 = .ok (.aload_n 0, 1) := by decide +kernel
theorem dX12_back_6 : decode cX12_back 6 = .ok (.getfield 174, 3) := by decide +kernel
theorem dX12_back_9 : decode cX12_back 9 = .ok (.if_icmp .le 5, 3) := by decide +kernel
theorem dX12_back_12 : decode cX12_back 12 = .ok (.iconst (-1), 1) := by decide +kernel
theorem dX12_back_13 : decode cX12_back 13 = .ok (.ireturn, 1) := by decide +kernel
theorem dX12_back_14 : decode cX12_back 14 = .ok (.aload_n 0, 1) := by decide +kernel
theorem dX12_back_15 : decode cX12_back 15 = .ok (.dup, 1) := by decide +kernel
theorem dX12_back_16 : decode cX12_back 16 = .ok (.getfield 174, 3) := by decide +kernel
theorem dX12_back_19 : decode cX12_back 19 = .ok (.iload_n 1, 1) := by decide +kernel
theorem dX12_back_20 : decode cX12_back 20 = .ok (.isub, 1) := by decide +kernel
theorem dX12_back_21 : decode cX12_back 21 = .ok (.putfield 174, 3) := by decide +kernel
theorem dX12_back_24 : decode cX12_back 24 = .ok (.aload_n 0, 1) := by decide +kernel
theorem dX12_back_25 : decode cX12_back 25 = .ok (.getfield 174, 3) := by decide +kernel
theorem dX12_back_28 : decode cX12_back 28 = .ok (.ireturn, 1) := by decide +kernel
set_option maxRecDepth 100000 in
theorem c_X12_back (l : Launch) (D : q_D) (al : q_Al) (dt : q_Dt) (x0 : Nat) (x1 : Int32) (kx0 : al.1 x0 = 13) (r0 : Int32) (dt0 : q_Dt) (hm : X12_back al dt x0 x1 = some (r0, dt0)) : q_Mt l yX12_back cX12_back 2 (some FieldType.int) 0 0 D al [.ref x0, .int x1] dt 0 (some (.int r0)) dt0 := by
  refine q_Mt.of (by decide) (Nat.le_of_ble_eq_true rfl) ?_
  intro p e s m args below meth c ls C hargs hW hl
  have hx := C.1
  have hb := C.2.1
  have hown := C.2.2.2.2.2.1
  have hts := C.2.2.2.2.2.2.1
  have hS : va_S (q_A al) s.heap s.heap [] := va_S.rf
  have hl : lv_has ls 2 [(0, .ref x0), (1, .int x1)] := hl
  unfold X12_back at hm
  refine lv_iload_n hx hb dX12_back_0 rfl (lv_at hl 1 rfl) ?_
  refine q_ifc hm (fun c1000001 hm => ?_) (fun c1000001 hm => ?_)
  · refine lv_if_lt (tgt := 12) hx hb dX12_back_1 (by decide) (fun _ => ?_) (fun h => absurd c1000001 h)
    refine lv_iconst (v := (-1)) hx hb dX12_back_12 (by decide) ?_
    exact e_iD C hW hS hm dX12_back_13
  refine lv_if_lt (tgt := 12) hx hb dX12_back_1 (by decide) (fun h => absurd h c1000001) (fun _ => ?_)
  refine lv_iload_n hx hb dX12_back_4 rfl (lv_at hl 1 rfl) ?_
  refine lv_aload_n hx hb dX12_back_5 rfl (lv_at hl 0 rfl) ?_
  refine r_getI C hW (ci := 12) kx0 ff_12_2 cl_12 fl_RX12_174 dX12_back_6 ?_
  refine q_ifc hm (fun c1000002 hm => ?_) (fun c1000002 hm => ?_)
  · refine lv_icmp_le (tgt := 14) hx hb dX12_back_9 (by decide) (fun _ => ?_) (fun h => absurd c1000002 h)
    refine lv_aload_n hx hb dX12_back_14 rfl (lv_at hl 0 rfl) ?_
    refine lv_dup hx hb dX12_back_15 rfl ?_
    refine r_getI C hW (ci := 12) kx0 ff_12_2 cl_12 fl_RX12_174 dX12_back_16 ?_
    refine lv_iload_n hx hb dX12_back_19 rfl (lv_at hl 1 rfl) ?_
    refine lv_isub hx hb dX12_back_20 ?_
    refine r_putI C hW hS hm (ci := 12) kx0 ff_12_2 cl_12 fl_RX12_174 (nf_12_2) rfl dX12_back_21 (fun dt1000003 H locs hm hW hS => ?_)
    refine lv_aload_n hx hb dX12_back_24 rfl (lv_at hl 0 rfl) ?_
    refine r_getI C hW (ci := 12) kx0 ff_12_2 cl_12 fl_RX12_174 dX12_back_25 ?_
    exact e_iD C hW hS hm dX12_back_28
  refine lv_icmp_le (tgt := 14) hx hb dX12_back_9 (by decide) (fun h => absurd h c1000002) (fun _ => ?_)
  refine lv_iconst (v := (-1)) hx hb dX12_back_12 (by decide) ?_
  exact e_iD C hW hS hm dX12_back_13
theorem dX12_byteAt_0 : decode cX12_byteAt 0 = .ok (.iload_n 1, 1) := by decide +kernel
theorem dX12_byteAt_1 : decode cX12_byteAt 1 = .ok (.aload_n 0, 1) := by decide +kernel
theorem dX12_byteAt_2 : decode cX12_byteAt 2 = .ok (.getfield 181, 3) := by decide +kernel
theorem dX12_byteAt_5 : decode cX12_byteAt 5 = .ok (.if_icmp .ge 16, 3) := by decide +kernel
theorem dX12_byteAt_8 : decode cX12_byteAt 8 = .ok (.aload_n 0, 1) := by decide +kernel
theorem dX12_byteAt_9 : decode cX12_byteAt 9 = .ok (.getfield 17, 3) := by decide +kernel
theorem dX12_byteAt_12 : decode cX12_byteAt 12 = .ok (.iload_n 1, 1) := by decide +kernel
theorem dX12_byteAt_13 : decode cX12_byteAt 13 = .ok (.baload, 1) := by decide +kernel
theorem dX12_byteAt_14 : decode cX12_byteAt 14 = .ok (.sipush 255, 3) := by decide +kernel
theorem dX12_byteAt_17 : decode cX12_byteAt 17 = .ok (.iand, 1) := by decide +kernel
theorem dX12_byteAt_18 : decode cX12_byteAt 18 = .ok (.goto 4, 3) := by decide +kernel
theorem dX12_byteAt_21 : decode cX12_byteAt 21 = .ok (.iconst 0, 1) := by decide +kernel
theorem dX12_byteAt_22 : decode cX12_byteAt 22 = .ok (.ireturn, 1) := by decide +kernel
set_option maxRecDepth 100000 in
theorem c_X12_byteAt (l : Launch) (D : q_D) (al : q_Al) (dt : q_Dt) (x0 : Nat) (x1 : Int32) (kx0 : al.1 x0 = 13) (r0 : Int32) (hm : X12_byteAt al dt x0 x1 = some r0) : q_Mt l yX12_byteAt cX12_byteAt 2 (some FieldType.int) 0 0 D al [.ref x0, .int x1] dt 0 (some (.int r0)) dt := by
  refine q_Mt.of (by decide) (Nat.le_of_ble_eq_true rfl) ?_
  intro p e s m args below meth c ls C hargs hW hl
  have hx := C.1
  have hb := C.2.1
  have hown := C.2.2.2.2.2.1
  have hts := C.2.2.2.2.2.2.1
  have hS : va_S (q_A al) s.heap s.heap [] := va_S.rf
  have hl : lv_has ls 2 [(0, .ref x0), (1, .int x1)] := hl
  unfold X12_byteAt at hm
  refine lv_iload_n hx hb dX12_byteAt_0 rfl (lv_at hl 1 rfl) ?_
  refine lv_aload_n hx hb dX12_byteAt_1 rfl (lv_at hl 0 rfl) ?_
  refine r_getI C hW (ci := 12) kx0 ff_12_4 cl_12 fl_RX12_181 dX12_byteAt_2 ?_
  refine q_ifc hm (fun c1000001 hm => ?_) (fun c1000001 hm => ?_)
  · refine lv_icmp_ge (tgt := 21) hx hb dX12_byteAt_5 (by decide) (fun _ => ?_) (fun h => absurd c1000001 h)
    refine lv_iconst (v := 0) hx hb dX12_byteAt_21 (by decide) ?_
    exact e_i C hW hS hm dX12_byteAt_22
  refine lv_icmp_ge (tgt := 21) hx hb dX12_byteAt_5 (by decide) (fun h => absurd h c1000001) (fun _ => ?_)
  refine lv_aload_n hx hb dX12_byteAt_8 rfl (lv_at hl 0 rfl) ?_
  refine r_getF C hW (ci := 12) kx0 ff_12_3 cl_12 fl_RX12_17 dX12_byteAt_9 (fun k1000002 => ?_)
  refine lv_iload_n hx hb dX12_byteAt_12 rfl (lv_at hl 1 rfl) ?_
  refine r_bald C hW hm k1000002 dX12_byteAt_13 (fun hm => ?_)
  refine lv_sipush (v := 255) hx hb dX12_byteAt_14 (by decide) ?_
  refine lv_iand hx hb dX12_byteAt_17 ?_
  refine lv_goto (tgt := 22) hx hb dX12_byteAt_18 (by decide) ?_
  exact e_i C hW hS hm dX12_byteAt_22
theorem dX12_isDigit_0 : decode cX12_isDigit 0 = .ok (.iload_n 0, 1) := by decide +kernel
theorem dX12_isDigit_1 : decode cX12_isDigit 1 = .ok (.bipush 48, 2) := by decide +kernel
theorem dX12_isDigit_3 : decode cX12_isDigit 3 = .ok (.if_icmp .lt 13, 3) := by decide +kernel
theorem dX12_isDigit_6 : decode cX12_isDigit 6 = .ok (.iload_n 0, 1) := by decide +kernel
theorem dX12_isDigit_7 : decode cX12_isDigit 7 = .ok (.bipush 57, 2) := by decide +kernel
theorem dX12_isDigit_9 : decode cX12_isDigit 9 = .ok (.if_icmp .gt 7, 3) := by decide +kernel
theorem dX12_isDigit_12 : decode cX12_isDigit 12 = .ok (.iconst 1, 1) := by decide +kernel
theorem dX12_isDigit_13 : decode cX12_isDigit 13 = .ok (.goto 4, 3) := by decide +kernel
theorem dX12_isDigit_16 : decode cX12_isDigit 16 = .ok (.iconst 0, 1) := by decide +kernel
theorem dX12_isDigit_17 : decode cX12_isDigit 17 = .ok (.ireturn, 1) := by decide +kernel
set_option maxRecDepth 100000 in
theorem c_X12_isDigit (l : Launch) (D : q_D) (al : q_Al) (dt : q_Dt) (x0 : Int32) (r0 : Int32) (hm : X12_isDigit x0 = some r0) : q_Mt l yX12_isDigit cX12_isDigit 1 (some FieldType.boolean) 0 0 D al [.int x0] dt 0 (some (.int r0)) dt := by
  refine q_Mt.of (by decide) (Nat.le_of_ble_eq_true rfl) ?_
  intro p e s m args below meth c ls C hargs hW hl
  have hx := C.1
  have hb := C.2.1
  have hown := C.2.2.2.2.2.1
  have hts := C.2.2.2.2.2.2.1
  have hS : va_S (q_A al) s.heap s.heap [] := va_S.rf
  have hl : lv_has ls 1 [(0, .int x0)] := hl
  unfold X12_isDigit at hm
  refine lv_iload_n hx hb dX12_isDigit_0 rfl (lv_at hl 0 rfl) ?_
  refine lv_bipush (v := 48) hx hb dX12_isDigit_1 (by decide) ?_
  refine q_ifc hm (fun c1000001 hm => ?_) (fun c1000001 hm => ?_)
  · refine lv_icmp_lt (tgt := 16) hx hb dX12_isDigit_3 (by decide) (fun _ => ?_) (fun h => absurd c1000001 h)
    refine lv_iconst (v := 0) hx hb dX12_isDigit_16 (by decide) ?_
    exact e_zl C hW hS (Or.inl rfl) hm dX12_isDigit_17
  refine lv_icmp_lt (tgt := 16) hx hb dX12_isDigit_3 (by decide) (fun h => absurd h c1000001) (fun _ => ?_)
  refine lv_iload_n hx hb dX12_isDigit_6 rfl (lv_at hl 0 rfl) ?_
  refine lv_bipush (v := 57) hx hb dX12_isDigit_7 (by decide) ?_
  refine q_ifc hm (fun c1000002 hm => ?_) (fun c1000002 hm => ?_)
  · refine lv_icmp_gt (tgt := 16) hx hb dX12_isDigit_9 (by decide) (fun _ => ?_) (fun h => absurd c1000002 h)
    refine lv_iconst (v := 0) hx hb dX12_isDigit_16 (by decide) ?_
    exact e_zl C hW hS (Or.inl rfl) hm dX12_isDigit_17
  refine lv_icmp_gt (tgt := 16) hx hb dX12_isDigit_9 (by decide) (fun h => absurd h c1000002) (fun _ => ?_)
  refine lv_iconst (v := 1) hx hb dX12_isDigit_12 (by decide) ?_
  refine lv_goto (tgt := 17) hx hb dX12_isDigit_13 (by decide) ?_
  exact e_zl C hW hS (Or.inr rfl) hm dX12_isDigit_17
theorem dX12_isLetter_0 : decode cX12_isLetter 0 = .ok (.iload_n 0, 1) := by decide +kernel
theorem dX12_isLetter_1 : decode cX12_isLetter 1 = .ok (.bipush 97, 2) := by decide +kernel
theorem dX12_isLetter_3 : decode cX12_isLetter 3 = .ok (.if_icmp .lt 13, 3) := by decide +kernel
theorem dX12_isLetter_6 : decode cX12_isLetter 6 = .ok (.iload_n 0, 1) := by decide +kernel
theorem dX12_isLetter_7 : decode cX12_isLetter 7 = .ok (.bipush 122, 2) := by decide +kernel
theorem dX12_isLetter_9 : decode cX12_isLetter 9 = .ok (.if_icmp .gt 7, 3) := by decide +kernel
theorem dX12_isLetter_12 : decode cX12_isLetter 12 = .ok (.iconst 1, 1) := by decide +kernel
theorem dX12_isLetter_13 : decode cX12_isLetter 13 = .ok (.goto 4, 3) := by decide +kernel
theorem dX12_isLetter_16 : decode cX12_isLetter 16 = .ok (.iconst 0, 1) := by decide +kernel
theorem dX12_isLetter_17 : decode cX12_isLetter 17 = .ok (.ireturn, 1) := by decide +kernel
set_option maxRecDepth 100000 in
theorem c_X12_isLetter (l : Launch) (D : q_D) (al : q_Al) (dt : q_Dt) (x0 : Int32) (r0 : Int32) (hm : X12_isLetter x0 = some r0) : q_Mt l yX12_isLetter cX12_isLetter 1 (some FieldType.boolean) 0 0 D al [.int x0] dt 0 (some (.int r0)) dt := by
  refine q_Mt.of (by decide) (Nat.le_of_ble_eq_true rfl) ?_
  intro p e s m args below meth c ls C hargs hW hl
  have hx := C.1
  have hb := C.2.1
  have hown := C.2.2.2.2.2.1
  have hts := C.2.2.2.2.2.2.1
  have hS : va_S (q_A al) s.heap s.heap [] := va_S.rf
  have hl : lv_has ls 1 [(0, .int x0)] := hl
  unfold X12_isLetter at hm
  refine lv_iload_n hx hb dX12_isLetter_0 rfl (lv_at hl 0 rfl) ?_
  refine lv_bipush (v := 97) hx hb dX12_isLetter_1 (by decide) ?_
  refine q_ifc hm (fun c1000001 hm => ?_) (fun c1000001 hm => ?_)
  · refine lv_icmp_lt (tgt := 16) hx hb dX12_isLetter_3 (by decide) (fun _ => ?_) (fun h => absurd c1000001 h)
    refine lv_iconst (v := 0) hx hb dX12_isLetter_16 (by decide) ?_
    exact e_zl C hW hS (Or.inl rfl) hm dX12_isLetter_17
  refine lv_icmp_lt (tgt := 16) hx hb dX12_isLetter_3 (by decide) (fun h => absurd h c1000001) (fun _ => ?_)
  refine lv_iload_n hx hb dX12_isLetter_6 rfl (lv_at hl 0 rfl) ?_
  refine lv_bipush (v := 122) hx hb dX12_isLetter_7 (by decide) ?_
  refine q_ifc hm (fun c1000002 hm => ?_) (fun c1000002 hm => ?_)
  · refine lv_icmp_gt (tgt := 16) hx hb dX12_isLetter_9 (by decide) (fun _ => ?_) (fun h => absurd c1000002 h)
    refine lv_iconst (v := 0) hx hb dX12_isLetter_16 (by decide) ?_
    exact e_zl C hW hS (Or.inl rfl) hm dX12_isLetter_17
  refine lv_icmp_gt (tgt := 16) hx hb dX12_isLetter_9 (by decide) (fun h => absurd h c1000002) (fun _ => ?_)
  refine lv_iconst (v := 1) hx hb dX12_isLetter_12 (by decide) ?_
  refine lv_goto (tgt := 17) hx hb dX12_isLetter_13 (by decide) ?_
  exact e_zl C hW hS (Or.inr rfl) hm dX12_isLetter_17
theorem dX12_appends_0 : decode cX12_appends 0 = .ok (.iload_n 2, 1) := by decide +kernel
theorem dX12_appends_1 : decode cX12_appends 1 = .ok (.ifCond .ne 7, 3) := by decide +kernel
theorem dX12_appends_4 : decode cX12_appends 4 = .ok (.lload_n 0, 1) := by decide +kernel
theorem dX12_appends_5 : decode cX12_appends 5 = .ok (.goto 16, 3) := by decide +kernel
theorem dX12_appends_8 : decode cX12_appends 8 = .ok (.ldc2_w 184, 3) := by decide +kernel
theorem dX12_appends_11 : decode cX12_appends 11 = .ok (.lload_n 0, 1) := by decide +kernel
theorem dX12_appends_12 : decode cX12_appends 12 = .ok (.lmul, 1) := by decide +kernel
theorem dX12_appends_13 : decode cX12_appends 13 = .ok (.iload_n 2, 1) := by decide +kernel
theorem dX12_appends_14 : decode cX12_appends 14 = .ok (.bipush 97, 2) := by decide +kernel
theorem dX12_appends_16 : decode cX12_appends 16 = .ok (.isub, 1) := by decide +kernel
theorem dX12_appends_17 : decode cX12_appends 17 = .ok (.iconst 1, 1) := by decide +kernel
theorem dX12_appends_18 : decode cX12_appends 18 = .ok (.iadd, 1) := by decide +kernel
theorem dX12_appends_19 : decode cX12_appends 19 = .ok (.i2l, 1) := by decide +kernel
theorem dX12_appends_20 : decode cX12_appends 20 = .ok (.ladd, 1) := by decide +kernel
theorem dX12_appends_21 : decode cX12_appends 21 = .ok (.lreturn, 1) := by decide +kernel
set_option maxRecDepth 100000 in
theorem c_X12_appends (l : Launch) (D : q_D) (al : q_Al) (dt : q_Dt) (x0 : Int64) (x2 : Int32) (r0 : Int64) (hm : X12_appends x0 x2 = some r0) : q_Mt l yX12_appends cX12_appends 3 (some FieldType.long) 0 0 D al [.long x0, .int x2] dt 0 (some (.long r0)) dt := by
  refine q_Mt.of (by decide) (Nat.le_of_ble_eq_true rfl) ?_
  intro p e s m args below meth c ls C hargs hW hl
  have hx := C.1
  have hb := C.2.1
  have hown := C.2.2.2.2.2.1
  have hts := C.2.2.2.2.2.2.1
  have hS : va_S (q_A al) s.heap s.heap [] := va_S.rf
  have hl : lv_has ls 3 [(0, .long x0), (2, .int x2)] := hl
  unfold X12_appends at hm
  refine lv_iload_n hx hb dX12_appends_0 rfl (lv_at hl 1 rfl) ?_
  refine q_ifc hm (fun c1000001 hm => ?_) (fun c1000001 hm => ?_)
  · refine lv_if_ne (tgt := 8) hx hb dX12_appends_1 (by decide) (fun h => absurd c1000001 h) (fun _ => ?_)
    refine lv_lload_n hx hb dX12_appends_4 rfl (lv_at hl 0 rfl) ?_
    refine lv_goto (tgt := 21) hx hb dX12_appends_5 (by decide) ?_
    exact e_l C hW hS hm dX12_appends_21
  refine lv_if_ne (tgt := 8) hx hb dX12_appends_1 (by decide) (fun _ => ?_) (fun h => absurd h c1000001)
  refine lv_ldc2 (own := RX12) (v := 27) hx hb hown (hts _ wc_RX12_184) dX12_appends_8 ?_
  refine lv_lload_n hx hb dX12_appends_11 rfl (lv_at hl 0 rfl) ?_
  refine lv_lmul hx hb dX12_appends_12 ?_
  refine lv_iload_n hx hb dX12_appends_13 rfl (lv_at hl 1 rfl) ?_
  refine lv_bipush (v := 97) hx hb dX12_appends_14 (by decide) ?_
  refine lv_isub hx hb dX12_appends_16 ?_
  refine lv_iconst (v := 1) hx hb dX12_appends_17 (by decide) ?_
  refine lv_iadd hx hb dX12_appends_18 ?_
  refine lv_i2l (v := (Int32.toInt64 ((x2 - 97) + 1))) hx hb dX12_appends_19 rfl ?_
  refine lv_ladd hx hb dX12_appends_20 ?_
  exact e_l C hW hS hm dX12_appends_21
theorem dX12_word_0 : decode cX12_word 0 = .ok (.lconst 0, 1) := by decide +kernel
theorem dX12_word_1 : decode cX12_word 1 = .ok (.iload_n 0, 1) := by decide +kernel
theorem dX12_word_2 : decode cX12_word 2 = .ok (.invokestatic 186, 3) := by decide +kernel
theorem dX12_word_5 : decode cX12_word 5 = .ok (.iload_n 1, 1) := by decide +kernel
theorem dX12_word_6 : decode cX12_word 6 = .ok (.invokestatic 186, 3) := by decide +kernel
theorem dX12_word_9 : decode cX12_word 9 = .ok (.iload_n 2, 1) := by decide +kernel
theorem dX12_word_10 : decode cX12_word 10 = .ok (.invokestatic 186, 3) := by decide +kernel
theorem dX12_word_13 : decode cX12_word 13 = .ok (.iload_n 3, 1) := by decide +kernel
theorem dX12_word_14 : decode cX12_word 14 = .ok (.invokestatic 186, 3) := by decide +kernel
theorem dX12_word_17 : decode cX12_word 17 = .ok (.iload 4, 2) := by decide +kernel
theorem dX12_word_19 : decode cX12_word 19 = .ok (.invokestatic 186, 3) := by decide +kernel
theorem dX12_word_22 : decode cX12_word 22 = .ok (.iload 5, 2) := by decide +kernel
theorem dX12_word_24 : decode cX12_word 24 = .ok (.invokestatic 186, 3) := by decide +kernel
theorem dX12_word_27 : decode cX12_word 27 = .ok (.iload 6, 2) := by decide +kernel
theorem dX12_word_29 : decode cX12_word 29 = .ok (.invokestatic 186, 3) := by decide +kernel
theorem dX12_word_32 : decode cX12_word 32 = .ok (.lreturn, 1) := by decide +kernel
set_option maxRecDepth 100000 in
theorem c_X12_word (l : Launch) (D : q_D) (al : q_Al) (dt : q_Dt) (x0 : Int32) (x1 : Int32) (x2 : Int32) (x3 : Int32) (x4 : Int32) (x5 : Int32) (x6 : Int32) (r0 : Int64) (hm : X12_word x0 x1 x2 x3 x4 x5 x6 = some r0) : q_Mt l yX12_word cX12_word 7 (some FieldType.long) 1 22 D al [.int x0, .int x1, .int x2, .int x3, .int x4, .int x5, .int x6] dt 0 (some (.long r0)) dt := by
  refine q_Mt.of (by decide) (Nat.le_of_ble_eq_true rfl) ?_
  intro p e s m args below meth c ls C hargs hW hl
  have hx := C.1
  have hb := C.2.1
  have hown := C.2.2.2.2.2.1
  have hts := C.2.2.2.2.2.2.1
  have hS : va_S (q_A al) s.heap s.heap [] := va_S.rf
  have hl : lv_has ls 7 [(0, .int x0), (1, .int x1), (2, .int x2), (3, .int x3), (4, .int x4), (5, .int x5), (6, .int x6)] := hl
  unfold X12_word at hm
  refine lv_lconst (v := 0) hx hb dX12_word_0 rfl ?_
  refine lv_iload_n hx hb dX12_word_1 rfl (lv_at hl 0 rfl) ?_
  obtain ⟨v1000002, hc1000001, hm⟩ := q_b1i hm
  refine q_callS C hW hS (As := [.long 0, .int x0]) (rest := []) (st1 := [.long v1000002]) (c_X12_appends l D al dt 0 x0 v1000002 hc1000001) yl_X12_appends sl_X12_appends ml_RX12_186 rfl ⟨Nat.le_of_ble_eq_true rfl, Nat.le_of_ble_eq_true rfl⟩ hl rfl (Nat.le_of_ble_eq_true rfl) dX12_word_2 ⟨Nat.le_refl _, Nat.le_refl _⟩ rfl (fun H locs k1000003 hW hS => ?_)
  refine lv_iload_n hx hb dX12_word_5 rfl (lv_at hl 1 rfl) ?_
  obtain ⟨v1000005, hc1000004, hm⟩ := q_b1i hm
  refine q_callS C hW hS (As := [.long v1000002, .int x1]) (rest := []) (st1 := [.long v1000005]) (c_X12_appends l D al dt v1000002 x1 v1000005 hc1000004) yl_X12_appends sl_X12_appends ml_RX12_186 rfl ⟨Nat.le_of_ble_eq_true rfl, Nat.le_of_ble_eq_true rfl⟩ hl rfl (Nat.le_of_ble_eq_true rfl) dX12_word_6 ⟨Nat.le_refl _, Nat.le_refl _⟩ rfl (fun H locs k1000006 hW hS => ?_)
  refine lv_iload_n hx hb dX12_word_9 rfl (lv_at hl 2 rfl) ?_
  obtain ⟨v1000008, hc1000007, hm⟩ := q_b1i hm
  refine q_callS C hW hS (As := [.long v1000005, .int x2]) (rest := []) (st1 := [.long v1000008]) (c_X12_appends l D al dt v1000005 x2 v1000008 hc1000007) yl_X12_appends sl_X12_appends ml_RX12_186 rfl ⟨Nat.le_of_ble_eq_true rfl, Nat.le_of_ble_eq_true rfl⟩ hl rfl (Nat.le_of_ble_eq_true rfl) dX12_word_10 ⟨Nat.le_refl _, Nat.le_refl _⟩ rfl (fun H locs k1000009 hW hS => ?_)
  refine lv_iload_n hx hb dX12_word_13 rfl (lv_at hl 3 rfl) ?_
  obtain ⟨v1000011, hc1000010, hm⟩ := q_b1i hm
  refine q_callS C hW hS (As := [.long v1000008, .int x3]) (rest := []) (st1 := [.long v1000011]) (c_X12_appends l D al dt v1000008 x3 v1000011 hc1000010) yl_X12_appends sl_X12_appends ml_RX12_186 rfl ⟨Nat.le_of_ble_eq_true rfl, Nat.le_of_ble_eq_true rfl⟩ hl rfl (Nat.le_of_ble_eq_true rfl) dX12_word_14 ⟨Nat.le_refl _, Nat.le_refl _⟩ rfl (fun H locs k1000012 hW hS => ?_)
  refine lv_iload hx hb dX12_word_17 (lv_at hl 4 rfl) ?_
  obtain ⟨v1000014, hc1000013, hm⟩ := q_b1i hm
  refine q_callS C hW hS (As := [.long v1000011, .int x4]) (rest := []) (st1 := [.long v1000014]) (c_X12_appends l D al dt v1000011 x4 v1000014 hc1000013) yl_X12_appends sl_X12_appends ml_RX12_186 rfl ⟨Nat.le_of_ble_eq_true rfl, Nat.le_of_ble_eq_true rfl⟩ hl rfl (Nat.le_of_ble_eq_true rfl) dX12_word_19 ⟨Nat.le_refl _, Nat.le_refl _⟩ rfl (fun H locs k1000015 hW hS => ?_)
  refine lv_iload hx hb dX12_word_22 (lv_at hl 5 rfl) ?_
  obtain ⟨v1000017, hc1000016, hm⟩ := q_b1i hm
  refine q_callS C hW hS (As := [.long v1000014, .int x5]) (rest := []) (st1 := [.long v1000017]) (c_X12_appends l D al dt v1000014 x5 v1000017 hc1000016) yl_X12_appends sl_X12_appends ml_RX12_186 rfl ⟨Nat.le_of_ble_eq_true rfl, Nat.le_of_ble_eq_true rfl⟩ hl rfl (Nat.le_of_ble_eq_true rfl) dX12_word_24 ⟨Nat.le_refl _, Nat.le_refl _⟩ rfl (fun H locs k1000018 hW hS => ?_)
  refine lv_iload hx hb dX12_word_27 (lv_at hl 6 rfl) ?_
  obtain ⟨v1000020, hc1000019, hm⟩ := q_b1i hm
  refine q_callS C hW hS (As := [.long v1000017, .int x6]) (rest := []) (st1 := [.long v1000020]) (c_X12_appends l D al dt v1000017 x6 v1000020 hc1000019) yl_X12_appends sl_X12_appends ml_RX12_186 rfl ⟨Nat.le_of_ble_eq_true rfl, Nat.le_of_ble_eq_true rfl⟩ hl rfl (Nat.le_of_ble_eq_true rfl) dX12_word_29 ⟨Nat.le_refl _, Nat.le_refl _⟩ rfl (fun H locs k1000021 hW hS => ?_)
  exact e_l C hW hS hm dX12_word_32
theorem dX12_token_0 : decode cX12_token 0 = .ok (.aload_n 0, 1) := by decide +kernel
theorem dX12_token_1 : decode cX12_token 1 = .ok (.getfield 20, 3) := by decide +kernel
theorem dX12_token_4 : decode cX12_token 4 = .ok (.aload_n 0, 1) := by decide +kernel
theorem dX12_token_5 : decode cX12_token 5 = .ok (.getfield 190, 3) := by decide +kernel
theorem dX12_token_8 : decode cX12_token 8 = .ok (.iload_n 1, 1) := by decide +kernel
theorem dX12_token_9 : decode cX12_token 9 = .ok (.iastore, 1) := by decide +kernel
theorem dX12_token_10 : decode cX12_token 10 = .ok (.aload_n 0, 1) := by decide +kernel
theorem dX12_token_11 : decode cX12_token 11 = .ok (.getfield 24, 3) := by decide +kernel
theorem dX12_token_14 : decode cX12_token 14 = .ok (.aload_n 0, 1) := by decide +kernel
theorem dX12_token_15 : decode cX12_token 15 = .ok (.getfield 190, 3) := by decide +kernel
theorem dX12_token_18 : decode cX12_token 18 = .ok (.iload_n 2, 1) := by decide +kernel
theorem dX12_token_19 : decode cX12_token 19 = .ok (.iastore, 1) := by decide +kernel
theorem dX12_token_20 : decode cX12_token 20 = .ok (.aload_n 0, 1) := by decide +kernel
theorem dX12_token_21 : decode cX12_token 21 = .ok (.getfield 27, 3) := by decide +kernel
theorem dX12_token_24 : decode cX12_token 24 = .ok (.aload_n 0, 1) := by decide +kernel
theorem dX12_token_25 : decode cX12_token 25 = .ok (.getfield 190, 3) := by decide +kernel
theorem dX12_token_28 : decode cX12_token 28 = .ok (.iload_n 3, 1) := by decide +kernel
theorem dX12_token_29 : decode cX12_token 29 = .ok (.iastore, 1) := by decide +kernel
theorem dX12_token_30 : decode cX12_token 30 = .ok (.aload_n 0, 1) := by decide +kernel
theorem dX12_token_31 : decode cX12_token 31 = .ok (.getfield 30, 3) := by decide +kernel
theorem dX12_token_34 : decode cX12_token 34 = .ok (.aload_n 0, 1) := by decide +kernel
theorem dX12_token_35 : decode cX12_token 35 = .ok (.getfield 190, 3) := by decide +kernel
theorem dX12_token_38 : decode cX12_token 38 = .ok (.lload 4, 2) := by decide +kernel
theorem dX12_token_40 : decode cX12_token 40 = .ok (.lastore, 1) := by decide +kernel
theorem dX12_token_41 : decode cX12_token 41 = .ok (.aload_n 0, 1) := by decide +kernel
theorem dX12_token_42 : decode cX12_token 42 = .ok (.dup, 1) := by decide +kernel
theorem dX12_token_43 : decode cX12_token 43 = .ok (.getfield 190, 3) := by decide +kernel
theorem dX12_token_46 : decode cX12_token 46 = .ok (.iconst 1, 1) := by decide +kernel
theorem dX12_token_47 : decode cX12_token 47 = .ok (.iadd, 1) := by decide +kernel
theorem dX12_token_48 : decode cX12_token 48 = .ok (.putfield 190, 3) := by decide +kernel
theorem dX12_token_51 : decode cX12_token 51 = .ok (.return_, 1) := by decide +kernel
set_option maxRecDepth 100000 in
theorem c_X12_token (l : Launch) (D : q_D) (al : q_Al) (dt : q_Dt) (x0 : Nat) (x1 : Int32) (x2 : Int32) (x3 : Int32) (x4 : Int64) (kx0 : al.1 x0 = 13) (dt0 : q_Dt) (hm : X12_token al dt x0 x1 x2 x3 x4 = some dt0) : q_Mt l yX12_token cX12_token 6 (none) 0 0 D al [.ref x0, .int x1, .int x2, .int x3, .long x4] dt 0 none dt0 := by
  refine q_Mt.of (by decide) (Nat.le_of_ble_eq_true rfl) ?_
  intro p e s m args below meth c ls C hargs hW hl
  have hx := C.1
  have hb := C.2.1
  have hown := C.2.2.2.2.2.1
  have hts := C.2.2.2.2.2.2.1
  have hS : va_S (q_A al) s.heap s.heap [] := va_S.rf
  have hl : lv_has ls 6 [(0, .ref x0), (1, .int x1), (2, .int x2), (3, .int x3), (4, .long x4)] := hl
  unfold X12_token at hm
  refine lv_aload_n hx hb dX12_token_0 rfl (lv_at hl 0 rfl) ?_
  refine r_getF C hW (ci := 12) kx0 ff_12_5 cl_12 fl_RX12_20 dX12_token_1 (fun k1000001 => ?_)
  refine lv_aload_n hx hb dX12_token_4 rfl (lv_at hl 0 rfl) ?_
  refine r_getI C hW (ci := 12) kx0 ff_12_10 cl_12 fl_RX12_190 dX12_token_5 ?_
  refine lv_iload_n hx hb dX12_token_8 rfl (lv_at hl 1 rfl) ?_
  refine r_iast C hW hS hm k1000001 dX12_token_9 (fun dt1000002 H locs hm hW hS => ?_)
  refine lv_aload_n hx hb dX12_token_10 rfl (lv_at hl 0 rfl) ?_
  refine r_getF C hW (ci := 12) kx0 ff_12_6 cl_12 fl_RX12_24 dX12_token_11 (fun k1000003 => ?_)
  refine lv_aload_n hx hb dX12_token_14 rfl (lv_at hl 0 rfl) ?_
  refine r_getI C hW (ci := 12) kx0 ff_12_10 cl_12 fl_RX12_190 dX12_token_15 ?_
  refine lv_iload_n hx hb dX12_token_18 rfl (lv_at hl 2 rfl) ?_
  refine r_iast C hW hS hm k1000003 dX12_token_19 (fun dt1000004 H locs hm hW hS => ?_)
  refine lv_aload_n hx hb dX12_token_20 rfl (lv_at hl 0 rfl) ?_
  refine r_getF C hW (ci := 12) kx0 ff_12_7 cl_12 fl_RX12_27 dX12_token_21 (fun k1000005 => ?_)
  refine lv_aload_n hx hb dX12_token_24 rfl (lv_at hl 0 rfl) ?_
  refine r_getI C hW (ci := 12) kx0 ff_12_10 cl_12 fl_RX12_190 dX12_token_25 ?_
  refine lv_iload_n hx hb dX12_token_28 rfl (lv_at hl 3 rfl) ?_
  refine r_iast C hW hS hm k1000005 dX12_token_29 (fun dt1000006 H locs hm hW hS => ?_)
  refine lv_aload_n hx hb dX12_token_30 rfl (lv_at hl 0 rfl) ?_
  refine r_getF C hW (ci := 12) kx0 ff_12_8 cl_12 fl_RX12_30 dX12_token_31 (fun k1000007 => ?_)
  refine lv_aload_n hx hb dX12_token_34 rfl (lv_at hl 0 rfl) ?_
  refine r_getI C hW (ci := 12) kx0 ff_12_10 cl_12 fl_RX12_190 dX12_token_35 ?_
  refine lv_lload hx hb dX12_token_38 (lv_at hl 4 rfl) ?_
  refine r_last C hW hS hm k1000007 dX12_token_40 (fun dt1000008 H locs hm hW hS => ?_)
  refine lv_aload_n hx hb dX12_token_41 rfl (lv_at hl 0 rfl) ?_
  refine lv_dup hx hb dX12_token_42 rfl ?_
  refine r_getI C hW (ci := 12) kx0 ff_12_10 cl_12 fl_RX12_190 dX12_token_43 ?_
  refine lv_iconst (v := 1) hx hb dX12_token_46 (by decide) ?_
  refine lv_iadd hx hb dX12_token_47 ?_
  refine r_putI C hW hS hm (ci := 12) kx0 ff_12_10 cl_12 fl_RX12_190 (nf_12_10) rfl dX12_token_48 (fun dt1000009 H locs hm hW hS => ?_)
  exact e_vD C hW hS hm dX12_token_51
theorem dX12_sign_0 : decode cX12_sign 0 = .ok (.aload_n 0, 1) := by decide +kernel
theorem dX12_sign_1 : decode cX12_sign 1 = .ok (.iload_n 2, 1) := by decide +kernel
theorem dX12_sign_2 : decode cX12_sign 2 = .ok (.bipush 59, 2) := by decide +kernel
theorem dX12_sign_4 : decode cX12_sign 4 = .ok (.if_icmp .ne 7, 3) := by decide +kernel
theorem dX12_sign_7 : decode cX12_sign 7 = .ok (.iconst 4, 1) := by decide +kernel
theorem dX12_sign_8 : decode cX12_sign 8 = .ok (.goto 14, 3) := by decide +kernel
theorem dX12_sign_11 : decode cX12_sign 11 = .ok (.iload_n 2, 1) := by decide +kernel
theorem dX12_sign_12 : decode cX12_sign 12 = .ok (.bipush 45, 2) := by decide +kernel
theorem dX12_sign_14 : decode cX12_sign 14 = .ok (.if_icmp .ne 7, 3) := by decide +kernel
theorem dX12_sign_17 : decode cX12_sign 17 = .ok (.iconst 5, 1) := by decide +kernel
theorem dX12_sign_18 : decode cX12_sign 18 = .ok (.goto 4, 3) := by decide +kernel
theorem dX12_sign_21 : decode cX12_sign 21 = .ok (.iconst 3, 1) := by decide +kernel
theorem dX12_sign_22 : decode cX12_sign 22 = .ok (.iload_n 1, 1) := by decide +kernel
theorem dX12_sign_23 : decode cX12_sign 23 = .ok (.iconst 0, 1) := by decide +kernel
theorem dX12_sign_24 : decode cX12_sign 24 = .ok (.lconst 0, 1) := by decide +kernel
theorem dX12_sign_25 : decode cX12_sign 25 = .ok (.invokevirtual 197, 3) := by decide +kernel
theorem dX12_sign_28 : decode cX12_sign 28 = .ok (.iconst 1, 1) := by decide +kernel
theorem dX12_sign_29 : decode cX12_sign 29 = .ok (.ireturn, 1) := by decide +kernel
set_option maxRecDepth 100000 in
theorem c_X12_sign (l : Launch) (D : q_D) (al : q_Al) (dt : q_Dt) (x0 : Nat) (x1 : Int32) (x2 : Int32) (x3 : Int32) (kx0 : al.1 x0 = 13) (r0 : Int32) (dt0 : q_Dt) (hm : X12_sign al dt x0 x1 x2 x3 = some (r0, dt0)) : q_Mt l yX12_sign cX12_sign 4 (some FieldType.int) 1 25 D al [.ref x0, .int x1, .int x2, .int x3] dt 0 (some (.int r0)) dt0 := by
  refine q_Mt.of (by decide) (Nat.le_of_ble_eq_true rfl) ?_
  intro p e s m args below meth c ls C hargs hW hl
  have hx := C.1
  have hb := C.2.1
  have hown := C.2.2.2.2.2.1
  have hts := C.2.2.2.2.2.2.1
  have hS : va_S (q_A al) s.heap s.heap [] := va_S.rf
  have hl : lv_has ls 4 [(0, .ref x0), (1, .int x1), (2, .int x2), (3, .int x3)] := hl
  unfold X12_sign at hm
  have hB22 : ∀ (x1_22 : Int32) (t0_22 : Nat) (t1_22 : Int32) (kt0_22 : al.1 t0_22 = 13) (dt : q_Dt) (H : Heap) (locs : List Loc) (ls : Array Slot) (hm : X12_sign_b22 al x1_22 t0_22 t1_22 dt = some (r0, dt0)) (hW : q_W D al dt H) (hS : va_S (q_A al) s.heap H locs) (hl : lv_has ls 4 [(1, .int x1_22)]), W p l e { frames := 1, cells := 0, slots := 0, locals := 25 } s m args below meth c H locs 0 0 (MQ below (q_Q (some (.int r0)) (fun H => q_W D al dt0 H ∧ q_Rk al 0 (some (.int r0))) (q_A al)) args s 0 0 (q_A al)) (F0 m 22 ls [.int t1_22, .ref t0_22]) := by
    intro x1_22 t0_22 t1_22 kt0_22 dt H locs ls hm hW hS hl
    unfold X12_sign_b22 at hm
    refine lv_iload_n hx hb dX12_sign_22 rfl (lv_at hl 0 rfl) ?_
    refine lv_iconst (v := 0) hx hb dX12_sign_23 (by decide) ?_
    refine lv_lconst (v := 0) hx hb dX12_sign_24 rfl ?_
    obtain ⟨dt22002, hc22001, hm⟩ := q_b1i hm
    refine q_callV C hW hS (As := [.int t1_22, .int x1_22, .int 0, .long 0]) (rest := []) (st1 := []) (c_X12_token l D al dt t0_22 t1_22 x1_22 0 0 kt0_22 dt22002 hc22001) yl_X12_token vl_X12_token ml_RX12_197 (ci := 12) rfl kt0_22 (by decide) rfl ⟨Nat.le_of_ble_eq_true rfl, Nat.le_of_ble_eq_true rfl⟩ hl rfl (Nat.le_of_ble_eq_true rfl) dX12_sign_25 ⟨Nat.le_refl _, Nat.le_refl _⟩ rfl (fun H locs k22003 hW hS => ?_)
    refine lv_iconst (v := 1) hx hb dX12_sign_28 (by decide) ?_
    exact e_iD C hW hS hm dX12_sign_29
  refine lv_aload_n hx hb dX12_sign_0 rfl (lv_at hl 0 rfl) ?_
  refine lv_iload_n hx hb dX12_sign_1 rfl (lv_at hl 2 rfl) ?_
  refine lv_bipush (v := 59) hx hb dX12_sign_2 (by decide) ?_
  refine q_ifc hm (fun c1000001 hm => ?_) (fun c1000001 hm => ?_)
  · refine lv_icmp_ne (tgt := 11) hx hb dX12_sign_4 (by decide) (fun h => absurd c1000001 h) (fun _ => ?_)
    refine lv_iconst (v := 4) hx hb dX12_sign_7 (by decide) ?_
    refine lv_goto (tgt := 22) hx hb dX12_sign_8 (by decide) ?_
    exact hB22 x1 x0 4 kx0 dt _ _ _ hm hW hS (lv_sub hl [1] rfl)
  refine lv_icmp_ne (tgt := 11) hx hb dX12_sign_4 (by decide) (fun _ => ?_) (fun h => absurd h c1000001)
  refine lv_iload_n hx hb dX12_sign_11 rfl (lv_at hl 2 rfl) ?_
  refine lv_bipush (v := 45) hx hb dX12_sign_12 (by decide) ?_
  refine q_ifc hm (fun c1000002 hm => ?_) (fun c1000002 hm => ?_)
  · refine lv_icmp_ne (tgt := 21) hx hb dX12_sign_14 (by decide) (fun h => absurd c1000002 h) (fun _ => ?_)
    refine lv_iconst (v := 5) hx hb dX12_sign_17 (by decide) ?_
    refine lv_goto (tgt := 22) hx hb dX12_sign_18 (by decide) ?_
    exact hB22 x1 x0 5 kx0 dt _ _ _ hm hW hS (lv_sub hl [1] rfl)
  refine lv_icmp_ne (tgt := 21) hx hb dX12_sign_14 (by decide) (fun _ => ?_) (fun h => absurd h c1000002)
  refine lv_iconst (v := 3) hx hb dX12_sign_21 (by decide) ?_
  exact hB22 x1 x0 3 kx0 dt _ _ _ hm hW hS (lv_sub hl [1] rfl)
