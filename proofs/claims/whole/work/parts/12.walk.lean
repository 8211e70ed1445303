theorem dX9_behindToken_0 : decode cX9_behindToken 0 = .ok (.aload_n 0, 1) := by decide +kernel
theorem dX9_behindToken_1 : decode cX9_behindToken 1 = .ok (.getfield 14, 3) := by decide +kernel
theorem dX9_behindToken_4 : decode cX9_behindToken 4 = .ok (.iload_n 1, 1) := by decide +kernel
theorem dX9_behindToken_5 : decode cX9_behindToken 5 = .ok (.invokevirtual 83, 3) := by decide +kernel
theorem dX9_behindToken_8 : decode cX9_behindToken 8 = .ok (.istore_n 2, 1) := by decide +kernel
theorem dX9_behindToken_9 : decode cX9_behindToken 9 = .ok (.iload_n 2, 1) := by decide +kernel
theorem dX9_behindToken_10 : decode cX9_behindToken 10 = .ok (.invokestatic 105, 3) := by decide +kernel
theorem dX9_behindToken_13 : decode cX9_behindToken 13 = .ok (.ifCond .ne 10, 3) := by decide +kernel
theorem dX9_behindToken_16 : decode cX9_behindToken 16 = .ok (.iload_n 2, 1) := by decide +kernel
theorem dX9_behindToken_17 : decode cX9_behindToken 17 = .ok (.invokestatic 109, 3) := by decide +kernel
theorem dX9_behindToken_20 : decode cX9_behindToken 20 = .ok (.ifCond .eq 7, 3) := by decide +kernel
theorem dX9_behindToken_23 : decode cX9_behindToken 23 = .ok (.iconst 1, 1) := by decide +kernel
theorem dX9_behindToken_24 : decode cX9_behindToken 24 = .ok (.goto 4, 3) := by decide +kernel
theorem dX9_behindToken_27 : decode cX9_behindToken 27 = .ok (.iconst 0, 1) := by decide +kernel
theorem dX9_behindToken_28 : decode cX9_behindToken 28 = .ok (.istore_n 3, 1) := by decide +kernel
theorem dX9_behindToken_29 : decode cX9_behindToken 29 = .ok (.iload_n 1, 1) := by decide +kernel
theorem dX9_behindToken_30 : decode cX9_behindToken 30 = .ok (.iconst 1, 1) := by decide +kernel
theorem dX9_behindToken_31 : decode cX9_behindToken 31 = .ok (.iadd, 1) := by decide +kernel
theorem dX9_behindToken_32 : decode cX9_behindToken 32 = .ok (.istore 4, 2) := by decide +kernel
theorem dX9_behindToken_34 : decode cX9_behindToken 34 = .ok (.iload 4, 2) := by decide +kernel
theorem dX9_behindToken_36 : decode cX9_behindToken 36 = .ok (.aload_n 0, 1) := by decide +kernel
theorem dX9_behindToken_37 : decode cX9_behindToken 37 = .ok (.getfield 35, 3) := by decide +kernel
theorem dX9_behindToken_40 : decode cX9_behindToken 40 = .ok (.if_icmp .ge 63, 3) := by decide +kernel
theorem dX9_behindToken_43 : decode cX9_behindToken 43 = .ok (.aload_n 0, 1) := by decide +kernel
theorem dX9_behindToken_44 : decode cX9_behindToken 44 = .ok (.getfield 14, 3) := by decide +kernel
theorem dX9_behindToken_47 : decode cX9_behindToken 47 = .ok (.iload 4, 2) := by decide +kernel
theorem dX9_behindToken_49 : decode cX9_behindToken 49 = .ok (.invokevirtual 83, 3) := by decide +kernel
theorem dX9_behindToken_52 : decode cX9_behindToken 52 = .ok (.istore 5, 2) := by decide +kernel
theorem dX9_behindToken_54 : decode cX9_behindToken 54 = .ok (.iload 5, 2) := by decide +kernel
theorem dX9_behindToken_56 : decode cX9_behindToken 56 = .ok (.invokestatic 105, 3) := by decide +kernel
theorem dX9_behindToken_59 : decode cX9_behindToken 59 = .ok (.iload_n 2, 1) := by decide +kernel
theorem dX9_behindToken_60 : decode cX9_behindToken 60 = .ok (.invokestatic 105, 3) := by decide +kernel
theorem dX9_behindToken_63 : decode cX9_behindToken 63 = .ok (.if_icmp .ne 19, 3) := by decide +kernel
theorem dX9_behindToken_66 : decode cX9_behindToken 66 = .ok (.iload 5, 2) := by decide +kernel
theorem dX9_behindToken_68 : decode cX9_behindToken 68 = .ok (.invokestatic 109, 3) := by decide +kernel
theorem dX9_behindToken_71 : decode cX9_behindToken 71 = .ok (.iload_n 2, 1) := by decide +kernel
theorem dX9_behindToken_72 : decode cX9_behindToken 72 = .ok (.invokestatic 109, 3) := by decide +kernel
theorem dX9_behindToken_75 : decode cX9_behindToken 75 = .ok (.if_icmp .ne 7, 3) := by decide +kernel
theorem dX9_behindToken_78 : decode cX9_behindToken 78 = .ok (.iconst 1, 1) := by decide +kernel
theorem dX9_behindToken_79 : decode cX9_behindToken 79 = .ok (.goto 4, 3) := by decide +kernel
theorem dX9_behindToken_82 : decode cX9_behindToken 82 = .ok (.iconst 0, 1) := by decide +kernel
theorem dX9_behindToken_83 : decode cX9_behindToken 83 = .ok (.istore 6, 2) := by decide +kernel
theorem dX9_behindToken_85 : decode cX9_behindToken 85 = .ok (.iload_n 3, 1) := by decide +kernel
theorem dX9_behindToken_86 : decode cX9_behindToken 86 = .ok (.ifCond .eq 8, 3) := by decide +kernel
theorem dX9_behindToken_89 : decode cX9_behindToken 89 = .ok (.iload 6, 2) := by decide +kernel
theorem dX9_behindToken_91 : decode cX9_behindToken 91 = .ok (.ifCond .ne 6, 3) := by decide +kernel
theorem dX9_behindToken_94 : decode cX9_behindToken 94 = .ok (.iload 4, 2) := by decide +kernel
theorem dX9_behindToken_96 : decode cX9_behindToken 96 = .ok (.ireturn, 1) := by decide +kernel
theorem dX9_behindToken_97 : decode cX9_behindToken 97 = .ok (.iinc 4 1, 3) := by decide +kernel
theorem dX9_behindToken_100 : decode cX9_behindToken 100 = .ok (.goto (-66), 3) := by decide +kernel
theorem dX9_behindToken_103 : decode cX9_behindToken 103 = .ok (.aload_n 0, 1) := by decide +kernel
theorem dX9_behindToken_104 : decode cX9_behindToken 104 = .ok (.getfield 35, 3) := by decide +kernel
theorem dX9_behindToken_107 : decode cX9_behindToken 107 = .ok (.ireturn, 1) := by decide +kernel
set_option maxRecDepth 100000 in
theorem c_X9_behindToken (l : Launch) (D : q_D) (al : q_Al) (dt : q_Dt) (x0 : Nat) (x1 : Int32) (kx0 : al.1 x0 = 10) (r0 : Int32) (hm : X9_behindToken al dt x0 x1 = some r0) : q_Mt l yX9_behindToken cX9_behindToken 7 (some FieldType.int) 1 21 D al [.ref x0, .int x1] dt 0 (some (.int r0)) dt := by
  refine q_Mt.of (by decide) (Nat.le_of_ble_eq_true rfl) ?_
  intro p e s m args below meth c ls C hargs hW hl
  have hx := C.1
  have hb := C.2.1
  have hown := C.2.2.2.2.2.1
  have hts := C.2.2.2.2.2.2.1
  have hS : va_S (q_A al) s.heap s.heap [] := va_S.rf
  have hl : lv_has ls 7 [(0, .ref x0), (1, .int x1)] := hl
  unfold X9_behindToken at hm
  have hB94 : ∀ (x4_94 : Int32) (H : Heap) (locs : List Loc) (ls : Array Slot) (hm : X9_behindToken_b94 al dt x4_94 = some r0) (hW : q_W D al dt H) (hS : va_S (q_A al) s.heap H locs) (hl : lv_has ls 7 [(4, .int x4_94)]), W p l e { frames := 1, cells := 0, slots := 0, locals := 21 } s m args below meth c H locs 0 0 (MQ below (q_Q (some (.int r0)) (fun H => q_W D al dt H ∧ q_Rk al 0 (some (.int r0))) (q_A al)) args s 0 0 (q_A al)) (F0 m 94 ls []) := by
    intro x4_94 H locs ls hm hW hS hl
    unfold X9_behindToken_b94 at hm
    refine lv_iload hx hb dX9_behindToken_94 (lv_at hl 0 rfl) ?_
    exact e_i C hW hS hm dX9_behindToken_96
  have hB34 : ∀ (x0_34 : Nat) (x2_34 : Int32) (x3_34 : Int32) (kx0_34 : al.1 x0_34 = 10) (n_34 : Nat) (x4_34 : Int32) (H : Heap) (locs : List Loc) (ls : Array Slot) (hm : X9_behindToken_b34 al dt x0_34 x2_34 x3_34 n_34 x4_34 = some r0) (hW : q_W D al dt H) (hS : va_S (q_A al) s.heap H locs) (hl : lv_has ls 7 [(0, .ref x0_34), (2, .int x2_34), (3, .int x3_34), (4, .int x4_34)]), W p l e { frames := 1, cells := 0, slots := 0, locals := 21 } s m args below meth c H locs 0 0 (MQ below (q_Q (some (.int r0)) (fun H => q_W D al dt H ∧ q_Rk al 0 (some (.int r0))) (q_A al)) args s 0 0 (q_A al)) (F0 m 34 ls []) := by
    intro x0_34 x2_34 x3_34 kx0_34
    intro n_34
    induction n_34 with
    | zero => intro x4_34 H locs ls hm hW hS hl; cases hm
    | succ n_34 ih34 =>
      have hB83 : ∀ (x4_83 : Int32) (t0_83 : Int32) (H : Heap) (locs : List Loc) (ls : Array Slot) (hm : X9_behindToken_b83 al dt (X9_behindToken_b34 al dt x0_34 x2_34 x3_34 n_34) x0_34 x2_34 x3_34 x4_83 t0_83 = some r0) (hW : q_W D al dt H) (hS : va_S (q_A al) s.heap H locs) (hl : lv_has ls 7 [(0, .ref x0_34), (2, .int x2_34), (3, .int x3_34), (4, .int x4_83)]), W p l e { frames := 1, cells := 0, slots := 0, locals := 21 } s m args below meth c H locs 0 0 (MQ below (q_Q (some (.int r0)) (fun H => q_W D al dt H ∧ q_Rk al 0 (some (.int r0))) (q_A al)) args s 0 0 (q_A al)) (F0 m 83 ls [.int t0_83]) := by
        intro x4_83 t0_83 H locs ls hm hW hS hl
        unfold X9_behindToken_b83 at hm
        refine lv_istore (i := 6) (lv' := [(6, .int t0_83), (0, .ref x0_34), (2, .int x2_34), (3, .int x3_34), (4, .int x4_83)]) hx hb dX9_behindToken_83 hl (by decide) rfl (fun ls hl => ?_)
        refine lv_iload_n hx hb dX9_behindToken_85 rfl (lv_at hl 3 rfl) ?_
        refine q_ifc hm (fun c83001 hm => ?_) (fun c83001 hm => ?_)
        · refine lv_if_eq (tgt := 94) hx hb dX9_behindToken_86 (by decide) (fun _ => ?_) (fun h => absurd c83001 h)
          exact hB94 x4_83 _ _ _ hm hW hS (lv_sub hl [4] rfl)
        refine lv_if_eq (tgt := 94) hx hb dX9_behindToken_86 (by decide) (fun h => absurd h c83001) (fun _ => ?_)
        refine lv_iload hx hb dX9_behindToken_89 (lv_at hl 0 rfl) ?_
        refine q_ifc hm (fun c83002 hm => ?_) (fun c83002 hm => ?_)
        · refine lv_if_ne (tgt := 97) hx hb dX9_behindToken_91 (by decide) (fun h => absurd c83002 h) (fun _ => ?_)
          exact hB94 x4_83 _ _ _ hm hW hS (lv_sub hl [4] rfl)
        refine lv_if_ne (tgt := 97) hx hb dX9_behindToken_91 (by decide) (fun _ => ?_) (fun h => absurd h c83002)
        refine lv_iinc (v := (x4_83 + 1)) (lv' := [(4, .int (x4_83 + 1)), (6, .int t0_83), (0, .ref x0_34), (2, .int x2_34), (3, .int x3_34)]) hx hb dX9_behindToken_97 hl (k := 4) rfl rfl (by decide) rfl (fun ls hl => ?_)
        refine lv_goto (tgt := 34) hx hb dX9_behindToken_100 (by decide) ?_
        exact ih34 (x4_83 + 1) _ _ _ hm hW hS (lv_sub hl [2, 3, 4, 0] rfl)
      have hB82 : ∀ (x4_82 : Int32) (H : Heap) (locs : List Loc) (ls : Array Slot) (hm : X9_behindToken_b82 al dt (X9_behindToken_b34 al dt x0_34 x2_34 x3_34 n_34) x0_34 x2_34 x3_34 x4_82 = some r0) (hW : q_W D al dt H) (hS : va_S (q_A al) s.heap H locs) (hl : lv_has ls 7 [(0, .ref x0_34), (2, .int x2_34), (3, .int x3_34), (4, .int x4_82)]), W p l e { frames := 1, cells := 0, slots := 0, locals := 21 } s m args below meth c H locs 0 0 (MQ below (q_Q (some (.int r0)) (fun H => q_W D al dt H ∧ q_Rk al 0 (some (.int r0))) (q_A al)) args s 0 0 (q_A al)) (F0 m 82 ls []) := by
        intro x4_82 H locs ls hm hW hS hl
        unfold X9_behindToken_b82 at hm
        refine lv_iconst (v := 0) hx hb dX9_behindToken_82 (by decide) ?_
        exact hB83 x4_82 0 _ _ _ hm hW hS (lv_sub hl [0, 1, 2, 3] rfl)
      intro x4_34 H locs ls hm hW hS hl
      rw [X9_behindToken_b34] at hm
      refine lv_iload hx hb dX9_behindToken_34 (lv_at hl 3 rfl) ?_
      refine lv_aload_n hx hb dX9_behindToken_36 rfl (lv_at hl 0 rfl) ?_
      refine r_getI C hW (ci := 9) kx0_34 ff_9_6 cl_9 fl_RX9_35 dX9_behindToken_37 ?_
      refine q_ifc hm (fun c34001 hm => ?_) (fun c34001 hm => ?_)
      · refine lv_icmp_ge (tgt := 103) hx hb dX9_behindToken_40 (by decide) (fun _ => ?_) (fun h => absurd c34001 h)
        refine lv_aload_n hx hb dX9_behindToken_103 rfl (lv_at hl 0 rfl) ?_
        refine r_getI C hW (ci := 9) kx0_34 ff_9_6 cl_9 fl_RX9_35 dX9_behindToken_104 ?_
        exact e_i C hW hS hm dX9_behindToken_107
      refine lv_icmp_ge (tgt := 103) hx hb dX9_behindToken_40 (by decide) (fun h => absurd h c34001) (fun _ => ?_)
      refine lv_aload_n hx hb dX9_behindToken_43 rfl (lv_at hl 0 rfl) ?_
      refine r_getF C hW (ci := 9) kx0_34 ff_9_0 cl_9 fl_RX9_14 dX9_behindToken_44 (fun k34002 => ?_)
      refine lv_iload hx hb dX9_behindToken_47 (lv_at hl 3 rfl) ?_
      obtain ⟨v34004, hc34003, hm⟩ := q_b1i hm
      refine q_callV C hW hS (As := [.int x4_34]) (rest := []) (st1 := [.int v34004]) (c_X5_small l D al dt (al.2.2 x0_34 0) x4_34 k34002 v34004 hc34003) yl_X5_small vl_X5_small ml_RX9_83 (ci := 5) rfl k34002 (by decide) rfl ⟨Nat.le_of_ble_eq_true rfl, Nat.le_of_ble_eq_true rfl⟩ hl rfl (Nat.le_of_ble_eq_true rfl) dX9_behindToken_49 ⟨Nat.le_refl _, Nat.le_refl _⟩ rfl (fun H locs k34005 hW hS => ?_)
      refine lv_istore (i := 5) (lv' := [(5, .int v34004), (0, .ref x0_34), (2, .int x2_34), (3, .int x3_34), (4, .int x4_34)]) hx hb dX9_behindToken_52 hl (by decide) rfl (fun ls hl => ?_)
      refine lv_iload hx hb dX9_behindToken_54 (lv_at hl 0 rfl) ?_
      obtain ⟨v34007, hc34006, hm⟩ := q_b1i hm
      refine q_callS C hW hS (As := [.int v34004]) (rest := []) (st1 := [.int v34007]) (c_X9_isLetter l D al dt v34004 v34007 hc34006) yl_X9_isLetter sl_X9_isLetter ml_RX9_105 rfl ⟨Nat.le_of_ble_eq_true rfl, Nat.le_of_ble_eq_true rfl⟩ hl rfl (Nat.le_of_ble_eq_true rfl) dX9_behindToken_56 ⟨Nat.le_refl _, Nat.le_refl _⟩ rfl (fun H locs k34008 hW hS => ?_)
      refine lv_iload_n hx hb dX9_behindToken_59 rfl (lv_at hl 2 rfl) ?_
      obtain ⟨v34010, hc34009, hm⟩ := q_b1i hm
      refine q_callS C hW hS (As := [.int x2_34]) (rest := [.int v34007]) (st1 := [.int v34010, .int v34007]) (c_X9_isLetter l D al dt x2_34 v34010 hc34009) yl_X9_isLetter sl_X9_isLetter ml_RX9_105 rfl ⟨Nat.le_of_ble_eq_true rfl, Nat.le_of_ble_eq_true rfl⟩ hl rfl (Nat.le_of_ble_eq_true rfl) dX9_behindToken_60 ⟨Nat.le_refl _, Nat.le_refl _⟩ rfl (fun H locs k34011 hW hS => ?_)
      refine q_ifc hm (fun c34012 hm => ?_) (fun c34012 hm => ?_)
      · refine lv_icmp_ne (tgt := 82) hx hb dX9_behindToken_63 (by decide) (fun h => absurd c34012 h) (fun _ => ?_)
        refine lv_iload hx hb dX9_behindToken_66 (lv_at hl 0 rfl) ?_
        obtain ⟨v34014, hc34013, hm⟩ := q_b1i hm
        refine q_callS C hW hS (As := [.int v34004]) (rest := []) (st1 := [.int v34014]) (c_X9_isDigit l D al dt v34004 v34014 hc34013) yl_X9_isDigit sl_X9_isDigit ml_RX9_109 rfl ⟨Nat.le_of_ble_eq_true rfl, Nat.le_of_ble_eq_true rfl⟩ hl rfl (Nat.le_of_ble_eq_true rfl) dX9_behindToken_68 ⟨Nat.le_refl _, Nat.le_refl _⟩ rfl (fun H locs k34015 hW hS => ?_)
        refine lv_iload_n hx hb dX9_behindToken_71 rfl (lv_at hl 2 rfl) ?_
        obtain ⟨v34017, hc34016, hm⟩ := q_b1i hm
        refine q_callS C hW hS (As := [.int x2_34]) (rest := [.int v34014]) (st1 := [.int v34017, .int v34014]) (c_X9_isDigit l D al dt x2_34 v34017 hc34016) yl_X9_isDigit sl_X9_isDigit ml_RX9_109 rfl ⟨Nat.le_of_ble_eq_true rfl, Nat.le_of_ble_eq_true rfl⟩ hl rfl (Nat.le_of_ble_eq_true rfl) dX9_behindToken_72 ⟨Nat.le_refl _, Nat.le_refl _⟩ rfl (fun H locs k34018 hW hS => ?_)
        refine q_ifc hm (fun c34019 hm => ?_) (fun c34019 hm => ?_)
        · refine lv_icmp_ne (tgt := 82) hx hb dX9_behindToken_75 (by decide) (fun h => absurd c34019 h) (fun _ => ?_)
          refine lv_iconst (v := 1) hx hb dX9_behindToken_78 (by decide) ?_
          refine lv_goto (tgt := 83) hx hb dX9_behindToken_79 (by decide) ?_
          exact hB83 x4_34 1 _ _ _ hm hW hS (lv_sub hl [1, 2, 3, 4] rfl)
        refine lv_icmp_ne (tgt := 82) hx hb dX9_behindToken_75 (by decide) (fun _ => ?_) (fun h => absurd h c34019)
        exact hB82 x4_34 _ _ _ hm hW hS (lv_sub hl [1, 2, 3, 4] rfl)
      refine lv_icmp_ne (tgt := 82) hx hb dX9_behindToken_63 (by decide) (fun _ => ?_) (fun h => absurd h c34012)
      exact hB82 x4_34 _ _ _ hm hW hS (lv_sub hl [1, 2, 3, 4] rfl)
  have hB28 : ∀ (x0_28 : Nat) (x1_28 : Int32) (x2_28 : Int32) (t0_28 : Int32) (kx0_28 : al.1 x0_28 = 10) (H : Heap) (locs : List Loc) (ls : Array Slot) (hm : X9_behindToken_b28 al dt x0_28 x1_28 x2_28 t0_28 = some r0) (hW : q_W D al dt H) (hS : va_S (q_A al) s.heap H locs) (hl : lv_has ls 7 [(0, .ref x0_28), (1, .int x1_28), (2, .int x2_28)]), W p l e { frames := 1, cells := 0, slots := 0, locals := 21 } s m args below meth c H locs 0 0 (MQ below (q_Q (some (.int r0)) (fun H => q_W D al dt H ∧ q_Rk al 0 (some (.int r0))) (q_A al)) args s 0 0 (q_A al)) (F0 m 28 ls [.int t0_28]) := by
    intro x0_28 x1_28 x2_28 t0_28 kx0_28 H locs ls hm hW hS hl
    unfold X9_behindToken_b28 at hm
    refine lv_istore_n (i := 3) (lv' := [(3, .int t0_28), (0, .ref x0_28), (1, .int x1_28), (2, .int x2_28)]) hx hb dX9_behindToken_28 rfl hl (by decide) rfl (fun ls hl => ?_)
    refine lv_iload_n hx hb dX9_behindToken_29 rfl (lv_at hl 2 rfl) ?_
    refine lv_iconst (v := 1) hx hb dX9_behindToken_30 (by decide) ?_
    refine lv_iadd hx hb dX9_behindToken_31 ?_
    refine lv_istore (i := 4) (lv' := [(4, .int (x1_28 + 1)), (3, .int t0_28), (0, .ref x0_28), (1, .int x1_28), (2, .int x2_28)]) hx hb dX9_behindToken_32 hl (by decide) rfl (fun ls hl => ?_)
    exact hB34 x0_28 x2_28 t0_28 kx0_28 q_FU (x1_28 + 1) _ _ _ hm hW hS (lv_sub hl [2, 4, 1, 0] rfl)
  have hB23 : ∀ (x0_23 : Nat) (x1_23 : Int32) (x2_23 : Int32) (kx0_23 : al.1 x0_23 = 10) (H : Heap) (locs : List Loc) (ls : Array Slot) (hm : X9_behindToken_b23 al dt x0_23 x1_23 x2_23 = some r0) (hW : q_W D al dt H) (hS : va_S (q_A al) s.heap H locs) (hl : lv_has ls 7 [(0, .ref x0_23), (1, .int x1_23), (2, .int x2_23)]), W p l e { frames := 1, cells := 0, slots := 0, locals := 21 } s m args below meth c H locs 0 0 (MQ below (q_Q (some (.int r0)) (fun H => q_W D al dt H ∧ q_Rk al 0 (some (.int r0))) (q_A al)) args s 0 0 (q_A al)) (F0 m 23 ls []) := by
    intro x0_23 x1_23 x2_23 kx0_23 H locs ls hm hW hS hl
    unfold X9_behindToken_b23 at hm
    refine lv_iconst (v := 1) hx hb dX9_behindToken_23 (by decide) ?_
    refine lv_goto (tgt := 28) hx hb dX9_behindToken_24 (by decide) ?_
    exact hB28 x0_23 x1_23 x2_23 1 kx0_23 _ _ _ hm hW hS (lv_sub hl [0, 1, 2] rfl)
  refine lv_aload_n hx hb dX9_behindToken_0 rfl (lv_at hl 0 rfl) ?_
  refine r_getF C hW (ci := 9) kx0 ff_9_0 cl_9 fl_RX9_14 dX9_behindToken_1 (fun k1000001 => ?_)
  refine lv_iload_n hx hb dX9_behindToken_4 rfl (lv_at hl 1 rfl) ?_
  obtain ⟨v1000003, hc1000002, hm⟩ := q_b1i hm
  refine q_callV C hW hS (As := [.int x1]) (rest := []) (st1 := [.int v1000003]) (c_X5_small l D al dt (al.2.2 x0 0) x1 k1000001 v1000003 hc1000002) yl_X5_small vl_X5_small ml_RX9_83 (ci := 5) rfl k1000001 (by decide) rfl ⟨Nat.le_of_ble_eq_true rfl, Nat.le_of_ble_eq_true rfl⟩ hl rfl (Nat.le_of_ble_eq_true rfl) dX9_behindToken_5 ⟨Nat.le_refl _, Nat.le_refl _⟩ rfl (fun H locs k1000004 hW hS => ?_)
  refine lv_istore_n (i := 2) (lv' := [(2, .int v1000003), (0, .ref x0), (1, .int x1)]) hx hb dX9_behindToken_8 rfl hl (by decide) rfl (fun ls hl => ?_)
  refine lv_iload_n hx hb dX9_behindToken_9 rfl (lv_at hl 0 rfl) ?_
  obtain ⟨v1000006, hc1000005, hm⟩ := q_b1i hm
  refine q_callS C hW hS (As := [.int v1000003]) (rest := []) (st1 := [.int v1000006]) (c_X9_isLetter l D al dt v1000003 v1000006 hc1000005) yl_X9_isLetter sl_X9_isLetter ml_RX9_105 rfl ⟨Nat.le_of_ble_eq_true rfl, Nat.le_of_ble_eq_true rfl⟩ hl rfl (Nat.le_of_ble_eq_true rfl) dX9_behindToken_10 ⟨Nat.le_refl _, Nat.le_refl _⟩ rfl (fun H locs k1000007 hW hS => ?_)
  refine q_ifc hm (fun c1000008 hm => ?_) (fun c1000008 hm => ?_)
  · refine lv_if_ne (tgt := 23) hx hb dX9_behindToken_13 (by decide) (fun h => absurd c1000008 h) (fun _ => ?_)
    refine lv_iload_n hx hb dX9_behindToken_16 rfl (lv_at hl 0 rfl) ?_
    obtain ⟨v1000010, hc1000009, hm⟩ := q_b1i hm
    refine q_callS C hW hS (As := [.int v1000003]) (rest := []) (st1 := [.int v1000010]) (c_X9_isDigit l D al dt v1000003 v1000010 hc1000009) yl_X9_isDigit sl_X9_isDigit ml_RX9_109 rfl ⟨Nat.le_of_ble_eq_true rfl, Nat.le_of_ble_eq_true rfl⟩ hl rfl (Nat.le_of_ble_eq_true rfl) dX9_behindToken_17 ⟨Nat.le_refl _, Nat.le_refl _⟩ rfl (fun H locs k1000011 hW hS => ?_)
    refine q_ifc hm (fun c1000012 hm => ?_) (fun c1000012 hm => ?_)
    · refine lv_if_eq (tgt := 27) hx hb dX9_behindToken_20 (by decide) (fun _ => ?_) (fun h => absurd c1000012 h)
      refine lv_iconst (v := 0) hx hb dX9_behindToken_27 (by decide) ?_
      exact hB28 x0 x1 v1000003 0 kx0 _ _ _ hm hW hS (lv_sub hl [1, 2, 0] rfl)
    refine lv_if_eq (tgt := 27) hx hb dX9_behindToken_20 (by decide) (fun h => absurd h c1000012) (fun _ => ?_)
    exact hB23 x0 x1 v1000003 kx0 _ _ _ hm hW hS (lv_sub hl [1, 2, 0] rfl)
  refine lv_if_ne (tgt := 23) hx hb dX9_behindToken_13 (by decide) (fun _ => ?_) (fun h => absurd h c1000008)
  exact hB23 x0 x1 v1000003 kx0 _ _ _ hm hW hS (lv_sub hl [1, 2, 0] rfl)
theorem dX9_valueOf_0 : decode cX9_valueOf 0 = .ok (.lconst 0, 1) := by decide +kernel
theorem dX9_valueOf_1 : decode cX9_valueOf 1 = .ok (.lstore_n 3, 1) := by decide +kernel
theorem dX9_valueOf_2 : decode cX9_valueOf 2 = .ok (.iload_n 1, 1) := by decide +kernel
theorem dX9_valueOf_3 : decode cX9_valueOf 3 = .ok (.istore 5, 2) := by decide +kernel
theorem dX9_valueOf_5 : decode cX9_valueOf 5 = .ok (.iload 5, 2) := by decide +kernel
theorem dX9_valueOf_7 : decode cX9_valueOf 7 = .ok (.iload_n 2, 1) := by decide +kernel
theorem dX9_valueOf_8 : decode cX9_valueOf 8 = .ok (.if_icmp .ge 51, 3) := by decide +kernel
theorem dX9_valueOf_11 : decode cX9_valueOf 11 = .ok (.aload_n 0, 1) := by decide +kernel
theorem dX9_valueOf_12 : decode cX9_valueOf 12 = .ok (.getfield 14, 3) := by decide +kernel
theorem dX9_valueOf_15 : decode cX9_valueOf 15 = .ok (.iload 5, 2) := by decide +kernel
theorem dX9_valueOf_17 : decode cX9_valueOf 17 = .ok (.invokevirtual 83, 3) := by decide +kernel
theorem dX9_valueOf_20 : decode cX9_valueOf 20 = .ok (.istore 6, 2) := by decide +kernel
theorem dX9_valueOf_22 : decode cX9_valueOf 22 = .ok (.iload 6, 2) := by decide +kernel
theorem dX9_valueOf_24 : decode cX9_valueOf 24 = .ok (.invokestatic 109, 3) := by decide +kernel
theorem dX9_valueOf_27 : decode cX9_valueOf 27 = .ok (.ifCond .eq 19, 3) := by decide +kernel
theorem dX9_valueOf_30 : decode cX9_valueOf 30 = .ok (.lload_n 3, 1) := by decide +kernel
theorem dX9_valueOf_31 : decode cX9_valueOf 31 = .ok (.ldc2_w 112, 3) := by decide +kernel
theorem dX9_valueOf_34 : decode cX9_valueOf 34 = .ok (.lmul, 1) := by decide +kernel
theorem dX9_valueOf_35 : decode cX9_valueOf 35 = .ok (.iload 6, 2) := by decide +kernel
theorem dX9_valueOf_37 : decode cX9_valueOf 37 = .ok (.i2l, 1) := by decide +kernel
theorem dX9_valueOf_38 : decode cX9_valueOf 38 = .ok (.ladd, 1) := by decide +kernel
theorem dX9_valueOf_39 : decode cX9_valueOf 39 = .ok (.ldc2_w 114, 3) := by decide +kernel
theorem dX9_valueOf_42 : decode cX9_valueOf 42 = .ok (.lsub, 1) := by decide +kernel
theorem dX9_valueOf_43 : decode cX9_valueOf 43 = .ok (.goto 9, 3) := by decide +kernel
theorem dX9_valueOf_46 : decode cX9_valueOf 46 = .ok (.lload_n 3, 1) := by decide +kernel
theorem dX9_valueOf_47 : decode cX9_valueOf 47 = .ok (.iload 6, 2) := by decide +kernel
theorem dX9_valueOf_49 : decode cX9_valueOf 49 = .ok (.invokestatic 62, 3) := by decide +kernel
theorem dX9_valueOf_52 : decode cX9_valueOf 52 = .ok (.lstore_n 3, 1) := by decide +kernel
theorem dX9_valueOf_53 : decode cX9_valueOf 53 = .ok (.iinc 5 1, 3) := by decide +kernel
theorem dX9_valueOf_56 : decode cX9_valueOf 56 = .ok (.goto (-51), 3) := by decide +kernel
theorem dX9_valueOf_59 : decode cX9_valueOf 59 = .ok (.lload_n 3, 1) := by decide +kernel
theorem dX9_valueOf_60 : decode cX9_valueOf 60 = .ok (.lreturn, 1) := by decide +kernel
set_option maxRecDepth 100000 in
theorem c_X9_valueOf (l : Launch) (D : q_D) (al : q_Al) (dt : q_Dt) (x0 : Nat) (x1 : Int32) (x2 : Int32) (kx0 : al.1 x0 = 10) (r0 : Int64) (hm : X9_valueOf al dt x0 x1 x2 = some r0) : q_Mt l yX9_valueOf cX9_valueOf 7 (some FieldType.long) 1 22 D al [.ref x0, .int x1, .int x2] dt 0 (some (.long r0)) dt := by
  refine q_Mt.of (by decide) (Nat.le_of_ble_eq_true rfl) ?_
  intro p e s m args below meth c ls C hargs hW hl
  have hx := C.1
  have hb := C.2.1
  have hown := C.2.2.2.2.2.1
  have hts := C.2.2.2.2.2.2.1
  have hS : va_S (q_A al) s.heap s.heap [] := va_S.rf
  have hl : lv_has ls 7 [(0, .ref x0), (1, .int x1), (2, .int x2)] := hl
  unfold X9_valueOf at hm
  have hB5 : ∀ (x0_5 : Nat) (x2_5 : Int32) (kx0_5 : al.1 x0_5 = 10) (n_5 : Nat) (x3_5 : Int64) (x5_5 : Int32) (H : Heap) (locs : List Loc) (ls : Array Slot) (hm : X9_valueOf_b5 al dt x0_5 x2_5 n_5 x3_5 x5_5 = some r0) (hW : q_W D al dt H) (hS : va_S (q_A al) s.heap H locs) (hl : lv_has ls 7 [(0, .ref x0_5), (2, .int x2_5), (3, .long x3_5), (5, .int x5_5)]), W p l e { frames := 1, cells := 0, slots := 0, locals := 22 } s m args below meth c H locs 0 0 (MQ below (q_Q (some (.long r0)) (fun H => q_W D al dt H ∧ q_Rk al 0 (some (.long r0))) (q_A al)) args s 0 0 (q_A al)) (F0 m 5 ls []) := by
    intro x0_5 x2_5 kx0_5
    intro n_5
    induction n_5 with
    | zero => intro x3_5 x5_5 H locs ls hm hW hS hl; cases hm
    | succ n_5 ih5 =>
      have hB52 : ∀ (x5_52 : Int32) (t0_52 : Int64) (H : Heap) (locs : List Loc) (ls : Array Slot) (hm : X9_valueOf_b52 al dt (X9_valueOf_b5 al dt x0_5 x2_5 n_5) x0_5 x2_5 x5_52 t0_52 = some r0) (hW : q_W D al dt H) (hS : va_S (q_A al) s.heap H locs) (hl : lv_has ls 7 [(0, .ref x0_5), (2, .int x2_5), (5, .int x5_52)]), W p l e { frames := 1, cells := 0, slots := 0, locals := 22 } s m args below meth c H locs 0 0 (MQ below (q_Q (some (.long r0)) (fun H => q_W D al dt H ∧ q_Rk al 0 (some (.long r0))) (q_A al)) args s 0 0 (q_A al)) (F0 m 52 ls [.long t0_52]) := by
        intro x5_52 t0_52 H locs ls hm hW hS hl
        unfold X9_valueOf_b52 at hm
        refine lv_lstore_n (i := 3) (lv' := [(3, .long t0_52), (0, .ref x0_5), (2, .int x2_5), (5, .int x5_52)]) hx hb dX9_valueOf_52 rfl hl (by decide) rfl (fun ls hl => ?_)
        refine lv_iinc (v := (x5_52 + 1)) (lv' := [(5, .int (x5_52 + 1)), (3, .long t0_52), (0, .ref x0_5), (2, .int x2_5)]) hx hb dX9_valueOf_53 hl (k := 3) rfl rfl (by decide) rfl (fun ls hl => ?_)
        refine lv_goto (tgt := 5) hx hb dX9_valueOf_56 (by decide) ?_
        exact ih5 t0_52 (x5_52 + 1) _ _ _ hm hW hS (lv_sub hl [2, 3, 1, 0] rfl)
      intro x3_5 x5_5 H locs ls hm hW hS hl
      rw [X9_valueOf_b5] at hm
      refine lv_iload hx hb dX9_valueOf_5 (lv_at hl 3 rfl) ?_
      refine lv_iload_n hx hb dX9_valueOf_7 rfl (lv_at hl 1 rfl) ?_
      refine q_ifc hm (fun c5001 hm => ?_) (fun c5001 hm => ?_)
      · refine lv_icmp_ge (tgt := 59) hx hb dX9_valueOf_8 (by decide) (fun _ => ?_) (fun h => absurd c5001 h)
        refine lv_lload_n hx hb dX9_valueOf_59 rfl (lv_at hl 2 rfl) ?_
        exact e_l C hW hS hm dX9_valueOf_60
      refine lv_icmp_ge (tgt := 59) hx hb dX9_valueOf_8 (by decide) (fun h => absurd h c5001) (fun _ => ?_)
      refine lv_aload_n hx hb dX9_valueOf_11 rfl (lv_at hl 0 rfl) ?_
      refine r_getF C hW (ci := 9) kx0_5 ff_9_0 cl_9 fl_RX9_14 dX9_valueOf_12 (fun k5002 => ?_)
      refine lv_iload hx hb dX9_valueOf_15 (lv_at hl 3 rfl) ?_
      obtain ⟨v5004, hc5003, hm⟩ := q_b1i hm
      refine q_callV C hW hS (As := [.int x5_5]) (rest := []) (st1 := [.int v5004]) (c_X5_small l D al dt (al.2.2 x0_5 0) x5_5 k5002 v5004 hc5003) yl_X5_small vl_X5_small ml_RX9_83 (ci := 5) rfl k5002 (by decide) rfl ⟨Nat.le_of_ble_eq_true rfl, Nat.le_of_ble_eq_true rfl⟩ hl rfl (Nat.le_of_ble_eq_true rfl) dX9_valueOf_17 ⟨Nat.le_refl _, Nat.le_refl _⟩ rfl (fun H locs k5005 hW hS => ?_)
      refine lv_istore (i := 6) (lv' := [(6, .int v5004), (0, .ref x0_5), (2, .int x2_5), (3, .long x3_5), (5, .int x5_5)]) hx hb dX9_valueOf_20 hl (by decide) rfl (fun ls hl => ?_)
      refine lv_iload hx hb dX9_valueOf_22 (lv_at hl 0 rfl) ?_
      obtain ⟨v5007, hc5006, hm⟩ := q_b1i hm
      refine q_callS C hW hS (As := [.int v5004]) (rest := []) (st1 := [.int v5007]) (c_X9_isDigit l D al dt v5004 v5007 hc5006) yl_X9_isDigit sl_X9_isDigit ml_RX9_109 rfl ⟨Nat.le_of_ble_eq_true rfl, Nat.le_of_ble_eq_true rfl⟩ hl rfl (Nat.le_of_ble_eq_true rfl) dX9_valueOf_24 ⟨Nat.le_refl _, Nat.le_refl _⟩ rfl (fun H locs k5008 hW hS => ?_)
      refine q_ifc hm (fun c5009 hm => ?_) (fun c5009 hm => ?_)
      · refine lv_if_eq (tgt := 46) hx hb dX9_valueOf_27 (by decide) (fun _ => ?_) (fun h => absurd c5009 h)
        refine lv_lload_n hx hb dX9_valueOf_46 rfl (lv_at hl 3 rfl) ?_
        refine lv_iload hx hb dX9_valueOf_47 (lv_at hl 0 rfl) ?_
        obtain ⟨v5011, hc5010, hm⟩ := q_b1i hm
        refine q_callS C hW hS (As := [.long x3_5, .int v5004]) (rest := []) (st1 := [.long v5011]) (c_X9_withLetter l D al dt x3_5 v5004 v5011 hc5010) yl_X9_withLetter sl_X9_withLetter ml_RX9_62 rfl ⟨Nat.le_of_ble_eq_true rfl, Nat.le_of_ble_eq_true rfl⟩ hl rfl (Nat.le_of_ble_eq_true rfl) dX9_valueOf_49 ⟨Nat.le_refl _, Nat.le_refl _⟩ rfl (fun H locs k5012 hW hS => ?_)
        exact hB52 x5_5 v5011 _ _ _ hm hW hS (lv_sub hl [1, 2, 4] rfl)
      refine lv_if_eq (tgt := 46) hx hb dX9_valueOf_27 (by decide) (fun h => absurd h c5009) (fun _ => ?_)
      refine lv_lload_n hx hb dX9_valueOf_30 rfl (lv_at hl 3 rfl) ?_
      refine lv_ldc2 (own := RX9) (v := 10) hx hb hown (hts _ wc_RX9_112) dX9_valueOf_31 ?_
      refine lv_lmul hx hb dX9_valueOf_34 ?_
      refine lv_iload hx hb dX9_valueOf_35 (lv_at hl 0 rfl) ?_
      refine lv_i2l (v := (Int32.toInt64 v5004)) hx hb dX9_valueOf_37 rfl ?_
      refine lv_ladd hx hb dX9_valueOf_38 ?_
      refine lv_ldc2 (own := RX9) (v := 48) hx hb hown (hts _ wc_RX9_114) dX9_valueOf_39 ?_
      refine lv_lsub hx hb dX9_valueOf_42 ?_
      refine lv_goto (tgt := 52) hx hb dX9_valueOf_43 (by decide) ?_
      exact hB52 x5_5 (((x3_5 * 10) + (Int32.toInt64 v5004)) - 48) _ _ _ hm hW hS (lv_sub hl [1, 2, 4] rfl)
  refine lv_lconst (v := 0) hx hb dX9_valueOf_0 rfl ?_
  refine lv_lstore_n (i := 3) (lv' := [(3, .long 0), (0, .ref x0), (1, .int x1), (2, .int x2)]) hx hb dX9_valueOf_1 rfl hl (by decide) rfl (fun ls hl => ?_)
  refine lv_iload_n hx hb dX9_valueOf_2 rfl (lv_at hl 2 rfl) ?_
  refine lv_istore (i := 5) (lv' := [(5, .int x1), (3, .long 0), (0, .ref x0), (1, .int x1), (2, .int x2)]) hx hb dX9_valueOf_3 hl (by decide) rfl (fun ls hl => ?_)
  exact hB5 x0 x2 kx0 q_FU 0 x1 _ _ _ hm hW hS (lv_sub hl [2, 4, 1, 0] rfl)
theorem dX9_wordOf_0 : decode cX9_wordOf 0 = .ok (.iconst 0, 1) := by decide +kernel
theorem dX9_wordOf_1 : decode cX9_wordOf 1 = .ok (.istore_n 3, 1) := by decide +kernel
theorem dX9_wordOf_2 : decode cX9_wordOf 2 = .ok (.iload_n 3, 1) := by decide +kernel
theorem dX9_wordOf_3 : decode cX9_wordOf 3 = .ok (.bipush 10, 2) := by decide +kernel
theorem dX9_wordOf_5 : decode cX9_wordOf 5 = .ok (.if_icmp .gt 24, 3) := by decide +kernel
theorem dX9_wordOf_8 : decode cX9_wordOf 8 = .ok (.aload_n 0, 1) := by decide +kernel
theorem dX9_wordOf_9 : decode cX9_wordOf 9 = .ok (.getfield 29, 3) := by decide +kernel
theorem dX9_wordOf_12 : decode cX9_wordOf 12 = .ok (.iload_n 3, 1) := by decide +kernel
theorem dX9_wordOf_13 : decode cX9_wordOf 13 = .ok (.invokevirtual 59, 3) := by decide +kernel
theorem dX9_wordOf_16 : decode cX9_wordOf 16 = .ok (.lload_n 1, 1) := by decide +kernel
theorem dX9_wordOf_17 : decode cX9_wordOf 17 = .ok (.lcmp, 1) := by decide +kernel
theorem dX9_wordOf_18 : decode cX9_wordOf 18 = .ok (.ifCond .ne 5, 3) := by decide +kernel
theorem dX9_wordOf_21 : decode cX9_wordOf 21 = .ok (.iload_n 3, 1) := by decide +kernel
theorem dX9_wordOf_22 : decode cX9_wordOf 22 = .ok (.ireturn, 1) := by decide +kernel
theorem dX9_wordOf_23 : decode cX9_wordOf 23 = .ok (.iinc 3 1, 3) := by decide +kernel
theorem dX9_wordOf_26 : decode cX9_wordOf 26 = .ok (.goto (-24), 3) := by decide +kernel
theorem dX9_wordOf_29 : decode cX9_wordOf 29 = .ok (.iconst (-1), 1) := by decide +kernel
theorem dX9_wordOf_30 : decode cX9_wordOf 30 = .ok (.ireturn, 1) := by decide +kernel
set_option maxRecDepth 100000 in
theorem c_X9_wordOf (l : Launch) (D : q_D) (al : q_Al) (dt : q_Dt) (x0 : Nat) (x1 : Int64) (kx0 : al.1 x0 = 10) (r0 : Int32) (hm : X9_wordOf al dt x0 x1 = some r0) : q_Mt l yX9_wordOf cX9_wordOf 4 (some FieldType.int) 1 21 D al [.ref x0, .long x1] dt 0 (some (.int r0)) dt := by
  refine q_Mt.of (by decide) (Nat.le_of_ble_eq_true rfl) ?_
  intro p e s m args below meth c ls C hargs hW hl
  have hx := C.1
  have hb := C.2.1
  have hown := C.2.2.2.2.2.1
  have hts := C.2.2.2.2.2.2.1
  have hS : va_S (q_A al) s.heap s.heap [] := va_S.rf
  have hl : lv_has ls 4 [(0, .ref x0), (1, .long x1)] := hl
  unfold X9_wordOf at hm
  have hB2 : ∀ (x0_2 : Nat) (x1_2 : Int64) (kx0_2 : al.1 x0_2 = 10) (n_2 : Nat) (x3_2 : Int32) (H : Heap) (locs : List Loc) (ls : Array Slot) (hm : X9_wordOf_b2 al dt x0_2 x1_2 n_2 x3_2 = some r0) (hW : q_W D al dt H) (hS : va_S (q_A al) s.heap H locs) (hl : lv_has ls 4 [(0, .ref x0_2), (1, .long x1_2), (3, .int x3_2)]), W p l e { frames := 1, cells := 0, slots := 0, locals := 21 } s m args below meth c H locs 0 0 (MQ below (q_Q (some (.int r0)) (fun H => q_W D al dt H ∧ q_Rk al 0 (some (.int r0))) (q_A al)) args s 0 0 (q_A al)) (F0 m 2 ls []) := by
    intro x0_2 x1_2 kx0_2
    intro n_2
    induction n_2 with
    | zero => intro x3_2 H locs ls hm hW hS hl; cases hm
    | succ n_2 ih2 =>
      intro x3_2 H locs ls hm hW hS hl
      rw [X9_wordOf_b2] at hm
      refine lv_iload_n hx hb dX9_wordOf_2 rfl (lv_at hl 2 rfl) ?_
      refine lv_bipush (v := 10) hx hb dX9_wordOf_3 (by decide) ?_
      refine q_ifc hm (fun c2001 hm => ?_) (fun c2001 hm => ?_)
      · refine lv_icmp_gt (tgt := 29) hx hb dX9_wordOf_5 (by decide) (fun _ => ?_) (fun h => absurd c2001 h)
        refine lv_iconst (v := (-1)) hx hb dX9_wordOf_29 (by decide) ?_
        exact e_i C hW hS hm dX9_wordOf_30
      refine lv_icmp_gt (tgt := 29) hx hb dX9_wordOf_5 (by decide) (fun h => absurd h c2001) (fun _ => ?_)
      refine lv_aload_n hx hb dX9_wordOf_8 rfl (lv_at hl 0 rfl) ?_
      refine r_getF C hW (ci := 9) kx0_2 ff_9_4 cl_9 fl_RX9_29 dX9_wordOf_9 (fun k2002 => ?_)
      refine lv_iload_n hx hb dX9_wordOf_12 rfl (lv_at hl 2 rfl) ?_
      obtain ⟨v2004, hc2003, hm⟩ := q_b1i hm
      refine q_callV C hW hS (As := [.int x3_2]) (rest := []) (st1 := [.long v2004]) (c_X5_at l D al dt (al.2.2 x0_2 4) x3_2 k2002 v2004 hc2003) yl_X5_at vl_X5_at ml_RX9_59 (ci := 5) rfl k2002 (by decide) rfl ⟨Nat.le_of_ble_eq_true rfl, Nat.le_of_ble_eq_true rfl⟩ hl rfl (Nat.le_of_ble_eq_true rfl) dX9_wordOf_13 ⟨Nat.le_refl _, Nat.le_refl _⟩ rfl (fun H locs k2005 hW hS => ?_)
      refine lv_lload_n hx hb dX9_wordOf_16 rfl (lv_at hl 1 rfl) ?_
      refine W.lcmp hx hb dX9_wordOf_17 ?_
      refine q_ifc hm (fun c2006 hm => ?_) (fun c2006 hm => ?_)
      · refine lv_if_ne (tgt := 23) hx hb dX9_wordOf_18 (by decide) (fun h => absurd (q_cmp_eq.mpr c2006) h) (fun _ => ?_)
        refine lv_iload_n hx hb dX9_wordOf_21 rfl (lv_at hl 2 rfl) ?_
        exact e_i C hW hS hm dX9_wordOf_22
      refine lv_if_ne (tgt := 23) hx hb dX9_wordOf_18 (by decide) (fun _ => ?_) (fun h => absurd (q_cmp_eq.mp h) c2006)
      refine lv_iinc (v := (x3_2 + 1)) (lv' := [(3, .int (x3_2 + 1)), (0, .ref x0_2), (1, .long x1_2)]) hx hb dX9_wordOf_23 hl (k := 2) rfl rfl (by decide) rfl (fun ls hl => ?_)
      refine lv_goto (tgt := 2) hx hb dX9_wordOf_26 (by decide) ?_
      exact ih2 (x3_2 + 1) _ _ _ hm hW hS (lv_sub hl [1, 2, 0] rfl)
  refine lv_iconst (v := 0) hx hb dX9_wordOf_0 (by decide) ?_
  refine lv_istore_n (i := 3) (lv' := [(3, .int 0), (0, .ref x0), (1, .long x1)]) hx hb dX9_wordOf_1 rfl hl (by decide) rfl (fun ls hl => ?_)
  exact hB2 x0 x1 kx0 q_FU 0 _ _ _ hm hW hS (lv_sub hl [1, 2, 0] rfl)
theorem dX9_kindOf_0 : decode cX9_kindOf 0 = .ok (.aload_n 0, 1) := by decide +kernel
theorem dX9_kindOf_1 : decode cX9_kindOf 1 = .ok (.getfield 14, 3) := by decide +kernel
theorem dX9_kindOf_4 : decode cX9_kindOf 4 = .ok (.iload_n 1, 1) := by decide +kernel
theorem dX9_kindOf_5 : decode cX9_kindOf 5 = .ok (.invokevirtual 83, 3) := by decide +kernel
theorem dX9_kindOf_8 : decode cX9_kindOf 8 = .ok (.istore 5, 2) := by decide +kernel
theorem dX9_kindOf_10 : decode cX9_kindOf 10 = .ok (.iload_n 1, 1) := by decide +kernel
theorem dX9_kindOf_11 : decode cX9_kindOf 11 = .ok (.aload_n 0, 1) := by decide +kernel
theorem dX9_kindOf_12 : decode cX9_kindOf 12 = .ok (.getfield 35, 3) := by decide +kernel
theorem dX9_kindOf_15 : decode cX9_kindOf 15 = .ok (.if_icmp .lt 5, 3) := by decide +kernel
theorem dX9_kindOf_18 : decode cX9_kindOf 18 = .ok (.iconst 0, 1) := by decide +kernel
theorem dX9_kindOf_19 : decode cX9_kindOf 19 = .ok (.ireturn, 1) := by decide +kernel
theorem dX9_kindOf_20 : decode cX9_kindOf 20 = .ok (.iload 5, 2) := by decide +kernel
theorem dX9_kindOf_22 : decode cX9_kindOf 22 = .ok (.invokestatic 105, 3) := by decide +kernel
theorem dX9_kindOf_25 : decode cX9_kindOf 25 = .ok (.ifCond .eq 31, 3) := by decide +kernel
theorem dX9_kindOf_28 : decode cX9_kindOf 28 = .ok (.iload_n 2, 1) := by decide +kernel
theorem dX9_kindOf_29 : decode cX9_kindOf 29 = .ok (.iload_n 1, 1) := by decide +kernel
theorem dX9_kindOf_30 : decode cX9_kindOf 30 = .ok (.isub, 1) := by decide +kernel
theorem dX9_kindOf_31 : decode cX9_kindOf 31 = .ok (.bipush 8, 2) := by decide +kernel
theorem dX9_kindOf_33 : decode cX9_kindOf 33 = .ok (.if_icmp .le 7, 3) := by decide +kernel
theorem dX9_kindOf_36 : decode cX9_kindOf 36 = .ok (.iconst 1, 1) := by decide +kernel
theorem dX9_kindOf_37 : decode cX9_kindOf 37 = .ok (.goto 18, 3) := by decide +kernel
theorem dX9_kindOf_40 : decode cX9_kindOf 40 = .ok (.aload_n 0, 1) := by decide +kernel
theorem dX9_kindOf_41 : decode cX9_kindOf 41 = .ok (.lload_n 3, 1) := by decide +kernel
theorem dX9_kindOf_42 : decode cX9_kindOf 42 = .ok (.invokevirtual 101, 3) := by decide +kernel
theorem dX9_kindOf_45 : decode cX9_kindOf 45 = .ok (.iconst (-1), 1) := by decide +kernel
theorem dX9_kindOf_46 : decode cX9_kindOf 46 = .ok (.if_icmp .ne 7, 3) := by decide +kernel
theorem dX9_kindOf_49 : decode cX9_kindOf 49 = .ok (.iconst 2, 1) := by decide +kernel
theorem dX9_kindOf_50 : decode cX9_kindOf 50 = .ok (.goto 5, 3) := by decide +kernel
theorem dX9_kindOf_53 : decode cX9_kindOf 53 = .ok (.bipush 6, 2) := by decide +kernel
theorem dX9_kindOf_55 : decode cX9_kindOf 55 = .ok (.ireturn, 1) := by decide +kernel
theorem dX9_kindOf_56 : decode cX9_kindOf 56 = .ok (.iload 5, 2) := by decide +kernel
theorem dX9_kindOf_58 : decode cX9_kindOf 58 = .ok (.invokestatic 109, 3) := by decide +kernel
theorem dX9_kindOf_61 : decode cX9_kindOf 61 = .ok (.ifCond .eq 16, 3) := by decide +kernel
theorem dX9_kindOf_64 : decode cX9_kindOf 64 = .ok (.iload_n 2, 1) := by decide +kernel
theorem dX9_kindOf_65 : decode cX9_kindOf 65 = .ok (.iload_n 1, 1) := by decide +kernel
theorem dX9_kindOf_66 : decode cX9_kindOf 66 = .ok (.isub, 1) := by decide +kernel
theorem dX9_kindOf_67 : decode cX9_kindOf 67 = .ok (.iconst 4, 1) := by decide +kernel
theorem dX9_kindOf_68 : decode cX9_kindOf 68 = .ok (.if_icmp .le 7, 3) := by decide +kernel
theorem dX9_kindOf_71 : decode cX9_kindOf 71 = .ok (.iconst 1, 1) := by decide +kernel
theorem dX9_kindOf_72 : decode cX9_kindOf 72 = .ok (.goto 4, 3) := by decide +kernel
theorem dX9_kindOf_75 : decode cX9_kindOf 75 = .ok (.iconst 3, 1) := by decide +kernel
theorem dX9_kindOf_76 : decode cX9_kindOf 76 = .ok (.ireturn, 1) := by decide +kernel
theorem dX9_kindOf_77 : decode cX9_kindOf 77 = .ok (.iload 5, 2) := by decide +kernel
theorem dX9_kindOf_79 : decode cX9_kindOf 79 = .ok (.bipush 59, 2) := by decide +kernel
theorem dX9_kindOf_81 : decode cX9_kindOf 81 = .ok (.if_icmp .ne 7, 3) := by decide +kernel
theorem dX9_kindOf_84 : decode cX9_kindOf 84 = .ok (.iconst 4, 1) := by decide +kernel
theorem dX9_kindOf_85 : decode cX9_kindOf 85 = .ok (.goto 15, 3) := by decide +kernel
theorem dX9_kindOf_88 : decode cX9_kindOf 88 = .ok (.iload 5, 2) := by decide +kernel
theorem dX9_kindOf_90 : decode cX9_kindOf 90 = .ok (.bipush 45, 2) := by decide +kernel
theorem dX9_kindOf_92 : decode cX9_kindOf 92 = .ok (.if_icmp .ne 7, 3) := by decide +kernel
theorem dX9_kindOf_95 : decode cX9_kindOf 95 = .ok (.iconst 5, 1) := by decide +kernel
theorem dX9_kindOf_96 : decode cX9_kindOf 96 = .ok (.goto 4, 3) := by decide +kernel
theorem dX9_kindOf_99 : decode cX9_kindOf 99 = .ok (.iconst 1, 1) := by decide +kernel
theorem dX9_kindOf_100 : decode cX9_kindOf 100 = .ok (.ireturn, 1) := by decide +kernel
set_option maxRecDepth 100000 in
theorem c_X9_kindOf (l : Launch) (D : q_D) (al : q_Al) (dt : q_Dt) (x0 : Nat) (x1 : Int32) (x2 : Int32) (x3 : Int64) (kx0 : al.1 x0 = 10) (r0 : Int32) (hm : X9_kindOf al dt x0 x1 x2 x3 = some r0) : q_Mt l yX9_kindOf cX9_kindOf 6 (some FieldType.int) 2 44 D al [.ref x0, .int x1, .int x2, .long x3] dt 0 (some (.int r0)) dt := by
  refine q_Mt.of (by decide) (Nat.le_of_ble_eq_true rfl) ?_
  intro p e s m args below meth c ls C hargs hW hl
  have hx := C.1
  have hb := C.2.1
  have hown := C.2.2.2.2.2.1
  have hts := C.2.2.2.2.2.2.1
  have hS : va_S (q_A al) s.heap s.heap [] := va_S.rf
  have hl : lv_has ls 6 [(0, .ref x0), (1, .int x1), (2, .int x2), (3, .long x3)] := hl
  unfold X9_kindOf at hm
  refine lv_aload_n hx hb dX9_kindOf_0 rfl (lv_at hl 0 rfl) ?_
  refine r_getF C hW (ci := 9) kx0 ff_9_0 cl_9 fl_RX9_14 dX9_kindOf_1 (fun k1000001 => ?_)
  refine lv_iload_n hx hb dX9_kindOf_4 rfl (lv_at hl 1 rfl) ?_
  obtain ⟨v1000003, hc1000002, hm⟩ := q_b1i hm
  refine q_callV C hW hS (As := [.int x1]) (rest := []) (st1 := [.int v1000003]) (c_X5_small l D al dt (al.2.2 x0 0) x1 k1000001 v1000003 hc1000002) yl_X5_small vl_X5_small ml_RX9_83 (ci := 5) rfl k1000001 (by decide) rfl ⟨Nat.le_of_ble_eq_true rfl, Nat.le_of_ble_eq_true rfl⟩ hl rfl (Nat.le_of_ble_eq_true rfl) dX9_kindOf_5 ⟨Nat.le_refl _, Nat.le_refl _⟩ rfl (fun H locs k1000004 hW hS => ?_)
  refine lv_istore (i := 5) (lv' := [(5, .int v1000003), (0, .ref x0), (1, .int x1), (2, .int x2), (3, .long x3)]) hx hb dX9_kindOf_8 hl (by decide) rfl (fun ls hl => ?_)
  refine lv_iload_n hx hb dX9_kindOf_10 rfl (lv_at hl 2 rfl) ?_
  refine lv_aload_n hx hb dX9_kindOf_11 rfl (lv_at hl 1 rfl) ?_
  refine r_getI C hW (ci := 9) kx0 ff_9_6 cl_9 fl_RX9_35 dX9_kindOf_12 ?_
  refine q_ifc hm (fun c1000005 hm => ?_) (fun c1000005 hm => ?_)
  · refine lv_icmp_lt (tgt := 20) hx hb dX9_kindOf_15 (by decide) (fun _ => ?_) (fun h => absurd c1000005 h)
    refine lv_iload hx hb dX9_kindOf_20 (lv_at hl 0 rfl) ?_
    obtain ⟨v1000007, hc1000006, hm⟩ := q_b1i hm
    refine q_callS C hW hS (As := [.int v1000003]) (rest := []) (st1 := [.int v1000007]) (c_X9_isLetter l D al dt v1000003 v1000007 hc1000006) yl_X9_isLetter sl_X9_isLetter ml_RX9_105 rfl ⟨Nat.le_of_ble_eq_true rfl, Nat.le_of_ble_eq_true rfl⟩ hl rfl (Nat.le_of_ble_eq_true rfl) dX9_kindOf_22 ⟨Nat.le_refl _, Nat.le_refl _⟩ rfl (fun H locs k1000008 hW hS => ?_)
    refine q_ifc hm (fun c1000009 hm => ?_) (fun c1000009 hm => ?_)
    · refine lv_if_eq (tgt := 56) hx hb dX9_kindOf_25 (by decide) (fun _ => ?_) (fun h => absurd c1000009 h)
      refine lv_iload hx hb dX9_kindOf_56 (lv_at hl 0 rfl) ?_
      obtain ⟨v1000011, hc1000010, hm⟩ := q_b1i hm
      refine q_callS C hW hS (As := [.int v1000003]) (rest := []) (st1 := [.int v1000011]) (c_X9_isDigit l D al dt v1000003 v1000011 hc1000010) yl_X9_isDigit sl_X9_isDigit ml_RX9_109 rfl ⟨Nat.le_of_ble_eq_true rfl, Nat.le_of_ble_eq_true rfl⟩ hl rfl (Nat.le_of_ble_eq_true rfl) dX9_kindOf_58 ⟨Nat.le_refl _, Nat.le_refl _⟩ rfl (fun H locs k1000012 hW hS => ?_)
      refine q_ifc hm (fun c1000013 hm => ?_) (fun c1000013 hm => ?_)
      · refine lv_if_eq (tgt := 77) hx hb dX9_kindOf_61 (by decide) (fun _ => ?_) (fun h => absurd c1000013 h)
        refine lv_iload hx hb dX9_kindOf_77 (lv_at hl 0 rfl) ?_
        refine lv_bipush (v := 59) hx hb dX9_kindOf_79 (by decide) ?_
        refine q_ifc hm (fun c1000014 hm => ?_) (fun c1000014 hm => ?_)
        · refine lv_icmp_ne (tgt := 88) hx hb dX9_kindOf_81 (by decide) (fun h => absurd c1000014 h) (fun _ => ?_)
          refine lv_iconst (v := 4) hx hb dX9_kindOf_84 (by decide) ?_
          refine lv_goto (tgt := 100) hx hb dX9_kindOf_85 (by decide) ?_
          exact e_i C hW hS hm dX9_kindOf_100
        refine lv_icmp_ne (tgt := 88) hx hb dX9_kindOf_81 (by decide) (fun _ => ?_) (fun h => absurd h c1000014)
        refine lv_iload hx hb dX9_kindOf_88 (lv_at hl 0 rfl) ?_
        refine lv_bipush (v := 45) hx hb dX9_kindOf_90 (by decide) ?_
        refine q_ifc hm (fun c1000015 hm => ?_) (fun c1000015 hm => ?_)
        · refine lv_icmp_ne (tgt := 99) hx hb dX9_kindOf_92 (by decide) (fun h => absurd c1000015 h) (fun _ => ?_)
          refine lv_iconst (v := 5) hx hb dX9_kindOf_95 (by decide) ?_
          refine lv_goto (tgt := 100) hx hb dX9_kindOf_96 (by decide) ?_
          exact e_i C hW hS hm dX9_kindOf_100
        refine lv_icmp_ne (tgt := 99) hx hb dX9_kindOf_92 (by decide) (fun _ => ?_) (fun h => absurd h c1000015)
        refine lv_iconst (v := 1) hx hb dX9_kindOf_99 (by decide) ?_
        exact e_i C hW hS hm dX9_kindOf_100
      refine lv_if_eq (tgt := 77) hx hb dX9_kindOf_61 (by decide) (fun h => absurd h c1000013) (fun _ => ?_)
      refine lv_iload_n hx hb dX9_kindOf_64 rfl (lv_at hl 3 rfl) ?_
      refine lv_iload_n hx hb dX9_kindOf_65 rfl (lv_at hl 2 rfl) ?_
      refine lv_isub hx hb dX9_kindOf_66 ?_
      refine lv_iconst (v := 4) hx hb dX9_kindOf_67 (by decide) ?_
      refine q_ifc hm (fun c1000016 hm => ?_) (fun c1000016 hm => ?_)
      · refine lv_icmp_le (tgt := 75) hx hb dX9_kindOf_68 (by decide) (fun _ => ?_) (fun h => absurd c1000016 h)
        refine lv_iconst (v := 3) hx hb dX9_kindOf_75 (by decide) ?_
        exact e_i C hW hS hm dX9_kindOf_76
      refine lv_icmp_le (tgt := 75) hx hb dX9_kindOf_68 (by decide) (fun h => absurd h c1000016) (fun _ => ?_)
      refine lv_iconst (v := 1) hx hb dX9_kindOf_71 (by decide) ?_
      refine lv_goto (tgt := 76) hx hb dX9_kindOf_72 (by decide) ?_
      exact e_i C hW hS hm dX9_kindOf_76
    refine lv_if_eq (tgt := 56) hx hb dX9_kindOf_25 (by decide) (fun h => absurd h c1000009) (fun _ => ?_)
    refine lv_iload_n hx hb dX9_kindOf_28 rfl (lv_at hl 3 rfl) ?_
    refine lv_iload_n hx hb dX9_kindOf_29 rfl (lv_at hl 2 rfl) ?_
    refine lv_isub hx hb dX9_kindOf_30 ?_
    refine lv_bipush (v := 8) hx hb dX9_kindOf_31 (by decide) ?_
    refine q_ifc hm (fun c1000017 hm => ?_) (fun c1000017 hm => ?_)
    · refine lv_icmp_le (tgt := 40) hx hb dX9_kindOf_33 (by decide) (fun _ => ?_) (fun h => absurd c1000017 h)
      refine lv_aload_n hx hb dX9_kindOf_40 rfl (lv_at hl 1 rfl) ?_
      refine lv_lload_n hx hb dX9_kindOf_41 rfl (lv_at hl 4 rfl) ?_
      obtain ⟨v1000019, hc1000018, hm⟩ := q_b1i hm
      refine q_callV C hW hS (As := [.long x3]) (rest := []) (st1 := [.int v1000019]) (c_X9_wordOf l D al dt x0 x3 kx0 v1000019 hc1000018) yl_X9_wordOf vl_X9_wordOf ml_RX9_101 (ci := 9) rfl kx0 (by decide) rfl ⟨Nat.le_of_ble_eq_true rfl, Nat.le_of_ble_eq_true rfl⟩ hl rfl (Nat.le_of_ble_eq_true rfl) dX9_kindOf_42 ⟨Nat.le_refl _, Nat.le_refl _⟩ rfl (fun H locs k1000020 hW hS => ?_)
      refine lv_iconst (v := (-1)) hx hb dX9_kindOf_45 (by decide) ?_
      refine q_ifc hm (fun c1000021 hm => ?_) (fun c1000021 hm => ?_)
      · refine lv_icmp_ne (tgt := 53) hx hb dX9_kindOf_46 (by decide) (fun h => absurd c1000021 h) (fun _ => ?_)
        refine lv_iconst (v := 2) hx hb dX9_kindOf_49 (by decide) ?_
        refine lv_goto (tgt := 55) hx hb dX9_kindOf_50 (by decide) ?_
        exact e_i C hW hS hm dX9_kindOf_55
      refine lv_icmp_ne (tgt := 53) hx hb dX9_kindOf_46 (by decide) (fun _ => ?_) (fun h => absurd h c1000021)
      refine lv_bipush (v := 6) hx hb dX9_kindOf_53 (by decide) ?_
      exact e_i C hW hS hm dX9_kindOf_55
    refine lv_icmp_le (tgt := 40) hx hb dX9_kindOf_33 (by decide) (fun h => absurd h c1000017) (fun _ => ?_)
    refine lv_iconst (v := 1) hx hb dX9_kindOf_36 (by decide) ?_
    refine lv_goto (tgt := 55) hx hb dX9_kindOf_37 (by decide) ?_
    exact e_i C hW hS hm dX9_kindOf_55
  refine lv_icmp_lt (tgt := 20) hx hb dX9_kindOf_15 (by decide) (fun h => absurd h c1000005) (fun _ => ?_)
  refine lv_iconst (v := 0) hx hb dX9_kindOf_18 (by decide) ?_
  exact e_i C hW hS hm dX9_kindOf_19
theorem dX9_cut_0 : decode cX9_cut 0 = .ok (.iconst 0, 1) := by decide +kernel
theorem dX9_cut_1 : decode cX9_cut 1 = .ok (.istore_n 1, 1) := by decide +kernel
theorem dX9_cut_2 : decode cX9_cut 2 = .ok (.bipush 6, 2) := by decide +kernel
theorem dX9_cut_4 : decode cX9_cut 4 = .ok (.istore_n 2, 1) := by decide +kernel
theorem dX9_cut_5 : decode cX9_cut 5 = .ok (.iconst 0, 1) := by decide +kernel
theorem dX9_cut_6 : decode cX9_cut 6 = .ok (.istore_n 3, 1) := by decide +kernel
theorem dX9_cut_7 : decode cX9_cut 7 = .ok (.iload_n 3, 1) := by decide +kernel
theorem dX9_cut_8 : decode cX9_cut 8 = .ok (.sipush 400, 3) := by decide +kernel
theorem dX9_cut_11 : decode cX9_cut 11 = .ok (.if_icmp .gt 98, 3) := by decide +kernel
theorem dX9_cut_14 : decode cX9_cut 14 = .ok (.iload_n 2, 1) := by decide +kernel
theorem dX9_cut_15 : decode cX9_cut 15 = .ok (.ifCond .eq 94, 3) := by decide +kernel
theorem dX9_cut_18 : decode cX9_cut 18 = .ok (.iload_n 2, 1) := by decide +kernel
theorem dX9_cut_19 : decode cX9_cut 19 = .ok (.iconst 1, 1) := by decide +kernel
theorem dX9_cut_20 : decode cX9_cut 20 = .ok (.if_icmp .eq 89, 3) := by decide +kernel
theorem dX9_cut_23 : decode cX9_cut 23 = .ok (.aload_n 0, 1) := by decide +kernel
theorem dX9_cut_24 : decode cX9_cut 24 = .ok (.iload_n 1, 1) := by decide +kernel
theorem dX9_cut_25 : decode cX9_cut 25 = .ok (.invokevirtual 87, 3) := by decide +kernel
theorem dX9_cut_28 : decode cX9_cut 28 = .ok (.istore 4, 2) := by decide +kernel
theorem dX9_cut_30 : decode cX9_cut 30 = .ok (.aload_n 0, 1) := by decide +kernel
theorem dX9_cut_31 : decode cX9_cut 31 = .ok (.iload 4, 2) := by decide +kernel
theorem dX9_cut_33 : decode cX9_cut 33 = .ok (.invokevirtual 90, 3) := by decide +kernel
theorem dX9_cut_36 : decode cX9_cut 36 = .ok (.istore_n 1, 1) := by decide +kernel
theorem dX9_cut_37 : decode cX9_cut 37 = .ok (.aload_n 0, 1) := by decide +kernel
theorem dX9_cut_38 : decode cX9_cut 38 = .ok (.iload 4, 2) := by decide +kernel
theorem dX9_cut_40 : decode cX9_cut 40 = .ok (.iload_n 1, 1) := by decide +kernel
theorem dX9_cut_41 : decode cX9_cut 41 = .ok (.invokevirtual 93, 3) := by decide +kernel
theorem dX9_cut_44 : decode cX9_cut 44 = .ok (.lstore 5, 2) := by decide +kernel
theorem dX9_cut_46 : decode cX9_cut 46 = .ok (.aload_n 0, 1) := by decide +kernel
theorem dX9_cut_47 : decode cX9_cut 47 = .ok (.iload 4, 2) := by decide +kernel
theorem dX9_cut_49 : decode cX9_cut 49 = .ok (.iload_n 1, 1) := by decide +kernel
theorem dX9_cut_50 : decode cX9_cut 50 = .ok (.lload 5, 2) := by decide +kernel
theorem dX9_cut_52 : decode cX9_cut 52 = .ok (.invokevirtual 97, 3) := by decide +kernel
theorem dX9_cut_55 : decode cX9_cut 55 = .ok (.istore_n 2, 1) := by decide +kernel
theorem dX9_cut_56 : decode cX9_cut 56 = .ok (.aload_n 0, 1) := by decide +kernel
theorem dX9_cut_57 : decode cX9_cut 57 = .ok (.getfield 20, 3) := by decide +kernel
theorem dX9_cut_60 : decode cX9_cut 60 = .ok (.iload_n 3, 1) := by decide +kernel
theorem dX9_cut_61 : decode cX9_cut 61 = .ok (.iload_n 2, 1) := by decide +kernel
theorem dX9_cut_62 : decode cX9_cut 62 = .ok (.i2l, 1) := by decide +kernel
theorem dX9_cut_63 : decode cX9_cut 63 = .ok (.invokevirtual 66, 3) := by decide +kernel
theorem dX9_cut_66 : decode cX9_cut 66 = .ok (.aload_n 0, 1) := by decide +kernel
theorem dX9_cut_67 : decode cX9_cut 67 = .ok (.getfield 23, 3) := by decide +kernel
theorem dX9_cut_70 : decode cX9_cut 70 = .ok (.iload_n 3, 1) := by decide +kernel
theorem dX9_cut_71 : decode cX9_cut 71 = .ok (.iload 4, 2) := by decide +kernel
theorem dX9_cut_73 : decode cX9_cut 73 = .ok (.i2l, 1) := by decide +kernel
theorem dX9_cut_74 : decode cX9_cut 74 = .ok (.invokevirtual 66, 3) := by decide +kernel
theorem dX9_cut_77 : decode cX9_cut 77 = .ok (.aload_n 0, 1) := by decide +kernel
theorem dX9_cut_78 : decode cX9_cut 78 = .ok (.getfield 26, 3) := by decide +kernel
theorem dX9_cut_81 : decode cX9_cut 81 = .ok (.iload_n 3, 1) := by decide +kernel
theorem dX9_cut_82 : decode cX9_cut 82 = .ok (.iload_n 2, 1) := by decide +kernel
theorem dX9_cut_83 : decode cX9_cut 83 = .ok (.bipush 6, 2) := by decide +kernel
theorem dX9_cut_85 : decode cX9_cut 85 = .ok (.if_icmp .ne 13, 3) := by decide +kernel
theorem dX9_cut_88 : decode cX9_cut 88 = .ok (.aload_n 0, 1) := by decide +kernel
theorem dX9_cut_89 : decode cX9_cut 89 = .ok (.lload 5, 2) := by decide +kernel
theorem dX9_cut_91 : decode cX9_cut 91 = .ok (.invokevirtual 101, 3) := by decide +kernel
theorem dX9_cut_94 : decode cX9_cut 94 = .ok (.i2l, 1) := by decide +kernel
theorem dX9_cut_95 : decode cX9_cut 95 = .ok (.goto 5, 3) := by decide +kernel
theorem dX9_cut_98 : decode cX9_cut 98 = .ok (.lload 5, 2) := by decide +kernel
theorem dX9_cut_100 : decode cX9_cut 100 = .ok (.invokevirtual 66, 3) := by decide +kernel
theorem dX9_cut_103 : decode cX9_cut 103 = .ok (.iinc 3 1, 3) := by decide +kernel
theorem dX9_cut_106 : decode cX9_cut 106 = .ok (.goto (-99), 3) := by decide +kernel
theorem dX9_cut_109 : decode cX9_cut 109 = .ok (.return_, 1) := by decide +kernel
set_option maxRecDepth 100000 in
theorem c_X9_cut (l : Launch) (D : q_D) (al : q_Al) (dt : q_Dt) (x0 : Nat) (kx0 : al.1 x0 = 10) (dt0 : q_Dt) (hm : X9_cut al dt x0 = some dt0) : q_Mt l yX9_cut cX9_cut 7 (none) 3 69 D al [.ref x0] dt 0 none dt0 := by
  refine q_Mt.of (by decide) (Nat.le_of_ble_eq_true rfl) ?_
  intro p e s m args below meth c ls C hargs hW hl
  have hx := C.1
  have hb := C.2.1
  have hown := C.2.2.2.2.2.1
  have hts := C.2.2.2.2.2.2.1
  have hS : va_S (q_A al) s.heap s.heap [] := va_S.rf
  have hl : lv_has ls 7 [(0, .ref x0)] := hl
  unfold X9_cut at hm
  have hB7 : ∀ (x0_7 : Nat) (kx0_7 : al.1 x0_7 = 10) (n_7 : Nat) (x1_7 : Int32) (x2_7 : Int32) (x3_7 : Int32) (dt : q_Dt) (H : Heap) (locs : List Loc) (ls : Array Slot) (hm : X9_cut_b7 al x0_7 n_7 x1_7 x2_7 x3_7 dt = some dt0) (hW : q_W D al dt H) (hS : va_S (q_A al) s.heap H locs) (hl : lv_has ls 7 [(0, .ref x0_7), (1, .int x1_7), (2, .int x2_7), (3, .int x3_7)]), W p l e { frames := 3, cells := 0, slots := 0, locals := 69 } s m args below meth c H locs 0 0 (MQ below (q_Q none (fun H => q_W D al dt0 H ∧ q_Rk al 0 none) (q_A al)) args s 0 0 (q_A al)) (F0 m 7 ls []) := by
    intro x0_7 kx0_7
    intro n_7
    induction n_7 with
    | zero => intro x1_7 x2_7 x3_7 dt H locs ls hm hW hS hl; cases hm
    | succ n_7 ih7 =>
      have hB100 : ∀ (x1_100 : Int32) (x2_100 : Int32) (x3_100 : Int32) (t0_100 : Nat) (t1_100 : Int32) (t2_100 : Int64) (kt0_100 : al.1 t0_100 = 6) (dt : q_Dt) (H : Heap) (locs : List Loc) (ls : Array Slot) (hm : X9_cut_b100 al (X9_cut_b7 al x0_7 n_7) x0_7 x1_100 x2_100 x3_100 t0_100 t1_100 t2_100 dt = some dt0) (hW : q_W D al dt H) (hS : va_S (q_A al) s.heap H locs) (hl : lv_has ls 7 [(0, .ref x0_7), (1, .int x1_100), (2, .int x2_100), (3, .int x3_100)]), W p l e { frames := 3, cells := 0, slots := 0, locals := 69 } s m args below meth c H locs 0 0 (MQ below (q_Q none (fun H => q_W D al dt0 H ∧ q_Rk al 0 none) (q_A al)) args s 0 0 (q_A al)) (F0 m 100 ls [.long t2_100, .int t1_100, .ref t0_100]) := by
        intro x1_100 x2_100 x3_100 t0_100 t1_100 t2_100 kt0_100 dt H locs ls hm hW hS hl
        unfold X9_cut_b100 at hm
        obtain ⟨dt100002, hc100001, hm⟩ := q_b1i hm
        refine q_callV C hW hS (As := [.int t1_100, .long t2_100]) (rest := []) (st1 := []) (c_X5_put l D al dt t0_100 t1_100 t2_100 kt0_100 dt100002 hc100001) yl_X5_put vl_X5_put ml_RX9_66 (ci := 5) rfl kt0_100 (by decide) rfl ⟨Nat.le_of_ble_eq_true rfl, Nat.le_of_ble_eq_true rfl⟩ hl rfl (Nat.le_of_ble_eq_true rfl) dX9_cut_100 ⟨Nat.le_refl _, Nat.le_refl _⟩ rfl (fun H locs k100003 hW hS => ?_)
        refine lv_iinc (v := (x3_100 + 1)) (lv' := [(3, .int (x3_100 + 1)), (0, .ref x0_7), (1, .int x1_100), (2, .int x2_100)]) hx hb dX9_cut_103 hl (k := 3) rfl rfl (by decide) rfl (fun ls hl => ?_)
        refine lv_goto (tgt := 7) hx hb dX9_cut_106 (by decide) ?_
        exact ih7 x1_100 x2_100 (x3_100 + 1) dt100002 _ _ _ hm hW hS (lv_sub hl [1, 2, 3, 0] rfl)
      intro x1_7 x2_7 x3_7 dt H locs ls hm hW hS hl
      rw [X9_cut_b7] at hm
      refine lv_iload_n hx hb dX9_cut_7 rfl (lv_at hl 3 rfl) ?_
      refine lv_sipush (v := 400) hx hb dX9_cut_8 (by decide) ?_
      refine q_ifc hm (fun c7001 hm => ?_) (fun c7001 hm => ?_)
      · refine lv_icmp_gt (tgt := 109) hx hb dX9_cut_11 (by decide) (fun _ => ?_) (fun h => absurd c7001 h)
        exact e_vD C hW hS hm dX9_cut_109
      refine lv_icmp_gt (tgt := 109) hx hb dX9_cut_11 (by decide) (fun h => absurd h c7001) (fun _ => ?_)
      refine lv_iload_n hx hb dX9_cut_14 rfl (lv_at hl 2 rfl) ?_
      refine q_ifc hm (fun c7002 hm => ?_) (fun c7002 hm => ?_)
      · refine lv_if_eq (tgt := 109) hx hb dX9_cut_15 (by decide) (fun _ => ?_) (fun h => absurd c7002 h)
        exact e_vD C hW hS hm dX9_cut_109
      refine lv_if_eq (tgt := 109) hx hb dX9_cut_15 (by decide) (fun h => absurd h c7002) (fun _ => ?_)
      refine lv_iload_n hx hb dX9_cut_18 rfl (lv_at hl 2 rfl) ?_
      refine lv_iconst (v := 1) hx hb dX9_cut_19 (by decide) ?_
      refine q_ifc hm (fun c7003 hm => ?_) (fun c7003 hm => ?_)
      · refine lv_icmp_eq (tgt := 109) hx hb dX9_cut_20 (by decide) (fun _ => ?_) (fun h => absurd c7003 h)
        exact e_vD C hW hS hm dX9_cut_109
      refine lv_icmp_eq (tgt := 109) hx hb dX9_cut_20 (by decide) (fun h => absurd h c7003) (fun _ => ?_)
      refine lv_aload_n hx hb dX9_cut_23 rfl (lv_at hl 0 rfl) ?_
      refine lv_iload_n hx hb dX9_cut_24 rfl (lv_at hl 1 rfl) ?_
      obtain ⟨v7005, hc7004, hm⟩ := q_b1i hm
      refine q_callV C hW hS (As := [.int x1_7]) (rest := []) (st1 := [.int v7005]) (c_X9_behindBlanks l D al dt x0_7 x1_7 kx0_7 v7005 hc7004) yl_X9_behindBlanks vl_X9_behindBlanks ml_RX9_87 (ci := 9) rfl kx0_7 (by decide) rfl ⟨Nat.le_of_ble_eq_true rfl, Nat.le_of_ble_eq_true rfl⟩ hl rfl (Nat.le_of_ble_eq_true rfl) dX9_cut_25 ⟨Nat.le_refl _, Nat.le_refl _⟩ rfl (fun H locs k7006 hW hS => ?_)
      refine lv_istore (i := 4) (lv' := [(4, .int v7005), (0, .ref x0_7), (1, .int x1_7), (2, .int x2_7), (3, .int x3_7)]) hx hb dX9_cut_28 hl (by decide) rfl (fun ls hl => ?_)
      refine lv_aload_n hx hb dX9_cut_30 rfl (lv_at hl 1 rfl) ?_
      refine lv_iload hx hb dX9_cut_31 (lv_at hl 0 rfl) ?_
      obtain ⟨v7008, hc7007, hm⟩ := q_b1i hm
      refine q_callV C hW hS (As := [.int v7005]) (rest := []) (st1 := [.int v7008]) (c_X9_behindToken l D al dt x0_7 v7005 kx0_7 v7008 hc7007) yl_X9_behindToken vl_X9_behindToken ml_RX9_90 (ci := 9) rfl kx0_7 (by decide) rfl ⟨Nat.le_of_ble_eq_true rfl, Nat.le_of_ble_eq_true rfl⟩ hl rfl (Nat.le_of_ble_eq_true rfl) dX9_cut_33 ⟨Nat.le_refl _, Nat.le_refl _⟩ rfl (fun H locs k7009 hW hS => ?_)
      refine lv_istore_n (i := 1) (lv' := [(1, .int v7008), (4, .int v7005), (0, .ref x0_7), (2, .int x2_7), (3, .int x3_7)]) hx hb dX9_cut_36 rfl hl (by decide) rfl (fun ls hl => ?_)
      refine lv_aload_n hx hb dX9_cut_37 rfl (lv_at hl 2 rfl) ?_
      refine lv_iload hx hb dX9_cut_38 (lv_at hl 1 rfl) ?_
      refine lv_iload_n hx hb dX9_cut_40 rfl (lv_at hl 0 rfl) ?_
      obtain ⟨v7011, hc7010, hm⟩ := q_b1i hm
      refine q_callV C hW hS (As := [.int v7005, .int v7008]) (rest := []) (st1 := [.long v7011]) (c_X9_valueOf l D al dt x0_7 v7005 v7008 kx0_7 v7011 hc7010) yl_X9_valueOf vl_X9_valueOf ml_RX9_93 (ci := 9) rfl kx0_7 (by decide) rfl ⟨Nat.le_of_ble_eq_true rfl, Nat.le_of_ble_eq_true rfl⟩ hl rfl (Nat.le_of_ble_eq_true rfl) dX9_cut_41 ⟨Nat.le_refl _, Nat.le_refl _⟩ rfl (fun H locs k7012 hW hS => ?_)
      refine lv_lstore (i := 5) (lv' := [(5, .long v7011), (1, .int v7008), (4, .int v7005), (0, .ref x0_7), (2, .int x2_7), (3, .int x3_7)]) hx hb dX9_cut_44 hl (by decide) rfl (fun ls hl => ?_)
      refine lv_aload_n hx hb dX9_cut_46 rfl (lv_at hl 3 rfl) ?_
      refine lv_iload hx hb dX9_cut_47 (lv_at hl 2 rfl) ?_
      refine lv_iload_n hx hb dX9_cut_49 rfl (lv_at hl 1 rfl) ?_
      refine lv_lload hx hb dX9_cut_50 (lv_at hl 0 rfl) ?_
      obtain ⟨v7014, hc7013, hm⟩ := q_b1i hm
      refine q_callV C hW hS (As := [.int v7005, .int v7008, .long v7011]) (rest := []) (st1 := [.int v7014]) (c_X9_kindOf l D al dt x0_7 v7005 v7008 v7011 kx0_7 v7014 hc7013) yl_X9_kindOf vl_X9_kindOf ml_RX9_97 (ci := 9) rfl kx0_7 (by decide) rfl ⟨Nat.le_of_ble_eq_true rfl, Nat.le_of_ble_eq_true rfl⟩ hl rfl (Nat.le_of_ble_eq_true rfl) dX9_cut_52 ⟨Nat.le_refl _, Nat.le_refl _⟩ rfl (fun H locs k7015 hW hS => ?_)
      refine lv_istore_n (i := 2) (lv' := [(2, .int v7014), (5, .long v7011), (1, .int v7008), (4, .int v7005), (0, .ref x0_7), (3, .int x3_7)]) hx hb dX9_cut_55 rfl hl (by decide) rfl (fun ls hl => ?_)
      refine lv_aload_n hx hb dX9_cut_56 rfl (lv_at hl 4 rfl) ?_
      refine r_getF C hW (ci := 9) kx0_7 ff_9_1 cl_9 fl_RX9_20 dX9_cut_57 (fun k7016 => ?_)
      refine lv_iload_n hx hb dX9_cut_60 rfl (lv_at hl 5 rfl) ?_
      refine lv_iload_n hx hb dX9_cut_61 rfl (lv_at hl 0 rfl) ?_
      refine lv_i2l (v := (Int32.toInt64 v7014)) hx hb dX9_cut_62 rfl ?_
      obtain ⟨dt7018, hc7017, hm⟩ := q_b1i hm
      refine q_callV C hW hS (As := [.int x3_7, .long (Int32.toInt64 v7014)]) (rest := []) (st1 := []) (c_X5_put l D al dt (al.2.2 x0_7 1) x3_7 (Int32.toInt64 v7014) k7016 dt7018 hc7017) yl_X5_put vl_X5_put ml_RX9_66 (ci := 5) rfl k7016 (by decide) rfl ⟨Nat.le_of_ble_eq_true rfl, Nat.le_of_ble_eq_true rfl⟩ hl rfl (Nat.le_of_ble_eq_true rfl) dX9_cut_63 ⟨Nat.le_refl _, Nat.le_refl _⟩ rfl (fun H locs k7019 hW hS => ?_)
      refine lv_aload_n hx hb dX9_cut_66 rfl (lv_at hl 4 rfl) ?_
      refine r_getF C hW (ci := 9) kx0_7 ff_9_2 cl_9 fl_RX9_23 dX9_cut_67 (fun k7020 => ?_)
      refine lv_iload_n hx hb dX9_cut_70 rfl (lv_at hl 5 rfl) ?_
      refine lv_iload hx hb dX9_cut_71 (lv_at hl 3 rfl) ?_
      refine lv_i2l (v := (Int32.toInt64 v7005)) hx hb dX9_cut_73 rfl ?_
      obtain ⟨dt7022, hc7021, hm⟩ := q_b1i hm
      refine q_callV C hW hS (As := [.int x3_7, .long (Int32.toInt64 v7005)]) (rest := []) (st1 := []) (c_X5_put l D al dt7018 (al.2.2 x0_7 2) x3_7 (Int32.toInt64 v7005) k7020 dt7022 hc7021) yl_X5_put vl_X5_put ml_RX9_66 (ci := 5) rfl k7020 (by decide) rfl ⟨Nat.le_of_ble_eq_true rfl, Nat.le_of_ble_eq_true rfl⟩ hl rfl (Nat.le_of_ble_eq_true rfl) dX9_cut_74 ⟨Nat.le_refl _, Nat.le_refl _⟩ rfl (fun H locs k7023 hW hS => ?_)
      refine lv_aload_n hx hb dX9_cut_77 rfl (lv_at hl 4 rfl) ?_
      refine r_getF C hW (ci := 9) kx0_7 ff_9_3 cl_9 fl_RX9_26 dX9_cut_78 (fun k7024 => ?_)
      refine lv_iload_n hx hb dX9_cut_81 rfl (lv_at hl 5 rfl) ?_
      refine lv_iload_n hx hb dX9_cut_82 rfl (lv_at hl 0 rfl) ?_
      refine lv_bipush (v := 6) hx hb dX9_cut_83 (by decide) ?_
      refine q_ifc hm (fun c7025 hm => ?_) (fun c7025 hm => ?_)
      · refine lv_icmp_ne (tgt := 98) hx hb dX9_cut_85 (by decide) (fun h => absurd c7025 h) (fun _ => ?_)
        refine lv_aload_n hx hb dX9_cut_88 rfl (lv_at hl 4 rfl) ?_
        refine lv_lload hx hb dX9_cut_89 (lv_at hl 1 rfl) ?_
        obtain ⟨v7027, hc7026, hm⟩ := q_b1i hm
        refine q_callV C hW hS (As := [.long v7011]) (rest := [.int x3_7, .ref (al.2.2 x0_7 3)]) (st1 := [.int v7027, .int x3_7, .ref (al.2.2 x0_7 3)]) (c_X9_wordOf l D al dt7022 x0_7 v7011 kx0_7 v7027 hc7026) yl_X9_wordOf vl_X9_wordOf ml_RX9_101 (ci := 9) rfl kx0_7 (by decide) rfl ⟨Nat.le_of_ble_eq_true rfl, Nat.le_of_ble_eq_true rfl⟩ hl rfl (Nat.le_of_ble_eq_true rfl) dX9_cut_91 ⟨Nat.le_refl _, Nat.le_refl _⟩ rfl (fun H locs k7028 hW hS => ?_)
        refine lv_i2l (v := (Int32.toInt64 v7027)) hx hb dX9_cut_94 rfl ?_
        refine lv_goto (tgt := 100) hx hb dX9_cut_95 (by decide) ?_
        exact hB100 v7008 v7014 x3_7 (al.2.2 x0_7 3) x3_7 (Int32.toInt64 v7027) k7024 dt7022 _ _ _ hm hW hS (lv_sub hl [4, 2, 0, 5] rfl)
      refine lv_icmp_ne (tgt := 98) hx hb dX9_cut_85 (by decide) (fun _ => ?_) (fun h => absurd h c7025)
      refine lv_lload hx hb dX9_cut_98 (lv_at hl 1 rfl) ?_
      exact hB100 v7008 v7014 x3_7 (al.2.2 x0_7 3) x3_7 v7011 k7024 dt7022 _ _ _ hm hW hS (lv_sub hl [4, 2, 0, 5] rfl)
  refine lv_iconst (v := 0) hx hb dX9_cut_0 (by decide) ?_
  refine lv_istore_n (i := 1) (lv' := [(1, .int 0), (0, .ref x0)]) hx hb dX9_cut_1 rfl hl (by decide) rfl (fun ls hl => ?_)
  refine lv_bipush (v := 6) hx hb dX9_cut_2 (by decide) ?_
  refine lv_istore_n (i := 2) (lv' := [(2, .int 6), (1, .int 0), (0, .ref x0)]) hx hb dX9_cut_4 rfl hl (by decide) rfl (fun ls hl => ?_)
  refine lv_iconst (v := 0) hx hb dX9_cut_5 (by decide) ?_
  refine lv_istore_n (i := 3) (lv' := [(3, .int 0), (2, .int 6), (1, .int 0), (0, .ref x0)]) hx hb dX9_cut_6 rfl hl (by decide) rfl (fun ls hl => ?_)
  exact hB7 x0 kx0 q_FU 0 6 0 dt _ _ _ hm hW hS (lv_sub hl [3, 2, 1, 0] rfl)
theorem dX9_makeRoom_0 : decode cX9_makeRoom 0 = .ok (.aload_n 0, 1) := by decide +kernel
theorem dX9_makeRoom_1 : decode cX9_makeRoom 1 = .ok (.getfield 32, 3) := by decide +kernel
theorem dX9_makeRoom_4 : decode cX9_makeRoom 4 = .ok (.iconst 3, 1) := by decide +kernel
theorem dX9_makeRoom_5 : decode cX9_makeRoom 5 = .ok (.ldc2_w 116, 3) := by decide +kernel
theorem dX9_makeRoom_8 : decode cX9_makeRoom 8 = .ok (.invokevirtual 66, 3) := by decide +kernel
theorem dX9_makeRoom_11 : decode cX9_makeRoom 11 = .ok (.aload_n 0, 1) := by decide +kernel
theorem dX9_makeRoom_12 : decode cX9_makeRoom 12 = .ok (.getfield 32, 3) := by decide +kernel
theorem dX9_makeRoom_15 : decode cX9_makeRoom 15 = .ok (.iconst 4, 1) := by decide +kernel
theorem dX9_makeRoom_16 : decode cX9_makeRoom 16 = .ok (.ldc2_w 118, 3) := by decide +kernel
theorem dX9_makeRoom_19 : decode cX9_makeRoom 19 = .ok (.invokevirtual 66, 3) := by decide +kernel
theorem dX9_makeRoom_22 : decode cX9_makeRoom 22 = .ok (.aload_n 0, 1) := by decide +kernel
theorem dX9_makeRoom_23 : decode cX9_makeRoom 23 = .ok (.getfield 32, 3) := by decide +kernel
theorem dX9_makeRoom_26 : decode cX9_makeRoom 26 = .ok (.iconst 5, 1) := by decide +kernel
theorem dX9_makeRoom_27 : decode cX9_makeRoom 27 = .ok (.ldc2_w 118, 3) := by decide +kernel
theorem dX9_makeRoom_30 : decode cX9_makeRoom 30 = .ok (.invokevirtual 66, 3) := by decide +kernel
theorem dX9_makeRoom_33 : decode cX9_makeRoom 33 = .ok (.aload_n 0, 1) := by decide +kernel
theorem dX9_makeRoom_34 : decode cX9_makeRoom 34 = .ok (.getfield 32, 3) := by decide +kernel
theorem dX9_makeRoom_37 : decode cX9_makeRoom 37 = .ok (.bipush 6, 2) := by decide +kernel
theorem dX9_makeRoom_39 : decode cX9_makeRoom 39 = .ok (.ldc2_w 118, 3) := by decide +kernel
theorem dX9_makeRoom_42 : decode cX9_makeRoom 42 = .ok (.invokevirtual 66, 3) := by decide +kernel
theorem dX9_makeRoom_45 : decode cX9_makeRoom 45 = .ok (.aload_n 0, 1) := by decide +kernel
theorem dX9_makeRoom_46 : decode cX9_makeRoom 46 = .ok (.getfield 32, 3) := by decide +kernel
theorem dX9_makeRoom_49 : decode cX9_makeRoom 49 = .ok (.bipush 7, 2) := by decide +kernel
theorem dX9_makeRoom_51 : decode cX9_makeRoom 51 = .ok (.ldc2_w 120, 3) := by decide +kernel
theorem dX9_makeRoom_54 : decode cX9_makeRoom 54 = .ok (.invokevirtual 66, 3) := by decide +kernel
theorem dX9_makeRoom_57 : decode cX9_makeRoom 57 = .ok (.return_, 1) := by decide +kernel
set_option maxRecDepth 100000 in
theorem c_X9_makeRoom (l : Launch) (D : q_D) (al : q_Al) (dt : q_Dt) (x0 : Nat) (kx0 : al.1 x0 = 10) (dt0 : q_Dt) (hm : X9_makeRoom al dt x0 = some dt0) : q_Mt l yX9_makeRoom cX9_makeRoom 1 (none) 1 23 D al [.ref x0] dt 0 none dt0 := by
  refine q_Mt.of (by decide) (Nat.le_of_ble_eq_true rfl) ?_
  intro p e s m args below meth c ls C hargs hW hl
  have hx := C.1
  have hb := C.2.1
  have hown := C.2.2.2.2.2.1
  have hts := C.2.2.2.2.2.2.1
  have hS : va_S (q_A al) s.heap s.heap [] := va_S.rf
  have hl : lv_has ls 1 [(0, .ref x0)] := hl
  unfold X9_makeRoom at hm
  refine lv_aload_n hx hb dX9_makeRoom_0 rfl (lv_at hl 0 rfl) ?_
  refine r_getF C hW (ci := 9) kx0 ff_9_5 cl_9 fl_RX9_32 dX9_makeRoom_1 (fun k1000001 => ?_)
  refine lv_iconst (v := 3) hx hb dX9_makeRoom_4 (by decide) ?_
  refine lv_ldc2 (own := RX9) (v := 8) hx hb hown (hts _ wc_RX9_116) dX9_makeRoom_5 ?_
  obtain ⟨dt1000003, hc1000002, hm⟩ := q_b1i hm
  refine q_callV C hW hS (As := [.int 3, .long 8]) (rest := []) (st1 := []) (c_X5_put l D al dt (al.2.2 x0 5) 3 8 k1000001 dt1000003 hc1000002) yl_X5_put vl_X5_put ml_RX9_66 (ci := 5) rfl k1000001 (by decide) rfl ⟨Nat.le_of_ble_eq_true rfl, Nat.le_of_ble_eq_true rfl⟩ hl rfl (Nat.le_of_ble_eq_true rfl) dX9_makeRoom_8 ⟨Nat.le_refl _, Nat.le_refl _⟩ rfl (fun H locs k1000004 hW hS => ?_)
  refine lv_aload_n hx hb dX9_makeRoom_11 rfl (lv_at hl 0 rfl) ?_
  refine r_getF C hW (ci := 9) kx0 ff_9_5 cl_9 fl_RX9_32 dX9_makeRoom_12 (fun k1000005 => ?_)
  refine lv_iconst (v := 4) hx hb dX9_makeRoom_15 (by decide) ?_
  refine lv_ldc2 (own := RX9) (v := 6) hx hb hown (hts _ wc_RX9_118) dX9_makeRoom_16 ?_
  obtain ⟨dt1000007, hc1000006, hm⟩ := q_b1i hm
  refine q_callV C hW hS (As := [.int 4, .long 6]) (rest := []) (st1 := []) (c_X5_put l D al dt1000003 (al.2.2 x0 5) 4 6 k1000005 dt1000007 hc1000006) yl_X5_put vl_X5_put ml_RX9_66 (ci := 5) rfl k1000005 (by decide) rfl ⟨Nat.le_of_ble_eq_true rfl, Nat.le_of_ble_eq_true rfl⟩ hl rfl (Nat.le_of_ble_eq_true rfl) dX9_makeRoom_19 ⟨Nat.le_refl _, Nat.le_refl _⟩ rfl (fun H locs k1000008 hW hS => ?_)
  refine lv_aload_n hx hb dX9_makeRoom_22 rfl (lv_at hl 0 rfl) ?_
  refine r_getF C hW (ci := 9) kx0 ff_9_5 cl_9 fl_RX9_32 dX9_makeRoom_23 (fun k1000009 => ?_)
  refine lv_iconst (v := 5) hx hb dX9_makeRoom_26 (by decide) ?_
  refine lv_ldc2 (own := RX9) (v := 6) hx hb hown (hts _ wc_RX9_118) dX9_makeRoom_27 ?_
  obtain ⟨dt1000011, hc1000010, hm⟩ := q_b1i hm
  refine q_callV C hW hS (As := [.int 5, .long 6]) (rest := []) (st1 := []) (c_X5_put l D al dt1000007 (al.2.2 x0 5) 5 6 k1000009 dt1000011 hc1000010) yl_X5_put vl_X5_put ml_RX9_66 (ci := 5) rfl k1000009 (by decide) rfl ⟨Nat.le_of_ble_eq_true rfl, Nat.le_of_ble_eq_true rfl⟩ hl rfl (Nat.le_of_ble_eq_true rfl) dX9_makeRoom_30 ⟨Nat.le_refl _, Nat.le_refl _⟩ rfl (fun H locs k1000012 hW hS => ?_)
  refine lv_aload_n hx hb dX9_makeRoom_33 rfl (lv_at hl 0 rfl) ?_
  refine r_getF C hW (ci := 9) kx0 ff_9_5 cl_9 fl_RX9_32 dX9_makeRoom_34 (fun k1000013 => ?_)
  refine lv_bipush (v := 6) hx hb dX9_makeRoom_37 (by decide) ?_
  refine lv_ldc2 (own := RX9) (v := 6) hx hb hown (hts _ wc_RX9_118) dX9_makeRoom_39 ?_
  obtain ⟨dt1000015, hc1000014, hm⟩ := q_b1i hm
  refine q_callV C hW hS (As := [.int 6, .long 6]) (rest := []) (st1 := []) (c_X5_put l D al dt1000011 (al.2.2 x0 5) 6 6 k1000013 dt1000015 hc1000014) yl_X5_put vl_X5_put ml_RX9_66 (ci := 5) rfl k1000013 (by decide) rfl ⟨Nat.le_of_ble_eq_true rfl, Nat.le_of_ble_eq_true rfl⟩ hl rfl (Nat.le_of_ble_eq_true rfl) dX9_makeRoom_42 ⟨Nat.le_refl _, Nat.le_refl _⟩ rfl (fun H locs k1000016 hW hS => ?_)
  refine lv_aload_n hx hb dX9_makeRoom_45 rfl (lv_at hl 0 rfl) ?_
  refine r_getF C hW (ci := 9) kx0 ff_9_5 cl_9 fl_RX9_32 dX9_makeRoom_46 (fun k1000017 => ?_)
  refine lv_bipush (v := 7) hx hb dX9_makeRoom_49 (by decide) ?_
  refine lv_ldc2 (own := RX9) (v := 4) hx hb hown (hts _ wc_RX9_120) dX9_makeRoom_51 ?_
  obtain ⟨dt1000019, hc1000018, hm⟩ := q_b1i hm
  refine q_callV C hW hS (As := [.int 7, .long 4]) (rest := []) (st1 := []) (c_X5_put l D al dt1000015 (al.2.2 x0 5) 7 4 k1000017 dt1000019 hc1000018) yl_X5_put vl_X5_put ml_RX9_66 (ci := 5) rfl k1000017 (by decide) rfl ⟨Nat.le_of_ble_eq_true rfl, Nat.le_of_ble_eq_true rfl⟩ hl rfl (Nat.le_of_ble_eq_true rfl) dX9_makeRoom_54 ⟨Nat.le_refl _, Nat.le_refl _⟩ rfl (fun H locs k1000020 hW hS => ?_)
  exact e_vD C hW hS hm dX9_makeRoom_57
theorem dX5_increase_0 : decode cX5_increase 0 = .ok (.iload_n 1, 1) := by decide +kernel
theorem dX5_increase_1 : decode cX5_increase 1 = .ok (.ifCond .lt 22, 3) := by decide +kernel
theorem dX5_increase_4 : decode cX5_increase 4 = .ok (.iload_n 1, 1) := by decide +kernel
theorem dX5_increase_5 : decode cX5_increase 5 = .ok (.aload_n 0, 1) := by decide +kernel
theorem dX5_increase_6 : decode cX5_increase 6 = .ok (.getfield 13, 3) := by decide +kernel
theorem dX5_increase_9 : decode cX5_increase 9 = .ok (.arraylength, 1) := by decide +kernel
theorem dX5_increase_10 : decode cX5_increase 10 = .ok (.if_icmp .ge 13, 3) := by decide +kernel
theorem dX5_increase_13 : decode cX5_increase 13 = .ok (.aload_n 0, 1) := by decide +kernel
theorem dX5_increase_14 : decode cX5_increase 14 = .ok (.getfield 13, 3) := by decide +kernel
theorem dX5_increase_17 : decode cX5_increase 17 = .ok (.iload_n 1, 1) := by decide +kernel
theorem dX5_increase_18 : decode cX5_increase 18 = .ok (.dup2, 1) := by decide +kernel
theorem dX5_increase_19 : decode cX5_increase 19 = .ok (.laload, 1) := by decide +kernel
theorem dX5_increase_20 : decode cX5_increase 20 = .ok (.lload_n 2, 1) := by decide +kernel
theorem dX5_increase_21 : decode cX5_increase 21 = .ok (.ladd, 1) := by decide +kernel
theorem dX5_increase_22 : decode cX5_increase 22 = .ok (.lastore, 1) := by decide +kernel
theorem dX5_increase_23 : decode cX5_increase 23 = .ok (.return_, 1) := by decide +kernel
set_option maxRecDepth 100000 in
theorem c_X5_increase (l : Launch) (D : q_D) (al : q_Al) (dt : q_Dt) (x0 : Nat) (x1 : Int32) (x2 : Int64) (kx0 : al.1 x0 = 6) (dt0 : q_Dt) (hm : X5_increase al dt x0 x1 x2 = some dt0) : q_Mt l yX5_increase cX5_increase 4 (none) 0 0 D al [.ref x0, .int x1, .long x2] dt 0 none dt0 := by
  refine q_Mt.of (by decide) (Nat.le_of_ble_eq_true rfl) ?_
  intro p e s m args below meth c ls C hargs hW hl
  have hx := C.1
  have hb := C.2.1
  have hown := C.2.2.2.2.2.1
  have hts := C.2.2.2.2.2.2.1
  have hS : va_S (q_A al) s.heap s.heap [] := va_S.rf
  have hl : lv_has ls 4 [(0, .ref x0), (1, .int x1), (2, .long x2)] := hl
  unfold X5_increase at hm
  refine lv_iload_n hx hb dX5_increase_0 rfl (lv_at hl 1 rfl) ?_
  refine q_ifc hm (fun c1000001 hm => ?_) (fun c1000001 hm => ?_)
  · refine lv_if_lt (tgt := 23) hx hb dX5_increase_1 (by decide) (fun _ => ?_) (fun h => absurd c1000001 h)
    exact e_vD C hW hS hm dX5_increase_23
  refine lv_if_lt (tgt := 23) hx hb dX5_increase_1 (by decide) (fun h => absurd h c1000001) (fun _ => ?_)
  refine lv_iload_n hx hb dX5_increase_4 rfl (lv_at hl 1 rfl) ?_
  refine lv_aload_n hx hb dX5_increase_5 rfl (lv_at hl 0 rfl) ?_
  refine r_getF C hW (ci := 5) kx0 ff_5_0 cl_5 fl_RX5_13 dX5_increase_6 (fun k1000002 => ?_)
  refine q_alenJ C hW k1000002 dX5_increase_9 ?_
  refine q_ifc hm (fun c1000003 hm => ?_) (fun c1000003 hm => ?_)
  · refine lv_icmp_ge (tgt := 23) hx hb dX5_increase_10 (by decide) (fun _ => ?_) (fun h => absurd c1000003 h)
    exact e_vD C hW hS hm dX5_increase_23
  refine lv_icmp_ge (tgt := 23) hx hb dX5_increase_10 (by decide) (fun h => absurd h c1000003) (fun _ => ?_)
  refine lv_aload_n hx hb dX5_increase_13 rfl (lv_at hl 0 rfl) ?_
  refine r_getF C hW (ci := 5) kx0 ff_5_0 cl_5 fl_RX5_13 dX5_increase_14 (fun k1000004 => ?_)
  refine lv_iload_n hx hb dX5_increase_17 rfl (lv_at hl 1 rfl) ?_
  refine lv_dup2_11 hx hb dX5_increase_18 rfl rfl ?_
  refine r_lald C hW hm k1000004 dX5_increase_19 (fun hm => ?_)
  refine lv_lload_n hx hb dX5_increase_20 rfl (lv_at hl 2 rfl) ?_
  refine lv_ladd hx hb dX5_increase_21 ?_
  refine r_last C hW hS hm k1000004 dX5_increase_22 (fun dt1000005 H locs hm hW hS => ?_)
  exact e_vD C hW hS hm dX5_increase_23
theorem dX9_takesRoom_0 : decode cX9_takesRoom 0 = .ok (.iload_n 1, 1) := by decide +kernel
theorem dX9_takesRoom_1 : decode cX9_takesRoom 1 = .ok (.bipush 7, 2) := by decide +kernel
theorem dX9_takesRoom_3 : decode cX9_takesRoom 3 = .ok (.if_icmp .le 5, 3) := by decide +kernel
theorem dX9_takesRoom_6 : decode cX9_takesRoom 6 = .ok (.iconst 1, 1) := by decide +kernel
theorem dX9_takesRoom_7 : decode cX9_takesRoom 7 = .ok (.ireturn, 1) := by decide +kernel
theorem dX9_takesRoom_8 : decode cX9_takesRoom 8 = .ok (.iload_n 1, 1) := by decide +kernel
theorem dX9_takesRoom_9 : decode cX9_takesRoom 9 = .ok (.iconst 3, 1) := by decide +kernel
theorem dX9_takesRoom_10 : decode cX9_takesRoom 10 = .ok (.invokestatic 122, 3) := by decide +kernel
theorem dX9_takesRoom_13 : decode cX9_takesRoom 13 = .ok (.istore_n 2, 1) := by decide +kernel
theorem dX9_takesRoom_14 : decode cX9_takesRoom 14 = .ok (.aload_n 0, 1) := by decide +kernel
theorem dX9_takesRoom_15 : decode cX9_takesRoom 15 = .ok (.getfield 32, 3) := by decide +kernel
theorem dX9_takesRoom_18 : decode cX9_takesRoom 18 = .ok (.iload_n 2, 1) := by decide +kernel
theorem dX9_takesRoom_19 : decode cX9_takesRoom 19 = .ok (.ldc2_w 128, 3) := by decide +kernel
theorem dX9_takesRoom_22 : decode cX9_takesRoom 22 = .ok (.invokevirtual 130, 3) := by decide +kernel
theorem dX9_takesRoom_25 : decode cX9_takesRoom 25 = .ok (.aload_n 0, 1) := by decide +kernel
theorem dX9_takesRoom_26 : decode cX9_takesRoom 26 = .ok (.getfield 32, 3) := by decide +kernel
theorem dX9_takesRoom_29 : decode cX9_takesRoom 29 = .ok (.iload_n 2, 1) := by decide +kernel
theorem dX9_takesRoom_30 : decode cX9_takesRoom 30 = .ok (.invokevirtual 59, 3) := by decide +kernel
theorem dX9_takesRoom_33 : decode cX9_takesRoom 33 = .ok (.lconst 0, 1) := by decide +kernel
theorem dX9_takesRoom_34 : decode cX9_takesRoom 34 = .ok (.lcmp, 1) := by decide +kernel
theorem dX9_takesRoom_35 : decode cX9_takesRoom 35 = .ok (.ifCond .lt 7, 3) := by decide +kernel
theorem dX9_takesRoom_38 : decode cX9_takesRoom 38 = .ok (.iconst 1, 1) := by decide +kernel
theorem dX9_takesRoom_39 : decode cX9_takesRoom 39 = .ok (.goto 4, 3) := by decide +kernel
theorem dX9_takesRoom_42 : decode cX9_takesRoom 42 = .ok (.iconst 0, 1) := by decide +kernel
theorem dX9_takesRoom_43 : decode cX9_takesRoom 43 = .ok (.ireturn, 1) := by decide +kernel
set_option maxRecDepth 100000 in
theorem c_X9_takesRoom (l : Launch) (D : q_D) (al : q_Al) (dt : q_Dt) (x0 : Nat) (x1 : Int32) (kx0 : al.1 x0 = 10) (r0 : Int32) (dt0 : q_Dt) (hm : X9_takesRoom al dt x0 x1 = some (r0, dt0)) : q_Mt l yX9_takesRoom cX9_takesRoom 3 (some FieldType.boolean) 1 23 D al [.ref x0, .int x1] dt 0 (some (.int r0)) dt0 := by
  refine q_Mt.of (by decide) (Nat.le_of_ble_eq_true rfl) ?_
  intro p e s m args below meth c ls C hargs hW hl
  have hx := C.1
  have hb := C.2.1
  have hown := C.2.2.2.2.2.1
  have hts := C.2.2.2.2.2.2.1
  have hS : va_S (q_A al) s.heap s.heap [] := va_S.rf
  have hl : lv_has ls 3 [(0, .ref x0), (1, .int x1)] := hl
  unfold X9_takesRoom at hm
  refine lv_iload_n hx hb dX9_takesRoom_0 rfl (lv_at hl 1 rfl) ?_
  refine lv_bipush (v := 7) hx hb dX9_takesRoom_1 (by decide) ?_
  refine q_ifc hm (fun c1000001 hm => ?_) (fun c1000001 hm => ?_)
  · refine lv_icmp_le (tgt := 8) hx hb dX9_takesRoom_3 (by decide) (fun _ => ?_) (fun h => absurd c1000001 h)
    refine lv_iload_n hx hb dX9_takesRoom_8 rfl (lv_at hl 1 rfl) ?_
    refine lv_iconst (v := 3) hx hb dX9_takesRoom_9 (by decide) ?_
    refine q_mmax C hl wm_RX9_122 wms_max wmi wmc_max (Nat.le_of_ble_eq_true rfl) (Nat.le_of_ble_eq_true rfl) ⟨Nat.le_refl _, Nat.le_refl _⟩ dX9_takesRoom_10 ?_
    refine lv_istore_n (i := 2) (lv' := [(2, .int (q_max x1 3)), (0, .ref x0), (1, .int x1)]) hx hb dX9_takesRoom_13 rfl hl (by decide) rfl (fun ls hl => ?_)
    refine lv_aload_n hx hb dX9_takesRoom_14 rfl (lv_at hl 1 rfl) ?_
    refine r_getF C hW (ci := 9) kx0 ff_9_5 cl_9 fl_RX9_32 dX9_takesRoom_15 (fun k1000002 => ?_)
    refine lv_iload_n hx hb dX9_takesRoom_18 rfl (lv_at hl 0 rfl) ?_
    refine lv_ldc2 (own := RX9) (v := (-1)) hx hb hown (hts _ wc_RX9_128) dX9_takesRoom_19 ?_
    obtain ⟨dt1000004, hc1000003, hm⟩ := q_b1i hm
    refine q_callV C hW hS (As := [.int (q_max x1 3), .long (-1)]) (rest := []) (st1 := []) (c_X5_increase l D al dt (al.2.2 x0 5) (q_max x1 3) (-1) k1000002 dt1000004 hc1000003) yl_X5_increase vl_X5_increase ml_RX9_130 (ci := 5) rfl k1000002 (by decide) rfl ⟨Nat.le_of_ble_eq_true rfl, Nat.le_of_ble_eq_true rfl⟩ hl rfl (Nat.le_of_ble_eq_true rfl) dX9_takesRoom_22 ⟨Nat.le_refl _, Nat.le_refl _⟩ rfl (fun H locs k1000005 hW hS => ?_)
    refine lv_aload_n hx hb dX9_takesRoom_25 rfl (lv_at hl 1 rfl) ?_
    refine r_getF C hW (ci := 9) kx0 ff_9_5 cl_9 fl_RX9_32 dX9_takesRoom_26 (fun k1000006 => ?_)
    refine lv_iload_n hx hb dX9_takesRoom_29 rfl (lv_at hl 0 rfl) ?_
    obtain ⟨v1000008, hc1000007, hm⟩ := q_b1i hm
    refine q_callV C hW hS (As := [.int (q_max x1 3)]) (rest := []) (st1 := [.long v1000008]) (c_X5_at l D al dt1000004 (al.2.2 x0 5) (q_max x1 3) k1000006 v1000008 hc1000007) yl_X5_at vl_X5_at ml_RX9_59 (ci := 5) rfl k1000006 (by decide) rfl ⟨Nat.le_of_ble_eq_true rfl, Nat.le_of_ble_eq_true rfl⟩ hl rfl (Nat.le_of_ble_eq_true rfl) dX9_takesRoom_30 ⟨Nat.le_refl _, Nat.le_refl _⟩ rfl (fun H locs k1000009 hW hS => ?_)
    refine lv_lconst (v := 0) hx hb dX9_takesRoom_33 rfl ?_
    refine W.lcmp hx hb dX9_takesRoom_34 ?_
    refine q_ifc hm (fun c1000010 hm => ?_) (fun c1000010 hm => ?_)
    · refine lv_if_lt (tgt := 42) hx hb dX9_takesRoom_35 (by decide) (fun _ => ?_) (fun h => absurd (q_cmp_lt.mpr c1000010) h)
      refine lv_iconst (v := 0) hx hb dX9_takesRoom_42 (by decide) ?_
      exact e_zlD C hW hS (Or.inl rfl) hm dX9_takesRoom_43
    refine lv_if_lt (tgt := 42) hx hb dX9_takesRoom_35 (by decide) (fun h => absurd (q_cmp_lt.mp h) c1000010) (fun _ => ?_)
    refine lv_iconst (v := 1) hx hb dX9_takesRoom_38 (by decide) ?_
    refine lv_goto (tgt := 43) hx hb dX9_takesRoom_39 (by decide) ?_
    exact e_zlD C hW hS (Or.inr rfl) hm dX9_takesRoom_43
  refine lv_icmp_le (tgt := 8) hx hb dX9_takesRoom_3 (by decide) (fun h => absurd h c1000001) (fun _ => ?_)
  refine lv_iconst (v := 1) hx hb dX9_takesRoom_6 (by decide) ?_
  exact e_zlD C hW hS (Or.inr rfl) hm dX9_takesRoom_7
theorem dX9_shapeOf_0 : decode cX9_shapeOf 0 = .ok (.iload_n 0, 1) := by decide +kernel
theorem dX9_shapeOf_1 : decode cX9_shapeOf 1 = .ok (.tableswitch 78 0 8 #[51, 54, 57, 60, 63, 66, 69, 72, 75], 51) := by decide +kernel
theorem dX9_shapeOf_52 : decode cX9_shapeOf 52 = .ok (.ldc 133, 2) := by decide +kernel
theorem dX9_shapeOf_54 : decode cX9_shapeOf 54 = .ok (.areturn, 1) := by decide +kernel
theorem dX9_shapeOf_55 : decode cX9_shapeOf 55 = .ok (.ldc 135, 2) := by decide +kernel
theorem dX9_shapeOf_57 : decode cX9_shapeOf 57 = .ok (.areturn, 1) := by decide +kernel
theorem dX9_shapeOf_58 : decode cX9_shapeOf 58 = .ok (.ldc 135, 2) := by decide +kernel
theorem dX9_shapeOf_60 : decode cX9_shapeOf 60 = .ok (.areturn, 1) := by decide +kernel
theorem dX9_shapeOf_61 : decode cX9_shapeOf 61 = .ok (.ldc 137, 2) := by decide +kernel
theorem dX9_shapeOf_63 : decode cX9_shapeOf 63 = .ok (.areturn, 1) := by decide +kernel
theorem dX9_shapeOf_64 : decode cX9_shapeOf 64 = .ok (.ldc 133, 2) := by decide +kernel
theorem dX9_shapeOf_66 : decode cX9_shapeOf 66 = .ok (.areturn, 1) := by decide +kernel
theorem dX9_shapeOf_67 : decode cX9_shapeOf 67 = .ok (.ldc 139, 2) := by decide +kernel
theorem dX9_shapeOf_69 : decode cX9_shapeOf 69 = .ok (.areturn, 1) := by decide +kernel
theorem dX9_shapeOf_70 : decode cX9_shapeOf 70 = .ok (.ldc 141, 2) := by decide +kernel
theorem dX9_shapeOf_72 : decode cX9_shapeOf 72 = .ok (.areturn, 1) := by decide +kernel
theorem dX9_shapeOf_73 : decode cX9_shapeOf 73 = .ok (.ldc 143, 2) := by decide +kernel
theorem dX9_shapeOf_75 : decode cX9_shapeOf 75 = .ok (.areturn, 1) := by decide +kernel
theorem dX9_shapeOf_76 : decode cX9_shapeOf 76 = .ok (.ldc 145, 2) := by decide +kernel
theorem dX9_shapeOf_78 : decode cX9_shapeOf 78 = .ok (.areturn, 1) := by decide +kernel
theorem dX9_shapeOf_79 : decode cX9_shapeOf 79 = .ok (.ldc 147, 2) := by decide +kernel
theorem dX9_shapeOf_81 : decode cX9_shapeOf 81 = .ok (.areturn, 1) := by decide +kernel
set_option maxRecDepth 100000 in
theorem c_X9_shapeOf (l : Launch) (D : q_D) (al : q_Al) (dt : q_Dt) (x0 : Int32) (r0 : Nat) (hm : X9_shapeOf al dt x0 = some r0) : q_Mt l yX9_shapeOf cX9_shapeOf 1 (some (FieldType.object "java/lang/String")) 0 0 D al [.int x0] dt 0 (some (.ref (D.2.2.1 r0))) dt := by
  refine q_Mt.of (by decide) (Nat.le_of_ble_eq_true rfl) ?_
  intro p e s m args below meth c ls C hargs hW hl
  have hx := C.1
  have hb := C.2.1
  have hown := C.2.2.2.2.2.1
  have hts := C.2.2.2.2.2.2.1
  have hS : va_S (q_A al) s.heap s.heap [] := va_S.rf
  have hl : lv_has ls 1 [(0, .int x0)] := hl
  unfold X9_shapeOf at hm
  refine lv_iload_n hx hb dX9_shapeOf_0 rfl (lv_at hl 0 rfl) ?_
  refine q_ifc hm (fun c1000001 hm => ?_) (fun c1000001 hm => ?_)
  · refine lv_tableIn (tgt := 52) hx hb dX9_shapeOf_1 (by rw [c1000001]; decide) (by rw [c1000001]; decide) (by rw [c1000001]; rfl) (by decide) ?_
    refine q_ldcS (i := 1) C (by decide) rfl dX9_shapeOf_52 ?_
    exact e_s C hW hS hm dX9_shapeOf_54
  refine q_ifc hm (fun c1000002 hm => ?_) (fun c1000002 hm => ?_)
  · refine lv_tableIn (tgt := 55) hx hb dX9_shapeOf_1 (by rw [c1000002]; decide) (by rw [c1000002]; decide) (by rw [c1000002]; rfl) (by decide) ?_
    refine q_ldcS (i := 2) C (by decide) rfl dX9_shapeOf_55 ?_
    exact e_s C hW hS hm dX9_shapeOf_57
  refine q_ifc hm (fun c1000003 hm => ?_) (fun c1000003 hm => ?_)
  · refine lv_tableIn (tgt := 58) hx hb dX9_shapeOf_1 (by rw [c1000003]; decide) (by rw [c1000003]; decide) (by rw [c1000003]; rfl) (by decide) ?_
    refine q_ldcS (i := 2) C (by decide) rfl dX9_shapeOf_58 ?_
    exact e_s C hW hS hm dX9_shapeOf_60
  refine q_ifc hm (fun c1000004 hm => ?_) (fun c1000004 hm => ?_)
  · refine lv_tableIn (tgt := 61) hx hb dX9_shapeOf_1 (by rw [c1000004]; decide) (by rw [c1000004]; decide) (by rw [c1000004]; rfl) (by decide) ?_
    refine q_ldcS (i := 3) C (by decide) rfl dX9_shapeOf_61 ?_
    exact e_s C hW hS hm dX9_shapeOf_63
  refine q_ifc hm (fun c1000005 hm => ?_) (fun c1000005 hm => ?_)
  · refine lv_tableIn (tgt := 64) hx hb dX9_shapeOf_1 (by rw [c1000005]; decide) (by rw [c1000005]; decide) (by rw [c1000005]; rfl) (by decide) ?_
    refine q_ldcS (i := 1) C (by decide) rfl dX9_shapeOf_64 ?_
    exact e_s C hW hS hm dX9_shapeOf_66
  refine q_ifc hm (fun c1000006 hm => ?_) (fun c1000006 hm => ?_)
  · refine lv_tableIn (tgt := 67) hx hb dX9_shapeOf_1 (by rw [c1000006]; decide) (by rw [c1000006]; decide) (by rw [c1000006]; rfl) (by decide) ?_
    refine q_ldcS (i := 4) C (by decide) rfl dX9_shapeOf_67 ?_
    exact e_s C hW hS hm dX9_shapeOf_69
  refine q_ifc hm (fun c1000007 hm => ?_) (fun c1000007 hm => ?_)
  · refine lv_tableIn (tgt := 70) hx hb dX9_shapeOf_1 (by rw [c1000007]; decide) (by rw [c1000007]; decide) (by rw [c1000007]; rfl) (by decide) ?_
    refine q_ldcS (i := 5) C (by decide) rfl dX9_shapeOf_70 ?_
    exact e_s C hW hS hm dX9_shapeOf_72
  refine q_ifc hm (fun c1000008 hm => ?_) (fun c1000008 hm => ?_)
  · refine lv_tableIn (tgt := 73) hx hb dX9_shapeOf_1 (by rw [c1000008]; decide) (by rw [c1000008]; decide) (by rw [c1000008]; rfl) (by decide) ?_
    refine q_ldcS (i := 6) C (by decide) rfl dX9_shapeOf_73 ?_
    exact e_s C hW hS hm dX9_shapeOf_75
  refine q_ifc hm (fun c1000009 hm => ?_) (fun c1000009 hm => ?_)
  · refine lv_tableIn (tgt := 76) hx hb dX9_shapeOf_1 (by rw [c1000009]; decide) (by rw [c1000009]; decide) (by rw [c1000009]; rfl) (by decide) ?_
    refine q_ldcS (i := 7) C (by decide) rfl dX9_shapeOf_76 ?_
    exact e_s C hW hS hm dX9_shapeOf_78
  have c1000001_z := lv_neT c1000001 (a := 0) rfl
  have c1000002_z := lv_neT c1000002 (a := 1) rfl
  have c1000003_z := lv_neT c1000003 (a := 2) rfl
  have c1000004_z := lv_neT c1000004 (a := 3) rfl
  have c1000005_z := lv_neT c1000005 (a := 4) rfl
  have c1000006_z := lv_neT c1000006 (a := 5) rfl
  have c1000007_z := lv_neT c1000007 (a := 6) rfl
  have c1000008_z := lv_neT c1000008 (a := 7) rfl
  have c1000009_z := lv_neT c1000009 (a := 8) rfl
  refine lv_tableOut (tgt := 79) hx hb dX9_shapeOf_1 (by omega) (by decide) ?_
  refine q_ldcS (i := 8) C (by decide) rfl dX9_shapeOf_79 ?_
  exact e_s C hW hS hm dX9_shapeOf_81
theorem dX9_goOn_0 : decode cX9_goOn 0 = .ok (.aload_n 0, 1) := by decide +kernel
theorem dX9_goOn_1 : decode cX9_goOn 1 = .ok (.getfield 39, 3) := by decide +kernel
theorem dX9_goOn_4 : decode cX9_goOn 4 = .ok (.sipush 400, 3) := by decide +kernel
theorem dX9_goOn_7 : decode cX9_goOn 7 = .ok (.if_icmp .lt 11, 3) := by decide +kernel
theorem dX9_goOn_10 : decode cX9_goOn 10 = .ok (.aload_n 0, 1) := by decide +kernel
theorem dX9_goOn_11 : decode cX9_goOn 11 = .ok (.iconst 2, 1) := by decide +kernel
theorem dX9_goOn_12 : decode cX9_goOn 12 = .ok (.putfield 42, 3) := by decide +kernel
theorem dX9_goOn_15 : decode cX9_goOn 15 = .ok (.goto 13, 3) := by decide +kernel
theorem dX9_goOn_18 : decode cX9_goOn 18 = .ok (.aload_n 0, 1) := by decide +kernel
theorem dX9_goOn_19 : decode cX9_goOn 19 = .ok (.dup, 1) := by decide +kernel
theorem dX9_goOn_20 : decode cX9_goOn 20 = .ok (.getfield 39, 3) := by decide +kernel
theorem dX9_goOn_23 : decode cX9_goOn 23 = .ok (.iconst 1, 1) := by decide +kernel
theorem dX9_goOn_24 : decode cX9_goOn 24 = .ok (.iadd, 1) := by decide +kernel
theorem dX9_goOn_25 : decode cX9_goOn 25 = .ok (.putfield 39, 3) := by decide +kernel
theorem dX9_goOn_28 : decode cX9_goOn 28 = .ok (.return_, 1) := by decide +kernel
set_option maxRecDepth 100000 in
theorem c_X9_goOn (l : Launch) (D : q_D) (al : q_Al) (dt : q_Dt) (x0 : Nat) (kx0 : al.1 x0 = 10) (dt0 : q_Dt) (hm : X9_goOn al dt x0 = some dt0) : q_Mt l yX9_goOn cX9_goOn 1 (none) 0 0 D al [.ref x0] dt 0 none dt0 := by
  refine q_Mt.of (by decide) (Nat.le_of_ble_eq_true rfl) ?_
  intro p e s m args below meth c ls C hargs hW hl
  have hx := C.1
  have hb := C.2.1
  have hown := C.2.2.2.2.2.1
  have hts := C.2.2.2.2.2.2.1
  have hS : va_S (q_A al) s.heap s.heap [] := va_S.rf
  have hl : lv_has ls 1 [(0, .ref x0)] := hl
  unfold X9_goOn at hm
  refine lv_aload_n hx hb dX9_goOn_0 rfl (lv_at hl 0 rfl) ?_
  refine r_getI C hW (ci := 9) kx0 ff_9_7 cl_9 fl_RX9_39 dX9_goOn_1 ?_
  refine lv_sipush (v := 400) hx hb dX9_goOn_4 (by decide) ?_
  refine q_ifc hm (fun c1000001 hm => ?_) (fun c1000001 hm => ?_)
  · refine lv_icmp_lt (tgt := 18) hx hb dX9_goOn_7 (by decide) (fun _ => ?_) (fun h => absurd c1000001 h)
    refine lv_aload_n hx hb dX9_goOn_18 rfl (lv_at hl 0 rfl) ?_
    refine lv_dup hx hb dX9_goOn_19 rfl ?_
    refine r_getI C hW (ci := 9) kx0 ff_9_7 cl_9 fl_RX9_39 dX9_goOn_20 ?_
    refine lv_iconst (v := 1) hx hb dX9_goOn_23 (by decide) ?_
    refine lv_iadd hx hb dX9_goOn_24 ?_
    refine r_putI C hW hS hm (ci := 9) kx0 ff_9_7 cl_9 fl_RX9_39 (nf_9_7) rfl dX9_goOn_25 (fun dt1000002 H locs hm hW hS => ?_)
    exact e_vD C hW hS hm dX9_goOn_28
  refine lv_icmp_lt (tgt := 18) hx hb dX9_goOn_7 (by decide) (fun h => absurd h c1000001) (fun _ => ?_)
  refine lv_aload_n hx hb dX9_goOn_10 rfl (lv_at hl 0 rfl) ?_
  refine lv_iconst (v := 2) hx hb dX9_goOn_11 (by decide) ?_
  refine r_putI C hW hS hm (ci := 9) kx0 ff_9_8 cl_9 fl_RX9_42 (nf_9_8) rfl dX9_goOn_12 (fun dt1000003 H locs hm hW hS => ?_)
  refine lv_goto (tgt := 28) hx hb dX9_goOn_15 (by decide) ?_
  exact e_vD C hW hS hm dX9_goOn_28
theorem dX9_must_0 : decode cX9_must 0 = .ok (.aload_n 0, 1) := by decide +kernel
theorem dX9_must_1 : decode cX9_must 1 = .ok (.getfield 20, 3) := by decide +kernel
theorem dX9_must_4 : decode cX9_must 4 = .ok (.aload_n 0, 1) := by decide +kernel
theorem dX9_must_5 : decode cX9_must 5 = .ok (.getfield 39, 3) := by decide +kernel
theorem dX9_must_8 : decode cX9_must 8 = .ok (.invokevirtual 59, 3) := by decide +kernel
theorem dX9_must_11 : decode cX9_must 11 = .ok (.iload_n 1, 1) := by decide +kernel
theorem dX9_must_12 : decode cX9_must 12 = .ok (.i2l, 1) := by decide +kernel
theorem dX9_must_13 : decode cX9_must 13 = .ok (.lcmp, 1) := by decide +kernel
theorem dX9_must_14 : decode cX9_must 14 = .ok (.ifCond .ne 10, 3) := by decide +kernel
theorem dX9_must_17 : decode cX9_must 17 = .ok (.aload_n 0, 1) := by decide +kernel
theorem dX9_must_18 : decode cX9_must 18 = .ok (.invokevirtual 156, 3) := by decide +kernel
theorem dX9_must_21 : decode cX9_must 21 = .ok (.goto 8, 3) := by decide +kernel
theorem dX9_must_24 : decode cX9_must 24 = .ok (.aload_n 0, 1) := by decide +kernel
theorem dX9_must_25 : decode cX9_must 25 = .ok (.iconst 1, 1) := by decide +kernel
theorem dX9_must_26 : decode cX9_must 26 = .ok (.putfield 42, 3) := by decide +kernel
theorem dX9_must_29 : decode cX9_must 29 = .ok (.return_, 1) := by decide +kernel
set_option maxRecDepth 100000 in
theorem c_X9_must (l : Launch) (D : q_D) (al : q_Al) (dt : q_Dt) (x0 : Nat) (x1 : Int32) (kx0 : al.1 x0 = 10) (dt0 : q_Dt) (hm : X9_must al dt x0 x1 = some dt0) : q_Mt l yX9_must cX9_must 2 (none) 1 21 D al [.ref x0, .int x1] dt 0 none dt0 := by
  refine q_Mt.of (by decide) (Nat.le_of_ble_eq_true rfl) ?_
  intro p e s m args below meth c ls C hargs hW hl
  have hx := C.1
  have hb := C.2.1
  have hown := C.2.2.2.2.2.1
  have hts := C.2.2.2.2.2.2.1
  have hS : va_S (q_A al) s.heap s.heap [] := va_S.rf
  have hl : lv_has ls 2 [(0, .ref x0), (1, .int x1)] := hl
  unfold X9_must at hm
  refine lv_aload_n hx hb dX9_must_0 rfl (lv_at hl 0 rfl) ?_
  refine r_getF C hW (ci := 9) kx0 ff_9_1 cl_9 fl_RX9_20 dX9_must_1 (fun k1000001 => ?_)
  refine lv_aload_n hx hb dX9_must_4 rfl (lv_at hl 0 rfl) ?_
  refine r_getI C hW (ci := 9) kx0 ff_9_7 cl_9 fl_RX9_39 dX9_must_5 ?_
  obtain ⟨v1000003, hc1000002, hm⟩ := q_b1i hm
  refine q_callV C hW hS (As := [.int (dt.1 x0 7)]) (rest := []) (st1 := [.long v1000003]) (c_X5_at l D al dt (al.2.2 x0 1) (dt.1 x0 7) k1000001 v1000003 hc1000002) yl_X5_at vl_X5_at ml_RX9_59 (ci := 5) rfl k1000001 (by decide) rfl ⟨Nat.le_of_ble_eq_true rfl, Nat.le_of_ble_eq_true rfl⟩ hl rfl (Nat.le_of_ble_eq_true rfl) dX9_must_8 ⟨Nat.le_refl _, Nat.le_refl _⟩ rfl (fun H locs k1000004 hW hS => ?_)
  refine lv_iload_n hx hb dX9_must_11 rfl (lv_at hl 1 rfl) ?_
  refine lv_i2l (v := (Int32.toInt64 x1)) hx hb dX9_must_12 rfl ?_
  refine W.lcmp hx hb dX9_must_13 ?_
  refine q_ifc hm (fun c1000005 hm => ?_) (fun c1000005 hm => ?_)
  · refine lv_if_ne (tgt := 24) hx hb dX9_must_14 (by decide) (fun h => absurd (q_cmp_eq.mpr c1000005) h) (fun _ => ?_)
    refine lv_aload_n hx hb dX9_must_17 rfl (lv_at hl 0 rfl) ?_
    obtain ⟨dt1000007, hc1000006, hm⟩ := q_b1i hm
    refine q_callV C hW hS (As := []) (rest := []) (st1 := []) (c_X9_goOn l D al dt x0 kx0 dt1000007 hc1000006) yl_X9_goOn vl_X9_goOn ml_RX9_156 (ci := 9) rfl kx0 (by decide) rfl ⟨Nat.le_of_ble_eq_true rfl, Nat.le_of_ble_eq_true rfl⟩ hl rfl (Nat.le_of_ble_eq_true rfl) dX9_must_18 ⟨Nat.le_refl _, Nat.le_refl _⟩ rfl (fun H locs k1000008 hW hS => ?_)
    refine lv_goto (tgt := 29) hx hb dX9_must_21 (by decide) ?_
    exact e_vD C hW hS hm dX9_must_29
  refine lv_if_ne (tgt := 24) hx hb dX9_must_14 (by decide) (fun _ => ?_) (fun h => absurd (q_cmp_eq.mp h) c1000005)
  refine lv_aload_n hx hb dX9_must_24 rfl (lv_at hl 0 rfl) ?_
  refine lv_iconst (v := 1) hx hb dX9_must_25 (by decide) ?_
  refine r_putI C hW hS hm (ci := 9) kx0 ff_9_8 cl_9 fl_RX9_42 (nf_9_8) rfl dX9_must_26 (fun dt1000009 H locs hm hW hS => ?_)
  exact e_vD C hW hS hm dX9_must_29
theorem dX9_part_0 : decode cX9_part 0 = .ok (.aload_n 0, 1) := by decide +kernel
theorem dX9_part_1 : decode cX9_part 1 = .ok (.getfield 20, 3) := by decide +kernel
theorem dX9_part_4 : decode cX9_part 4 = .ok (.aload_n 0, 1) := by decide +kernel
theorem dX9_part_5 : decode cX9_part 5 = .ok (.getfield 39, 3) := by decide +kernel
theorem dX9_part_8 : decode cX9_part 8 = .ok (.invokevirtual 59, 3) := by decide +kernel
theorem dX9_part_11 : decode cX9_part 11 = .ok (.lstore_n 2, 1) := by decide +kernel
theorem dX9_part_12 : decode cX9_part 12 = .ok (.iload_n 1, 1) := by decide +kernel
theorem dX9_part_13 : decode cX9_part 13 = .ok (.lookupswitch 119 #[(45, 59), (100, 74), (105, 51), (110, 43)], 43) := by decide +kernel
theorem dX9_part_56 : decode cX9_part 56 = .ok (.aload_n 0, 1) := by decide +kernel
theorem dX9_part_57 : decode cX9_part 57 = .ok (.iconst 2, 1) := by decide +kernel
theorem dX9_part_58 : decode cX9_part 58 = .ok (.invokevirtual 162, 3) := by decide +kernel
theorem dX9_part_61 : decode cX9_part 61 = .ok (.goto 76, 3) := by decide +kernel
theorem dX9_part_64 : decode cX9_part 64 = .ok (.aload_n 0, 1) := by decide +kernel
theorem dX9_part_65 : decode cX9_part 65 = .ok (.iconst 3, 1) := by decide +kernel
theorem dX9_part_66 : decode cX9_part 66 = .ok (.invokevirtual 162, 3) := by decide +kernel
theorem dX9_part_69 : decode cX9_part 69 = .ok (.goto 68, 3) := by decide +kernel
theorem dX9_part_72 : decode cX9_part 72 = .ok (.lload_n 2, 1) := by decide +kernel
theorem dX9_part_73 : decode cX9_part 73 = .ok (.ldc2_w 165, 3) := by decide +kernel
theorem dX9_part_76 : decode cX9_part 76 = .ok (.lcmp, 1) := by decide +kernel
theorem dX9_part_77 : decode cX9_part 77 = .ok (.ifCond .ne 60, 3) := by decide +kernel
theorem dX9_part_80 : decode cX9_part 80 = .ok (.aload_n 0, 1) := by decide +kernel
theorem dX9_part_81 : decode cX9_part 81 = .ok (.invokevirtual 156, 3) := by decide +kernel
theorem dX9_part_84 : decode cX9_part 84 = .ok (.goto 53, 3) := by decide +kernel
theorem dX9_part_87 : decode cX9_part 87 = .ok (.lload_n 2, 1) := by decide +kernel
theorem dX9_part_88 : decode cX9_part 88 = .ok (.ldc2_w 118, 3) := by decide +kernel
theorem dX9_part_91 : decode cX9_part 91 = .ok (.lcmp, 1) := by decide +kernel
theorem dX9_part_92 : decode cX9_part 92 = .ok (.ifCond .ne 45, 3) := by decide +kernel
theorem dX9_part_95 : decode cX9_part 95 = .ok (.aload_n 0, 1) := by decide +kernel
theorem dX9_part_96 : decode cX9_part 96 = .ok (.getfield 26, 3) := by decide +kernel
theorem dX9_part_99 : decode cX9_part 99 = .ok (.aload_n 0, 1) := by decide +kernel
theorem dX9_part_100 : decode cX9_part 100 = .ok (.getfield 39, 3) := by decide +kernel
theorem dX9_part_103 : decode cX9_part 103 = .ok (.invokevirtual 59, 3) := by decide +kernel
theorem dX9_part_106 : decode cX9_part 106 = .ok (.ldc2_w 112, 3) := by decide +kernel
theorem dX9_part_109 : decode cX9_part 109 = .ok (.lcmp, 1) := by decide +kernel
theorem dX9_part_110 : decode cX9_part 110 = .ok (.ifCond .ne 27, 3) := by decide +kernel
theorem dX9_part_113 : decode cX9_part 113 = .ok (.aload_n 0, 1) := by decide +kernel
theorem dX9_part_114 : decode cX9_part 114 = .ok (.invokevirtual 156, 3) := by decide +kernel
theorem dX9_part_117 : decode cX9_part 117 = .ok (.aload_n 0, 1) := by decide +kernel
theorem dX9_part_118 : decode cX9_part 118 = .ok (.getfield 42, 3) := by decide +kernel
theorem dX9_part_121 : decode cX9_part 121 = .ok (.ifCond .ne 16, 3) := by decide +kernel
theorem dX9_part_124 : decode cX9_part 124 = .ok (.aload_n 0, 1) := by decide +kernel
theorem dX9_part_125 : decode cX9_part 125 = .ok (.iconst 3, 1) := by decide +kernel
theorem dX9_part_126 : decode cX9_part 126 = .ok (.invokevirtual 162, 3) := by decide +kernel
theorem dX9_part_129 : decode cX9_part 129 = .ok (.goto 8, 3) := by decide +kernel
theorem dX9_part_132 : decode cX9_part 132 = .ok (.aload_n 0, 1) := by decide +kernel
theorem dX9_part_133 : decode cX9_part 133 = .ok (.iconst 4, 1) := by decide +kernel
theorem dX9_part_134 : decode cX9_part 134 = .ok (.invokevirtual 162, 3) := by decide +kernel
theorem dX9_part_137 : decode cX9_part 137 = .ok (.return_, 1) := by decide +kernel
set_option maxRecDepth 100000 in
theorem c_X9_part (l : Launch) (D : q_D) (al : q_Al) (dt : q_Dt) (x0 : Nat) (x1 : Int32) (kx0 : al.1 x0 = 10) (dt0 : q_Dt) (hm : X9_part al dt x0 x1 = some dt0) : q_Mt l yX9_part cX9_part 4 (none) 2 42 D al [.ref x0, .int x1] dt 0 none dt0 := by
  refine q_Mt.of (by decide) (Nat.le_of_ble_eq_true rfl) ?_
  intro p e s m args below meth c ls C hargs hW hl
  have hx := C.1
  have hb := C.2.1
  have hown := C.2.2.2.2.2.1
  have hts := C.2.2.2.2.2.2.1
  have hS : va_S (q_A al) s.heap s.heap [] := va_S.rf
  have hl : lv_has ls 4 [(0, .ref x0), (1, .int x1)] := hl
  unfold X9_part at hm
  refine lv_aload_n hx hb dX9_part_0 rfl (lv_at hl 0 rfl) ?_
  refine r_getF C hW (ci := 9) kx0 ff_9_1 cl_9 fl_RX9_20 dX9_part_1 (fun k1000001 => ?_)
  refine lv_aload_n hx hb dX9_part_4 rfl (lv_at hl 0 rfl) ?_
  refine r_getI C hW (ci := 9) kx0 ff_9_7 cl_9 fl_RX9_39 dX9_part_5 ?_
  obtain ⟨v1000003, hc1000002, hm⟩ := q_b1i hm
  refine q_callV C hW hS (As := [.int (dt.1 x0 7)]) (rest := []) (st1 := [.long v1000003]) (c_X5_at l D al dt (al.2.2 x0 1) (dt.1 x0 7) k1000001 v1000003 hc1000002) yl_X5_at vl_X5_at ml_RX9_59 (ci := 5) rfl k1000001 (by decide) rfl ⟨Nat.le_of_ble_eq_true rfl, Nat.le_of_ble_eq_true rfl⟩ hl rfl (Nat.le_of_ble_eq_true rfl) dX9_part_8 ⟨Nat.le_refl _, Nat.le_refl _⟩ rfl (fun H locs k1000004 hW hS => ?_)
  refine lv_lstore_n (i := 2) (lv' := [(2, .long v1000003), (0, .ref x0), (1, .int x1)]) hx hb dX9_part_11 rfl hl (by decide) rfl (fun ls hl => ?_)
  refine lv_iload_n hx hb dX9_part_12 rfl (lv_at hl 2 rfl) ?_
  refine q_ifc hm (fun c1000005 hm => ?_) (fun c1000005 hm => ?_)
  · refine lv_lookup (tgt := 72) (off := 59) hx hb dX9_part_13 (by decide) (by rw [c1000005]; rfl) (by decide) ?_
    refine lv_lload_n hx hb dX9_part_72 rfl (lv_at hl 0 rfl) ?_
    refine lv_ldc2 (own := RX9) (v := 5) hx hb hown (hts _ wc_RX9_165) dX9_part_73 ?_
    refine W.lcmp hx hb dX9_part_76 ?_
    refine q_ifc hm (fun c1000006 hm => ?_) (fun c1000006 hm => ?_)
    · refine lv_if_ne (tgt := 137) hx hb dX9_part_77 (by decide) (fun h => absurd (q_cmp_eq.mpr c1000006) h) (fun _ => ?_)
      refine lv_aload_n hx hb dX9_part_80 rfl (lv_at hl 1 rfl) ?_
      obtain ⟨dt1000008, hc1000007, hm⟩ := q_b1i hm
      refine q_callV C hW hS (As := []) (rest := []) (st1 := []) (c_X9_goOn l D al dt x0 kx0 dt1000008 hc1000007) yl_X9_goOn vl_X9_goOn ml_RX9_156 (ci := 9) rfl kx0 (by decide) rfl ⟨Nat.le_of_ble_eq_true rfl, Nat.le_of_ble_eq_true rfl⟩ hl rfl (Nat.le_of_ble_eq_true rfl) dX9_part_81 ⟨Nat.le_refl _, Nat.le_refl _⟩ rfl (fun H locs k1000009 hW hS => ?_)
      refine lv_goto (tgt := 137) hx hb dX9_part_84 (by decide) ?_
      exact e_vD C hW hS hm dX9_part_137
    refine lv_if_ne (tgt := 137) hx hb dX9_part_77 (by decide) (fun _ => ?_) (fun h => absurd (q_cmp_eq.mp h) c1000006)
    exact e_vD C hW hS hm dX9_part_137
  refine q_ifc hm (fun c1000010 hm => ?_) (fun c1000010 hm => ?_)
  · refine lv_lookup (tgt := 87) (off := 74) hx hb dX9_part_13 (by decide) (by rw [c1000010]; rfl) (by decide) ?_
    refine lv_lload_n hx hb dX9_part_87 rfl (lv_at hl 0 rfl) ?_
    refine lv_ldc2 (own := RX9) (v := 6) hx hb hown (hts _ wc_RX9_118) dX9_part_88 ?_
    refine W.lcmp hx hb dX9_part_91 ?_
    refine q_ifc hm (fun c1000011 hm => ?_) (fun c1000011 hm => ?_)
    · refine lv_if_ne (tgt := 137) hx hb dX9_part_92 (by decide) (fun h => absurd (q_cmp_eq.mpr c1000011) h) (fun _ => ?_)
      refine lv_aload_n hx hb dX9_part_95 rfl (lv_at hl 1 rfl) ?_
      refine r_getF C hW (ci := 9) kx0 ff_9_3 cl_9 fl_RX9_26 dX9_part_96 (fun k1000012 => ?_)
      refine lv_aload_n hx hb dX9_part_99 rfl (lv_at hl 1 rfl) ?_
      refine r_getI C hW (ci := 9) kx0 ff_9_7 cl_9 fl_RX9_39 dX9_part_100 ?_
      obtain ⟨v1000014, hc1000013, hm⟩ := q_b1i hm
      refine q_callV C hW hS (As := [.int (dt.1 x0 7)]) (rest := []) (st1 := [.long v1000014]) (c_X5_at l D al dt (al.2.2 x0 3) (dt.1 x0 7) k1000012 v1000014 hc1000013) yl_X5_at vl_X5_at ml_RX9_59 (ci := 5) rfl k1000012 (by decide) rfl ⟨Nat.le_of_ble_eq_true rfl, Nat.le_of_ble_eq_true rfl⟩ hl rfl (Nat.le_of_ble_eq_true rfl) dX9_part_103 ⟨Nat.le_refl _, Nat.le_refl _⟩ rfl (fun H locs k1000015 hW hS => ?_)
      refine lv_ldc2 (own := RX9) (v := 10) hx hb hown (hts _ wc_RX9_112) dX9_part_106 ?_
      refine W.lcmp hx hb dX9_part_109 ?_
      refine q_ifc hm (fun c1000016 hm => ?_) (fun c1000016 hm => ?_)
      · refine lv_if_ne (tgt := 137) hx hb dX9_part_110 (by decide) (fun h => absurd (q_cmp_eq.mpr c1000016) h) (fun _ => ?_)
        refine lv_aload_n hx hb dX9_part_113 rfl (lv_at hl 1 rfl) ?_
        obtain ⟨dt1000018, hc1000017, hm⟩ := q_b1i hm
        refine q_callV C hW hS (As := []) (rest := []) (st1 := []) (c_X9_goOn l D al dt x0 kx0 dt1000018 hc1000017) yl_X9_goOn vl_X9_goOn ml_RX9_156 (ci := 9) rfl kx0 (by decide) rfl ⟨Nat.le_of_ble_eq_true rfl, Nat.le_of_ble_eq_true rfl⟩ hl rfl (Nat.le_of_ble_eq_true rfl) dX9_part_114 ⟨Nat.le_refl _, Nat.le_refl _⟩ rfl (fun H locs k1000019 hW hS => ?_)
        refine lv_aload_n hx hb dX9_part_117 rfl (lv_at hl 1 rfl) ?_
        refine r_getI C hW (ci := 9) kx0 ff_9_8 cl_9 fl_RX9_42 dX9_part_118 ?_
        refine q_ifc hm (fun c1000020 hm => ?_) (fun c1000020 hm => ?_)
        · refine lv_if_ne (tgt := 137) hx hb dX9_part_121 (by decide) (fun h => absurd c1000020 h) (fun _ => ?_)
          refine lv_aload_n hx hb dX9_part_124 rfl (lv_at hl 1 rfl) ?_
          refine lv_iconst (v := 3) hx hb dX9_part_125 (by decide) ?_
          obtain ⟨dt1000022, hc1000021, hm⟩ := q_b1i hm
          refine q_callV C hW hS (As := [.int 3]) (rest := []) (st1 := []) (c_X9_must l D al dt1000018 x0 3 kx0 dt1000022 hc1000021) yl_X9_must vl_X9_must ml_RX9_162 (ci := 9) rfl kx0 (by decide) rfl ⟨Nat.le_of_ble_eq_true rfl, Nat.le_of_ble_eq_true rfl⟩ hl rfl (Nat.le_of_ble_eq_true rfl) dX9_part_126 ⟨Nat.le_refl _, Nat.le_refl _⟩ rfl (fun H locs k1000023 hW hS => ?_)
          refine lv_goto (tgt := 137) hx hb dX9_part_129 (by decide) ?_
          exact e_vD C hW hS hm dX9_part_137
        refine lv_if_ne (tgt := 137) hx hb dX9_part_121 (by decide) (fun _ => ?_) (fun h => absurd h c1000020)
        exact e_vD C hW hS hm dX9_part_137
      refine lv_if_ne (tgt := 137) hx hb dX9_part_110 (by decide) (fun _ => ?_) (fun h => absurd (q_cmp_eq.mp h) c1000016)
      exact e_vD C hW hS hm dX9_part_137
    refine lv_if_ne (tgt := 137) hx hb dX9_part_92 (by decide) (fun _ => ?_) (fun h => absurd (q_cmp_eq.mp h) c1000011)
    exact e_vD C hW hS hm dX9_part_137
  refine q_ifc hm (fun c1000024 hm => ?_) (fun c1000024 hm => ?_)
  · refine lv_lookup (tgt := 64) (off := 51) hx hb dX9_part_13 (by decide) (by rw [c1000024]; rfl) (by decide) ?_
    refine lv_aload_n hx hb dX9_part_64 rfl (lv_at hl 1 rfl) ?_
    refine lv_iconst (v := 3) hx hb dX9_part_65 (by decide) ?_
    obtain ⟨dt1000026, hc1000025, hm⟩ := q_b1i hm
    refine q_callV C hW hS (As := [.int 3]) (rest := []) (st1 := []) (c_X9_must l D al dt x0 3 kx0 dt1000026 hc1000025) yl_X9_must vl_X9_must ml_RX9_162 (ci := 9) rfl kx0 (by decide) rfl ⟨Nat.le_of_ble_eq_true rfl, Nat.le_of_ble_eq_true rfl⟩ hl rfl (Nat.le_of_ble_eq_true rfl) dX9_part_66 ⟨Nat.le_refl _, Nat.le_refl _⟩ rfl (fun H locs k1000027 hW hS => ?_)
    refine lv_goto (tgt := 137) hx hb dX9_part_69 (by decide) ?_
    exact e_vD C hW hS hm dX9_part_137
  refine q_ifc hm (fun c1000028 hm => ?_) (fun c1000028 hm => ?_)
  · refine lv_lookup (tgt := 56) (off := 43) hx hb dX9_part_13 (by decide) (by rw [c1000028]; rfl) (by decide) ?_
    refine lv_aload_n hx hb dX9_part_56 rfl (lv_at hl 1 rfl) ?_
    refine lv_iconst (v := 2) hx hb dX9_part_57 (by decide) ?_
    obtain ⟨dt1000030, hc1000029, hm⟩ := q_b1i hm
    refine q_callV C hW hS (As := [.int 2]) (rest := []) (st1 := []) (c_X9_must l D al dt x0 2 kx0 dt1000030 hc1000029) yl_X9_must vl_X9_must ml_RX9_162 (ci := 9) rfl kx0 (by decide) rfl ⟨Nat.le_of_ble_eq_true rfl, Nat.le_of_ble_eq_true rfl⟩ hl rfl (Nat.le_of_ble_eq_true rfl) dX9_part_58 ⟨Nat.le_refl _, Nat.le_refl _⟩ rfl (fun H locs k1000031 hW hS => ?_)
    refine lv_goto (tgt := 137) hx hb dX9_part_61 (by decide) ?_
    exact e_vD C hW hS hm dX9_part_137
  refine lv_lookup (tgt := 132) (off := 119) hx hb dX9_part_13 (by decide) ((lv_osw (a := 45) c1000005 (by decide)).trans ((lv_osw (a := 100) c1000010 (by decide)).trans ((lv_osw (a := 105) c1000024 (by decide)).trans ((lv_osw (a := 110) c1000028 (by decide)).trans (rfl))))) (by decide) ?_
  refine lv_aload_n hx hb dX9_part_132 rfl (lv_at hl 1 rfl) ?_
  refine lv_iconst (v := 4) hx hb dX9_part_133 (by decide) ?_
  obtain ⟨dt1000033, hc1000032, hm⟩ := q_b1i hm
  refine q_callV C hW hS (As := [.int 4]) (rest := []) (st1 := []) (c_X9_must l D al dt x0 4 kx0 dt1000033 hc1000032) yl_X9_must vl_X9_must ml_RX9_162 (ci := 9) rfl kx0 (by decide) rfl ⟨Nat.le_of_ble_eq_true rfl, Nat.le_of_ble_eq_true rfl⟩ hl rfl (Nat.le_of_ble_eq_true rfl) dX9_part_134 ⟨Nat.le_refl _, Nat.le_refl _⟩ rfl (fun H locs k1000034 hW hS => ?_)
  exact e_vD C hW hS hm dX9_part_137
theorem dX9_tell_0 : decode cX9_tell 0 = .ok (.aload_n 0, 1) := by decide +kernel
theorem dX9_tell_1 : decode cX9_tell 1 = .ok (.getfield 26, 3) := by decide +kernel
theorem dX9_tell_4 : decode cX9_tell 4 = .ok (.aload_n 0, 1) := by decide +kernel
theorem dX9_tell_5 : decode cX9_tell 5 = .ok (.getfield 39, 3) := by decide +kernel
theorem dX9_tell_8 : decode cX9_tell 8 = .ok (.invokevirtual 83, 3) := by decide +kernel
theorem dX9_tell_11 : decode cX9_tell 11 = .ok (.istore_n 1, 1) := by decide +kernel
theorem dX9_tell_12 : decode cX9_tell 12 = .ok (.aload_n 0, 1) := by decide +kernel
theorem dX9_tell_13 : decode cX9_tell 13 = .ok (.getfield 20, 3) := by decide +kernel
theorem dX9_tell_16 : decode cX9_tell 16 = .ok (.aload_n 0, 1) := by decide +kernel
theorem dX9_tell_17 : decode cX9_tell 17 = .ok (.getfield 39, 3) := by decide +kernel
theorem dX9_tell_20 : decode cX9_tell 20 = .ok (.invokevirtual 59, 3) := by decide +kernel
theorem dX9_tell_23 : decode cX9_tell 23 = .ok (.ldc2_w 118, 3) := by decide +kernel
theorem dX9_tell_26 : decode cX9_tell 26 = .ok (.lcmp, 1) := by decide +kernel
theorem dX9_tell_27 : decode cX9_tell 27 = .ok (.ifCond .ne 9, 3) := by decide +kernel
theorem dX9_tell_30 : decode cX9_tell 30 = .ok (.iload_n 1, 1) := by decide +kernel
theorem dX9_tell_31 : decode cX9_tell 31 = .ok (.bipush 10, 2) := by decide +kernel
theorem dX9_tell_33 : decode cX9_tell 33 = .ok (.if_icmp .ne 9, 3) := by decide +kernel
theorem dX9_tell_36 : decode cX9_tell 36 = .ok (.aload_n 0, 1) := by decide +kernel
theorem dX9_tell_37 : decode cX9_tell 37 = .ok (.iconst 1, 1) := by decide +kernel
theorem dX9_tell_38 : decode cX9_tell 38 = .ok (.putfield 42, 3) := by decide +kernel
theorem dX9_tell_41 : decode cX9_tell 41 = .ok (.return_, 1) := by decide +kernel
theorem dX9_tell_42 : decode cX9_tell 42 = .ok (.aload_n 0, 1) := by decide +kernel
theorem dX9_tell_43 : decode cX9_tell 43 = .ok (.iload_n 1, 1) := by decide +kernel
theorem dX9_tell_44 : decode cX9_tell 44 = .ok (.invokevirtual 149, 3) := by decide +kernel
theorem dX9_tell_47 : decode cX9_tell 47 = .ok (.ifCond .ne 9, 3) := by decide +kernel
theorem dX9_tell_50 : decode cX9_tell 50 = .ok (.aload_n 0, 1) := by decide +kernel
theorem dX9_tell_51 : decode cX9_tell 51 = .ok (.iconst 2, 1) := by decide +kernel
theorem dX9_tell_52 : decode cX9_tell 52 = .ok (.putfield 42, 3) := by decide +kernel
theorem dX9_tell_55 : decode cX9_tell 55 = .ok (.return_, 1) := by decide +kernel
theorem dX9_tell_56 : decode cX9_tell 56 = .ok (.iload_n 1, 1) := by decide +kernel
theorem dX9_tell_57 : decode cX9_tell 57 = .ok (.invokestatic 152, 3) := by decide +kernel
theorem dX9_tell_60 : decode cX9_tell 60 = .ok (.astore_n 2, 1) := by decide +kernel
theorem dX9_tell_61 : decode cX9_tell 61 = .ok (.aload_n 0, 1) := by decide +kernel
theorem dX9_tell_62 : decode cX9_tell 62 = .ok (.invokevirtual 156, 3) := by decide +kernel
theorem dX9_tell_65 : decode cX9_tell 65 = .ok (.iconst 0, 1) := by decide +kernel
theorem dX9_tell_66 : decode cX9_tell 66 = .ok (.istore_n 3, 1) := by decide +kernel
theorem dX9_tell_67 : decode cX9_tell 67 = .ok (.iload_n 3, 1) := by decide +kernel
theorem dX9_tell_68 : decode cX9_tell 68 = .ok (.aload_n 2, 1) := by decide +kernel
theorem dX9_tell_69 : decode cX9_tell 69 = .ok (.invokevirtual 50, 3) := by decide +kernel
theorem dX9_tell_72 : decode cX9_tell 72 = .ok (.if_icmp .ge 25, 3) := by decide +kernel
theorem dX9_tell_75 : decode cX9_tell 75 = .ok (.aload_n 0, 1) := by decide +kernel
theorem dX9_tell_76 : decode cX9_tell 76 = .ok (.getfield 42, 3) := by decide +kernel
theorem dX9_tell_79 : decode cX9_tell 79 = .ok (.ifCond .ne 18, 3) := by decide +kernel
theorem dX9_tell_82 : decode cX9_tell 82 = .ok (.aload_n 0, 1) := by decide +kernel
theorem dX9_tell_83 : decode cX9_tell 83 = .ok (.aload_n 2, 1) := by decide +kernel
theorem dX9_tell_84 : decode cX9_tell 84 = .ok (.iload_n 3, 1) := by decide +kernel
theorem dX9_tell_85 : decode cX9_tell 85 = .ok (.invokevirtual 55, 3) := by decide +kernel
theorem dX9_tell_88 : decode cX9_tell 88 = .ok (.invokevirtual 159, 3) := by decide +kernel
theorem dX9_tell_91 : decode cX9_tell 91 = .ok (.iinc 3 1, 3) := by decide +kernel
theorem dX9_tell_94 : decode cX9_tell 94 = .ok (.goto (-27), 3) := by decide +kernel
theorem dX9_tell_97 : decode cX9_tell 97 = .ok (.return_, 1) := by decide +kernel
set_option maxRecDepth 100000 in
theorem c_X9_tell (l : Launch) (D : q_D) (al : q_Al) (dt : q_Dt) (x0 : Nat) (kx0 : al.1 x0 = 10) (dt0 : q_Dt) (hm : X9_tell al dt x0 = some dt0) : q_Mt l yX9_tell cX9_tell 4 (none) 4 103 D al [.ref x0] dt 0 none dt0 := by
  refine q_Mt.of (by decide) (Nat.le_of_ble_eq_true rfl) ?_
  intro p e s m args below meth c ls C hargs hW hl
  have hx := C.1
  have hb := C.2.1
  have hown := C.2.2.2.2.2.1
  have hts := C.2.2.2.2.2.2.1
  have hS : va_S (q_A al) s.heap s.heap [] := va_S.rf
  have hl : lv_has ls 4 [(0, .ref x0)] := hl
  unfold X9_tell at hm
  have hB36 : ∀ (x0_36 : Nat) (kx0_36 : al.1 x0_36 = 10) (dt : q_Dt) (H : Heap) (locs : List Loc) (ls : Array Slot) (hm : X9_tell_b36 al x0_36 dt = some dt0) (hW : q_W D al dt H) (hS : va_S (q_A al) s.heap H locs) (hl : lv_has ls 4 [(0, .ref x0_36)]), W p l e { frames := 4, cells := 0, slots := 0, locals := 103 } s m args below meth c H locs 0 0 (MQ below (q_Q none (fun H => q_W D al dt0 H ∧ q_Rk al 0 none) (q_A al)) args s 0 0 (q_A al)) (F0 m 36 ls []) := by
    intro x0_36 kx0_36 dt H locs ls hm hW hS hl
    unfold X9_tell_b36 at hm
    refine lv_aload_n hx hb dX9_tell_36 rfl (lv_at hl 0 rfl) ?_
    refine lv_iconst (v := 1) hx hb dX9_tell_37 (by decide) ?_
    refine r_putI C hW hS hm (ci := 9) kx0_36 ff_9_8 cl_9 fl_RX9_42 (nf_9_8) rfl dX9_tell_38 (fun dt36001 H locs hm hW hS => ?_)
    exact e_vD C hW hS hm dX9_tell_41
  have hB67 : ∀ (x0_67 : Nat) (x2_67 : Nat) (kx0_67 : al.1 x0_67 = 10) (n_67 : Nat) (x3_67 : Int32) (dt : q_Dt) (H : Heap) (locs : List Loc) (ls : Array Slot) (hm : X9_tell_b67 al x0_67 x2_67 n_67 x3_67 dt = some dt0) (hW : q_W D al dt H) (hS : va_S (q_A al) s.heap H locs) (hl : lv_has ls 4 [(0, .ref x0_67), (2, .ref (D.2.2.1 x2_67)), (3, .int x3_67)]), W p l e { frames := 4, cells := 0, slots := 0, locals := 103 } s m args below meth c H locs 0 0 (MQ below (q_Q none (fun H => q_W D al dt0 H ∧ q_Rk al 0 none) (q_A al)) args s 0 0 (q_A al)) (F0 m 67 ls []) := by
    intro x0_67 x2_67 kx0_67
    intro n_67
    induction n_67 with
    | zero => intro x3_67 dt H locs ls hm hW hS hl; cases hm
    | succ n_67 ih67 =>
      intro x3_67 dt H locs ls hm hW hS hl
      rw [X9_tell_b67] at hm
      refine lv_iload_n hx hb dX9_tell_67 rfl (lv_at hl 2 rfl) ?_
      refine lv_aload_n hx hb dX9_tell_68 rfl (lv_at hl 1 rfl) ?_
      obtain ⟨c67001, hm⟩ := q_ini hm
      refine q_callSL C hW hS (rest := [.int x3_67]) ml_RX9_50 (Nat.lt_of_not_le c67001) hl (Nat.le_of_ble_eq_true rfl) ⟨Nat.le_of_ble_eq_true rfl, Nat.le_of_ble_eq_true rfl⟩ dX9_tell_69 ⟨Nat.le_refl _, Nat.le_refl _⟩ (fun H locs hW hS => ?_)
      refine q_ifc hm (fun c67002 hm => ?_) (fun c67002 hm => ?_)
      · refine lv_icmp_ge (tgt := 97) hx hb dX9_tell_72 (by decide) (fun _ => ?_) (fun h => absurd c67002 h)
        exact e_vD C hW hS hm dX9_tell_97
      refine lv_icmp_ge (tgt := 97) hx hb dX9_tell_72 (by decide) (fun h => absurd h c67002) (fun _ => ?_)
      refine lv_aload_n hx hb dX9_tell_75 rfl (lv_at hl 0 rfl) ?_
      refine r_getI C hW (ci := 9) kx0_67 ff_9_8 cl_9 fl_RX9_42 dX9_tell_76 ?_
      refine q_ifc hm (fun c67003 hm => ?_) (fun c67003 hm => ?_)
      · refine lv_if_ne (tgt := 97) hx hb dX9_tell_79 (by decide) (fun h => absurd c67003 h) (fun _ => ?_)
        refine lv_aload_n hx hb dX9_tell_82 rfl (lv_at hl 0 rfl) ?_
        refine lv_aload_n hx hb dX9_tell_83 rfl (lv_at hl 1 rfl) ?_
        refine lv_iload_n hx hb dX9_tell_84 rfl (lv_at hl 2 rfl) ?_
        obtain ⟨c67004, hm⟩ := q_ini hm
        refine q_callSC C hW hS hm (rest := [.ref x0_67]) ml_RX9_55 (Nat.lt_of_not_le c67004) hl (Nat.le_of_ble_eq_true rfl) ⟨Nat.le_of_ble_eq_true rfl, Nat.le_of_ble_eq_true rfl⟩ dX9_tell_85 ⟨Nat.le_refl _, Nat.le_refl _⟩ (fun H locs hm hW hS => ?_)
        obtain ⟨dt67006, hc67005, hm⟩ := q_b1i hm
        refine q_callV C hW hS (As := [.int (q_sch x2_67 x3_67)]) (rest := []) (st1 := []) (c_X9_part l D al dt x0_67 (q_sch x2_67 x3_67) kx0_67 dt67006 hc67005) yl_X9_part vl_X9_part ml_RX9_159 (ci := 9) rfl kx0_67 (by decide) rfl ⟨Nat.le_of_ble_eq_true rfl, Nat.le_of_ble_eq_true rfl⟩ hl rfl (Nat.le_of_ble_eq_true rfl) dX9_tell_88 ⟨Nat.le_refl _, Nat.le_refl _⟩ rfl (fun H locs k67007 hW hS => ?_)
        refine lv_iinc (v := (x3_67 + 1)) (lv' := [(3, .int (x3_67 + 1)), (0, .ref x0_67), (2, .ref (D.2.2.1 x2_67))]) hx hb dX9_tell_91 hl (k := 2) rfl rfl (by decide) rfl (fun ls hl => ?_)
        refine lv_goto (tgt := 67) hx hb dX9_tell_94 (by decide) ?_
        exact ih67 (x3_67 + 1) dt67006 _ _ _ hm hW hS (lv_sub hl [1, 2, 0] rfl)
      refine lv_if_ne (tgt := 97) hx hb dX9_tell_79 (by decide) (fun _ => ?_) (fun h => absurd h c67003)
      exact e_vD C hW hS hm dX9_tell_97
  refine lv_aload_n hx hb dX9_tell_0 rfl (lv_at hl 0 rfl) ?_
  refine r_getF C hW (ci := 9) kx0 ff_9_3 cl_9 fl_RX9_26 dX9_tell_1 (fun k1000001 => ?_)
  refine lv_aload_n hx hb dX9_tell_4 rfl (lv_at hl 0 rfl) ?_
  refine r_getI C hW (ci := 9) kx0 ff_9_7 cl_9 fl_RX9_39 dX9_tell_5 ?_
  obtain ⟨v1000003, hc1000002, hm⟩ := q_b1i hm
  refine q_callV C hW hS (As := [.int (dt.1 x0 7)]) (rest := []) (st1 := [.int v1000003]) (c_X5_small l D al dt (al.2.2 x0 3) (dt.1 x0 7) k1000001 v1000003 hc1000002) yl_X5_small vl_X5_small ml_RX9_83 (ci := 5) rfl k1000001 (by decide) rfl ⟨Nat.le_of_ble_eq_true rfl, Nat.le_of_ble_eq_true rfl⟩ hl rfl (Nat.le_of_ble_eq_true rfl) dX9_tell_8 ⟨Nat.le_refl _, Nat.le_refl _⟩ rfl (fun H locs k1000004 hW hS => ?_)
  refine lv_istore_n (i := 1) (lv' := [(1, .int v1000003), (0, .ref x0)]) hx hb dX9_tell_11 rfl hl (by decide) rfl (fun ls hl => ?_)
  refine lv_aload_n hx hb dX9_tell_12 rfl (lv_at hl 1 rfl) ?_
  refine r_getF C hW (ci := 9) kx0 ff_9_1 cl_9 fl_RX9_20 dX9_tell_13 (fun k1000005 => ?_)
  refine lv_aload_n hx hb dX9_tell_16 rfl (lv_at hl 1 rfl) ?_
  refine r_getI C hW (ci := 9) kx0 ff_9_7 cl_9 fl_RX9_39 dX9_tell_17 ?_
  obtain ⟨v1000007, hc1000006, hm⟩ := q_b1i hm
  refine q_callV C hW hS (As := [.int (dt.1 x0 7)]) (rest := []) (st1 := [.long v1000007]) (c_X5_at l D al dt (al.2.2 x0 1) (dt.1 x0 7) k1000005 v1000007 hc1000006) yl_X5_at vl_X5_at ml_RX9_59 (ci := 5) rfl k1000005 (by decide) rfl ⟨Nat.le_of_ble_eq_true rfl, Nat.le_of_ble_eq_true rfl⟩ hl rfl (Nat.le_of_ble_eq_true rfl) dX9_tell_20 ⟨Nat.le_refl _, Nat.le_refl _⟩ rfl (fun H locs k1000008 hW hS => ?_)
  refine lv_ldc2 (own := RX9) (v := 6) hx hb hown (hts _ wc_RX9_118) dX9_tell_23 ?_
  refine W.lcmp hx hb dX9_tell_26 ?_
  refine q_ifc hm (fun c1000009 hm => ?_) (fun c1000009 hm => ?_)
  · refine lv_if_ne (tgt := 36) hx hb dX9_tell_27 (by decide) (fun h => absurd (q_cmp_eq.mpr c1000009) h) (fun _ => ?_)
    refine lv_iload_n hx hb dX9_tell_30 rfl (lv_at hl 0 rfl) ?_
    refine lv_bipush (v := 10) hx hb dX9_tell_31 (by decide) ?_
    refine q_ifc hm (fun c1000010 hm => ?_) (fun c1000010 hm => ?_)
    · refine lv_icmp_ne (tgt := 42) hx hb dX9_tell_33 (by decide) (fun h => absurd c1000010 h) (fun _ => ?_)
      exact hB36 x0 kx0 dt _ _ _ hm hW hS (lv_sub hl [1] rfl)
    refine lv_icmp_ne (tgt := 42) hx hb dX9_tell_33 (by decide) (fun _ => ?_) (fun h => absurd h c1000010)
    refine lv_aload_n hx hb dX9_tell_42 rfl (lv_at hl 1 rfl) ?_
    refine lv_iload_n hx hb dX9_tell_43 rfl (lv_at hl 0 rfl) ?_
    obtain ⟨v1000012, dt1000013, hc1000011, hm⟩ := q_b2i hm
    refine q_callV C hW hS (As := [.int v1000003]) (rest := []) (st1 := [.int v1000012]) (c_X9_takesRoom l D al dt x0 v1000003 kx0 v1000012 dt1000013 hc1000011) yl_X9_takesRoom vl_X9_takesRoom ml_RX9_149 (ci := 9) rfl kx0 (by decide) rfl ⟨Nat.le_of_ble_eq_true rfl, Nat.le_of_ble_eq_true rfl⟩ hl rfl (Nat.le_of_ble_eq_true rfl) dX9_tell_44 ⟨Nat.le_refl _, Nat.le_refl _⟩ rfl (fun H locs k1000014 hW hS => ?_)
    refine q_ifc hm (fun c1000015 hm => ?_) (fun c1000015 hm => ?_)
    · refine lv_if_ne (tgt := 56) hx hb dX9_tell_47 (by decide) (fun h => absurd c1000015 h) (fun _ => ?_)
      refine lv_aload_n hx hb dX9_tell_50 rfl (lv_at hl 1 rfl) ?_
      refine lv_iconst (v := 2) hx hb dX9_tell_51 (by decide) ?_
      refine r_putI C hW hS hm (ci := 9) kx0 ff_9_8 cl_9 fl_RX9_42 (nf_9_8) rfl dX9_tell_52 (fun dt1000016 H locs hm hW hS => ?_)
      exact e_vD C hW hS hm dX9_tell_55
    refine lv_if_ne (tgt := 56) hx hb dX9_tell_47 (by decide) (fun _ => ?_) (fun h => absurd h c1000015)
    refine lv_iload_n hx hb dX9_tell_56 rfl (lv_at hl 0 rfl) ?_
    obtain ⟨v1000018, hc1000017, hm⟩ := q_b1i hm
    refine q_callS C hW hS (As := [.int v1000003]) (rest := []) (st1 := [.ref (D.2.2.1 v1000018)]) (c_X9_shapeOf l D al dt1000013 v1000003 v1000018 hc1000017) yl_X9_shapeOf sl_X9_shapeOf ml_RX9_152 rfl ⟨Nat.le_of_ble_eq_true rfl, Nat.le_of_ble_eq_true rfl⟩ hl rfl (Nat.le_of_ble_eq_true rfl) dX9_tell_57 ⟨Nat.le_refl _, Nat.le_refl _⟩ rfl (fun H locs k1000019 hW hS => ?_)
    refine lv_astore_n (i := 2) (lv' := [(2, .ref (D.2.2.1 v1000018)), (1, .int v1000003), (0, .ref x0)]) hx hb dX9_tell_60 rfl hl (by decide) rfl (fun ls hl => ?_)
    refine lv_aload_n hx hb dX9_tell_61 rfl (lv_at hl 2 rfl) ?_
    obtain ⟨dt1000021, hc1000020, hm⟩ := q_b1i hm
    refine q_callV C hW hS (As := []) (rest := []) (st1 := []) (c_X9_goOn l D al dt1000013 x0 kx0 dt1000021 hc1000020) yl_X9_goOn vl_X9_goOn ml_RX9_156 (ci := 9) rfl kx0 (by decide) rfl ⟨Nat.le_of_ble_eq_true rfl, Nat.le_of_ble_eq_true rfl⟩ hl rfl (Nat.le_of_ble_eq_true rfl) dX9_tell_62 ⟨Nat.le_refl _, Nat.le_refl _⟩ rfl (fun H locs k1000022 hW hS => ?_)
    refine lv_iconst (v := 0) hx hb dX9_tell_65 (by decide) ?_
    refine lv_istore_n (i := 3) (lv' := [(3, .int 0), (2, .ref (D.2.2.1 v1000018)), (1, .int v1000003), (0, .ref x0)]) hx hb dX9_tell_66 rfl hl (by decide) rfl (fun ls hl => ?_)
    exact hB67 x0 v1000018 kx0 q_FU 0 dt1000021 _ _ _ hm hW hS (lv_sub hl [3, 1, 0] rfl)
  refine lv_if_ne (tgt := 36) hx hb dX9_tell_27 (by decide) (fun _ => ?_) (fun h => absurd (q_cmp_eq.mp h) c1000009)
  exact hB36 x0 kx0 dt _ _ _ hm hW hS (lv_sub hl [1] rfl)
theorem dX9_take_0 : decode cX9_take 0 = .ok (.aload_n 0, 1) := by decide +kernel
theorem dX9_take_1 : decode cX9_take 1 = .ok (.invokevirtual 74, 3) := by decide +kernel
theorem dX9_take_4 : decode cX9_take 4 = .ok (.aload_n 0, 1) := by decide +kernel
theorem dX9_take_5 : decode cX9_take 5 = .ok (.iconst 0, 1) := by decide +kernel
theorem dX9_take_6 : decode cX9_take 6 = .ok (.putfield 35, 3) := by decide +kernel
theorem dX9_take_9 : decode cX9_take 9 = .ok (.aload_n 0, 1) := by decide +kernel
theorem dX9_take_10 : decode cX9_take 10 = .ok (.iconst 0, 1) := by decide +kernel
theorem dX9_take_11 : decode cX9_take 11 = .ok (.putfield 42, 3) := by decide +kernel
theorem dX9_take_14 : decode cX9_take 14 = .ok (.aload_n 0, 1) := by decide +kernel
theorem dX9_take_15 : decode cX9_take 15 = .ok (.iconst 0, 1) := by decide +kernel
theorem dX9_take_16 : decode cX9_take 16 = .ok (.putfield 39, 3) := by decide +kernel
theorem dX9_take_19 : decode cX9_take 19 = .ok (.aload_n 0, 1) := by decide +kernel
theorem dX9_take_20 : decode cX9_take 20 = .ok (.invokevirtual 77, 3) := by decide +kernel
theorem dX9_take_23 : decode cX9_take 23 = .ok (.iconst 0, 1) := by decide +kernel
theorem dX9_take_24 : decode cX9_take 24 = .ok (.istore_n 1, 1) := by decide +kernel
theorem dX9_take_25 : decode cX9_take 25 = .ok (.iload_n 1, 1) := by decide +kernel
theorem dX9_take_26 : decode cX9_take 26 = .ok (.sipush 400, 3) := by decide +kernel
theorem dX9_take_29 : decode cX9_take 29 = .ok (.if_icmp .ge 36, 3) := by decide +kernel
theorem dX9_take_32 : decode cX9_take 32 = .ok (.aload_n 0, 1) := by decide +kernel
theorem dX9_take_33 : decode cX9_take 33 = .ok (.getfield 42, 3) := by decide +kernel
theorem dX9_take_36 : decode cX9_take 36 = .ok (.ifCond .ne 29, 3) := by decide +kernel
theorem dX9_take_39 : decode cX9_take 39 = .ok (.aload_n 0, 1) := by decide +kernel
theorem dX9_take_40 : decode cX9_take 40 = .ok (.getfield 20, 3) := by decide +kernel
theorem dX9_take_43 : decode cX9_take 43 = .ok (.aload_n 0, 1) := by decide +kernel
theorem dX9_take_44 : decode cX9_take 44 = .ok (.getfield 39, 3) := by decide +kernel
theorem dX9_take_47 : decode cX9_take 47 = .ok (.invokevirtual 59, 3) := by decide +kernel
theorem dX9_take_50 : decode cX9_take 50 = .ok (.lconst 0, 1) := by decide +kernel
theorem dX9_take_51 : decode cX9_take 51 = .ok (.lcmp, 1) := by decide +kernel
theorem dX9_take_52 : decode cX9_take 52 = .ok (.ifCond .eq 13, 3) := by decide +kernel
theorem dX9_take_55 : decode cX9_take 55 = .ok (.aload_n 0, 1) := by decide +kernel
theorem dX9_take_56 : decode cX9_take 56 = .ok (.invokevirtual 80, 3) := by decide +kernel
theorem dX9_take_59 : decode cX9_take 59 = .ok (.iinc 1 1, 3) := by decide +kernel
theorem dX9_take_62 : decode cX9_take 62 = .ok (.goto (-37), 3) := by decide +kernel
theorem dX9_take_65 : decode cX9_take 65 = .ok (.aload_n 0, 1) := by decide +kernel
theorem dX9_take_66 : decode cX9_take 66 = .ok (.aload_n 0, 1) := by decide +kernel
theorem dX9_take_67 : decode cX9_take 67 = .ok (.getfield 42, 3) := by decide +kernel
theorem dX9_take_70 : decode cX9_take 70 = .ok (.ifCond .ne 7, 3) := by decide +kernel
theorem dX9_take_73 : decode cX9_take 73 = .ok (.iconst (-1), 1) := by decide +kernel
theorem dX9_take_74 : decode cX9_take 74 = .ok (.goto 14, 3) := by decide +kernel
theorem dX9_take_77 : decode cX9_take 77 = .ok (.aload_n 0, 1) := by decide +kernel
theorem dX9_take_78 : decode cX9_take 78 = .ok (.getfield 23, 3) := by decide +kernel
theorem dX9_take_81 : decode cX9_take 81 = .ok (.aload_n 0, 1) := by decide +kernel
theorem dX9_take_82 : decode cX9_take 82 = .ok (.getfield 39, 3) := by decide +kernel
theorem dX9_take_85 : decode cX9_take 85 = .ok (.invokevirtual 83, 3) := by decide +kernel
theorem dX9_take_88 : decode cX9_take 88 = .ok (.putfield 45, 3) := by decide +kernel
theorem dX9_take_91 : decode cX9_take 91 = .ok (.aload_n 0, 1) := by decide +kernel
theorem dX9_take_92 : decode cX9_take 92 = .ok (.getfield 42, 3) := by decide +kernel
theorem dX9_take_95 : decode cX9_take 95 = .ok (.ireturn, 1) := by decide +kernel
set_option maxRecDepth 100000 in
theorem c_X9_take (l : Launch) (D : q_D) (al : q_Al) (dt : q_Dt) (x0 : Nat) (kx0 : al.1 x0 = 10) (r0 : Int32) (dt0 : q_Dt) (hm : X9_take al dt x0 = some (r0, dt0)) : q_Mt l yX9_take cX9_take 2 (some FieldType.int) 5 126 D al [.ref x0] dt 0 (some (.int r0)) dt0 := by
  refine q_Mt.of (by decide) (Nat.le_of_ble_eq_true rfl) ?_
  intro p e s m args below meth c ls C hargs hW hl
  have hx := C.1
  have hb := C.2.1
  have hown := C.2.2.2.2.2.1
  have hts := C.2.2.2.2.2.2.1
  have hS : va_S (q_A al) s.heap s.heap [] := va_S.rf
  have hl : lv_has ls 2 [(0, .ref x0)] := hl
  unfold X9_take at hm
  have hB88 : ∀ (x0_88 : Nat) (t0_88 : Nat) (t1_88 : Int32) (kx0_88 : al.1 x0_88 = 10) (kt0_88 : al.1 t0_88 = 10) (dt : q_Dt) (H : Heap) (locs : List Loc) (ls : Array Slot) (hm : X9_take_b88 al x0_88 t0_88 t1_88 dt = some (r0, dt0)) (hW : q_W D al dt H) (hS : va_S (q_A al) s.heap H locs) (hl : lv_has ls 2 [(0, .ref x0_88)]), W p l e { frames := 5, cells := 0, slots := 0, locals := 126 } s m args below meth c H locs 0 0 (MQ below (q_Q (some (.int r0)) (fun H => q_W D al dt0 H ∧ q_Rk al 0 (some (.int r0))) (q_A al)) args s 0 0 (q_A al)) (F0 m 88 ls [.int t1_88, .ref t0_88]) := by
    intro x0_88 t0_88 t1_88 kx0_88 kt0_88 dt H locs ls hm hW hS hl
    unfold X9_take_b88 at hm
    refine r_putI C hW hS hm (ci := 9) kt0_88 ff_9_9 cl_9 fl_RX9_45 (nf_9_9) rfl dX9_take_88 (fun dt88001 H locs hm hW hS => ?_)
    refine lv_aload_n hx hb dX9_take_91 rfl (lv_at hl 0 rfl) ?_
    refine r_getI C hW (ci := 9) kx0_88 ff_9_8 cl_9 fl_RX9_42 dX9_take_92 ?_
    exact e_iD C hW hS hm dX9_take_95
  have hB65 : ∀ (x0_65 : Nat) (kx0_65 : al.1 x0_65 = 10) (dt : q_Dt) (H : Heap) (locs : List Loc) (ls : Array Slot) (hm : X9_take_b65 al x0_65 dt = some (r0, dt0)) (hW : q_W D al dt H) (hS : va_S (q_A al) s.heap H locs) (hl : lv_has ls 2 [(0, .ref x0_65)]), W p l e { frames := 5, cells := 0, slots := 0, locals := 126 } s m args below meth c H locs 0 0 (MQ below (q_Q (some (.int r0)) (fun H => q_W D al dt0 H ∧ q_Rk al 0 (some (.int r0))) (q_A al)) args s 0 0 (q_A al)) (F0 m 65 ls []) := by
    intro x0_65 kx0_65 dt H locs ls hm hW hS hl
    unfold X9_take_b65 at hm
    refine lv_aload_n hx hb dX9_take_65 rfl (lv_at hl 0 rfl) ?_
    refine lv_aload_n hx hb dX9_take_66 rfl (lv_at hl 0 rfl) ?_
    refine r_getI C hW (ci := 9) kx0_65 ff_9_8 cl_9 fl_RX9_42 dX9_take_67 ?_
    refine q_ifc hm (fun c65001 hm => ?_) (fun c65001 hm => ?_)
    · refine lv_if_ne (tgt := 77) hx hb dX9_take_70 (by decide) (fun h => absurd c65001 h) (fun _ => ?_)
      refine lv_iconst (v := (-1)) hx hb dX9_take_73 (by decide) ?_
      refine lv_goto (tgt := 88) hx hb dX9_take_74 (by decide) ?_
      exact hB88 x0_65 x0_65 (-1) kx0_65 kx0_65 dt _ _ _ hm hW hS (lv_sub hl [0] rfl)
    refine lv_if_ne (tgt := 77) hx hb dX9_take_70 (by decide) (fun _ => ?_) (fun h => absurd h c65001)
    refine lv_aload_n hx hb dX9_take_77 rfl (lv_at hl 0 rfl) ?_
    refine r_getF C hW (ci := 9) kx0_65 ff_9_2 cl_9 fl_RX9_23 dX9_take_78 (fun k65002 => ?_)
    refine lv_aload_n hx hb dX9_take_81 rfl (lv_at hl 0 rfl) ?_
    refine r_getI C hW (ci := 9) kx0_65 ff_9_7 cl_9 fl_RX9_39 dX9_take_82 ?_
    obtain ⟨v65004, hc65003, hm⟩ := q_b1i hm
    refine q_callV C hW hS (As := [.int (dt.1 x0_65 7)]) (rest := [.ref x0_65]) (st1 := [.int v65004, .ref x0_65]) (c_X5_small l D al dt (al.2.2 x0_65 2) (dt.1 x0_65 7) k65002 v65004 hc65003) yl_X5_small vl_X5_small ml_RX9_83 (ci := 5) rfl k65002 (by decide) rfl ⟨Nat.le_of_ble_eq_true rfl, Nat.le_of_ble_eq_true rfl⟩ hl rfl (Nat.le_of_ble_eq_true rfl) dX9_take_85 ⟨Nat.le_refl _, Nat.le_refl _⟩ rfl (fun H locs k65005 hW hS => ?_)
    exact hB88 x0_65 x0_65 v65004 kx0_65 kx0_65 dt _ _ _ hm hW hS (lv_sub hl [0] rfl)
  have hB25 : ∀ (x0_25 : Nat) (kx0_25 : al.1 x0_25 = 10) (n_25 : Nat) (x1_25 : Int32) (dt : q_Dt) (H : Heap) (locs : List Loc) (ls : Array Slot) (hm : X9_take_b25 al x0_25 n_25 x1_25 dt = some (r0, dt0)) (hW : q_W D al dt H) (hS : va_S (q_A al) s.heap H locs) (hl : lv_has ls 2 [(0, .ref x0_25), (1, .int x1_25)]), W p l e { frames := 5, cells := 0, slots := 0, locals := 126 } s m args below meth c H locs 0 0 (MQ below (q_Q (some (.int r0)) (fun H => q_W D al dt0 H ∧ q_Rk al 0 (some (.int r0))) (q_A al)) args s 0 0 (q_A al)) (F0 m 25 ls []) := by
    intro x0_25 kx0_25
    intro n_25
    induction n_25 with
    | zero => intro x1_25 dt H locs ls hm hW hS hl; cases hm
    | succ n_25 ih25 =>
      intro x1_25 dt H locs ls hm hW hS hl
      rw [X9_take_b25] at hm
      refine lv_iload_n hx hb dX9_take_25 rfl (lv_at hl 1 rfl) ?_
      refine lv_sipush (v := 400) hx hb dX9_take_26 (by decide) ?_
      refine q_ifc hm (fun c25001 hm => ?_) (fun c25001 hm => ?_)
      · refine lv_icmp_ge (tgt := 65) hx hb dX9_take_29 (by decide) (fun _ => ?_) (fun h => absurd c25001 h)
        exact hB65 x0_25 kx0_25 dt _ _ _ hm hW hS (lv_sub hl [0] rfl)
      refine lv_icmp_ge (tgt := 65) hx hb dX9_take_29 (by decide) (fun h => absurd h c25001) (fun _ => ?_)
      refine lv_aload_n hx hb dX9_take_32 rfl (lv_at hl 0 rfl) ?_
      refine r_getI C hW (ci := 9) kx0_25 ff_9_8 cl_9 fl_RX9_42 dX9_take_33 ?_
      refine q_ifc hm (fun c25002 hm => ?_) (fun c25002 hm => ?_)
      · refine lv_if_ne (tgt := 65) hx hb dX9_take_36 (by decide) (fun h => absurd c25002 h) (fun _ => ?_)
        refine lv_aload_n hx hb dX9_take_39 rfl (lv_at hl 0 rfl) ?_
        refine r_getF C hW (ci := 9) kx0_25 ff_9_1 cl_9 fl_RX9_20 dX9_take_40 (fun k25003 => ?_)
        refine lv_aload_n hx hb dX9_take_43 rfl (lv_at hl 0 rfl) ?_
        refine r_getI C hW (ci := 9) kx0_25 ff_9_7 cl_9 fl_RX9_39 dX9_take_44 ?_
        obtain ⟨v25005, hc25004, hm⟩ := q_b1i hm
        refine q_callV C hW hS (As := [.int (dt.1 x0_25 7)]) (rest := []) (st1 := [.long v25005]) (c_X5_at l D al dt (al.2.2 x0_25 1) (dt.1 x0_25 7) k25003 v25005 hc25004) yl_X5_at vl_X5_at ml_RX9_59 (ci := 5) rfl k25003 (by decide) rfl ⟨Nat.le_of_ble_eq_true rfl, Nat.le_of_ble_eq_true rfl⟩ hl rfl (Nat.le_of_ble_eq_true rfl) dX9_take_47 ⟨Nat.le_refl _, Nat.le_refl _⟩ rfl (fun H locs k25006 hW hS => ?_)
        refine lv_lconst (v := 0) hx hb dX9_take_50 rfl ?_
        refine W.lcmp hx hb dX9_take_51 ?_
        refine q_ifc hm (fun c25007 hm => ?_) (fun c25007 hm => ?_)
        · refine lv_if_eq (tgt := 65) hx hb dX9_take_52 (by decide) (fun _ => ?_) (fun h => absurd (q_cmp_eq.mpr c25007) h)
          exact hB65 x0_25 kx0_25 dt _ _ _ hm hW hS (lv_sub hl [0] rfl)
        refine lv_if_eq (tgt := 65) hx hb dX9_take_52 (by decide) (fun h => absurd (q_cmp_eq.mp h) c25007) (fun _ => ?_)
        refine lv_aload_n hx hb dX9_take_55 rfl (lv_at hl 0 rfl) ?_
        obtain ⟨dt25009, hc25008, hm⟩ := q_b1i hm
        refine q_callV C hW hS (As := []) (rest := []) (st1 := []) (c_X9_tell l D al dt x0_25 kx0_25 dt25009 hc25008) yl_X9_tell vl_X9_tell ml_RX9_80 (ci := 9) rfl kx0_25 (by decide) rfl ⟨Nat.le_of_ble_eq_true rfl, Nat.le_of_ble_eq_true rfl⟩ hl rfl (Nat.le_of_ble_eq_true rfl) dX9_take_56 ⟨Nat.le_refl _, Nat.le_refl _⟩ rfl (fun H locs k25010 hW hS => ?_)
        refine lv_iinc (v := (x1_25 + 1)) (lv' := [(1, .int (x1_25 + 1)), (0, .ref x0_25)]) hx hb dX9_take_59 hl (k := 1) rfl rfl (by decide) rfl (fun ls hl => ?_)
        refine lv_goto (tgt := 25) hx hb dX9_take_62 (by decide) ?_
        exact ih25 (x1_25 + 1) dt25009 _ _ _ hm hW hS (lv_sub hl [1, 0] rfl)
      refine lv_if_ne (tgt := 65) hx hb dX9_take_36 (by decide) (fun _ => ?_) (fun h => absurd h c25002)
      exact hB65 x0_25 kx0_25 dt _ _ _ hm hW hS (lv_sub hl [0] rfl)
  refine lv_aload_n hx hb dX9_take_0 rfl (lv_at hl 0 rfl) ?_
  obtain ⟨dt1000002, hc1000001, hm⟩ := q_b1i hm
  refine q_callV C hW hS (As := []) (rest := []) (st1 := []) (c_X9_cut l D al dt x0 kx0 dt1000002 hc1000001) yl_X9_cut vl_X9_cut ml_RX9_74 (ci := 9) rfl kx0 (by decide) rfl ⟨Nat.le_of_ble_eq_true rfl, Nat.le_of_ble_eq_true rfl⟩ hl rfl (Nat.le_of_ble_eq_true rfl) dX9_take_1 ⟨Nat.le_refl _, Nat.le_refl _⟩ rfl (fun H locs k1000003 hW hS => ?_)
  refine lv_aload_n hx hb dX9_take_4 rfl (lv_at hl 0 rfl) ?_
  refine lv_iconst (v := 0) hx hb dX9_take_5 (by decide) ?_
  refine r_putI C hW hS hm (ci := 9) kx0 ff_9_6 cl_9 fl_RX9_35 (nf_9_6) rfl dX9_take_6 (fun dt1000004 H locs hm hW hS => ?_)
  refine lv_aload_n hx hb dX9_take_9 rfl (lv_at hl 0 rfl) ?_
  refine lv_iconst (v := 0) hx hb dX9_take_10 (by decide) ?_
  refine r_putI C hW hS hm (ci := 9) kx0 ff_9_8 cl_9 fl_RX9_42 (nf_9_8) rfl dX9_take_11 (fun dt1000005 H locs hm hW hS => ?_)
  refine lv_aload_n hx hb dX9_take_14 rfl (lv_at hl 0 rfl) ?_
  refine lv_iconst (v := 0) hx hb dX9_take_15 (by decide) ?_
  refine r_putI C hW hS hm (ci := 9) kx0 ff_9_7 cl_9 fl_RX9_39 (nf_9_7) rfl dX9_take_16 (fun dt1000006 H locs hm hW hS => ?_)
  refine lv_aload_n hx hb dX9_take_19 rfl (lv_at hl 0 rfl) ?_
  obtain ⟨dt1000008, hc1000007, hm⟩ := q_b1i hm
  refine q_callV C hW hS (As := []) (rest := []) (st1 := []) (c_X9_makeRoom l D al dt1000006 x0 kx0 dt1000008 hc1000007) yl_X9_makeRoom vl_X9_makeRoom ml_RX9_77 (ci := 9) rfl kx0 (by decide) rfl ⟨Nat.le_of_ble_eq_true rfl, Nat.le_of_ble_eq_true rfl⟩ hl rfl (Nat.le_of_ble_eq_true rfl) dX9_take_20 ⟨Nat.le_refl _, Nat.le_refl _⟩ rfl (fun H locs k1000009 hW hS => ?_)
  refine lv_iconst (v := 0) hx hb dX9_take_23 (by decide) ?_
  refine lv_istore_n (i := 1) (lv' := [(1, .int 0), (0, .ref x0)]) hx hb dX9_take_24 rfl hl (by decide) rfl (fun ls hl => ?_)
  exact hB25 x0 kx0 q_FU 0 dt1000008 _ _ _ hm hW hS (lv_sub hl [1, 0] rfl)
theorem dX3_nameIndex_0 : decode cX3_nameIndex 0 = .ok (.iconst 0, 1) := by decide +kernel
theorem dX3_nameIndex_1 : decode cX3_nameIndex 1 = .ok (.istore_n 3, 1) := by decide +kernel
theorem dX3_nameIndex_2 : decode cX3_nameIndex 2 = .ok (.iload_n 3, 1) := by decide +kernel
theorem dX3_nameIndex_3 : decode cX3_nameIndex 3 = .ok (.aload_n 0, 1) := by decide +kernel
theorem dX3_nameIndex_4 : decode cX3_nameIndex 4 = .ok (.getfield 33, 3) := by decide +kernel
theorem dX3_nameIndex_7 : decode cX3_nameIndex 7 = .ok (.if_icmp .ge 24, 3) := by decide +kernel
theorem dX3_nameIndex_10 : decode cX3_nameIndex 10 = .ok (.aload_n 0, 1) := by decide +kernel
theorem dX3_nameIndex_11 : decode cX3_nameIndex 11 = .ok (.getfield 23, 3) := by decide +kernel
theorem dX3_nameIndex_14 : decode cX3_nameIndex 14 = .ok (.iload_n 3, 1) := by decide +kernel
theorem dX3_nameIndex_15 : decode cX3_nameIndex 15 = .ok (.invokevirtual 106, 3) := by decide +kernel
theorem dX3_nameIndex_18 : decode cX3_nameIndex 18 = .ok (.lload_n 1, 1) := by decide +kernel
theorem dX3_nameIndex_19 : decode cX3_nameIndex 19 = .ok (.lcmp, 1) := by decide +kernel
theorem dX3_nameIndex_20 : decode cX3_nameIndex 20 = .ok (.ifCond .ne 5, 3) := by decide +kernel
theorem dX3_nameIndex_23 : decode cX3_nameIndex 23 = .ok (.iload_n 3, 1) := by decide +kernel
theorem dX3_nameIndex_24 : decode cX3_nameIndex 24 = .ok (.ireturn, 1) := by decide +kernel
theorem dX3_nameIndex_25 : decode cX3_nameIndex 25 = .ok (.iinc 3 1, 3) := by decide +kernel
theorem dX3_nameIndex_28 : decode cX3_nameIndex 28 = .ok (.goto (-26), 3) := by decide +kernel
theorem dX3_nameIndex_31 : decode cX3_nameIndex 31 = .ok (.iconst (-1), 1) := by decide +kernel
theorem dX3_nameIndex_32 : decode cX3_nameIndex 32 = .ok (.ireturn, 1) := by decide +kernel
set_option maxRecDepth 100000 in
theorem c_X3_nameIndex (l : Launch) (D : q_D) (al : q_Al) (dt : q_Dt) (x0 : Nat) (x1 : Int64) (kx0 : al.1 x0 = 4) (r0 : Int32) (hm : X3_nameIndex al dt x0 x1 = some r0) : q_Mt l yX3_nameIndex cX3_nameIndex 4 (some FieldType.int) 1 21 D al [.ref x0, .long x1] dt 0 (some (.int r0)) dt := by
  refine q_Mt.of (by decide) (Nat.le_of_ble_eq_true rfl) ?_
  intro p e s m args below meth c ls C hargs hW hl
  have hx := C.1
  have hb := C.2.1
  have hown := C.2.2.2.2.2.1
  have hts := C.2.2.2.2.2.2.1
  have hS : va_S (q_A al) s.heap s.heap [] := va_S.rf
  have hl : lv_has ls 4 [(0, .ref x0), (1, .long x1)] := hl
  unfold X3_nameIndex at hm
  have hB2 : ∀ (x0_2 : Nat) (x1_2 : Int64) (kx0_2 : al.1 x0_2 = 4) (n_2 : Nat) (x3_2 : Int32) (H : Heap) (locs : List Loc) (ls : Array Slot) (hm : X3_nameIndex_b2 al dt x0_2 x1_2 n_2 x3_2 = some r0) (hW : q_W D al dt H) (hS : va_S (q_A al) s.heap H locs) (hl : lv_has ls 4 [(0, .ref x0_2), (1, .long x1_2), (3, .int x3_2)]), W p l e { frames := 1, cells := 0, slots := 0, locals := 21 } s m args below meth c H locs 0 0 (MQ below (q_Q (some (.int r0)) (fun H => q_W D al dt H ∧ q_Rk al 0 (some (.int r0))) (q_A al)) args s 0 0 (q_A al)) (F0 m 2 ls []) := by
    intro x0_2 x1_2 kx0_2
    intro n_2
    induction n_2 with
    | zero => intro x3_2 H locs ls hm hW hS hl; cases hm
    | succ n_2 ih2 =>
      intro x3_2 H locs ls hm hW hS hl
      rw [X3_nameIndex_b2] at hm
      refine lv_iload_n hx hb dX3_nameIndex_2 rfl (lv_at hl 2 rfl) ?_
      refine lv_aload_n hx hb dX3_nameIndex_3 rfl (lv_at hl 0 rfl) ?_
      refine r_getI C hW (ci := 3) kx0_2 ff_3_4 cl_3 fl_RX3_33 dX3_nameIndex_4 ?_
      refine q_ifc hm (fun c2001 hm => ?_) (fun c2001 hm => ?_)
      · refine lv_icmp_ge (tgt := 31) hx hb dX3_nameIndex_7 (by decide) (fun _ => ?_) (fun h => absurd c2001 h)
        refine lv_iconst (v := (-1)) hx hb dX3_nameIndex_31 (by decide) ?_
        exact e_i C hW hS hm dX3_nameIndex_32
      refine lv_icmp_ge (tgt := 31) hx hb dX3_nameIndex_7 (by decide) (fun h => absurd h c2001) (fun _ => ?_)
      refine lv_aload_n hx hb dX3_nameIndex_10 rfl (lv_at hl 0 rfl) ?_
      refine r_getF C hW (ci := 3) kx0_2 ff_3_1 cl_3 fl_RX3_23 dX3_nameIndex_11 (fun k2002 => ?_)
      refine lv_iload_n hx hb dX3_nameIndex_14 rfl (lv_at hl 2 rfl) ?_
      obtain ⟨v2004, hc2003, hm⟩ := q_b1i hm
      refine q_callV C hW hS (As := [.int x3_2]) (rest := []) (st1 := [.long v2004]) (c_X5_at l D al dt (al.2.2 x0_2 1) x3_2 k2002 v2004 hc2003) yl_X5_at vl_X5_at ml_RX3_106 (ci := 5) rfl k2002 (by decide) rfl ⟨Nat.le_of_ble_eq_true rfl, Nat.le_of_ble_eq_true rfl⟩ hl rfl (Nat.le_of_ble_eq_true rfl) dX3_nameIndex_15 ⟨Nat.le_refl _, Nat.le_refl _⟩ rfl (fun H locs k2005 hW hS => ?_)
      refine lv_lload_n hx hb dX3_nameIndex_18 rfl (lv_at hl 1 rfl) ?_
      refine W.lcmp hx hb dX3_nameIndex_19 ?_
      refine q_ifc hm (fun c2006 hm => ?_) (fun c2006 hm => ?_)
      · refine lv_if_ne (tgt := 25) hx hb dX3_nameIndex_20 (by decide) (fun h => absurd (q_cmp_eq.mpr c2006) h) (fun _ => ?_)
        refine lv_iload_n hx hb dX3_nameIndex_23 rfl (lv_at hl 2 rfl) ?_
        exact e_i C hW hS hm dX3_nameIndex_24
      refine lv_if_ne (tgt := 25) hx hb dX3_nameIndex_20 (by decide) (fun _ => ?_) (fun h => absurd (q_cmp_eq.mp h) c2006)
      refine lv_iinc (v := (x3_2 + 1)) (lv' := [(3, .int (x3_2 + 1)), (0, .ref x0_2), (1, .long x1_2)]) hx hb dX3_nameIndex_25 hl (k := 2) rfl rfl (by decide) rfl (fun ls hl => ?_)
      refine lv_goto (tgt := 2) hx hb dX3_nameIndex_28 (by decide) ?_
      exact ih2 (x3_2 + 1) _ _ _ hm hW hS (lv_sub hl [1, 2, 0] rfl)
  refine lv_iconst (v := 0) hx hb dX3_nameIndex_0 (by decide) ?_
  refine lv_istore_n (i := 3) (lv' := [(3, .int 0), (0, .ref x0), (1, .long x1)]) hx hb dX3_nameIndex_1 rfl hl (by decide) rfl (fun ls hl => ?_)
  exact hB2 x0 x1 kx0 q_FU 0 _ _ _ hm hW hS (lv_sub hl [1, 2, 0] rfl)
