theorem dX12_strongest_0 : decode cX12_strongest 0 = .ok (.aload_n 0, 1) := by decide +kernel
theorem dX12_strongest_1 : decode cX12_strongest 1 = .ok (.iload_n 1, 1) := by decide +kernel
theorem dX12_strongest_2 : decode cX12_strongest 2 = .ok (.invokevirtual 491, 3) := by decide +kernel
theorem dX12_strongest_5 : decode cX12_strongest 5 = .ok (.ifCond .eq 16, 3) := by decide +kernel
theorem dX12_strongest_8 : decode cX12_strongest 8 = .ok (.iload_n 2, 1) := by decide +kernel
theorem dX12_strongest_9 : decode cX12_strongest 9 = .ok (.iconst 0, 1) := by decide +kernel
theorem dX12_strongest_10 : decode cX12_strongest 10 = .ok (.aload_n 0, 1) := by decide +kernel
theorem dX12_strongest_11 : decode cX12_strongest 11 = .ok (.iload_n 1, 1) := by decide +kernel
theorem dX12_strongest_12 : decode cX12_strongest 12 = .ok (.invokevirtual 488, 3) := by decide +kernel
theorem dX12_strongest_15 : decode cX12_strongest 15 = .ok (.invokestatic 376, 3) := by decide +kernel
theorem dX12_strongest_18 : decode cX12_strongest 18 = .ok (.ifCond .ne 5, 3) := by decide +kernel
theorem dX12_strongest_21 : decode cX12_strongest 21 = .ok (.iconst (-1), 1) := by decide +kernel
theorem dX12_strongest_22 : decode cX12_strongest 22 = .ok (.ireturn, 1) := by decide +kernel
theorem dX12_strongest_23 : decode cX12_strongest 23 = .ok (.iconst 0, 1) := by decide +kernel
theorem dX12_strongest_24 : decode cX12_strongest 24 = .ok (.istore_n 3, 1) := by decide +kernel
theorem dX12_strongest_25 : decode cX12_strongest 25 = .ok (.iconst 0, 1) := by decide +kernel
theorem dX12_strongest_26 : decode cX12_strongest 26 = .ok (.istore 4, 2) := by decide +kernel
theorem dX12_strongest_28 : decode cX12_strongest 28 = .ok (.iload 4, 2) := by decide +kernel
theorem dX12_strongest_30 : decode cX12_strongest 30 = .ok (.iload_n 2, 1) := by decide +kernel
theorem dX12_strongest_31 : decode cX12_strongest 31 = .ok (.if_icmp .ge 78, 3) := by decide +kernel
theorem dX12_strongest_34 : decode cX12_strongest 34 = .ok (.iconst (-1), 1) := by decide +kernel
theorem dX12_strongest_35 : decode cX12_strongest 35 = .ok (.istore 5, 2) := by decide +kernel
theorem dX12_strongest_37 : decode cX12_strongest 37 = .ok (.iconst 0, 1) := by decide +kernel
theorem dX12_strongest_38 : decode cX12_strongest 38 = .ok (.istore 6, 2) := by decide +kernel
theorem dX12_strongest_40 : decode cX12_strongest 40 = .ok (.iload 6, 2) := by decide +kernel
theorem dX12_strongest_42 : decode cX12_strongest 42 = .ok (.aload_n 0, 1) := by decide +kernel
theorem dX12_strongest_43 : decode cX12_strongest 43 = .ok (.iload_n 1, 1) := by decide +kernel
theorem dX12_strongest_44 : decode cX12_strongest 44 = .ok (.invokevirtual 488, 3) := by decide +kernel
theorem dX12_strongest_47 : decode cX12_strongest 47 = .ok (.if_icmp .ge 49, 3) := by decide +kernel
theorem dX12_strongest_50 : decode cX12_strongest 50 = .ok (.iload_n 3, 1) := by decide +kernel
theorem dX12_strongest_51 : decode cX12_strongest 51 = .ok (.iload 6, 2) := by decide +kernel
theorem dX12_strongest_53 : decode cX12_strongest 53 = .ok (.ishr, 1) := by decide +kernel
theorem dX12_strongest_54 : decode cX12_strongest 54 = .ok (.iconst 1, 1) := by decide +kernel
theorem dX12_strongest_55 : decode cX12_strongest 55 = .ok (.iand, 1) := by decide +kernel
theorem dX12_strongest_56 : decode cX12_strongest 56 = .ok (.iconst 1, 1) := by decide +kernel
theorem dX12_strongest_57 : decode cX12_strongest 57 = .ok (.if_icmp .ne 6, 3) := by decide +kernel
theorem dX12_strongest_60 : decode cX12_strongest 60 = .ok (.goto 30, 3) := by decide +kernel
theorem dX12_strongest_63 : decode cX12_strongest 63 = .ok (.iload 5, 2) := by decide +kernel
theorem dX12_strongest_65 : decode cX12_strongest 65 = .ok (.iconst (-1), 1) := by decide +kernel
theorem dX12_strongest_66 : decode cX12_strongest 66 = .ok (.if_icmp .eq 20, 3) := by decide +kernel
theorem dX12_strongest_69 : decode cX12_strongest 69 = .ok (.aload_n 0, 1) := by decide +kernel
theorem dX12_strongest_70 : decode cX12_strongest 70 = .ok (.iload_n 1, 1) := by decide +kernel
theorem dX12_strongest_71 : decode cX12_strongest 71 = .ok (.iload 6, 2) := by decide +kernel
theorem dX12_strongest_73 : decode cX12_strongest 73 = .ok (.invokevirtual 506, 3) := by decide +kernel
theorem dX12_strongest_76 : decode cX12_strongest 76 = .ok (.aload_n 0, 1) := by decide +kernel
theorem dX12_strongest_77 : decode cX12_strongest 77 = .ok (.iload_n 1, 1) := by decide +kernel
theorem dX12_strongest_78 : decode cX12_strongest 78 = .ok (.iload 5, 2) := by decide +kernel
theorem dX12_strongest_80 : decode cX12_strongest 80 = .ok (.invokevirtual 506, 3) := by decide +kernel
theorem dX12_strongest_83 : decode cX12_strongest 83 = .ok (.if_icmp .le 7, 3) := by decide +kernel
theorem dX12_strongest_86 : decode cX12_strongest 86 = .ok (.iload 6, 2) := by decide +kernel
theorem dX12_strongest_88 : decode cX12_strongest 88 = .ok (.istore 5, 2) := by decide +kernel
theorem dX12_strongest_90 : decode cX12_strongest 90 = .ok (.iinc 6 1, 3) := by decide +kernel
theorem dX12_strongest_93 : decode cX12_strongest 93 = .ok (.goto (-53), 3) := by decide +kernel
theorem dX12_strongest_96 : decode cX12_strongest 96 = .ok (.iload_n 3, 1) := by decide +kernel
theorem dX12_strongest_97 : decode cX12_strongest 97 = .ok (.iconst 1, 1) := by decide +kernel
theorem dX12_strongest_98 : decode cX12_strongest 98 = .ok (.iload 5, 2) := by decide +kernel
theorem dX12_strongest_100 : decode cX12_strongest 100 = .ok (.ishl, 1) := by decide +kernel
theorem dX12_strongest_101 : decode cX12_strongest 101 = .ok (.ior, 1) := by decide +kernel
theorem dX12_strongest_102 : decode cX12_strongest 102 = .ok (.istore_n 3, 1) := by decide +kernel
theorem dX12_strongest_103 : decode cX12_strongest 103 = .ok (.iinc 4 1, 3) := by decide +kernel
theorem dX12_strongest_106 : decode cX12_strongest 106 = .ok (.goto (-78), 3) := by decide +kernel
theorem dX12_strongest_109 : decode cX12_strongest 109 = .ok (.iload_n 3, 1) := by decide +kernel
theorem dX12_strongest_110 : decode cX12_strongest 110 = .ok (.ireturn, 1) := by decide +kernel
set_option maxRecDepth 100000 in
theorem c_X12_strongest (l : Launch) (D : q_D) (al : q_Al) (dt : q_Dt) (x0 : Nat) (x1 : Int32) (x2 : Int32) (kx0 : al.1 x0 = 13) (r0 : Int32) (hm : X12_strongest al dt x0 x1 x2 = some r0) : q_Mt l yX12_strongest cX12_strongest 7 (some FieldType.int) 3 68 D al [.ref x0, .int x1, .int x2] dt 0 (some (.int r0)) dt := by
  refine q_Mt.of (by decide) (Nat.le_of_ble_eq_true rfl) ?_
  intro p e s m args below meth c ls C hargs hW hl
  have hx := C.1
  have hb := C.2.1
  have hown := C.2.2.2.2.2.1
  have hts := C.2.2.2.2.2.2.1
  have hS : va_S (q_A al) s.heap s.heap [] := va_S.rf
  have hl : lv_has ls 7 [(0, .ref x0), (1, .int x1), (2, .int x2)] := hl
  unfold X12_strongest at hm
  have hB28 : ∀ (x0_28 : Nat) (x1_28 : Int32) (x2_28 : Int32) (kx0_28 : al.1 x0_28 = 13) (n_28 : Nat) (x3_28 : Int32) (x4_28 : Int32) (H : Heap) (locs : List Loc) (ls : Array Slot) (hm : X12_strongest_b28 al dt x0_28 x1_28 x2_28 n_28 x3_28 x4_28 = some r0) (hW : q_W D al dt H) (hS : va_S (q_A al) s.heap H locs) (hl : lv_has ls 7 [(0, .ref x0_28), (1, .int x1_28), (2, .int x2_28), (3, .int x3_28), (4, .int x4_28)]), W p l e { frames := 3, cells := 0, slots := 0, locals := 68 } s m args below meth c H locs 0 0 (MQ below (q_Q (some (.int r0)) (fun H => q_W D al dt H ∧ q_Rk al 0 (some (.int r0))) (q_A al)) args s 0 0 (q_A al)) (F0 m 28 ls []) := by
    intro x0_28 x1_28 x2_28 kx0_28
    intro n_28
    induction n_28 with
    | zero => intro x3_28 x4_28 H locs ls hm hW hS hl; cases hm
    | succ n_28 ih28 =>
      have hB40 : ∀ (x3_40 : Int32) (x4_40 : Int32) (n_40 : Nat) (x5_40 : Int32) (x6_40 : Int32) (H : Heap) (locs : List Loc) (ls : Array Slot) (hm : X12_strongest_b40 al dt (X12_strongest_b28 al dt x0_28 x1_28 x2_28 n_28) x0_28 x1_28 x2_28 x3_40 x4_40 n_40 x5_40 x6_40 = some r0) (hW : q_W D al dt H) (hS : va_S (q_A al) s.heap H locs) (hl : lv_has ls 7 [(0, .ref x0_28), (1, .int x1_28), (2, .int x2_28), (3, .int x3_40), (4, .int x4_40), (5, .int x5_40), (6, .int x6_40)]), W p l e { frames := 3, cells := 0, slots := 0, locals := 68 } s m args below meth c H locs 0 0 (MQ below (q_Q (some (.int r0)) (fun H => q_W D al dt H ∧ q_Rk al 0 (some (.int r0))) (q_A al)) args s 0 0 (q_A al)) (F0 m 40 ls []) := by
        intro x3_40 x4_40
        intro n_40
        induction n_40 with
        | zero => intro x5_40 x6_40 H locs ls hm hW hS hl; cases hm
        | succ n_40 ih40 =>
          have hB90 : ∀ (x5_90 : Int32) (x6_90 : Int32) (H : Heap) (locs : List Loc) (ls : Array Slot) (hm : X12_strongest_b90 al dt (X12_strongest_b28 al dt x0_28 x1_28 x2_28 n_28) (X12_strongest_b40 al dt (X12_strongest_b28 al dt x0_28 x1_28 x2_28 n_28) x0_28 x1_28 x2_28 x3_40 x4_40 n_40) x0_28 x1_28 x2_28 x3_40 x4_40 x5_90 x6_90 = some r0) (hW : q_W D al dt H) (hS : va_S (q_A al) s.heap H locs) (hl : lv_has ls 7 [(0, .ref x0_28), (1, .int x1_28), (2, .int x2_28), (3, .int x3_40), (4, .int x4_40), (5, .int x5_90), (6, .int x6_90)]), W p l e { frames := 3, cells := 0, slots := 0, locals := 68 } s m args below meth c H locs 0 0 (MQ below (q_Q (some (.int r0)) (fun H => q_W D al dt H ∧ q_Rk al 0 (some (.int r0))) (q_A al)) args s 0 0 (q_A al)) (F0 m 90 ls []) := by
            intro x5_90 x6_90 H locs ls hm hW hS hl
            unfold X12_strongest_b90 at hm
            refine lv_iinc (v := (x6_90 + 1)) (lv' := [(6, .int (x6_90 + 1)), (0, .ref x0_28), (1, .int x1_28), (2, .int x2_28), (3, .int x3_40), (4, .int x4_40), (5, .int x5_90)]) hx hb dX12_strongest_90 hl (k := 6) rfl rfl (by decide) rfl (fun ls hl => ?_)
            refine lv_goto (tgt := 40) hx hb dX12_strongest_93 (by decide) ?_
            exact ih40 x5_90 (x6_90 + 1) _ _ _ hm hW hS (lv_sub hl [1, 2, 3, 4, 5, 6, 0] rfl)
          have hB86 : ∀ (x6_86 : Int32) (H : Heap) (locs : List Loc) (ls : Array Slot) (hm : X12_strongest_b86 al dt (X12_strongest_b28 al dt x0_28 x1_28 x2_28 n_28) (X12_strongest_b40 al dt (X12_strongest_b28 al dt x0_28 x1_28 x2_28 n_28) x0_28 x1_28 x2_28 x3_40 x4_40 n_40) x0_28 x1_28 x2_28 x3_40 x4_40 x6_86 = some r0) (hW : q_W D al dt H) (hS : va_S (q_A al) s.heap H locs) (hl : lv_has ls 7 [(0, .ref x0_28), (1, .int x1_28), (2, .int x2_28), (3, .int x3_40), (4, .int x4_40), (6, .int x6_86)]), W p l e { frames := 3, cells := 0, slots := 0, locals := 68 } s m args below meth c H locs 0 0 (MQ below (q_Q (some (.int r0)) (fun H => q_W D al dt H ∧ q_Rk al 0 (some (.int r0))) (q_A al)) args s 0 0 (q_A al)) (F0 m 86 ls []) := by
            intro x6_86 H locs ls hm hW hS hl
            unfold X12_strongest_b86 at hm
            refine lv_iload hx hb dX12_strongest_86 (lv_at hl 5 rfl) ?_
            refine lv_istore (i := 5) (lv' := [(5, .int x6_86), (0, .ref x0_28), (1, .int x1_28), (2, .int x2_28), (3, .int x3_40), (4, .int x4_40), (6, .int x6_86)]) hx hb dX12_strongest_88 hl (by decide) rfl (fun ls hl => ?_)
            exact hB90 x6_86 x6_86 _ _ _ hm hW hS (lv_sub hl [1, 2, 3, 4, 5, 0, 6] rfl)
          intro x5_40 x6_40 H locs ls hm hW hS hl
          rw [X12_strongest_b40] at hm
          refine lv_iload hx hb dX12_strongest_40 (lv_at hl 6 rfl) ?_
          refine lv_aload_n hx hb dX12_strongest_42 rfl (lv_at hl 0 rfl) ?_
          refine lv_iload_n hx hb dX12_strongest_43 rfl (lv_at hl 1 rfl) ?_
          obtain ⟨v40002, hc40001, hm⟩ := q_b1i hm
          refine q_callV C hW hS (As := [.int x1_28]) (rest := [.int x6_40]) (st1 := [.int v40002, .int x6_40]) (c_X12_p l D al dt x0_28 x1_28 kx0_28 v40002 hc40001) yl_X12_p vl_X12_p ml_RX12_488 (ci := 12) rfl kx0_28 (by decide) rfl ⟨Nat.le_of_ble_eq_true rfl, Nat.le_of_ble_eq_true rfl⟩ hl rfl (Nat.le_of_ble_eq_true rfl) dX12_strongest_44 ⟨Nat.le_refl _, Nat.le_refl _⟩ rfl (fun H locs k40003 hW hS => ?_)
          refine q_ifc hm (fun c40004 hm => ?_) (fun c40004 hm => ?_)
          · refine lv_icmp_ge (tgt := 96) hx hb dX12_strongest_47 (by decide) (fun _ => ?_) (fun h => absurd c40004 h)
            refine lv_iload_n hx hb dX12_strongest_96 rfl (lv_at hl 3 rfl) ?_
            refine lv_iconst (v := 1) hx hb dX12_strongest_97 (by decide) ?_
            refine lv_iload hx hb dX12_strongest_98 (lv_at hl 5 rfl) ?_
            refine lv_ishl hx hb dX12_strongest_100 ?_
            refine lv_ior hx hb dX12_strongest_101 ?_
            refine lv_istore_n (i := 3) (lv' := [(3, .int (x3_40 ||| (1 <<< (x5_40 &&& 31)))), (0, .ref x0_28), (1, .int x1_28), (2, .int x2_28), (4, .int x4_40), (5, .int x5_40), (6, .int x6_40)]) hx hb dX12_strongest_102 rfl hl (by decide) rfl (fun ls hl => ?_)
            refine lv_iinc (v := (x4_40 + 1)) (lv' := [(4, .int (x4_40 + 1)), (3, .int (x3_40 ||| (1 <<< (x5_40 &&& 31)))), (0, .ref x0_28), (1, .int x1_28), (2, .int x2_28), (5, .int x5_40), (6, .int x6_40)]) hx hb dX12_strongest_103 hl (k := 4) rfl rfl (by decide) rfl (fun ls hl => ?_)
            refine lv_goto (tgt := 28) hx hb dX12_strongest_106 (by decide) ?_
            exact ih28 (x3_40 ||| (1 <<< (x5_40 &&& 31))) (x4_40 + 1) _ _ _ hm hW hS (lv_sub hl [2, 3, 4, 1, 0] rfl)
          refine lv_icmp_ge (tgt := 96) hx hb dX12_strongest_47 (by decide) (fun h => absurd h c40004) (fun _ => ?_)
          refine lv_iload_n hx hb dX12_strongest_50 rfl (lv_at hl 3 rfl) ?_
          refine lv_iload hx hb dX12_strongest_51 (lv_at hl 6 rfl) ?_
          refine lv_ishr hx hb dX12_strongest_53 ?_
          refine lv_iconst (v := 1) hx hb dX12_strongest_54 (by decide) ?_
          refine lv_iand hx hb dX12_strongest_55 ?_
          refine lv_iconst (v := 1) hx hb dX12_strongest_56 (by decide) ?_
          refine q_ifc hm (fun c40005 hm => ?_) (fun c40005 hm => ?_)
          · refine lv_icmp_ne (tgt := 63) hx hb dX12_strongest_57 (by decide) (fun h => absurd c40005 h) (fun _ => ?_)
            refine lv_goto (tgt := 90) hx hb dX12_strongest_60 (by decide) ?_
            exact hB90 x5_40 x6_40 _ _ _ hm hW hS (lv_sub hl [0, 1, 2, 3, 4, 5, 6] rfl)
          refine lv_icmp_ne (tgt := 63) hx hb dX12_strongest_57 (by decide) (fun _ => ?_) (fun h => absurd h c40005)
          refine lv_iload hx hb dX12_strongest_63 (lv_at hl 5 rfl) ?_
          refine lv_iconst (v := (-1)) hx hb dX12_strongest_65 (by decide) ?_
          refine q_ifc hm (fun c40006 hm => ?_) (fun c40006 hm => ?_)
          · refine lv_icmp_eq (tgt := 86) hx hb dX12_strongest_66 (by decide) (fun _ => ?_) (fun h => absurd c40006 h)
            exact hB86 x6_40 _ _ _ hm hW hS (lv_sub hl [0, 1, 2, 3, 4, 6] rfl)
          refine lv_icmp_eq (tgt := 86) hx hb dX12_strongest_66 (by decide) (fun h => absurd h c40006) (fun _ => ?_)
          refine lv_aload_n hx hb dX12_strongest_69 rfl (lv_at hl 0 rfl) ?_
          refine lv_iload_n hx hb dX12_strongest_70 rfl (lv_at hl 1 rfl) ?_
          refine lv_iload hx hb dX12_strongest_71 (lv_at hl 6 rfl) ?_
          obtain ⟨v40008, hc40007, hm⟩ := q_b1i hm
          refine q_callV C hW hS (As := [.int x1_28, .int x6_40]) (rest := []) (st1 := [.int v40008]) (c_X12_slotsOn l D al dt x0_28 x1_28 x6_40 kx0_28 v40008 hc40007) yl_X12_slotsOn vl_X12_slotsOn ml_RX12_506 (ci := 12) rfl kx0_28 (by decide) rfl ⟨Nat.le_of_ble_eq_true rfl, Nat.le_of_ble_eq_true rfl⟩ hl rfl (Nat.le_of_ble_eq_true rfl) dX12_strongest_73 ⟨Nat.le_refl _, Nat.le_refl _⟩ rfl (fun H locs k40009 hW hS => ?_)
          refine lv_aload_n hx hb dX12_strongest_76 rfl (lv_at hl 0 rfl) ?_
          refine lv_iload_n hx hb dX12_strongest_77 rfl (lv_at hl 1 rfl) ?_
          refine lv_iload hx hb dX12_strongest_78 (lv_at hl 5 rfl) ?_
          obtain ⟨v40011, hc40010, hm⟩ := q_b1i hm
          refine q_callV C hW hS (As := [.int x1_28, .int x5_40]) (rest := [.int v40008]) (st1 := [.int v40011, .int v40008]) (c_X12_slotsOn l D al dt x0_28 x1_28 x5_40 kx0_28 v40011 hc40010) yl_X12_slotsOn vl_X12_slotsOn ml_RX12_506 (ci := 12) rfl kx0_28 (by decide) rfl ⟨Nat.le_of_ble_eq_true rfl, Nat.le_of_ble_eq_true rfl⟩ hl rfl (Nat.le_of_ble_eq_true rfl) dX12_strongest_80 ⟨Nat.le_refl _, Nat.le_refl _⟩ rfl (fun H locs k40012 hW hS => ?_)
          refine q_ifc hm (fun c40013 hm => ?_) (fun c40013 hm => ?_)
          · refine lv_icmp_le (tgt := 90) hx hb dX12_strongest_83 (by decide) (fun _ => ?_) (fun h => absurd c40013 h)
            exact hB90 x5_40 x6_40 _ _ _ hm hW hS (lv_sub hl [0, 1, 2, 3, 4, 5, 6] rfl)
          refine lv_icmp_le (tgt := 90) hx hb dX12_strongest_83 (by decide) (fun h => absurd h c40013) (fun _ => ?_)
          exact hB86 x6_40 _ _ _ hm hW hS (lv_sub hl [0, 1, 2, 3, 4, 6] rfl)
      intro x3_28 x4_28 H locs ls hm hW hS hl
      rw [X12_strongest_b28] at hm
      refine lv_iload hx hb dX12_strongest_28 (lv_at hl 4 rfl) ?_
      refine lv_iload_n hx hb dX12_strongest_30 rfl (lv_at hl 2 rfl) ?_
      refine q_ifc hm (fun c28001 hm => ?_) (fun c28001 hm => ?_)
      · refine lv_icmp_ge (tgt := 109) hx hb dX12_strongest_31 (by decide) (fun _ => ?_) (fun h => absurd c28001 h)
        refine lv_iload_n hx hb dX12_strongest_109 rfl (lv_at hl 3 rfl) ?_
        exact e_i C hW hS hm dX12_strongest_110
      refine lv_icmp_ge (tgt := 109) hx hb dX12_strongest_31 (by decide) (fun h => absurd h c28001) (fun _ => ?_)
      refine lv_iconst (v := (-1)) hx hb dX12_strongest_34 (by decide) ?_
      refine lv_istore (i := 5) (lv' := [(5, .int (-1)), (0, .ref x0_28), (1, .int x1_28), (2, .int x2_28), (3, .int x3_28), (4, .int x4_28)]) hx hb dX12_strongest_35 hl (by decide) rfl (fun ls hl => ?_)
      refine lv_iconst (v := 0) hx hb dX12_strongest_37 (by decide) ?_
      refine lv_istore (i := 6) (lv' := [(6, .int 0), (5, .int (-1)), (0, .ref x0_28), (1, .int x1_28), (2, .int x2_28), (3, .int x3_28), (4, .int x4_28)]) hx hb dX12_strongest_38 hl (by decide) rfl (fun ls hl => ?_)
      exact hB40 x3_28 x4_28 q_FU (-1) 0 _ _ _ hm hW hS (lv_sub hl [2, 3, 4, 5, 6, 1, 0] rfl)
  refine lv_aload_n hx hb dX12_strongest_0 rfl (lv_at hl 0 rfl) ?_
  refine lv_iload_n hx hb dX12_strongest_1 rfl (lv_at hl 1 rfl) ?_
  obtain ⟨v1000002, hc1000001, hm⟩ := q_b1i hm
  refine q_callV C hW hS (As := [.int x1]) (rest := []) (st1 := [.int v1000002]) (c_X12_isHop l D al dt x0 x1 kx0 v1000002 hc1000001) yl_X12_isHop vl_X12_isHop ml_RX12_491 (ci := 12) rfl kx0 (by decide) rfl ⟨Nat.le_of_ble_eq_true rfl, Nat.le_of_ble_eq_true rfl⟩ hl rfl (Nat.le_of_ble_eq_true rfl) dX12_strongest_2 ⟨Nat.le_refl _, Nat.le_refl _⟩ rfl (fun H locs k1000003 hW hS => ?_)
  refine q_ifc hm (fun c1000004 hm => ?_) (fun c1000004 hm => ?_)
  · refine lv_if_eq (tgt := 21) hx hb dX12_strongest_5 (by decide) (fun _ => ?_) (fun h => absurd c1000004 h)
    refine lv_iconst (v := (-1)) hx hb dX12_strongest_21 (by decide) ?_
    exact e_i C hW hS hm dX12_strongest_22
  refine lv_if_eq (tgt := 21) hx hb dX12_strongest_5 (by decide) (fun h => absurd h c1000004) (fun _ => ?_)
  refine lv_iload_n hx hb dX12_strongest_8 rfl (lv_at hl 2 rfl) ?_
  refine lv_iconst (v := 0) hx hb dX12_strongest_9 (by decide) ?_
  refine lv_aload_n hx hb dX12_strongest_10 rfl (lv_at hl 0 rfl) ?_
  refine lv_iload_n hx hb dX12_strongest_11 rfl (lv_at hl 1 rfl) ?_
  obtain ⟨v1000006, hc1000005, hm⟩ := q_b1i hm
  refine q_callV C hW hS (As := [.int x1]) (rest := [.int 0, .int x2]) (st1 := [.int v1000006, .int 0, .int x2]) (c_X12_p l D al dt x0 x1 kx0 v1000006 hc1000005) yl_X12_p vl_X12_p ml_RX12_488 (ci := 12) rfl kx0 (by decide) rfl ⟨Nat.le_of_ble_eq_true rfl, Nat.le_of_ble_eq_true rfl⟩ hl rfl (Nat.le_of_ble_eq_true rfl) dX12_strongest_12 ⟨Nat.le_refl _, Nat.le_refl _⟩ rfl (fun H locs k1000007 hW hS => ?_)
  obtain ⟨v1000009, hc1000008, hm⟩ := q_b1i hm
  refine q_callS C hW hS (As := [.int x2, .int 0, .int v1000006]) (rest := []) (st1 := [.int v1000009]) (c_X12_in l D al dt x2 0 v1000006 v1000009 hc1000008) yl_X12_in sl_X12_in ml_RX12_376 rfl ⟨Nat.le_of_ble_eq_true rfl, Nat.le_of_ble_eq_true rfl⟩ hl rfl (Nat.le_of_ble_eq_true rfl) dX12_strongest_15 ⟨Nat.le_refl _, Nat.le_refl _⟩ rfl (fun H locs k1000010 hW hS => ?_)
  refine q_ifc hm (fun c1000011 hm => ?_) (fun c1000011 hm => ?_)
  · refine lv_if_ne (tgt := 23) hx hb dX12_strongest_18 (by decide) (fun h => absurd c1000011 h) (fun _ => ?_)
    refine lv_iconst (v := (-1)) hx hb dX12_strongest_21 (by decide) ?_
    exact e_i C hW hS hm dX12_strongest_22
  refine lv_if_ne (tgt := 23) hx hb dX12_strongest_18 (by decide) (fun _ => ?_) (fun h => absurd h c1000011)
  refine lv_iconst (v := 0) hx hb dX12_strongest_23 (by decide) ?_
  refine lv_istore_n (i := 3) (lv' := [(3, .int 0), (0, .ref x0), (1, .int x1), (2, .int x2)]) hx hb dX12_strongest_24 rfl hl (by decide) rfl (fun ls hl => ?_)
  refine lv_iconst (v := 0) hx hb dX12_strongest_25 (by decide) ?_
  refine lv_istore (i := 4) (lv' := [(4, .int 0), (3, .int 0), (0, .ref x0), (1, .int x1), (2, .int x2)]) hx hb dX12_strongest_26 hl (by decide) rfl (fun ls hl => ?_)
  exact hB28 x0 x1 x2 kx0 q_FU 0 0 _ _ _ hm hW hS (lv_sub hl [2, 3, 4, 1, 0] rfl)
theorem dX12_hold_0 : decode cX12_hold 0 = .ok (.iload_n 1, 1) := by decide +kernel
theorem dX12_hold_1 : decode cX12_hold 1 = .ok (.iconst 0, 1) := by decide +kernel
theorem dX12_hold_2 : decode cX12_hold 2 = .ok (.iconst 2, 1) := by decide +kernel
theorem dX12_hold_3 : decode cX12_hold 3 = .ok (.invokestatic 376, 3) := by decide +kernel
theorem dX12_hold_6 : decode cX12_hold 6 = .ok (.ifCond .ne 5, 3) := by decide +kernel
theorem dX12_hold_9 : decode cX12_hold 9 = .ok (.iconst 0, 1) := by decide +kernel
theorem dX12_hold_10 : decode cX12_hold 10 = .ok (.ireturn, 1) := by decide +kernel
theorem dX12_hold_11 : decode cX12_hold 11 = .ok (.aload_n 0, 1) := by decide +kernel
theorem dX12_hold_12 : decode cX12_hold 12 = .ok (.getfield 164, 3) := by decide +kernel
theorem dX12_hold_15 : decode cX12_hold 15 = .ok (.iload_n 1, 1) := by decide +kernel
theorem dX12_hold_16 : decode cX12_hold 16 = .ok (.iconst 1, 1) := by decide +kernel
theorem dX12_hold_17 : decode cX12_hold 17 = .ok (.bastore, 1) := by decide +kernel
theorem dX12_hold_18 : decode cX12_hold 18 = .ok (.iconst 0, 1) := by decide +kernel
theorem dX12_hold_19 : decode cX12_hold 19 = .ok (.istore_n 2, 1) := by decide +kernel
theorem dX12_hold_20 : decode cX12_hold 20 = .ok (.iload_n 2, 1) := by decide +kernel
theorem dX12_hold_21 : decode cX12_hold 21 = .ok (.sipush 1024, 3) := by decide +kernel
theorem dX12_hold_24 : decode cX12_hold 24 = .ok (.if_icmp .ge 27, 3) := by decide +kernel
theorem dX12_hold_27 : decode cX12_hold 27 = .ok (.aload_n 0, 1) := by decide +kernel
theorem dX12_hold_28 : decode cX12_hold 28 = .ok (.getfield 167, 3) := by decide +kernel
theorem dX12_hold_31 : decode cX12_hold 31 = .ok (.sipush 1024, 3) := by decide +kernel
theorem dX12_hold_34 : decode cX12_hold 34 = .ok (.iload_n 1, 1) := by decide +kernel
theorem dX12_hold_35 : decode cX12_hold 35 = .ok (.imul, 1) := by decide +kernel
theorem dX12_hold_36 : decode cX12_hold 36 = .ok (.iload_n 2, 1) := by decide +kernel
theorem dX12_hold_37 : decode cX12_hold 37 = .ok (.iadd, 1) := by decide +kernel
theorem dX12_hold_38 : decode cX12_hold 38 = .ok (.aload_n 0, 1) := by decide +kernel
theorem dX12_hold_39 : decode cX12_hold 39 = .ok (.getfield 133, 3) := by decide +kernel
theorem dX12_hold_42 : decode cX12_hold 42 = .ok (.iload_n 2, 1) := by decide +kernel
theorem dX12_hold_43 : decode cX12_hold 43 = .ok (.iaload, 1) := by decide +kernel
theorem dX12_hold_44 : decode cX12_hold 44 = .ok (.iastore, 1) := by decide +kernel
theorem dX12_hold_45 : decode cX12_hold 45 = .ok (.iinc 2 1, 3) := by decide +kernel
theorem dX12_hold_48 : decode cX12_hold 48 = .ok (.goto (-28), 3) := by decide +kernel
theorem dX12_hold_51 : decode cX12_hold 51 = .ok (.iconst 1, 1) := by decide +kernel
theorem dX12_hold_52 : decode cX12_hold 52 = .ok (.ireturn, 1) := by decide +kernel
set_option maxRecDepth 100000 in
theorem c_X12_hold (l : Launch) (D : q_D) (al : q_Al) (dt : q_Dt) (x0 : Nat) (x1 : Int32) (kx0 : al.1 x0 = 13) (r0 : Int32) (dt0 : q_Dt) (hm : X12_hold al dt x0 x1 = some (r0, dt0)) : q_Mt l yX12_hold cX12_hold 3 (some FieldType.boolean) 1 22 D al [.ref x0, .int x1] dt 0 (some (.int r0)) dt0 := by
  refine q_Mt.of (by decide) (Nat.le_of_ble_eq_true rfl) ?_
  intro p e s m args below meth c ls C hargs hW hl
  have hx := C.1
  have hb := C.2.1
  have hown := C.2.2.2.2.2.1
  have hts := C.2.2.2.2.2.2.1
  have hS : va_S (q_A al) s.heap s.heap [] := va_S.rf
  have hl : lv_has ls 3 [(0, .ref x0), (1, .int x1)] := hl
  unfold X12_hold at hm
  have hB20 : ∀ (x0_20 : Nat) (x1_20 : Int32) (kx0_20 : al.1 x0_20 = 13) (n_20 : Nat) (x2_20 : Int32) (dt : q_Dt) (H : Heap) (locs : List Loc) (ls : Array Slot) (hm : X12_hold_b20 al x0_20 x1_20 n_20 x2_20 dt = some (r0, dt0)) (hW : q_W D al dt H) (hS : va_S (q_A al) s.heap H locs) (hl : lv_has ls 3 [(0, .ref x0_20), (1, .int x1_20), (2, .int x2_20)]), W p l e { frames := 1, cells := 0, slots := 0, locals := 22 } s m args below meth c H locs 0 0 (MQ below (q_Q (some (.int r0)) (fun H => q_W D al dt0 H ∧ q_Rk al 0 (some (.int r0))) (q_A al)) args s 0 0 (q_A al)) (F0 m 20 ls []) := by
    intro x0_20 x1_20 kx0_20
    intro n_20
    induction n_20 with
    | zero => intro x2_20 dt H locs ls hm hW hS hl; cases hm
    | succ n_20 ih20 =>
      intro x2_20 dt H locs ls hm hW hS hl
      rw [X12_hold_b20] at hm
      refine lv_iload_n hx hb dX12_hold_20 rfl (lv_at hl 2 rfl) ?_
      refine lv_sipush (v := 1024) hx hb dX12_hold_21 (by decide) ?_
      refine q_ifc hm (fun c20001 hm => ?_) (fun c20001 hm => ?_)
      · refine lv_icmp_ge (tgt := 51) hx hb dX12_hold_24 (by decide) (fun _ => ?_) (fun h => absurd c20001 h)
        refine lv_iconst (v := 1) hx hb dX12_hold_51 (by decide) ?_
        exact e_zlD C hW hS (Or.inr rfl) hm dX12_hold_52
      refine lv_icmp_ge (tgt := 51) hx hb dX12_hold_24 (by decide) (fun h => absurd h c20001) (fun _ => ?_)
      refine lv_aload_n hx hb dX12_hold_27 rfl (lv_at hl 0 rfl) ?_
      refine r_getF C hW (ci := 12) kx0_20 ff_12_66 cl_12 fl_RX12_167 dX12_hold_28 (fun k20002 => ?_)
      refine lv_sipush (v := 1024) hx hb dX12_hold_31 (by decide) ?_
      refine lv_iload_n hx hb dX12_hold_34 rfl (lv_at hl 1 rfl) ?_
      refine lv_imul hx hb dX12_hold_35 ?_
      refine lv_iload_n hx hb dX12_hold_36 rfl (lv_at hl 2 rfl) ?_
      refine lv_iadd hx hb dX12_hold_37 ?_
      refine lv_aload_n hx hb dX12_hold_38 rfl (lv_at hl 0 rfl) ?_
      refine r_getF C hW (ci := 12) kx0_20 ff_12_53 cl_12 fl_RX12_133 dX12_hold_39 (fun k20003 => ?_)
      refine lv_iload_n hx hb dX12_hold_42 rfl (lv_at hl 2 rfl) ?_
      refine r_iald C hW hm k20003 dX12_hold_43 (fun hm => ?_)
      refine r_iast C hW hS hm k20002 dX12_hold_44 (fun dt20004 H locs hm hW hS => ?_)
      refine lv_iinc (v := (x2_20 + 1)) (lv' := [(2, .int (x2_20 + 1)), (0, .ref x0_20), (1, .int x1_20)]) hx hb dX12_hold_45 hl (k := 2) rfl rfl (by decide) rfl (fun ls hl => ?_)
      refine lv_goto (tgt := 20) hx hb dX12_hold_48 (by decide) ?_
      exact ih20 (x2_20 + 1) dt20004 _ _ _ hm hW hS (lv_sub hl [1, 2, 0] rfl)
  refine lv_iload_n hx hb dX12_hold_0 rfl (lv_at hl 1 rfl) ?_
  refine lv_iconst (v := 0) hx hb dX12_hold_1 (by decide) ?_
  refine lv_iconst (v := 2) hx hb dX12_hold_2 (by decide) ?_
  obtain ⟨v1000002, hc1000001, hm⟩ := q_b1i hm
  refine q_callS C hW hS (As := [.int x1, .int 0, .int 2]) (rest := []) (st1 := [.int v1000002]) (c_X12_in l D al dt x1 0 2 v1000002 hc1000001) yl_X12_in sl_X12_in ml_RX12_376 rfl ⟨Nat.le_of_ble_eq_true rfl, Nat.le_of_ble_eq_true rfl⟩ hl rfl (Nat.le_of_ble_eq_true rfl) dX12_hold_3 ⟨Nat.le_refl _, Nat.le_refl _⟩ rfl (fun H locs k1000003 hW hS => ?_)
  refine q_ifc hm (fun c1000004 hm => ?_) (fun c1000004 hm => ?_)
  · refine lv_if_ne (tgt := 11) hx hb dX12_hold_6 (by decide) (fun h => absurd c1000004 h) (fun _ => ?_)
    refine lv_iconst (v := 0) hx hb dX12_hold_9 (by decide) ?_
    exact e_zlD C hW hS (Or.inl rfl) hm dX12_hold_10
  refine lv_if_ne (tgt := 11) hx hb dX12_hold_6 (by decide) (fun _ => ?_) (fun h => absurd h c1000004)
  refine lv_aload_n hx hb dX12_hold_11 rfl (lv_at hl 0 rfl) ?_
  refine r_getF C hW (ci := 12) kx0 ff_12_65 cl_12 fl_RX12_164 dX12_hold_12 (fun k1000005 => ?_)
  refine lv_iload_n hx hb dX12_hold_15 rfl (lv_at hl 1 rfl) ?_
  refine lv_iconst (v := 1) hx hb dX12_hold_16 (by decide) ?_
  refine r_zast C hW hS hm k1000005 dX12_hold_17 (fun dt1000006 H locs hm hW hS => ?_)
  refine lv_iconst (v := 0) hx hb dX12_hold_18 (by decide) ?_
  refine lv_istore_n (i := 2) (lv' := [(2, .int 0), (0, .ref x0), (1, .int x1)]) hx hb dX12_hold_19 rfl hl (by decide) rfl (fun ls hl => ?_)
  exact hB20 x0 x1 kx0 q_FU 0 dt1000006 _ _ _ hm hW hS (lv_sub hl [1, 2, 0] rfl)
theorem dX12_restore_0 : decode cX12_restore 0 = .ok (.iload_n 1, 1) := by decide +kernel
theorem dX12_restore_1 : decode cX12_restore 1 = .ok (.iconst 0, 1) := by decide +kernel
theorem dX12_restore_2 : decode cX12_restore 2 = .ok (.iconst 2, 1) := by decide +kernel
theorem dX12_restore_3 : decode cX12_restore 3 = .ok (.invokestatic 376, 3) := by decide +kernel
theorem dX12_restore_6 : decode cX12_restore 6 = .ok (.ifCond .eq 12, 3) := by decide +kernel
theorem dX12_restore_9 : decode cX12_restore 9 = .ok (.aload_n 0, 1) := by decide +kernel
theorem dX12_restore_10 : decode cX12_restore 10 = .ok (.getfield 164, 3) := by decide +kernel
theorem dX12_restore_13 : decode cX12_restore 13 = .ok (.iload_n 1, 1) := by decide +kernel
theorem dX12_restore_14 : decode cX12_restore 14 = .ok (.baload, 1) := by decide +kernel
theorem dX12_restore_15 : decode cX12_restore 15 = .ok (.ifCond .ne 5, 3) := by decide +kernel
theorem dX12_restore_18 : decode cX12_restore 18 = .ok (.iconst 0, 1) := by decide +kernel
theorem dX12_restore_19 : decode cX12_restore 19 = .ok (.ireturn, 1) := by decide +kernel
theorem dX12_restore_20 : decode cX12_restore 20 = .ok (.iconst 0, 1) := by decide +kernel
theorem dX12_restore_21 : decode cX12_restore 21 = .ok (.istore_n 2, 1) := by decide +kernel
theorem dX12_restore_22 : decode cX12_restore 22 = .ok (.iload_n 2, 1) := by decide +kernel
theorem dX12_restore_23 : decode cX12_restore 23 = .ok (.sipush 1024, 3) := by decide +kernel
theorem dX12_restore_26 : decode cX12_restore 26 = .ok (.if_icmp .ge 27, 3) := by decide +kernel
theorem dX12_restore_29 : decode cX12_restore 29 = .ok (.aload_n 0, 1) := by decide +kernel
theorem dX12_restore_30 : decode cX12_restore 30 = .ok (.getfield 133, 3) := by decide +kernel
theorem dX12_restore_33 : decode cX12_restore 33 = .ok (.iload_n 2, 1) := by decide +kernel
theorem dX12_restore_34 : decode cX12_restore 34 = .ok (.aload_n 0, 1) := by decide +kernel
theorem dX12_restore_35 : decode cX12_restore 35 = .ok (.getfield 167, 3) := by decide +kernel
theorem dX12_restore_38 : decode cX12_restore 38 = .ok (.sipush 1024, 3) := by decide +kernel
theorem dX12_restore_41 : decode cX12_restore 41 = .ok (.iload_n 1, 1) := by decide +kernel
theorem dX12_restore_42 : decode cX12_restore 42 = .ok (.imul, 1) := by decide +kernel
theorem dX12_restore_43 : decode cX12_restore 43 = .ok (.iload_n 2, 1) := by decide +kernel
theorem dX12_restore_44 : decode cX12_restore 44 = .ok (.iadd, 1) := by decide +kernel
theorem dX12_restore_45 : decode cX12_restore 45 = .ok (.iaload, 1) := by decide +kernel
theorem dX12_restore_46 : decode cX12_restore 46 = .ok (.iastore, 1) := by decide +kernel
theorem dX12_restore_47 : decode cX12_restore 47 = .ok (.iinc 2 1, 3) := by decide +kernel
theorem dX12_restore_50 : decode cX12_restore 50 = .ok (.goto (-28), 3) := by decide +kernel
theorem dX12_restore_53 : decode cX12_restore 53 = .ok (.iconst 1, 1) := by decide +kernel
theorem dX12_restore_54 : decode cX12_restore 54 = .ok (.ireturn, 1) := by decide +kernel
set_option maxRecDepth 100000 in
theorem c_X12_restore (l : Launch) (D : q_D) (al : q_Al) (dt : q_Dt) (x0 : Nat) (x1 : Int32) (kx0 : al.1 x0 = 13) (r0 : Int32) (dt0 : q_Dt) (hm : X12_restore al dt x0 x1 = some (r0, dt0)) : q_Mt l yX12_restore cX12_restore 3 (some FieldType.boolean) 1 22 D al [.ref x0, .int x1] dt 0 (some (.int r0)) dt0 := by
  refine q_Mt.of (by decide) (Nat.le_of_ble_eq_true rfl) ?_
  intro p e s m args below meth c ls C hargs hW hl
  have hx := C.1
  have hb := C.2.1
  have hown := C.2.2.2.2.2.1
  have hts := C.2.2.2.2.2.2.1
  have hS : va_S (q_A al) s.heap s.heap [] := va_S.rf
  have hl : lv_has ls 3 [(0, .ref x0), (1, .int x1)] := hl
  unfold X12_restore at hm
  have hB22 : ∀ (x0_22 : Nat) (x1_22 : Int32) (kx0_22 : al.1 x0_22 = 13) (n_22 : Nat) (x2_22 : Int32) (dt : q_Dt) (H : Heap) (locs : List Loc) (ls : Array Slot) (hm : X12_restore_b22 al x0_22 x1_22 n_22 x2_22 dt = some (r0, dt0)) (hW : q_W D al dt H) (hS : va_S (q_A al) s.heap H locs) (hl : lv_has ls 3 [(0, .ref x0_22), (1, .int x1_22), (2, .int x2_22)]), W p l e { frames := 1, cells := 0, slots := 0, locals := 22 } s m args below meth c H locs 0 0 (MQ below (q_Q (some (.int r0)) (fun H => q_W D al dt0 H ∧ q_Rk al 0 (some (.int r0))) (q_A al)) args s 0 0 (q_A al)) (F0 m 22 ls []) := by
    intro x0_22 x1_22 kx0_22
    intro n_22
    induction n_22 with
    | zero => intro x2_22 dt H locs ls hm hW hS hl; cases hm
    | succ n_22 ih22 =>
      intro x2_22 dt H locs ls hm hW hS hl
      rw [X12_restore_b22] at hm
      refine lv_iload_n hx hb dX12_restore_22 rfl (lv_at hl 2 rfl) ?_
      refine lv_sipush (v := 1024) hx hb dX12_restore_23 (by decide) ?_
      refine q_ifc hm (fun c22001 hm => ?_) (fun c22001 hm => ?_)
      · refine lv_icmp_ge (tgt := 53) hx hb dX12_restore_26 (by decide) (fun _ => ?_) (fun h => absurd c22001 h)
        refine lv_iconst (v := 1) hx hb dX12_restore_53 (by decide) ?_
        exact e_zlD C hW hS (Or.inr rfl) hm dX12_restore_54
      refine lv_icmp_ge (tgt := 53) hx hb dX12_restore_26 (by decide) (fun h => absurd h c22001) (fun _ => ?_)
      refine lv_aload_n hx hb dX12_restore_29 rfl (lv_at hl 0 rfl) ?_
      refine r_getF C hW (ci := 12) kx0_22 ff_12_53 cl_12 fl_RX12_133 dX12_restore_30 (fun k22002 => ?_)
      refine lv_iload_n hx hb dX12_restore_33 rfl (lv_at hl 2 rfl) ?_
      refine lv_aload_n hx hb dX12_restore_34 rfl (lv_at hl 0 rfl) ?_
      refine r_getF C hW (ci := 12) kx0_22 ff_12_66 cl_12 fl_RX12_167 dX12_restore_35 (fun k22003 => ?_)
      refine lv_sipush (v := 1024) hx hb dX12_restore_38 (by decide) ?_
      refine lv_iload_n hx hb dX12_restore_41 rfl (lv_at hl 1 rfl) ?_
      refine lv_imul hx hb dX12_restore_42 ?_
      refine lv_iload_n hx hb dX12_restore_43 rfl (lv_at hl 2 rfl) ?_
      refine lv_iadd hx hb dX12_restore_44 ?_
      refine r_iald C hW hm k22003 dX12_restore_45 (fun hm => ?_)
      refine r_iast C hW hS hm k22002 dX12_restore_46 (fun dt22004 H locs hm hW hS => ?_)
      refine lv_iinc (v := (x2_22 + 1)) (lv' := [(2, .int (x2_22 + 1)), (0, .ref x0_22), (1, .int x1_22)]) hx hb dX12_restore_47 hl (k := 2) rfl rfl (by decide) rfl (fun ls hl => ?_)
      refine lv_goto (tgt := 22) hx hb dX12_restore_50 (by decide) ?_
      exact ih22 (x2_22 + 1) dt22004 _ _ _ hm hW hS (lv_sub hl [1, 2, 0] rfl)
  refine lv_iload_n hx hb dX12_restore_0 rfl (lv_at hl 1 rfl) ?_
  refine lv_iconst (v := 0) hx hb dX12_restore_1 (by decide) ?_
  refine lv_iconst (v := 2) hx hb dX12_restore_2 (by decide) ?_
  obtain ⟨v1000002, hc1000001, hm⟩ := q_b1i hm
  refine q_callS C hW hS (As := [.int x1, .int 0, .int 2]) (rest := []) (st1 := [.int v1000002]) (c_X12_in l D al dt x1 0 2 v1000002 hc1000001) yl_X12_in sl_X12_in ml_RX12_376 rfl ⟨Nat.le_of_ble_eq_true rfl, Nat.le_of_ble_eq_true rfl⟩ hl rfl (Nat.le_of_ble_eq_true rfl) dX12_restore_3 ⟨Nat.le_refl _, Nat.le_refl _⟩ rfl (fun H locs k1000003 hW hS => ?_)
  refine q_ifc hm (fun c1000004 hm => ?_) (fun c1000004 hm => ?_)
  · refine lv_if_eq (tgt := 18) hx hb dX12_restore_6 (by decide) (fun _ => ?_) (fun h => absurd c1000004 h)
    refine lv_iconst (v := 0) hx hb dX12_restore_18 (by decide) ?_
    exact e_zlD C hW hS (Or.inl rfl) hm dX12_restore_19
  refine lv_if_eq (tgt := 18) hx hb dX12_restore_6 (by decide) (fun h => absurd h c1000004) (fun _ => ?_)
  refine lv_aload_n hx hb dX12_restore_9 rfl (lv_at hl 0 rfl) ?_
  refine r_getF C hW (ci := 12) kx0 ff_12_65 cl_12 fl_RX12_164 dX12_restore_10 (fun k1000005 => ?_)
  refine lv_iload_n hx hb dX12_restore_13 rfl (lv_at hl 1 rfl) ?_
  refine r_zald C hW hm k1000005 dX12_restore_14 (fun hm => ?_)
  refine q_ifc hm (fun c1000006 hm => ?_) (fun c1000006 hm => ?_)
  · refine lv_if_ne (tgt := 20) hx hb dX12_restore_15 (by decide) (fun h => absurd c1000006 h) (fun _ => ?_)
    refine lv_iconst (v := 0) hx hb dX12_restore_18 (by decide) ?_
    exact e_zlD C hW hS (Or.inl rfl) hm dX12_restore_19
  refine lv_if_ne (tgt := 20) hx hb dX12_restore_15 (by decide) (fun _ => ?_) (fun h => absurd h c1000006)
  refine lv_iconst (v := 0) hx hb dX12_restore_20 (by decide) ?_
  refine lv_istore_n (i := 2) (lv' := [(2, .int 0), (0, .ref x0), (1, .int x1)]) hx hb dX12_restore_21 rfl hl (by decide) rfl (fun ls hl => ?_)
  exact hB22 x0 x1 kx0 q_FU 0 dt _ _ _ hm hW hS (lv_sub hl [1, 2, 0] rfl)
theorem dX12_periodsOf_0 : decode cX12_periodsOf 0 = .ok (.aload_n 0, 1) := by decide +kernel
theorem dX12_periodsOf_1 : decode cX12_periodsOf 1 = .ok (.aload_n 0, 1) := by decide +kernel
theorem dX12_periodsOf_2 : decode cX12_periodsOf 2 = .ok (.getfield 133, 3) := by decide +kernel
theorem dX12_periodsOf_5 : decode cX12_periodsOf 5 = .ok (.iload_n 1, 1) := by decide +kernel
theorem dX12_periodsOf_6 : decode cX12_periodsOf 6 = .ok (.iconst 0, 1) := by decide +kernel
theorem dX12_periodsOf_7 : decode cX12_periodsOf 7 = .ok (.invokevirtual 450, 3) := by decide +kernel
theorem dX12_periodsOf_10 : decode cX12_periodsOf 10 = .ok (.iconst 0, 1) := by decide +kernel
theorem dX12_periodsOf_11 : decode cX12_periodsOf 11 = .ok (.istore_n 2, 1) := by decide +kernel
theorem dX12_periodsOf_12 : decode cX12_periodsOf 12 = .ok (.iconst 0, 1) := by decide +kernel
theorem dX12_periodsOf_13 : decode cX12_periodsOf 13 = .ok (.istore_n 3, 1) := by decide +kernel
theorem dX12_periodsOf_14 : decode cX12_periodsOf 14 = .ok (.iload_n 3, 1) := by decide +kernel
theorem dX12_periodsOf_15 : decode cX12_periodsOf 15 = .ok (.sipush 512, 3) := by decide +kernel
theorem dX12_periodsOf_18 : decode cX12_periodsOf 18 = .ok (.if_icmp .ge 21, 3) := by decide +kernel
theorem dX12_periodsOf_21 : decode cX12_periodsOf 21 = .ok (.aload_n 0, 1) := by decide +kernel
theorem dX12_periodsOf_22 : decode cX12_periodsOf 22 = .ok (.getfield 161, 3) := by decide +kernel
theorem dX12_periodsOf_25 : decode cX12_periodsOf 25 = .ok (.iload_n 3, 1) := by decide +kernel
theorem dX12_periodsOf_26 : decode cX12_periodsOf 26 = .ok (.baload, 1) := by decide +kernel
theorem dX12_periodsOf_27 : decode cX12_periodsOf 27 = .ok (.ifCond .eq 6, 3) := by decide +kernel
theorem dX12_periodsOf_30 : decode cX12_periodsOf 30 = .ok (.iinc 2 1, 3) := by decide +kernel
theorem dX12_periodsOf_33 : decode cX12_periodsOf 33 = .ok (.iinc 3 1, 3) := by decide +kernel
theorem dX12_periodsOf_36 : decode cX12_periodsOf 36 = .ok (.goto (-22), 3) := by decide +kernel
theorem dX12_periodsOf_39 : decode cX12_periodsOf 39 = .ok (.iload_n 2, 1) := by decide +kernel
theorem dX12_periodsOf_40 : decode cX12_periodsOf 40 = .ok (.ireturn, 1) := by decide +kernel
set_option maxRecDepth 100000 in
theorem c_X12_periodsOf (l : Launch) (D : q_D) (al : q_Al) (dt : q_Dt) (x0 : Nat) (x1 : Int32) (kx0 : al.1 x0 = 13) (r0 : Int32) (dt0 : q_Dt) (hm : X12_periodsOf al dt x0 x1 = some (r0, dt0)) : q_Mt l yX12_periodsOf cX12_periodsOf 4 (some FieldType.int) 4 99 D al [.ref x0, .int x1] dt 0 (some (.int r0)) dt0 := by
  refine q_Mt.of (by decide) (Nat.le_of_ble_eq_true rfl) ?_
  intro p e s m args below meth c ls C hargs hW hl
  have hx := C.1
  have hb := C.2.1
  have hown := C.2.2.2.2.2.1
  have hts := C.2.2.2.2.2.2.1
  have hS : va_S (q_A al) s.heap s.heap [] := va_S.rf
  have hl : lv_has ls 4 [(0, .ref x0), (1, .int x1)] := hl
  unfold X12_periodsOf at hm
  have hB14 : ∀ (x0_14 : Nat) (kx0_14 : al.1 x0_14 = 13) (n_14 : Nat) (x2_14 : Int32) (x3_14 : Int32) (dt : q_Dt) (H : Heap) (locs : List Loc) (ls : Array Slot) (hm : X12_periodsOf_b14 al x0_14 n_14 x2_14 x3_14 dt = some (r0, dt0)) (hW : q_W D al dt H) (hS : va_S (q_A al) s.heap H locs) (hl : lv_has ls 4 [(0, .ref x0_14), (2, .int x2_14), (3, .int x3_14)]), W p l e { frames := 4, cells := 0, slots := 0, locals := 99 } s m args below meth c H locs 0 0 (MQ below (q_Q (some (.int r0)) (fun H => q_W D al dt0 H ∧ q_Rk al 0 (some (.int r0))) (q_A al)) args s 0 0 (q_A al)) (F0 m 14 ls []) := by
    intro x0_14 kx0_14
    intro n_14
    induction n_14 with
    | zero => intro x2_14 x3_14 dt H locs ls hm hW hS hl; cases hm
    | succ n_14 ih14 =>
      have hB33 : ∀ (x2_33 : Int32) (x3_33 : Int32) (dt : q_Dt) (H : Heap) (locs : List Loc) (ls : Array Slot) (hm : X12_periodsOf_b33 al (X12_periodsOf_b14 al x0_14 n_14) x0_14 x2_33 x3_33 dt = some (r0, dt0)) (hW : q_W D al dt H) (hS : va_S (q_A al) s.heap H locs) (hl : lv_has ls 4 [(0, .ref x0_14), (2, .int x2_33), (3, .int x3_33)]), W p l e { frames := 4, cells := 0, slots := 0, locals := 99 } s m args below meth c H locs 0 0 (MQ below (q_Q (some (.int r0)) (fun H => q_W D al dt0 H ∧ q_Rk al 0 (some (.int r0))) (q_A al)) args s 0 0 (q_A al)) (F0 m 33 ls []) := by
        intro x2_33 x3_33 dt H locs ls hm hW hS hl
        unfold X12_periodsOf_b33 at hm
        refine lv_iinc (v := (x3_33 + 1)) (lv' := [(3, .int (x3_33 + 1)), (0, .ref x0_14), (2, .int x2_33)]) hx hb dX12_periodsOf_33 hl (k := 2) rfl rfl (by decide) rfl (fun ls hl => ?_)
        refine lv_goto (tgt := 14) hx hb dX12_periodsOf_36 (by decide) ?_
        exact ih14 x2_33 (x3_33 + 1) dt _ _ _ hm hW hS (lv_sub hl [1, 2, 0] rfl)
      intro x2_14 x3_14 dt H locs ls hm hW hS hl
      rw [X12_periodsOf_b14] at hm
      refine lv_iload_n hx hb dX12_periodsOf_14 rfl (lv_at hl 2 rfl) ?_
      refine lv_sipush (v := 512) hx hb dX12_periodsOf_15 (by decide) ?_
      refine q_ifc hm (fun c14001 hm => ?_) (fun c14001 hm => ?_)
      · refine lv_icmp_ge (tgt := 39) hx hb dX12_periodsOf_18 (by decide) (fun _ => ?_) (fun h => absurd c14001 h)
        refine lv_iload_n hx hb dX12_periodsOf_39 rfl (lv_at hl 1 rfl) ?_
        exact e_iD C hW hS hm dX12_periodsOf_40
      refine lv_icmp_ge (tgt := 39) hx hb dX12_periodsOf_18 (by decide) (fun h => absurd h c14001) (fun _ => ?_)
      refine lv_aload_n hx hb dX12_periodsOf_21 rfl (lv_at hl 0 rfl) ?_
      refine r_getF C hW (ci := 12) kx0_14 ff_12_64 cl_12 fl_RX12_161 dX12_periodsOf_22 (fun k14002 => ?_)
      refine lv_iload_n hx hb dX12_periodsOf_25 rfl (lv_at hl 2 rfl) ?_
      refine r_zald C hW hm k14002 dX12_periodsOf_26 (fun hm => ?_)
      refine q_ifc hm (fun c14003 hm => ?_) (fun c14003 hm => ?_)
      · refine lv_if_eq (tgt := 33) hx hb dX12_periodsOf_27 (by decide) (fun _ => ?_) (fun h => absurd c14003 h)
        exact hB33 x2_14 x3_14 dt _ _ _ hm hW hS (lv_sub hl [0, 1, 2] rfl)
      refine lv_if_eq (tgt := 33) hx hb dX12_periodsOf_27 (by decide) (fun h => absurd h c14003) (fun _ => ?_)
      refine lv_iinc (v := (x2_14 + 1)) (lv' := [(2, .int (x2_14 + 1)), (0, .ref x0_14), (3, .int x3_14)]) hx hb dX12_periodsOf_30 hl (k := 1) rfl rfl (by decide) rfl (fun ls hl => ?_)
      exact hB33 (x2_14 + 1) x3_14 dt _ _ _ hm hW hS (lv_sub hl [1, 0, 2] rfl)
  refine lv_aload_n hx hb dX12_periodsOf_0 rfl (lv_at hl 0 rfl) ?_
  refine lv_aload_n hx hb dX12_periodsOf_1 rfl (lv_at hl 0 rfl) ?_
  refine r_getF C hW (ci := 12) kx0 ff_12_53 cl_12 fl_RX12_133 dX12_periodsOf_2 (fun k1000001 => ?_)
  refine lv_iload_n hx hb dX12_periodsOf_5 rfl (lv_at hl 1 rfl) ?_
  refine lv_iconst (v := 0) hx hb dX12_periodsOf_6 (by decide) ?_
  obtain ⟨dt1000003, hc1000002, hm⟩ := q_b1i hm
  refine q_callV C hW hS (As := [.ref (al.2.2 x0 53), .int x1, .int 0]) (rest := []) (st1 := []) (c_X12_sumsUp l D al dt x0 (al.2.2 x0 53) x1 0 kx0 k1000001 dt1000003 hc1000002) yl_X12_sumsUp vl_X12_sumsUp ml_RX12_450 (ci := 12) rfl kx0 (by decide) rfl ⟨Nat.le_of_ble_eq_true rfl, Nat.le_of_ble_eq_true rfl⟩ hl rfl (Nat.le_of_ble_eq_true rfl) dX12_periodsOf_7 ⟨Nat.le_refl _, Nat.le_refl _⟩ rfl (fun H locs k1000004 hW hS => ?_)
  refine lv_iconst (v := 0) hx hb dX12_periodsOf_10 (by decide) ?_
  refine lv_istore_n (i := 2) (lv' := [(2, .int 0), (0, .ref x0), (1, .int x1)]) hx hb dX12_periodsOf_11 rfl hl (by decide) rfl (fun ls hl => ?_)
  refine lv_iconst (v := 0) hx hb dX12_periodsOf_12 (by decide) ?_
  refine lv_istore_n (i := 3) (lv' := [(3, .int 0), (2, .int 0), (0, .ref x0), (1, .int x1)]) hx hb dX12_periodsOf_13 rfl hl (by decide) rfl (fun ls hl => ?_)
  exact hB14 x0 kx0 q_FU 0 0 dt1000003 _ _ _ hm hW hS (lv_sub hl [2, 1, 0] rfl)
theorem dX12_count_0 : decode cX12_count 0 = .ok (.iload_n 1, 1) := by decide +kernel
theorem dX12_count_1 : decode cX12_count 1 = .ok (.tableswitch 171 0 8 #[51, 61, 71, 81, 91, 101, 111, 116, 161], 51) := by decide +kernel
theorem dX12_count_52 : decode cX12_count 52 = .ok (.aload_n 0, 1) := by decide +kernel
theorem dX12_count_53 : decode cX12_count 53 = .ok (.getfield 49, 3) := by decide +kernel
theorem dX12_count_56 : decode cX12_count 56 = .ok (.aload_n 0, 1) := by decide +kernel
theorem dX12_count_57 : decode cX12_count 57 = .ok (.getfield 242, 3) := by decide +kernel
theorem dX12_count_60 : decode cX12_count 60 = .ok (.iaload, 1) := by decide +kernel
theorem dX12_count_61 : decode cX12_count 61 = .ok (.ireturn, 1) := by decide +kernel
theorem dX12_count_62 : decode cX12_count 62 = .ok (.aload_n 0, 1) := by decide +kernel
theorem dX12_count_63 : decode cX12_count 63 = .ok (.getfield 58, 3) := by decide +kernel
theorem dX12_count_66 : decode cX12_count 66 = .ok (.aload_n 0, 1) := by decide +kernel
theorem dX12_count_67 : decode cX12_count 67 = .ok (.getfield 242, 3) := by decide +kernel
theorem dX12_count_70 : decode cX12_count 70 = .ok (.iaload, 1) := by decide +kernel
theorem dX12_count_71 : decode cX12_count 71 = .ok (.ireturn, 1) := by decide +kernel
theorem dX12_count_72 : decode cX12_count 72 = .ok (.aload_n 0, 1) := by decide +kernel
theorem dX12_count_73 : decode cX12_count 73 = .ok (.getfield 70, 3) := by decide +kernel
theorem dX12_count_76 : decode cX12_count 76 = .ok (.aload_n 0, 1) := by decide +kernel
theorem dX12_count_77 : decode cX12_count 77 = .ok (.getfield 242, 3) := by decide +kernel
theorem dX12_count_80 : decode cX12_count 80 = .ok (.iaload, 1) := by decide +kernel
theorem dX12_count_81 : decode cX12_count 81 = .ok (.ireturn, 1) := by decide +kernel
theorem dX12_count_82 : decode cX12_count 82 = .ok (.aload_n 0, 1) := by decide +kernel
theorem dX12_count_83 : decode cX12_count 83 = .ok (.getfield 91, 3) := by decide +kernel
theorem dX12_count_86 : decode cX12_count 86 = .ok (.aload_n 0, 1) := by decide +kernel
theorem dX12_count_87 : decode cX12_count 87 = .ok (.getfield 242, 3) := by decide +kernel
theorem dX12_count_90 : decode cX12_count 90 = .ok (.iaload, 1) := by decide +kernel
theorem dX12_count_91 : decode cX12_count 91 = .ok (.ireturn, 1) := by decide +kernel
theorem dX12_count_92 : decode cX12_count 92 = .ok (.aload_n 0, 1) := by decide +kernel
theorem dX12_count_93 : decode cX12_count 93 = .ok (.getfield 103, 3) := by decide +kernel
theorem dX12_count_96 : decode cX12_count 96 = .ok (.aload_n 0, 1) := by decide +kernel
theorem dX12_count_97 : decode cX12_count 97 = .ok (.getfield 242, 3) := by decide +kernel
theorem dX12_count_100 : decode cX12_count 100 = .ok (.iaload, 1) := by decide +kernel
theorem dX12_count_101 : decode cX12_count 101 = .ok (.ireturn, 1) := by decide +kernel
theorem dX12_count_102 : decode cX12_count 102 = .ok (.aload_n 0, 1) := by decide +kernel
theorem dX12_count_103 : decode cX12_count 103 = .ok (.getfield 124, 3) := by decide +kernel
theorem dX12_count_106 : decode cX12_count 106 = .ok (.aload_n 0, 1) := by decide +kernel
theorem dX12_count_107 : decode cX12_count 107 = .ok (.getfield 242, 3) := by decide +kernel
theorem dX12_count_110 : decode cX12_count 110 = .ok (.iaload, 1) := by decide +kernel
theorem dX12_count_111 : decode cX12_count 111 = .ok (.ireturn, 1) := by decide +kernel
theorem dX12_count_112 : decode cX12_count 112 = .ok (.aload_n 0, 1) := by decide +kernel
theorem dX12_count_113 : decode cX12_count 113 = .ok (.getfield 174, 3) := by decide +kernel
theorem dX12_count_116 : decode cX12_count 116 = .ok (.ireturn, 1) := by decide +kernel
theorem dX12_count_117 : decode cX12_count 117 = .ok (.aload_n 0, 1) := by decide +kernel
theorem dX12_count_118 : decode cX12_count 118 = .ok (.getfield 164, 3) := by decide +kernel
theorem dX12_count_121 : decode cX12_count 121 = .ok (.iconst 0, 1) := by decide +kernel
theorem dX12_count_122 : decode cX12_count 122 = .ok (.baload, 1) := by decide +kernel
theorem dX12_count_123 : decode cX12_count 123 = .ok (.ifCond .eq 7, 3) := by decide +kernel
theorem dX12_count_126 : decode cX12_count 126 = .ok (.iconst 1, 1) := by decide +kernel
theorem dX12_count_127 : decode cX12_count 127 = .ok (.goto 4, 3) := by decide +kernel
theorem dX12_count_130 : decode cX12_count 130 = .ok (.iconst 0, 1) := by decide +kernel
theorem dX12_count_131 : decode cX12_count 131 = .ok (.aload_n 0, 1) := by decide +kernel
theorem dX12_count_132 : decode cX12_count 132 = .ok (.getfield 164, 3) := by decide +kernel
theorem dX12_count_135 : decode cX12_count 135 = .ok (.iconst 1, 1) := by decide +kernel
theorem dX12_count_136 : decode cX12_count 136 = .ok (.baload, 1) := by decide +kernel
theorem dX12_count_137 : decode cX12_count 137 = .ok (.ifCond .eq 7, 3) := by decide +kernel
theorem dX12_count_140 : decode cX12_count 140 = .ok (.iconst 1, 1) := by decide +kernel
theorem dX12_count_141 : decode cX12_count 141 = .ok (.goto 4, 3) := by decide +kernel
theorem dX12_count_144 : decode cX12_count 144 = .ok (.iconst 0, 1) := by decide +kernel
theorem dX12_count_145 : decode cX12_count 145 = .ok (.iadd, 1) := by decide +kernel
theorem dX12_count_146 : decode cX12_count 146 = .ok (.aload_n 0, 1) := by decide +kernel
theorem dX12_count_147 : decode cX12_count 147 = .ok (.getfield 164, 3) := by decide +kernel
theorem dX12_count_150 : decode cX12_count 150 = .ok (.iconst 2, 1) := by decide +kernel
theorem dX12_count_151 : decode cX12_count 151 = .ok (.baload, 1) := by decide +kernel
theorem dX12_count_152 : decode cX12_count 152 = .ok (.ifCond .eq 7, 3) := by decide +kernel
theorem dX12_count_155 : decode cX12_count 155 = .ok (.iconst 1, 1) := by decide +kernel
theorem dX12_count_156 : decode cX12_count 156 = .ok (.goto 4, 3) := by decide +kernel
theorem dX12_count_159 : decode cX12_count 159 = .ok (.iconst 0, 1) := by decide +kernel
theorem dX12_count_160 : decode cX12_count 160 = .ok (.iadd, 1) := by decide +kernel
theorem dX12_count_161 : decode cX12_count 161 = .ok (.ireturn, 1) := by decide +kernel
theorem dX12_count_162 : decode cX12_count 162 = .ok (.aload_n 0, 1) := by decide +kernel
theorem dX12_count_163 : decode cX12_count 163 = .ok (.getfield 118, 3) := by decide +kernel
theorem dX12_count_166 : decode cX12_count 166 = .ok (.aload_n 0, 1) := by decide +kernel
theorem dX12_count_167 : decode cX12_count 167 = .ok (.getfield 242, 3) := by decide +kernel
theorem dX12_count_170 : decode cX12_count 170 = .ok (.iaload, 1) := by decide +kernel
theorem dX12_count_171 : decode cX12_count 171 = .ok (.ireturn, 1) := by decide +kernel
theorem dX12_count_172 : decode cX12_count 172 = .ok (.aload_n 0, 1) := by decide +kernel
theorem dX12_count_173 : decode cX12_count 173 = .ok (.iload_n 1, 1) := by decide +kernel
theorem dX12_count_174 : decode cX12_count 174 = .ok (.bipush 10, 2) := by decide +kernel
theorem dX12_count_176 : decode cX12_count 176 = .ok (.isub, 1) := by decide +kernel
theorem dX12_count_177 : decode cX12_count 177 = .ok (.invokevirtual 415, 3) := by decide +kernel
theorem dX12_count_180 : decode cX12_count 180 = .ok (.ifCond .eq 12, 3) := by decide +kernel
theorem dX12_count_183 : decode cX12_count 183 = .ok (.aload_n 0, 1) := by decide +kernel
theorem dX12_count_184 : decode cX12_count 184 = .ok (.iload_n 1, 1) := by decide +kernel
theorem dX12_count_185 : decode cX12_count 185 = .ok (.bipush 10, 2) := by decide +kernel
theorem dX12_count_187 : decode cX12_count 187 = .ok (.isub, 1) := by decide +kernel
theorem dX12_count_188 : decode cX12_count 188 = .ok (.invokevirtual 509, 3) := by decide +kernel
theorem dX12_count_191 : decode cX12_count 191 = .ok (.ireturn, 1) := by decide +kernel
theorem dX12_count_192 : decode cX12_count 192 = .ok (.aload_n 0, 1) := by decide +kernel
theorem dX12_count_193 : decode cX12_count 193 = .ok (.iload_n 1, 1) := by decide +kernel
theorem dX12_count_194 : decode cX12_count 194 = .ok (.bipush 20, 2) := by decide +kernel
theorem dX12_count_196 : decode cX12_count 196 = .ok (.isub, 1) := by decide +kernel
theorem dX12_count_197 : decode cX12_count 197 = .ok (.invokevirtual 491, 3) := by decide +kernel
theorem dX12_count_200 : decode cX12_count 200 = .ok (.ifCond .eq 14, 3) := by decide +kernel
theorem dX12_count_203 : decode cX12_count 203 = .ok (.aload_n 0, 1) := by decide +kernel
theorem dX12_count_204 : decode cX12_count 204 = .ok (.iload_n 1, 1) := by decide +kernel
theorem dX12_count_205 : decode cX12_count 205 = .ok (.bipush 20, 2) := by decide +kernel
theorem dX12_count_207 : decode cX12_count 207 = .ok (.isub, 1) := by decide +kernel
theorem dX12_count_208 : decode cX12_count 208 = .ok (.invokevirtual 488, 3) := by decide +kernel
theorem dX12_count_211 : decode cX12_count 211 = .ok (.goto 4, 3) := by decide +kernel
theorem dX12_count_214 : decode cX12_count 214 = .ok (.iconst (-1), 1) := by decide +kernel
theorem dX12_count_215 : decode cX12_count 215 = .ok (.ireturn, 1) := by decide +kernel
set_option maxRecDepth 100000 in
theorem c_X12_count (l : Launch) (D : q_D) (al : q_Al) (dt : q_Dt) (x0 : Nat) (x1 : Int32) (kx0 : al.1 x0 = 13) (r0 : Int32) (dt0 : q_Dt) (hm : X12_count al dt x0 x1 = some (r0, dt0)) : q_Mt l yX12_count cX12_count 2 (some FieldType.int) 5 122 D al [.ref x0, .int x1] dt 0 (some (.int r0)) dt0 := by
  refine q_Mt.of (by decide) (Nat.le_of_ble_eq_true rfl) ?_
  intro p e s m args below meth c ls C hargs hW hl
  have hx := C.1
  have hb := C.2.1
  have hown := C.2.2.2.2.2.1
  have hts := C.2.2.2.2.2.2.1
  have hS : va_S (q_A al) s.heap s.heap [] := va_S.rf
  have hl : lv_has ls 2 [(0, .ref x0), (1, .int x1)] := hl
  unfold X12_count at hm
  have hB160 : ∀ (t0_160 : Int32) (t1_160 : Int32) (dt : q_Dt) (H : Heap) (locs : List Loc) (ls : Array Slot) (hm : X12_count_b160 al t0_160 t1_160 dt = some (r0, dt0)) (hW : q_W D al dt H) (hS : va_S (q_A al) s.heap H locs) (hl : lv_has ls 2 []), W p l e { frames := 5, cells := 0, slots := 0, locals := 122 } s m args below meth c H locs 0 0 (MQ below (q_Q (some (.int r0)) (fun H => q_W D al dt0 H ∧ q_Rk al 0 (some (.int r0))) (q_A al)) args s 0 0 (q_A al)) (F0 m 160 ls [.int t1_160, .int t0_160]) := by
    intro t0_160 t1_160 dt H locs ls hm hW hS hl
    unfold X12_count_b160 at hm
    refine lv_iadd hx hb dX12_count_160 ?_
    exact e_iD C hW hS hm dX12_count_161
  have hB145 : ∀ (x0_145 : Nat) (t0_145 : Int32) (t1_145 : Int32) (kx0_145 : al.1 x0_145 = 13) (dt : q_Dt) (H : Heap) (locs : List Loc) (ls : Array Slot) (hm : X12_count_b145 al x0_145 t0_145 t1_145 dt = some (r0, dt0)) (hW : q_W D al dt H) (hS : va_S (q_A al) s.heap H locs) (hl : lv_has ls 2 [(0, .ref x0_145)]), W p l e { frames := 5, cells := 0, slots := 0, locals := 122 } s m args below meth c H locs 0 0 (MQ below (q_Q (some (.int r0)) (fun H => q_W D al dt0 H ∧ q_Rk al 0 (some (.int r0))) (q_A al)) args s 0 0 (q_A al)) (F0 m 145 ls [.int t1_145, .int t0_145]) := by
    intro x0_145 t0_145 t1_145 kx0_145 dt H locs ls hm hW hS hl
    unfold X12_count_b145 at hm
    refine lv_iadd hx hb dX12_count_145 ?_
    refine lv_aload_n hx hb dX12_count_146 rfl (lv_at hl 0 rfl) ?_
    refine r_getF C hW (ci := 12) kx0_145 ff_12_65 cl_12 fl_RX12_164 dX12_count_147 (fun k145001 => ?_)
    refine lv_iconst (v := 2) hx hb dX12_count_150 (by decide) ?_
    refine r_zald C hW hm k145001 dX12_count_151 (fun hm => ?_)
    refine q_ifc hm (fun c145002 hm => ?_) (fun c145002 hm => ?_)
    · refine lv_if_eq (tgt := 159) hx hb dX12_count_152 (by decide) (fun _ => ?_) (fun h => absurd c145002 h)
      refine lv_iconst (v := 0) hx hb dX12_count_159 (by decide) ?_
      exact hB160 (t0_145 + t1_145) 0 dt _ _ _ hm hW hS (lv_sub hl [] rfl)
    refine lv_if_eq (tgt := 159) hx hb dX12_count_152 (by decide) (fun h => absurd h c145002) (fun _ => ?_)
    refine lv_iconst (v := 1) hx hb dX12_count_155 (by decide) ?_
    refine lv_goto (tgt := 160) hx hb dX12_count_156 (by decide) ?_
    exact hB160 (t0_145 + t1_145) 1 dt _ _ _ hm hW hS (lv_sub hl [] rfl)
  have hB131 : ∀ (x0_131 : Nat) (t0_131 : Int32) (kx0_131 : al.1 x0_131 = 13) (dt : q_Dt) (H : Heap) (locs : List Loc) (ls : Array Slot) (hm : X12_count_b131 al x0_131 t0_131 dt = some (r0, dt0)) (hW : q_W D al dt H) (hS : va_S (q_A al) s.heap H locs) (hl : lv_has ls 2 [(0, .ref x0_131)]), W p l e { frames := 5, cells := 0, slots := 0, locals := 122 } s m args below meth c H locs 0 0 (MQ below (q_Q (some (.int r0)) (fun H => q_W D al dt0 H ∧ q_Rk al 0 (some (.int r0))) (q_A al)) args s 0 0 (q_A al)) (F0 m 131 ls [.int t0_131]) := by
    intro x0_131 t0_131 kx0_131 dt H locs ls hm hW hS hl
    unfold X12_count_b131 at hm
    refine lv_aload_n hx hb dX12_count_131 rfl (lv_at hl 0 rfl) ?_
    refine r_getF C hW (ci := 12) kx0_131 ff_12_65 cl_12 fl_RX12_164 dX12_count_132 (fun k131001 => ?_)
    refine lv_iconst (v := 1) hx hb dX12_count_135 (by decide) ?_
    refine r_zald C hW hm k131001 dX12_count_136 (fun hm => ?_)
    refine q_ifc hm (fun c131002 hm => ?_) (fun c131002 hm => ?_)
    · refine lv_if_eq (tgt := 144) hx hb dX12_count_137 (by decide) (fun _ => ?_) (fun h => absurd c131002 h)
      refine lv_iconst (v := 0) hx hb dX12_count_144 (by decide) ?_
      exact hB145 x0_131 t0_131 0 kx0_131 dt _ _ _ hm hW hS (lv_sub hl [0] rfl)
    refine lv_if_eq (tgt := 144) hx hb dX12_count_137 (by decide) (fun h => absurd h c131002) (fun _ => ?_)
    refine lv_iconst (v := 1) hx hb dX12_count_140 (by decide) ?_
    refine lv_goto (tgt := 145) hx hb dX12_count_141 (by decide) ?_
    exact hB145 x0_131 t0_131 1 kx0_131 dt _ _ _ hm hW hS (lv_sub hl [0] rfl)
  refine lv_iload_n hx hb dX12_count_0 rfl (lv_at hl 1 rfl) ?_
  refine q_ifc hm (fun c1000001 hm => ?_) (fun c1000001 hm => ?_)
  · refine lv_tableIn (tgt := 52) hx hb dX12_count_1 (by rw [c1000001]; decide) (by rw [c1000001]; decide) (by rw [c1000001]; rfl) (by decide) ?_
    refine lv_aload_n hx hb dX12_count_52 rfl (lv_at hl 0 rfl) ?_
    refine r_getF C hW (ci := 12) kx0 ff_12_24 cl_12 fl_RX12_49 dX12_count_53 (fun k1000002 => ?_)
    refine lv_aload_n hx hb dX12_count_56 rfl (lv_at hl 0 rfl) ?_
    refine r_getI C hW (ci := 12) kx0 ff_12_18 cl_12 fl_RX12_242 dX12_count_57 ?_
    refine r_iald C hW hm k1000002 dX12_count_60 (fun hm => ?_)
    exact e_iD C hW hS hm dX12_count_61
  refine q_ifc hm (fun c1000003 hm => ?_) (fun c1000003 hm => ?_)
  · refine lv_tableIn (tgt := 62) hx hb dX12_count_1 (by rw [c1000003]; decide) (by rw [c1000003]; decide) (by rw [c1000003]; rfl) (by decide) ?_
    refine lv_aload_n hx hb dX12_count_62 rfl (lv_at hl 0 rfl) ?_
    refine r_getF C hW (ci := 12) kx0 ff_12_27 cl_12 fl_RX12_58 dX12_count_63 (fun k1000004 => ?_)
    refine lv_aload_n hx hb dX12_count_66 rfl (lv_at hl 0 rfl) ?_
    refine r_getI C hW (ci := 12) kx0 ff_12_18 cl_12 fl_RX12_242 dX12_count_67 ?_
    refine r_iald C hW hm k1000004 dX12_count_70 (fun hm => ?_)
    exact e_iD C hW hS hm dX12_count_71
  refine q_ifc hm (fun c1000005 hm => ?_) (fun c1000005 hm => ?_)
  · refine lv_tableIn (tgt := 72) hx hb dX12_count_1 (by rw [c1000005]; decide) (by rw [c1000005]; decide) (by rw [c1000005]; rfl) (by decide) ?_
    refine lv_aload_n hx hb dX12_count_72 rfl (lv_at hl 0 rfl) ?_
    refine r_getF C hW (ci := 12) kx0 ff_12_31 cl_12 fl_RX12_70 dX12_count_73 (fun k1000006 => ?_)
    refine lv_aload_n hx hb dX12_count_76 rfl (lv_at hl 0 rfl) ?_
    refine r_getI C hW (ci := 12) kx0 ff_12_18 cl_12 fl_RX12_242 dX12_count_77 ?_
    refine r_iald C hW hm k1000006 dX12_count_80 (fun hm => ?_)
    exact e_iD C hW hS hm dX12_count_81
  refine q_ifc hm (fun c1000007 hm => ?_) (fun c1000007 hm => ?_)
  · refine lv_tableIn (tgt := 82) hx hb dX12_count_1 (by rw [c1000007]; decide) (by rw [c1000007]; decide) (by rw [c1000007]; rfl) (by decide) ?_
    refine lv_aload_n hx hb dX12_count_82 rfl (lv_at hl 0 rfl) ?_
    refine r_getF C hW (ci := 12) kx0 ff_12_38 cl_12 fl_RX12_91 dX12_count_83 (fun k1000008 => ?_)
    refine lv_aload_n hx hb dX12_count_86 rfl (lv_at hl 0 rfl) ?_
    refine r_getI C hW (ci := 12) kx0 ff_12_18 cl_12 fl_RX12_242 dX12_count_87 ?_
    refine r_iald C hW hm k1000008 dX12_count_90 (fun hm => ?_)
    exact e_iD C hW hS hm dX12_count_91
  refine q_ifc hm (fun c1000009 hm => ?_) (fun c1000009 hm => ?_)
  · refine lv_tableIn (tgt := 92) hx hb dX12_count_1 (by rw [c1000009]; decide) (by rw [c1000009]; decide) (by rw [c1000009]; rfl) (by decide) ?_
    refine lv_aload_n hx hb dX12_count_92 rfl (lv_at hl 0 rfl) ?_
    refine r_getF C hW (ci := 12) kx0 ff_12_42 cl_12 fl_RX12_103 dX12_count_93 (fun k1000010 => ?_)
    refine lv_aload_n hx hb dX12_count_96 rfl (lv_at hl 0 rfl) ?_
    refine r_getI C hW (ci := 12) kx0 ff_12_18 cl_12 fl_RX12_242 dX12_count_97 ?_
    refine r_iald C hW hm k1000010 dX12_count_100 (fun hm => ?_)
    exact e_iD C hW hS hm dX12_count_101
  refine q_ifc hm (fun c1000011 hm => ?_) (fun c1000011 hm => ?_)
  · refine lv_tableIn (tgt := 102) hx hb dX12_count_1 (by rw [c1000011]; decide) (by rw [c1000011]; decide) (by rw [c1000011]; rfl) (by decide) ?_
    refine lv_aload_n hx hb dX12_count_102 rfl (lv_at hl 0 rfl) ?_
    refine r_getF C hW (ci := 12) kx0 ff_12_49 cl_12 fl_RX12_124 dX12_count_103 (fun k1000012 => ?_)
    refine lv_aload_n hx hb dX12_count_106 rfl (lv_at hl 0 rfl) ?_
    refine r_getI C hW (ci := 12) kx0 ff_12_18 cl_12 fl_RX12_242 dX12_count_107 ?_
    refine r_iald C hW hm k1000012 dX12_count_110 (fun hm => ?_)
    exact e_iD C hW hS hm dX12_count_111
  refine q_ifc hm (fun c1000013 hm => ?_) (fun c1000013 hm => ?_)
  · refine lv_tableIn (tgt := 112) hx hb dX12_count_1 (by rw [c1000013]; decide) (by rw [c1000013]; decide) (by rw [c1000013]; rfl) (by decide) ?_
    refine lv_aload_n hx hb dX12_count_112 rfl (lv_at hl 0 rfl) ?_
    refine r_getI C hW (ci := 12) kx0 ff_12_2 cl_12 fl_RX12_174 dX12_count_113 ?_
    exact e_iD C hW hS hm dX12_count_116
  refine q_ifc hm (fun c1000014 hm => ?_) (fun c1000014 hm => ?_)
  · refine lv_tableIn (tgt := 117) hx hb dX12_count_1 (by rw [c1000014]; decide) (by rw [c1000014]; decide) (by rw [c1000014]; rfl) (by decide) ?_
    refine lv_aload_n hx hb dX12_count_117 rfl (lv_at hl 0 rfl) ?_
    refine r_getF C hW (ci := 12) kx0 ff_12_65 cl_12 fl_RX12_164 dX12_count_118 (fun k1000015 => ?_)
    refine lv_iconst (v := 0) hx hb dX12_count_121 (by decide) ?_
    refine r_zald C hW hm k1000015 dX12_count_122 (fun hm => ?_)
    refine q_ifc hm (fun c1000016 hm => ?_) (fun c1000016 hm => ?_)
    · refine lv_if_eq (tgt := 130) hx hb dX12_count_123 (by decide) (fun _ => ?_) (fun h => absurd c1000016 h)
      refine lv_iconst (v := 0) hx hb dX12_count_130 (by decide) ?_
      exact hB131 x0 0 kx0 dt _ _ _ hm hW hS (lv_sub hl [0] rfl)
    refine lv_if_eq (tgt := 130) hx hb dX12_count_123 (by decide) (fun h => absurd h c1000016) (fun _ => ?_)
    refine lv_iconst (v := 1) hx hb dX12_count_126 (by decide) ?_
    refine lv_goto (tgt := 131) hx hb dX12_count_127 (by decide) ?_
    exact hB131 x0 1 kx0 dt _ _ _ hm hW hS (lv_sub hl [0] rfl)
  refine q_ifc hm (fun c1000017 hm => ?_) (fun c1000017 hm => ?_)
  · refine lv_tableIn (tgt := 162) hx hb dX12_count_1 (by rw [c1000017]; decide) (by rw [c1000017]; decide) (by rw [c1000017]; rfl) (by decide) ?_
    refine lv_aload_n hx hb dX12_count_162 rfl (lv_at hl 0 rfl) ?_
    refine r_getF C hW (ci := 12) kx0 ff_12_47 cl_12 fl_RX12_118 dX12_count_163 (fun k1000018 => ?_)
    refine lv_aload_n hx hb dX12_count_166 rfl (lv_at hl 0 rfl) ?_
    refine r_getI C hW (ci := 12) kx0 ff_12_18 cl_12 fl_RX12_242 dX12_count_167 ?_
    refine r_iald C hW hm k1000018 dX12_count_170 (fun hm => ?_)
    exact e_iD C hW hS hm dX12_count_171
  have c1000001_z := lv_neT c1000001 (a := 0) rfl
  have c1000003_z := lv_neT c1000003 (a := 1) rfl
  have c1000005_z := lv_neT c1000005 (a := 2) rfl
  have c1000007_z := lv_neT c1000007 (a := 3) rfl
  have c1000009_z := lv_neT c1000009 (a := 4) rfl
  have c1000011_z := lv_neT c1000011 (a := 5) rfl
  have c1000013_z := lv_neT c1000013 (a := 6) rfl
  have c1000014_z := lv_neT c1000014 (a := 7) rfl
  have c1000017_z := lv_neT c1000017 (a := 8) rfl
  refine lv_tableOut (tgt := 172) hx hb dX12_count_1 (by omega) (by decide) ?_
  refine lv_aload_n hx hb dX12_count_172 rfl (lv_at hl 0 rfl) ?_
  refine lv_iload_n hx hb dX12_count_173 rfl (lv_at hl 1 rfl) ?_
  refine lv_bipush (v := 10) hx hb dX12_count_174 (by decide) ?_
  refine lv_isub hx hb dX12_count_176 ?_
  obtain ⟨v1000020, hc1000019, hm⟩ := q_b1i hm
  refine q_callV C hW hS (As := [.int (x1 - 10)]) (rest := []) (st1 := [.int v1000020]) (c_X12_isSender l D al dt x0 (x1 - 10) kx0 v1000020 hc1000019) yl_X12_isSender vl_X12_isSender ml_RX12_415 (ci := 12) rfl kx0 (by decide) rfl ⟨Nat.le_of_ble_eq_true rfl, Nat.le_of_ble_eq_true rfl⟩ hl rfl (Nat.le_of_ble_eq_true rfl) dX12_count_177 ⟨Nat.le_refl _, Nat.le_refl _⟩ rfl (fun H locs k1000021 hW hS => ?_)
  refine q_ifc hm (fun c1000022 hm => ?_) (fun c1000022 hm => ?_)
  · refine lv_if_eq (tgt := 192) hx hb dX12_count_180 (by decide) (fun _ => ?_) (fun h => absurd c1000022 h)
    refine lv_aload_n hx hb dX12_count_192 rfl (lv_at hl 0 rfl) ?_
    refine lv_iload_n hx hb dX12_count_193 rfl (lv_at hl 1 rfl) ?_
    refine lv_bipush (v := 20) hx hb dX12_count_194 (by decide) ?_
    refine lv_isub hx hb dX12_count_196 ?_
    obtain ⟨v1000024, hc1000023, hm⟩ := q_b1i hm
    refine q_callV C hW hS (As := [.int (x1 - 20)]) (rest := []) (st1 := [.int v1000024]) (c_X12_isHop l D al dt x0 (x1 - 20) kx0 v1000024 hc1000023) yl_X12_isHop vl_X12_isHop ml_RX12_491 (ci := 12) rfl kx0 (by decide) rfl ⟨Nat.le_of_ble_eq_true rfl, Nat.le_of_ble_eq_true rfl⟩ hl rfl (Nat.le_of_ble_eq_true rfl) dX12_count_197 ⟨Nat.le_refl _, Nat.le_refl _⟩ rfl (fun H locs k1000025 hW hS => ?_)
    refine q_ifc hm (fun c1000026 hm => ?_) (fun c1000026 hm => ?_)
    · refine lv_if_eq (tgt := 214) hx hb dX12_count_200 (by decide) (fun _ => ?_) (fun h => absurd c1000026 h)
      refine lv_iconst (v := (-1)) hx hb dX12_count_214 (by decide) ?_
      exact e_iD C hW hS hm dX12_count_215
    refine lv_if_eq (tgt := 214) hx hb dX12_count_200 (by decide) (fun h => absurd h c1000026) (fun _ => ?_)
    refine lv_aload_n hx hb dX12_count_203 rfl (lv_at hl 0 rfl) ?_
    refine lv_iload_n hx hb dX12_count_204 rfl (lv_at hl 1 rfl) ?_
    refine lv_bipush (v := 20) hx hb dX12_count_205 (by decide) ?_
    refine lv_isub hx hb dX12_count_207 ?_
    obtain ⟨v1000028, hc1000027, hm⟩ := q_b1i hm
    refine q_callV C hW hS (As := [.int (x1 - 20)]) (rest := []) (st1 := [.int v1000028]) (c_X12_p l D al dt x0 (x1 - 20) kx0 v1000028 hc1000027) yl_X12_p vl_X12_p ml_RX12_488 (ci := 12) rfl kx0 (by decide) rfl ⟨Nat.le_of_ble_eq_true rfl, Nat.le_of_ble_eq_true rfl⟩ hl rfl (Nat.le_of_ble_eq_true rfl) dX12_count_208 ⟨Nat.le_refl _, Nat.le_refl _⟩ rfl (fun H locs k1000029 hW hS => ?_)
    refine lv_goto (tgt := 215) hx hb dX12_count_211 (by decide) ?_
    exact e_iD C hW hS hm dX12_count_215
  refine lv_if_eq (tgt := 192) hx hb dX12_count_180 (by decide) (fun h => absurd h c1000022) (fun _ => ?_)
  refine lv_aload_n hx hb dX12_count_183 rfl (lv_at hl 0 rfl) ?_
  refine lv_iload_n hx hb dX12_count_184 rfl (lv_at hl 1 rfl) ?_
  refine lv_bipush (v := 10) hx hb dX12_count_185 (by decide) ?_
  refine lv_isub hx hb dX12_count_187 ?_
  obtain ⟨v1000031, dt1000032, hc1000030, hm⟩ := q_b2i hm
  refine q_callV C hW hS (As := [.int (x1 - 10)]) (rest := []) (st1 := [.int v1000031]) (c_X12_periodsOf l D al dt x0 (x1 - 10) kx0 v1000031 dt1000032 hc1000030) yl_X12_periodsOf vl_X12_periodsOf ml_RX12_509 (ci := 12) rfl kx0 (by decide) rfl ⟨Nat.le_of_ble_eq_true rfl, Nat.le_of_ble_eq_true rfl⟩ hl rfl (Nat.le_of_ble_eq_true rfl) dX12_count_188 ⟨Nat.le_refl _, Nat.le_refl _⟩ rfl (fun H locs k1000033 hW hS => ?_)
  exact e_iD C hW hS hm dX12_count_191
