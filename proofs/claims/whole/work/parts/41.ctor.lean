theorem dX4_init_0 : decode cX4_init 0 = .ok (.aload_n 0, 1) := by decide +kernel
theorem dX4_init_1 : decode cX4_init 1 = .ok (.invokespecial 3, 3) := by decide +kernel
theorem dX4_init_4 : decode cX4_init 4 = .ok (.aload_n 0, 1) := by decide +kernel
theorem dX4_init_5 : decode cX4_init 5 = .ok (.new 9, 3) := by decide +kernel
theorem dX4_init_8 : decode cX4_init 8 = .ok (.dup, 1) := by decide +kernel
theorem dX4_init_9 : decode cX4_init 9 = .ok (.sipush 512, 3) := by decide +kernel
theorem dX4_init_12 : decode cX4_init 12 = .ok (.invokespecial 11, 3) := by decide +kernel
theorem dX4_init_15 : decode cX4_init 15 = .ok (.putfield 14, 3) := by decide +kernel
theorem dX4_init_18 : decode cX4_init 18 = .ok (.aload_n 0, 1) := by decide +kernel
theorem dX4_init_19 : decode cX4_init 19 = .ok (.new 20, 3) := by decide +kernel
theorem dX4_init_22 : decode cX4_init 22 = .ok (.dup, 1) := by decide +kernel
theorem dX4_init_23 : decode cX4_init 23 = .ok (.invokespecial 22, 3) := by decide +kernel
theorem dX4_init_26 : decode cX4_init 26 = .ok (.putfield 23, 3) := by decide +kernel
theorem dX4_init_29 : decode cX4_init 29 = .ok (.aload_n 0, 1) := by decide +kernel
theorem dX4_init_30 : decode cX4_init 30 = .ok (.bipush 6, 2) := by decide +kernel
theorem dX4_init_32 : decode cX4_init 32 = .ok (.anewarray 9, 3) := by decide +kernel
theorem dX4_init_35 : decode cX4_init 35 = .ok (.putfield 27, 3) := by decide +kernel
theorem dX4_init_38 : decode cX4_init 38 = .ok (.aload_n 0, 1) := by decide +kernel
theorem dX4_init_39 : decode cX4_init 39 = .ok (.bipush 6, 2) := by decide +kernel
theorem dX4_init_41 : decode cX4_init 41 = .ok (.anewarray 9, 3) := by decide +kernel
theorem dX4_init_44 : decode cX4_init 44 = .ok (.putfield 31, 3) := by decide +kernel
theorem dX4_init_47 : decode cX4_init 47 = .ok (.aload_n 0, 1) := by decide +kernel
theorem dX4_init_48 : decode cX4_init 48 = .ok (.iconst 0, 1) := by decide +kernel
theorem dX4_init_49 : decode cX4_init 49 = .ok (.putfield 34, 3) := by decide +kernel
theorem dX4_init_52 : decode cX4_init 52 = .ok (.aload_n 0, 1) := by decide +kernel
theorem dX4_init_53 : decode cX4_init 53 = .ok (.iconst 0, 1) := by decide +kernel
theorem dX4_init_54 : decode cX4_init 54 = .ok (.putfield 38, 3) := by decide +kernel
theorem dX4_init_57 : decode cX4_init 57 = .ok (.iconst 0, 1) := by decide +kernel
theorem dX4_init_58 : decode cX4_init 58 = .ok (.istore_n 1, 1) := by decide +kernel
theorem dX4_init_59 : decode cX4_init 59 = .ok (.iload_n 1, 1) := by decide +kernel
theorem dX4_init_60 : decode cX4_init 60 = .ok (.bipush 6, 2) := by decide +kernel
theorem dX4_init_62 : decode cX4_init 62 = .ok (.if_icmp .ge 41, 3) := by decide +kernel
theorem dX4_init_65 : decode cX4_init 65 = .ok (.aload_n 0, 1) := by decide +kernel
theorem dX4_init_66 : decode cX4_init 66 = .ok (.getfield 27, 3) := by decide +kernel
theorem dX4_init_69 : decode cX4_init 69 = .ok (.iload_n 1, 1) := by decide +kernel
theorem dX4_init_70 : decode cX4_init 70 = .ok (.new 9, 3) := by decide +kernel
theorem dX4_init_73 : decode cX4_init 73 = .ok (.dup, 1) := by decide +kernel
theorem dX4_init_74 : decode cX4_init 74 = .ok (.sipush 512, 3) := by decide +kernel
theorem dX4_init_77 : decode cX4_init 77 = .ok (.invokespecial 11, 3) := by decide +kernel
theorem dX4_init_80 : decode cX4_init 80 = .ok (.aastore, 1) := by decide +kernel
theorem dX4_init_81 : decode cX4_init 81 = .ok (.aload_n 0, 1) := by decide +kernel
theorem dX4_init_82 : decode cX4_init 82 = .ok (.getfield 31, 3) := by decide +kernel
theorem dX4_init_85 : decode cX4_init 85 = .ok (.iload_n 1, 1) := by decide +kernel
theorem dX4_init_86 : decode cX4_init 86 = .ok (.new 9, 3) := by decide +kernel
theorem dX4_init_89 : decode cX4_init 89 = .ok (.dup, 1) := by decide +kernel
theorem dX4_init_90 : decode cX4_init 90 = .ok (.sipush 512, 3) := by decide +kernel
theorem dX4_init_93 : decode cX4_init 93 = .ok (.invokespecial 11, 3) := by decide +kernel
theorem dX4_init_96 : decode cX4_init 96 = .ok (.aastore, 1) := by decide +kernel
theorem dX4_init_97 : decode cX4_init 97 = .ok (.iinc 1 1, 3) := by decide +kernel
theorem dX4_init_100 : decode cX4_init 100 = .ok (.goto (-41), 3) := by decide +kernel
theorem dX4_init_103 : decode cX4_init 103 = .ok (.return_, 1) := by decide +kernel
set_option maxHeartbeats 10000000 in
set_option maxRecDepth 100000 in
theorem iX4_init (l : Launch) (D : q_D) (b : Nat) (C : List q_Ce) (x0 : Nat) (C0 : List q_Ce) (hm : IX4_init C x0 = some C0) : q_Mi l yX4_init cX4_init 2 none 3 62 D b [.ref (b + x0)] C none C0 33 7710 := by
  refine q_Mi.of (by decide) (Nat.le_of_ble_eq_true rfl) ?_
  intro p e s m args below meth c ls Y hin hW hl
  have hx := Y.1
  have hb := Y.2.1
  have hown := Y.2.2.2.2.2.1
  have hts := Y.2.2.2.2.2.2.1
  have hs0 : s.heap.size = b + List.length C := hW.2.1
  have hS : va_S (fun q => b ≤ q) s.heap s.heap [] := va_S.rf
  have hl : lv_has ls 2 [(0, .ref (b + x0))] := hl
  unfold IX4_init at hm
  have hin := hin rfl
  refine lv_aload_n hx hb dX4_init_0 rfl (lv_at hl 0 rfl) ?_
  refine W.objInit hx hb hown (hts _ wob_RX4_3) (hts _ woi) (hts _ woc) rfl (hl.1.trans Y.2.2.1.symm) rfl dX4_init_1 (Nat.le_of_ble_eq_true rfl) (Nat.le_of_ble_eq_true rfl) ?_
  refine W.eq (g2 := F0 m 4 ls []) rfl ?_
  refine lv_aload_n hx hb dX4_init_4 rfl (lv_at hl 0 rfl) ?_
  refine i_new Y hW hS hm (by decide) cl_5 df_5 nl_RX4_9 dX4_init_5 (Nat.le_of_ble_eq_true rfl) (Nat.le_of_ble_eq_true rfl) (fun C1000001 H hl1 hm hW hS => ?_)
  refine lv_dup hx hb dX4_init_8 rfl ?_
  refine lv_sipush (v := 512) hx hb dX4_init_9 (by decide) ?_
  obtain ⟨C1000003, hc1000002, hm⟩ := q_b1i hm
  refine i_callI Y hW hS (As := [.int 512]) (rest := [.ref (b + (List.length C)), .ref (b + x0)]) (iX5_init l D b C1000001 (List.length C) 512 C1000003 512 (by decide) hc1000002) yl_X5_init vi_X5_init rfl ml_RX4_11 rfl ⟨(Nat.le_of_ble_eq_true rfl), (Nat.le_of_ble_eq_true rfl)⟩ hl rfl (Nat.le_of_ble_eq_true rfl) dX4_init_12 ⟨(Nat.le_of_ble_eq_true rfl), (Nat.le_of_ble_eq_true rfl)⟩ (fun H locs hW hS => ?_)
  refine i_putR Y hW hS hm (by decide) (by decide) cl_4 gl_RX4_14 hin (fun _ _ _ h _ => by cases h; rfl) rfl (fun _ => rfl) (fun _ => rfl) dX4_init_15 (fun C1000004 H locs hl1 hm hW hS => ?_)
  refine lv_aload_n hx hb dX4_init_18 rfl (lv_at hl 0 rfl) ?_
  refine i_new Y hW hS hm (by decide) cl_8 df_8 nl_RX4_20 dX4_init_19 (Nat.le_of_ble_eq_true rfl) (Nat.le_of_ble_eq_true rfl) (fun C1000005 H hl1 hm hW hS => ?_)
  refine lv_dup hx hb dX4_init_22 rfl ?_
  obtain ⟨C1000007, hc1000006, hm⟩ := q_b1i hm
  refine i_callI Y hW hS (As := []) (rest := [.ref (b + (List.length C1000004)), .ref (b + x0)]) (iX8_init l D b C1000005 (List.length C1000004) C1000007 hc1000006) yl_X8_init vi_X8_init rfl ml_RX4_22 rfl ⟨(Nat.le_of_ble_eq_true rfl), (Nat.le_of_ble_eq_true rfl)⟩ hl rfl (Nat.le_of_ble_eq_true rfl) dX4_init_23 ⟨(Nat.le_of_ble_eq_true rfl), (Nat.le_of_ble_eq_true rfl)⟩ (fun H locs hW hS => ?_)
  refine i_putR Y hW hS hm (by decide) (by decide) cl_4 gl_RX4_23 hin (fun _ _ _ h _ => by cases h; rfl) rfl (fun _ => rfl) (fun _ => rfl) dX4_init_26 (fun C1000008 H locs hl1 hm hW hS => ?_)
  refine lv_aload_n hx hb dX4_init_29 rfl (lv_at hl 0 rfl) ?_
  refine lv_bipush (v := 6) hx hb dX4_init_30 (by decide) ?_
  refine i_anew Y hW hS hm (N := 6) (t0 := 6) rfl wl_RX4_9 wo_5 (by decide) dX4_init_32 (Nat.le_of_ble_eq_true rfl) (Nat.le_of_ble_eq_true rfl) (fun C1000009 H hl1 hm hW hS => ?_)
  refine i_putR Y hW hS hm (by decide) (by decide) cl_4 gl_RX4_27 hin (fun _ _ _ h _ => by cases h; rfl) rfl (fun _ => rfl) (fun _ => rfl) dX4_init_35 (fun C1000010 H locs hl1 hm hW hS => ?_)
  refine lv_aload_n hx hb dX4_init_38 rfl (lv_at hl 0 rfl) ?_
  refine lv_bipush (v := 6) hx hb dX4_init_39 (by decide) ?_
  refine i_anew Y hW hS hm (N := 6) (t0 := 6) rfl wl_RX4_9 wo_5 (by decide) dX4_init_41 (Nat.le_of_ble_eq_true rfl) (Nat.le_of_ble_eq_true rfl) (fun C1000011 H hl1 hm hW hS => ?_)
  refine i_putR Y hW hS hm (by decide) (by decide) cl_4 gl_RX4_31 hin (fun _ _ _ h _ => by cases h; rfl) rfl (fun _ => rfl) (fun _ => rfl) dX4_init_44 (fun C1000012 H locs hl1 hm hW hS => ?_)
  refine lv_aload_n hx hb dX4_init_47 rfl (lv_at hl 0 rfl) ?_
  refine lv_iconst (v := 0) hx hb dX4_init_48 (by decide) ?_
  refine i_putI Y hW hS hm ff_4_4 cl_4 gl_RX4_34 hin (fun _ _ _ h _ => by cases h; rfl) rfl dX4_init_49 (fun C1000013 H locs hl1 hm hW hS => ?_)
  refine lv_aload_n hx hb dX4_init_52 rfl (lv_at hl 0 rfl) ?_
  refine lv_iconst (v := 0) hx hb dX4_init_53 (by decide) ?_
  refine i_putI Y hW hS hm ff_4_5 cl_4 gl_RX4_38 hin (fun _ _ _ h _ => by cases h; rfl) rfl dX4_init_54 (fun C1000014 H locs hl1 hm hW hS => ?_)
  refine lv_iconst (v := 0) hx hb dX4_init_57 (by decide) ?_
  refine lv_istore_n (i := 1) (lv' := [(1, .int 0), (0, .ref (b + x0))]) hx hb dX4_init_58 rfl hl (by decide) rfl (fun ls hl => ?_)
  refine lv_iload_n hx hb dX4_init_59 rfl (lv_at hl 0 rfl) ?_
  refine lv_bipush (v := 6) hx hb dX4_init_60 (by decide) ?_
  refine lv_icmp_ge (tgt := 103) hx hb dX4_init_62 (by decide) (fun h => absurd h (by decide)) (fun _ => ?_)
  refine lv_aload_n hx hb dX4_init_65 rfl (lv_at hl 1 rfl) ?_
  refine i_getR Y hW hm (by decide) (by decide) cl_4 fl_RX4_27 dX4_init_66 (fun o1000015 hm => ?_)
  refine lv_iload_n hx hb dX4_init_69 rfl (lv_at hl 0 rfl) ?_
  refine i_new Y hW hS hm (by decide) cl_5 df_5 nl_RX4_9 dX4_init_70 (Nat.le_of_ble_eq_true rfl) (Nat.le_of_ble_eq_true rfl) (fun C1000016 H hl1 hm hW hS => ?_)
  refine lv_dup hx hb dX4_init_73 rfl ?_
  refine lv_sipush (v := 512) hx hb dX4_init_74 (by decide) ?_
  obtain ⟨C1000018, hc1000017, hm⟩ := q_b1i hm
  refine i_callI Y hW hS (As := [.int 512]) (rest := [.ref (b + (List.length C1000014)), .int 0, .ref (b + o1000015)]) (iX5_init l D b C1000016 (List.length C1000014) 512 C1000018 512 (by decide) hc1000017) yl_X5_init vi_X5_init rfl ml_RX4_11 rfl ⟨(Nat.le_of_ble_eq_true rfl), (Nat.le_of_ble_eq_true rfl)⟩ hl rfl (Nat.le_of_ble_eq_true rfl) dX4_init_77 ⟨(Nat.le_of_ble_eq_true rfl), (Nat.le_of_ble_eq_true rfl)⟩ (fun H locs hW hS => ?_)
  refine i_aast Y hW hS hm (t0 := 6) (by decide) rfl rfl dX4_init_80 (fun C1000019 H locs hl1 hm hW hS => ?_)
  refine lv_aload_n hx hb dX4_init_81 rfl (lv_at hl 1 rfl) ?_
  refine i_getR Y hW hm (by decide) (by decide) cl_4 fl_RX4_31 dX4_init_82 (fun o1000020 hm => ?_)
  refine lv_iload_n hx hb dX4_init_85 rfl (lv_at hl 0 rfl) ?_
  refine i_new Y hW hS hm (by decide) cl_5 df_5 nl_RX4_9 dX4_init_86 (Nat.le_of_ble_eq_true rfl) (Nat.le_of_ble_eq_true rfl) (fun C1000021 H hl1 hm hW hS => ?_)
  refine lv_dup hx hb dX4_init_89 rfl ?_
  refine lv_sipush (v := 512) hx hb dX4_init_90 (by decide) ?_
  obtain ⟨C1000023, hc1000022, hm⟩ := q_b1i hm
  refine i_callI Y hW hS (As := [.int 512]) (rest := [.ref (b + (List.length C1000019)), .int 0, .ref (b + o1000020)]) (iX5_init l D b C1000021 (List.length C1000019) 512 C1000023 512 (by decide) hc1000022) yl_X5_init vi_X5_init rfl ml_RX4_11 rfl ⟨(Nat.le_of_ble_eq_true rfl), (Nat.le_of_ble_eq_true rfl)⟩ hl rfl (Nat.le_of_ble_eq_true rfl) dX4_init_93 ⟨(Nat.le_of_ble_eq_true rfl), (Nat.le_of_ble_eq_true rfl)⟩ (fun H locs hW hS => ?_)
  refine i_aast Y hW hS hm (t0 := 6) (by decide) rfl rfl dX4_init_96 (fun C1000024 H locs hl1 hm hW hS => ?_)
  refine lv_iinc (v := 1) (lv' := [(1, .int 1), (0, .ref (b + x0))]) hx hb dX4_init_97 hl (k := 0) rfl (by decide) (by decide) rfl (fun ls hl => ?_)
  refine lv_goto (tgt := 59) hx hb dX4_init_100 (by decide) ?_
  refine lv_iload_n hx hb dX4_init_59 rfl (lv_at hl 0 rfl) ?_
  refine lv_bipush (v := 6) hx hb dX4_init_60 (by decide) ?_
  refine lv_icmp_ge (tgt := 103) hx hb dX4_init_62 (by decide) (fun h => absurd h (by decide)) (fun _ => ?_)
  refine lv_aload_n hx hb dX4_init_65 rfl (lv_at hl 1 rfl) ?_
  refine i_getR Y hW hm (by decide) (by decide) cl_4 fl_RX4_27 dX4_init_66 (fun o1000025 hm => ?_)
  refine lv_iload_n hx hb dX4_init_69 rfl (lv_at hl 0 rfl) ?_
  refine i_new Y hW hS hm (by decide) cl_5 df_5 nl_RX4_9 dX4_init_70 (Nat.le_of_ble_eq_true rfl) (Nat.le_of_ble_eq_true rfl) (fun C1000026 H hl1 hm hW hS => ?_)
  refine lv_dup hx hb dX4_init_73 rfl ?_
  refine lv_sipush (v := 512) hx hb dX4_init_74 (by decide) ?_
  obtain ⟨C1000028, hc1000027, hm⟩ := q_b1i hm
  refine i_callI Y hW hS (As := [.int 512]) (rest := [.ref (b + (List.length C1000024)), .int 1, .ref (b + o1000025)]) (iX5_init l D b C1000026 (List.length C1000024) 512 C1000028 512 (by decide) hc1000027) yl_X5_init vi_X5_init rfl ml_RX4_11 rfl ⟨(Nat.le_of_ble_eq_true rfl), (Nat.le_of_ble_eq_true rfl)⟩ hl rfl (Nat.le_of_ble_eq_true rfl) dX4_init_77 ⟨(Nat.le_of_ble_eq_true rfl), (Nat.le_of_ble_eq_true rfl)⟩ (fun H locs hW hS => ?_)
  refine i_aast Y hW hS hm (t0 := 6) (by decide) rfl rfl dX4_init_80 (fun C1000029 H locs hl1 hm hW hS => ?_)
  refine lv_aload_n hx hb dX4_init_81 rfl (lv_at hl 1 rfl) ?_
  refine i_getR Y hW hm (by decide) (by decide) cl_4 fl_RX4_31 dX4_init_82 (fun o1000030 hm => ?_)
  refine lv_iload_n hx hb dX4_init_85 rfl (lv_at hl 0 rfl) ?_
  refine i_new Y hW hS hm (by decide) cl_5 df_5 nl_RX4_9 dX4_init_86 (Nat.le_of_ble_eq_true rfl) (Nat.le_of_ble_eq_true rfl) (fun C1000031 H hl1 hm hW hS => ?_)
  refine lv_dup hx hb dX4_init_89 rfl ?_
  refine lv_sipush (v := 512) hx hb dX4_init_90 (by decide) ?_
  obtain ⟨C1000033, hc1000032, hm⟩ := q_b1i hm
  refine i_callI Y hW hS (As := [.int 512]) (rest := [.ref (b + (List.length C1000029)), .int 1, .ref (b + o1000030)]) (iX5_init l D b C1000031 (List.length C1000029) 512 C1000033 512 (by decide) hc1000032) yl_X5_init vi_X5_init rfl ml_RX4_11 rfl ⟨(Nat.le_of_ble_eq_true rfl), (Nat.le_of_ble_eq_true rfl)⟩ hl rfl (Nat.le_of_ble_eq_true rfl) dX4_init_93 ⟨(Nat.le_of_ble_eq_true rfl), (Nat.le_of_ble_eq_true rfl)⟩ (fun H locs hW hS => ?_)
  refine i_aast Y hW hS hm (t0 := 6) (by decide) rfl rfl dX4_init_96 (fun C1000034 H locs hl1 hm hW hS => ?_)
  refine lv_iinc (v := 2) (lv' := [(1, .int 2), (0, .ref (b + x0))]) hx hb dX4_init_97 hl (k := 0) rfl (by decide) (by decide) rfl (fun ls hl => ?_)
  refine lv_goto (tgt := 59) hx hb dX4_init_100 (by decide) ?_
  refine lv_iload_n hx hb dX4_init_59 rfl (lv_at hl 0 rfl) ?_
  refine lv_bipush (v := 6) hx hb dX4_init_60 (by decide) ?_
  refine lv_icmp_ge (tgt := 103) hx hb dX4_init_62 (by decide) (fun h => absurd h (by decide)) (fun _ => ?_)
  refine lv_aload_n hx hb dX4_init_65 rfl (lv_at hl 1 rfl) ?_
  refine i_getR Y hW hm (by decide) (by decide) cl_4 fl_RX4_27 dX4_init_66 (fun o1000035 hm => ?_)
  refine lv_iload_n hx hb dX4_init_69 rfl (lv_at hl 0 rfl) ?_
  refine i_new Y hW hS hm (by decide) cl_5 df_5 nl_RX4_9 dX4_init_70 (Nat.le_of_ble_eq_true rfl) (Nat.le_of_ble_eq_true rfl) (fun C1000036 H hl1 hm hW hS => ?_)
  refine lv_dup hx hb dX4_init_73 rfl ?_
  refine lv_sipush (v := 512) hx hb dX4_init_74 (by decide) ?_
  obtain ⟨C1000038, hc1000037, hm⟩ := q_b1i hm
  refine i_callI Y hW hS (As := [.int 512]) (rest := [.ref (b + (List.length C1000034)), .int 2, .ref (b + o1000035)]) (iX5_init l D b C1000036 (List.length C1000034) 512 C1000038 512 (by decide) hc1000037) yl_X5_init vi_X5_init rfl ml_RX4_11 rfl ⟨(Nat.le_of_ble_eq_true rfl), (Nat.le_of_ble_eq_true rfl)⟩ hl rfl (Nat.le_of_ble_eq_true rfl) dX4_init_77 ⟨(Nat.le_of_ble_eq_true rfl), (Nat.le_of_ble_eq_true rfl)⟩ (fun H locs hW hS => ?_)
  refine i_aast Y hW hS hm (t0 := 6) (by decide) rfl rfl dX4_init_80 (fun C1000039 H locs hl1 hm hW hS => ?_)
  refine lv_aload_n hx hb dX4_init_81 rfl (lv_at hl 1 rfl) ?_
  refine i_getR Y hW hm (by decide) (by decide) cl_4 fl_RX4_31 dX4_init_82 (fun o1000040 hm => ?_)
  refine lv_iload_n hx hb dX4_init_85 rfl (lv_at hl 0 rfl) ?_
  refine i_new Y hW hS hm (by decide) cl_5 df_5 nl_RX4_9 dX4_init_86 (Nat.le_of_ble_eq_true rfl) (Nat.le_of_ble_eq_true rfl) (fun C1000041 H hl1 hm hW hS => ?_)
  refine lv_dup hx hb dX4_init_89 rfl ?_
  refine lv_sipush (v := 512) hx hb dX4_init_90 (by decide) ?_
  obtain ⟨C1000043, hc1000042, hm⟩ := q_b1i hm
  refine i_callI Y hW hS (As := [.int 512]) (rest := [.ref (b + (List.length C1000039)), .int 2, .ref (b + o1000040)]) (iX5_init l D b C1000041 (List.length C1000039) 512 C1000043 512 (by decide) hc1000042) yl_X5_init vi_X5_init rfl ml_RX4_11 rfl ⟨(Nat.le_of_ble_eq_true rfl), (Nat.le_of_ble_eq_true rfl)⟩ hl rfl (Nat.le_of_ble_eq_true rfl) dX4_init_93 ⟨(Nat.le_of_ble_eq_true rfl), (Nat.le_of_ble_eq_true rfl)⟩ (fun H locs hW hS => ?_)
  refine i_aast Y hW hS hm (t0 := 6) (by decide) rfl rfl dX4_init_96 (fun C1000044 H locs hl1 hm hW hS => ?_)
  refine lv_iinc (v := 3) (lv' := [(1, .int 3), (0, .ref (b + x0))]) hx hb dX4_init_97 hl (k := 0) rfl (by decide) (by decide) rfl (fun ls hl => ?_)
  refine lv_goto (tgt := 59) hx hb dX4_init_100 (by decide) ?_
  refine lv_iload_n hx hb dX4_init_59 rfl (lv_at hl 0 rfl) ?_
  refine lv_bipush (v := 6) hx hb dX4_init_60 (by decide) ?_
  refine lv_icmp_ge (tgt := 103) hx hb dX4_init_62 (by decide) (fun h => absurd h (by decide)) (fun _ => ?_)
  refine lv_aload_n hx hb dX4_init_65 rfl (lv_at hl 1 rfl) ?_
  refine i_getR Y hW hm (by decide) (by decide) cl_4 fl_RX4_27 dX4_init_66 (fun o1000045 hm => ?_)
  refine lv_iload_n hx hb dX4_init_69 rfl (lv_at hl 0 rfl) ?_
  refine i_new Y hW hS hm (by decide) cl_5 df_5 nl_RX4_9 dX4_init_70 (Nat.le_of_ble_eq_true rfl) (Nat.le_of_ble_eq_true rfl) (fun C1000046 H hl1 hm hW hS => ?_)
  refine lv_dup hx hb dX4_init_73 rfl ?_
  refine lv_sipush (v := 512) hx hb dX4_init_74 (by decide) ?_
  obtain ⟨C1000048, hc1000047, hm⟩ := q_b1i hm
  refine i_callI Y hW hS (As := [.int 512]) (rest := [.ref (b + (List.length C1000044)), .int 3, .ref (b + o1000045)]) (iX5_init l D b C1000046 (List.length C1000044) 512 C1000048 512 (by decide) hc1000047) yl_X5_init vi_X5_init rfl ml_RX4_11 rfl ⟨(Nat.le_of_ble_eq_true rfl), (Nat.le_of_ble_eq_true rfl)⟩ hl rfl (Nat.le_of_ble_eq_true rfl) dX4_init_77 ⟨(Nat.le_of_ble_eq_true rfl), (Nat.le_of_ble_eq_true rfl)⟩ (fun H locs hW hS => ?_)
  refine i_aast Y hW hS hm (t0 := 6) (by decide) rfl rfl dX4_init_80 (fun C1000049 H locs hl1 hm hW hS => ?_)
  refine lv_aload_n hx hb dX4_init_81 rfl (lv_at hl 1 rfl) ?_
  refine i_getR Y hW hm (by decide) (by decide) cl_4 fl_RX4_31 dX4_init_82 (fun o1000050 hm => ?_)
  refine lv_iload_n hx hb dX4_init_85 rfl (lv_at hl 0 rfl) ?_
  refine i_new Y hW hS hm (by decide) cl_5 df_5 nl_RX4_9 dX4_init_86 (Nat.le_of_ble_eq_true rfl) (Nat.le_of_ble_eq_true rfl) (fun C1000051 H hl1 hm hW hS => ?_)
  refine lv_dup hx hb dX4_init_89 rfl ?_
  refine lv_sipush (v := 512) hx hb dX4_init_90 (by decide) ?_
  obtain ⟨C1000053, hc1000052, hm⟩ := q_b1i hm
  refine i_callI Y hW hS (As := [.int 512]) (rest := [.ref (b + (List.length C1000049)), .int 3, .ref (b + o1000050)]) (iX5_init l D b C1000051 (List.length C1000049) 512 C1000053 512 (by decide) hc1000052) yl_X5_init vi_X5_init rfl ml_RX4_11 rfl ⟨(Nat.le_of_ble_eq_true rfl), (Nat.le_of_ble_eq_true rfl)⟩ hl rfl (Nat.le_of_ble_eq_true rfl) dX4_init_93 ⟨(Nat.le_of_ble_eq_true rfl), (Nat.le_of_ble_eq_true rfl)⟩ (fun H locs hW hS => ?_)
  refine i_aast Y hW hS hm (t0 := 6) (by decide) rfl rfl dX4_init_96 (fun C1000054 H locs hl1 hm hW hS => ?_)
  refine lv_iinc (v := 4) (lv' := [(1, .int 4), (0, .ref (b + x0))]) hx hb dX4_init_97 hl (k := 0) rfl (by decide) (by decide) rfl (fun ls hl => ?_)
  refine lv_goto (tgt := 59) hx hb dX4_init_100 (by decide) ?_
  refine lv_iload_n hx hb dX4_init_59 rfl (lv_at hl 0 rfl) ?_
  refine lv_bipush (v := 6) hx hb dX4_init_60 (by decide) ?_
  refine lv_icmp_ge (tgt := 103) hx hb dX4_init_62 (by decide) (fun h => absurd h (by decide)) (fun _ => ?_)
  refine lv_aload_n hx hb dX4_init_65 rfl (lv_at hl 1 rfl) ?_
  refine i_getR Y hW hm (by decide) (by decide) cl_4 fl_RX4_27 dX4_init_66 (fun o1000055 hm => ?_)
  refine lv_iload_n hx hb dX4_init_69 rfl (lv_at hl 0 rfl) ?_
  refine i_new Y hW hS hm (by decide) cl_5 df_5 nl_RX4_9 dX4_init_70 (Nat.le_of_ble_eq_true rfl) (Nat.le_of_ble_eq_true rfl) (fun C1000056 H hl1 hm hW hS => ?_)
  refine lv_dup hx hb dX4_init_73 rfl ?_
  refine lv_sipush (v := 512) hx hb dX4_init_74 (by decide) ?_
  obtain ⟨C1000058, hc1000057, hm⟩ := q_b1i hm
  refine i_callI Y hW hS (As := [.int 512]) (rest := [.ref (b + (List.length C1000054)), .int 4, .ref (b + o1000055)]) (iX5_init l D b C1000056 (List.length C1000054) 512 C1000058 512 (by decide) hc1000057) yl_X5_init vi_X5_init rfl ml_RX4_11 rfl ⟨(Nat.le_of_ble_eq_true rfl), (Nat.le_of_ble_eq_true rfl)⟩ hl rfl (Nat.le_of_ble_eq_true rfl) dX4_init_77 ⟨(Nat.le_of_ble_eq_true rfl), (Nat.le_of_ble_eq_true rfl)⟩ (fun H locs hW hS => ?_)
  refine i_aast Y hW hS hm (t0 := 6) (by decide) rfl rfl dX4_init_80 (fun C1000059 H locs hl1 hm hW hS => ?_)
  refine lv_aload_n hx hb dX4_init_81 rfl (lv_at hl 1 rfl) ?_
  refine i_getR Y hW hm (by decide) (by decide) cl_4 fl_RX4_31 dX4_init_82 (fun o1000060 hm => ?_)
  refine lv_iload_n hx hb dX4_init_85 rfl (lv_at hl 0 rfl) ?_
  refine i_new Y hW hS hm (by decide) cl_5 df_5 nl_RX4_9 dX4_init_86 (Nat.le_of_ble_eq_true rfl) (Nat.le_of_ble_eq_true rfl) (fun C1000061 H hl1 hm hW hS => ?_)
  refine lv_dup hx hb dX4_init_89 rfl ?_
  refine lv_sipush (v := 512) hx hb dX4_init_90 (by decide) ?_
  obtain ⟨C1000063, hc1000062, hm⟩ := q_b1i hm
  refine i_callI Y hW hS (As := [.int 512]) (rest := [.ref (b + (List.length C1000059)), .int 4, .ref (b + o1000060)]) (iX5_init l D b C1000061 (List.length C1000059) 512 C1000063 512 (by decide) hc1000062) yl_X5_init vi_X5_init rfl ml_RX4_11 rfl ⟨(Nat.le_of_ble_eq_true rfl), (Nat.le_of_ble_eq_true rfl)⟩ hl rfl (Nat.le_of_ble_eq_true rfl) dX4_init_93 ⟨(Nat.le_of_ble_eq_true rfl), (Nat.le_of_ble_eq_true rfl)⟩ (fun H locs hW hS => ?_)
  refine i_aast Y hW hS hm (t0 := 6) (by decide) rfl rfl dX4_init_96 (fun C1000064 H locs hl1 hm hW hS => ?_)
  refine lv_iinc (v := 5) (lv' := [(1, .int 5), (0, .ref (b + x0))]) hx hb dX4_init_97 hl (k := 0) rfl (by decide) (by decide) rfl (fun ls hl => ?_)
  refine lv_goto (tgt := 59) hx hb dX4_init_100 (by decide) ?_
  refine lv_iload_n hx hb dX4_init_59 rfl (lv_at hl 0 rfl) ?_
  refine lv_bipush (v := 6) hx hb dX4_init_60 (by decide) ?_
  refine lv_icmp_ge (tgt := 103) hx hb dX4_init_62 (by decide) (fun h => absurd h (by decide)) (fun _ => ?_)
  refine lv_aload_n hx hb dX4_init_65 rfl (lv_at hl 1 rfl) ?_
  refine i_getR Y hW hm (by decide) (by decide) cl_4 fl_RX4_27 dX4_init_66 (fun o1000065 hm => ?_)
  refine lv_iload_n hx hb dX4_init_69 rfl (lv_at hl 0 rfl) ?_
  refine i_new Y hW hS hm (by decide) cl_5 df_5 nl_RX4_9 dX4_init_70 (Nat.le_of_ble_eq_true rfl) (Nat.le_of_ble_eq_true rfl) (fun C1000066 H hl1 hm hW hS => ?_)
  refine lv_dup hx hb dX4_init_73 rfl ?_
  refine lv_sipush (v := 512) hx hb dX4_init_74 (by decide) ?_
  obtain ⟨C1000068, hc1000067, hm⟩ := q_b1i hm
  refine i_callI Y hW hS (As := [.int 512]) (rest := [.ref (b + (List.length C1000064)), .int 5, .ref (b + o1000065)]) (iX5_init l D b C1000066 (List.length C1000064) 512 C1000068 512 (by decide) hc1000067) yl_X5_init vi_X5_init rfl ml_RX4_11 rfl ⟨(Nat.le_of_ble_eq_true rfl), (Nat.le_of_ble_eq_true rfl)⟩ hl rfl (Nat.le_of_ble_eq_true rfl) dX4_init_77 ⟨(Nat.le_of_ble_eq_true rfl), (Nat.le_of_ble_eq_true rfl)⟩ (fun H locs hW hS => ?_)
  refine i_aast Y hW hS hm (t0 := 6) (by decide) rfl rfl dX4_init_80 (fun C1000069 H locs hl1 hm hW hS => ?_)
  refine lv_aload_n hx hb dX4_init_81 rfl (lv_at hl 1 rfl) ?_
  refine i_getR Y hW hm (by decide) (by decide) cl_4 fl_RX4_31 dX4_init_82 (fun o1000070 hm => ?_)
  refine lv_iload_n hx hb dX4_init_85 rfl (lv_at hl 0 rfl) ?_
  refine i_new Y hW hS hm (by decide) cl_5 df_5 nl_RX4_9 dX4_init_86 (Nat.le_of_ble_eq_true rfl) (Nat.le_of_ble_eq_true rfl) (fun C1000071 H hl1 hm hW hS => ?_)
  refine lv_dup hx hb dX4_init_89 rfl ?_
  refine lv_sipush (v := 512) hx hb dX4_init_90 (by decide) ?_
  obtain ⟨C1000073, hc1000072, hm⟩ := q_b1i hm
  refine i_callI Y hW hS (As := [.int 512]) (rest := [.ref (b + (List.length C1000069)), .int 5, .ref (b + o1000070)]) (iX5_init l D b C1000071 (List.length C1000069) 512 C1000073 512 (by decide) hc1000072) yl_X5_init vi_X5_init rfl ml_RX4_11 rfl ⟨(Nat.le_of_ble_eq_true rfl), (Nat.le_of_ble_eq_true rfl)⟩ hl rfl (Nat.le_of_ble_eq_true rfl) dX4_init_93 ⟨(Nat.le_of_ble_eq_true rfl), (Nat.le_of_ble_eq_true rfl)⟩ (fun H locs hW hS => ?_)
  refine i_aast Y hW hS hm (t0 := 6) (by decide) rfl rfl dX4_init_96 (fun C1000074 H locs hl1 hm hW hS => ?_)
  refine lv_iinc (v := 6) (lv' := [(1, .int 6), (0, .ref (b + x0))]) hx hb dX4_init_97 hl (k := 0) rfl (by decide) (by decide) rfl (fun ls hl => ?_)
  refine lv_goto (tgt := 59) hx hb dX4_init_100 (by decide) ?_
  refine lv_iload_n hx hb dX4_init_59 rfl (lv_at hl 0 rfl) ?_
  refine lv_bipush (v := 6) hx hb dX4_init_60 (by decide) ?_
  refine lv_icmp_ge (tgt := 103) hx hb dX4_init_62 (by decide) (fun _ => ?_) (fun h => absurd (by decide) h)
  exact j_v Y hW hS hm (Nat.le_of_ble_eq_true rfl) (Nat.le_of_ble_eq_true rfl) dX4_init_103
theorem dX10_init_0 : decode cX10_init 0 = .ok (.aload_n 0, 1) := by decide +kernel
theorem dX10_init_1 : decode cX10_init 1 = .ok (.invokespecial 3, 3) := by decide +kernel
theorem dX10_init_4 : decode cX10_init 4 = .ok (.aload_n 0, 1) := by decide +kernel
theorem dX10_init_5 : decode cX10_init 5 = .ok (.bipush 8, 2) := by decide +kernel
theorem dX10_init_7 : decode cX10_init 7 = .ok (.anewarray 9, 3) := by decide +kernel
theorem dX10_init_10 : decode cX10_init 10 = .ok (.putfield 11, 3) := by decide +kernel
theorem dX10_init_13 : decode cX10_init 13 = .ok (.aload_n 0, 1) := by decide +kernel
theorem dX10_init_14 : decode cX10_init 14 = .ok (.bipush 6, 2) := by decide +kernel
theorem dX10_init_16 : decode cX10_init 16 = .ok (.anewarray 17, 3) := by decide +kernel
theorem dX10_init_19 : decode cX10_init 19 = .ok (.putfield 19, 3) := by decide +kernel
theorem dX10_init_22 : decode cX10_init 22 = .ok (.aload_n 0, 1) := by decide +kernel
theorem dX10_init_23 : decode cX10_init 23 = .ok (.bipush 6, 2) := by decide +kernel
theorem dX10_init_25 : decode cX10_init 25 = .ok (.anewarray 23, 3) := by decide +kernel
theorem dX10_init_28 : decode cX10_init 28 = .ok (.putfield 25, 3) := by decide +kernel
theorem dX10_init_31 : decode cX10_init 31 = .ok (.aload_n 0, 1) := by decide +kernel
theorem dX10_init_32 : decode cX10_init 32 = .ok (.new 29, 3) := by decide +kernel
theorem dX10_init_35 : decode cX10_init 35 = .ok (.dup, 1) := by decide +kernel
theorem dX10_init_36 : decode cX10_init 36 = .ok (.iconst 4, 1) := by decide +kernel
theorem dX10_init_37 : decode cX10_init 37 = .ok (.invokespecial 31, 3) := by decide +kernel
theorem dX10_init_40 : decode cX10_init 40 = .ok (.putfield 34, 3) := by decide +kernel
theorem dX10_init_43 : decode cX10_init 43 = .ok (.aload_n 0, 1) := by decide +kernel
theorem dX10_init_44 : decode cX10_init 44 = .ok (.new 29, 3) := by decide +kernel
theorem dX10_init_47 : decode cX10_init 47 = .ok (.dup, 1) := by decide +kernel
theorem dX10_init_48 : decode cX10_init 48 = .ok (.iconst 4, 1) := by decide +kernel
theorem dX10_init_49 : decode cX10_init 49 = .ok (.invokespecial 31, 3) := by decide +kernel
theorem dX10_init_52 : decode cX10_init 52 = .ok (.putfield 38, 3) := by decide +kernel
theorem dX10_init_55 : decode cX10_init 55 = .ok (.aload_n 0, 1) := by decide +kernel
theorem dX10_init_56 : decode cX10_init 56 = .ok (.new 29, 3) := by decide +kernel
theorem dX10_init_59 : decode cX10_init 59 = .ok (.dup, 1) := by decide +kernel
theorem dX10_init_60 : decode cX10_init 60 = .ok (.iconst 4, 1) := by decide +kernel
theorem dX10_init_61 : decode cX10_init 61 = .ok (.invokespecial 31, 3) := by decide +kernel
theorem dX10_init_64 : decode cX10_init 64 = .ok (.putfield 41, 3) := by decide +kernel
theorem dX10_init_67 : decode cX10_init 67 = .ok (.aload_n 0, 1) := by decide +kernel
theorem dX10_init_68 : decode cX10_init 68 = .ok (.new 29, 3) := by decide +kernel
theorem dX10_init_71 : decode cX10_init 71 = .ok (.dup, 1) := by decide +kernel
theorem dX10_init_72 : decode cX10_init 72 = .ok (.iconst 4, 1) := by decide +kernel
theorem dX10_init_73 : decode cX10_init 73 = .ok (.invokespecial 31, 3) := by decide +kernel
theorem dX10_init_76 : decode cX10_init 76 = .ok (.putfield 44, 3) := by decide +kernel
theorem dX10_init_79 : decode cX10_init 79 = .ok (.aload_n 0, 1) := by decide +kernel
theorem dX10_init_80 : decode cX10_init 80 = .ok (.iconst 0, 1) := by decide +kernel
theorem dX10_init_81 : decode cX10_init 81 = .ok (.putfield 47, 3) := by decide +kernel
theorem dX10_init_84 : decode cX10_init 84 = .ok (.aload_n 0, 1) := by decide +kernel
theorem dX10_init_85 : decode cX10_init 85 = .ok (.iconst 0, 1) := by decide +kernel
theorem dX10_init_86 : decode cX10_init 86 = .ok (.putfield 51, 3) := by decide +kernel
theorem dX10_init_89 : decode cX10_init 89 = .ok (.aload_n 0, 1) := by decide +kernel
theorem dX10_init_90 : decode cX10_init 90 = .ok (.iconst 0, 1) := by decide +kernel
theorem dX10_init_91 : decode cX10_init 91 = .ok (.putfield 54, 3) := by decide +kernel
theorem dX10_init_94 : decode cX10_init 94 = .ok (.aload_n 0, 1) := by decide +kernel
theorem dX10_init_95 : decode cX10_init 95 = .ok (.iconst 0, 1) := by decide +kernel
theorem dX10_init_96 : decode cX10_init 96 = .ok (.putfield 57, 3) := by decide +kernel
theorem dX10_init_99 : decode cX10_init 99 = .ok (.aload_n 0, 1) := by decide +kernel
theorem dX10_init_100 : decode cX10_init 100 = .ok (.iconst 0, 1) := by decide +kernel
theorem dX10_init_101 : decode cX10_init 101 = .ok (.putfield 60, 3) := by decide +kernel
theorem dX10_init_104 : decode cX10_init 104 = .ok (.aload_n 0, 1) := by decide +kernel
theorem dX10_init_105 : decode cX10_init 105 = .ok (.sipush 256, 3) := by decide +kernel
theorem dX10_init_108 : decode cX10_init 108 = .ok (.putfield 63, 3) := by decide +kernel
theorem dX10_init_111 : decode cX10_init 111 = .ok (.aload_n 0, 1) := by decide +kernel
theorem dX10_init_112 : decode cX10_init 112 = .ok (.iconst 0, 1) := by decide +kernel
theorem dX10_init_113 : decode cX10_init 113 = .ok (.putfield 66, 3) := by decide +kernel
theorem dX10_init_116 : decode cX10_init 116 = .ok (.aload_n 0, 1) := by decide +kernel
theorem dX10_init_117 : decode cX10_init 117 = .ok (.iconst 0, 1) := by decide +kernel
theorem dX10_init_118 : decode cX10_init 118 = .ok (.putfield 69, 3) := by decide +kernel
theorem dX10_init_121 : decode cX10_init 121 = .ok (.iconst 0, 1) := by decide +kernel
theorem dX10_init_122 : decode cX10_init 122 = .ok (.istore_n 1, 1) := by decide +kernel
theorem dX10_init_123 : decode cX10_init 123 = .ok (.iload_n 1, 1) := by decide +kernel
theorem dX10_init_124 : decode cX10_init 124 = .ok (.aload_n 0, 1) := by decide +kernel
theorem dX10_init_125 : decode cX10_init 125 = .ok (.getfield 11, 3) := by decide +kernel
theorem dX10_init_128 : decode cX10_init 128 = .ok (.arraylength, 1) := by decide +kernel
theorem dX10_init_129 : decode cX10_init 129 = .ok (.if_icmp .ge 22, 3) := by decide +kernel
theorem dX10_init_132 : decode cX10_init 132 = .ok (.aload_n 0, 1) := by decide +kernel
theorem dX10_init_133 : decode cX10_init 133 = .ok (.getfield 11, 3) := by decide +kernel
theorem dX10_init_136 : decode cX10_init 136 = .ok (.iload_n 1, 1) := by decide +kernel
theorem dX10_init_137 : decode cX10_init 137 = .ok (.new 9, 3) := by decide +kernel
theorem dX10_init_140 : decode cX10_init 140 = .ok (.dup, 1) := by decide +kernel
theorem dX10_init_141 : decode cX10_init 141 = .ok (.invokespecial 72, 3) := by decide +kernel
theorem dX10_init_144 : decode cX10_init 144 = .ok (.aastore, 1) := by decide +kernel
theorem dX10_init_145 : decode cX10_init 145 = .ok (.iinc 1 1, 3) := by decide +kernel
theorem dX10_init_148 : decode cX10_init 148 = .ok (.goto (-25), 3) := by decide +kernel
theorem dX10_init_151 : decode cX10_init 151 = .ok (.iconst 0, 1) := by decide +kernel
theorem dX10_init_152 : decode cX10_init 152 = .ok (.istore_n 1, 1) := by decide +kernel
theorem dX10_init_153 : decode cX10_init 153 = .ok (.iload_n 1, 1) := by decide +kernel
theorem dX10_init_154 : decode cX10_init 154 = .ok (.aload_n 0, 1) := by decide +kernel
theorem dX10_init_155 : decode cX10_init 155 = .ok (.getfield 19, 3) := by decide +kernel
theorem dX10_init_158 : decode cX10_init 158 = .ok (.arraylength, 1) := by decide +kernel
theorem dX10_init_159 : decode cX10_init 159 = .ok (.if_icmp .ge 22, 3) := by decide +kernel
theorem dX10_init_162 : decode cX10_init 162 = .ok (.aload_n 0, 1) := by decide +kernel
theorem dX10_init_163 : decode cX10_init 163 = .ok (.getfield 19, 3) := by decide +kernel
theorem dX10_init_166 : decode cX10_init 166 = .ok (.iload_n 1, 1) := by decide +kernel
theorem dX10_init_167 : decode cX10_init 167 = .ok (.new 17, 3) := by decide +kernel
theorem dX10_init_170 : decode cX10_init 170 = .ok (.dup, 1) := by decide +kernel
theorem dX10_init_171 : decode cX10_init 171 = .ok (.invokespecial 73, 3) := by decide +kernel
theorem dX10_init_174 : decode cX10_init 174 = .ok (.aastore, 1) := by decide +kernel
theorem dX10_init_175 : decode cX10_init 175 = .ok (.iinc 1 1, 3) := by decide +kernel
theorem dX10_init_178 : decode cX10_init 178 = .ok (.goto (-25), 3) := by decide +kernel
theorem dX10_init_181 : decode cX10_init 181 = .ok (.iconst 0, 1) := by decide +kernel
theorem dX10_init_182 : decode cX10_init 182 = .ok (.istore_n 1, 1) := by decide +kernel
theorem dX10_init_183 : decode cX10_init 183 = .ok (.iload_n 1, 1) := by decide +kernel
theorem dX10_init_184 : decode cX10_init 184 = .ok (.aload_n 0, 1) := by decide +kernel
theorem dX10_init_185 : decode cX10_init 185 = .ok (.getfield 25, 3) := by decide +kernel
theorem dX10_init_188 : decode cX10_init 188 = .ok (.arraylength, 1) := by decide +kernel
theorem dX10_init_189 : decode cX10_init 189 = .ok (.if_icmp .ge 22, 3) := by decide +kernel
theorem dX10_init_192 : decode cX10_init 192 = .ok (.aload_n 0, 1) := by decide +kernel
theorem dX10_init_193 : decode cX10_init 193 = .ok (.getfield 25, 3) := by decide +kernel
theorem dX10_init_196 : decode cX10_init 196 = .ok (.iload_n 1, 1) := by decide +kernel
theorem dX10_init_197 : decode cX10_init 197 = .ok (.new 23, 3) := by decide +kernel
theorem dX10_init_200 : decode cX10_init 200 = .ok (.dup, 1) := by decide +kernel
theorem dX10_init_201 : decode cX10_init 201 = .ok (.invokespecial 74, 3) := by decide +kernel
theorem dX10_init_204 : decode cX10_init 204 = .ok (.aastore, 1) := by decide +kernel
theorem dX10_init_205 : decode cX10_init 205 = .ok (.iinc 1 1, 3) := by decide +kernel
theorem dX10_init_208 : decode cX10_init 208 = .ok (.goto (-25), 3) := by decide +kernel
theorem dX10_init_211 : decode cX10_init 211 = .ok (.return_, 1) := by decide +kernel
set_option maxHeartbeats 10000000 in
set_option maxRecDepth 100000 in
theorem iX10_init (l : Launch) (D : q_D) (b : Nat) (C : List q_Ce) (x0 : Nat) (C0 : List q_Ce) (hm : IX10_init C x0 = some C0) : q_Mi l yX10_init cX10_init 2 none 3 62 D b [.ref (b + x0)] C none C0 71 1236 := by
  refine q_Mi.of (by decide) (Nat.le_of_ble_eq_true rfl) ?_
  intro p e s m args below meth c ls Y hin hW hl
  have hx := Y.1
  have hb := Y.2.1
  have hown := Y.2.2.2.2.2.1
  have hts := Y.2.2.2.2.2.2.1
  have hs0 : s.heap.size = b + List.length C := hW.2.1
  have hS : va_S (fun q => b ≤ q) s.heap s.heap [] := va_S.rf
  have hl : lv_has ls 2 [(0, .ref (b + x0))] := hl
  unfold IX10_init at hm
  have hin := hin rfl
  refine lv_aload_n hx hb dX10_init_0 rfl (lv_at hl 0 rfl) ?_
  refine W.objInit hx hb hown (hts _ wob_RX10_3) (hts _ woi) (hts _ woc) rfl (hl.1.trans Y.2.2.1.symm) rfl dX10_init_1 (Nat.le_of_ble_eq_true rfl) (Nat.le_of_ble_eq_true rfl) ?_
  refine W.eq (g2 := F0 m 4 ls []) rfl ?_
  refine lv_aload_n hx hb dX10_init_4 rfl (lv_at hl 0 rfl) ?_
  refine lv_bipush (v := 8) hx hb dX10_init_5 (by decide) ?_
  refine i_anew Y hW hS hm (N := 8) (t0 := 4) rfl wl_RX10_9 wo_0 (by decide) dX10_init_7 (Nat.le_of_ble_eq_true rfl) (Nat.le_of_ble_eq_true rfl) (fun C1000001 H hl1 hm hW hS => ?_)
  refine i_putR Y hW hS hm (by decide) (by decide) cl_10 gl_RX10_11 hin (fun _ _ _ h _ => by cases h; rfl) rfl (fun _ => rfl) (fun _ => rfl) dX10_init_10 (fun C1000002 H locs hl1 hm hW hS => ?_)
  refine lv_aload_n hx hb dX10_init_13 rfl (lv_at hl 0 rfl) ?_
  refine lv_bipush (v := 6) hx hb dX10_init_14 (by decide) ?_
  refine i_anew Y hW hS hm (N := 6) (t0 := 5) rfl wl_RX10_17 wo_1 (by decide) dX10_init_16 (Nat.le_of_ble_eq_true rfl) (Nat.le_of_ble_eq_true rfl) (fun C1000003 H hl1 hm hW hS => ?_)
  refine i_putR Y hW hS hm (by decide) (by decide) cl_10 gl_RX10_19 hin (fun _ _ _ h _ => by cases h; rfl) rfl (fun _ => rfl) (fun _ => rfl) dX10_init_19 (fun C1000004 H locs hl1 hm hW hS => ?_)
  refine lv_aload_n hx hb dX10_init_22 rfl (lv_at hl 0 rfl) ?_
  refine lv_bipush (v := 6) hx hb dX10_init_23 (by decide) ?_
  refine i_anew Y hW hS hm (N := 6) (t0 := 7) rfl wl_RX10_23 wo_7 (by decide) dX10_init_25 (Nat.le_of_ble_eq_true rfl) (Nat.le_of_ble_eq_true rfl) (fun C1000005 H hl1 hm hW hS => ?_)
  refine i_putR Y hW hS hm (by decide) (by decide) cl_10 gl_RX10_25 hin (fun _ _ _ h _ => by cases h; rfl) rfl (fun _ => rfl) (fun _ => rfl) dX10_init_28 (fun C1000006 H locs hl1 hm hW hS => ?_)
  refine lv_aload_n hx hb dX10_init_31 rfl (lv_at hl 0 rfl) ?_
  refine i_new Y hW hS hm (by decide) cl_5 df_5 nl_RX10_29 dX10_init_32 (Nat.le_of_ble_eq_true rfl) (Nat.le_of_ble_eq_true rfl) (fun C1000007 H hl1 hm hW hS => ?_)
  refine lv_dup hx hb dX10_init_35 rfl ?_
  refine lv_iconst (v := 4) hx hb dX10_init_36 (by decide) ?_
  obtain ⟨C1000009, hc1000008, hm⟩ := q_b1i hm
  refine i_callI Y hW hS (As := [.int 4]) (rest := [.ref (b + (List.length C1000006)), .ref (b + x0)]) (iX5_init l D b C1000007 (List.length C1000006) 4 C1000009 4 (by decide) hc1000008) yl_X5_init vi_X5_init rfl ml_RX10_31 rfl ⟨(Nat.le_of_ble_eq_true rfl), (Nat.le_of_ble_eq_true rfl)⟩ hl rfl (Nat.le_of_ble_eq_true rfl) dX10_init_37 ⟨(Nat.le_of_ble_eq_true rfl), (Nat.le_of_ble_eq_true rfl)⟩ (fun H locs hW hS => ?_)
  refine i_putR Y hW hS hm (by decide) (by decide) cl_10 gl_RX10_34 hin (fun _ _ _ h _ => by cases h; rfl) rfl (fun _ => rfl) (fun _ => rfl) dX10_init_40 (fun C1000010 H locs hl1 hm hW hS => ?_)
  refine lv_aload_n hx hb dX10_init_43 rfl (lv_at hl 0 rfl) ?_
  refine i_new Y hW hS hm (by decide) cl_5 df_5 nl_RX10_29 dX10_init_44 (Nat.le_of_ble_eq_true rfl) (Nat.le_of_ble_eq_true rfl) (fun C1000011 H hl1 hm hW hS => ?_)
  refine lv_dup hx hb dX10_init_47 rfl ?_
  refine lv_iconst (v := 4) hx hb dX10_init_48 (by decide) ?_
  obtain ⟨C1000013, hc1000012, hm⟩ := q_b1i hm
  refine i_callI Y hW hS (As := [.int 4]) (rest := [.ref (b + (List.length C1000010)), .ref (b + x0)]) (iX5_init l D b C1000011 (List.length C1000010) 4 C1000013 4 (by decide) hc1000012) yl_X5_init vi_X5_init rfl ml_RX10_31 rfl ⟨(Nat.le_of_ble_eq_true rfl), (Nat.le_of_ble_eq_true rfl)⟩ hl rfl (Nat.le_of_ble_eq_true rfl) dX10_init_49 ⟨(Nat.le_of_ble_eq_true rfl), (Nat.le_of_ble_eq_true rfl)⟩ (fun H locs hW hS => ?_)
  refine i_putR Y hW hS hm (by decide) (by decide) cl_10 gl_RX10_38 hin (fun _ _ _ h _ => by cases h; rfl) rfl (fun _ => rfl) (fun _ => rfl) dX10_init_52 (fun C1000014 H locs hl1 hm hW hS => ?_)
  refine lv_aload_n hx hb dX10_init_55 rfl (lv_at hl 0 rfl) ?_
  refine i_new Y hW hS hm (by decide) cl_5 df_5 nl_RX10_29 dX10_init_56 (Nat.le_of_ble_eq_true rfl) (Nat.le_of_ble_eq_true rfl) (fun C1000015 H hl1 hm hW hS => ?_)
  refine lv_dup hx hb dX10_init_59 rfl ?_
  refine lv_iconst (v := 4) hx hb dX10_init_60 (by decide) ?_
  obtain ⟨C1000017, hc1000016, hm⟩ := q_b1i hm
  refine i_callI Y hW hS (As := [.int 4]) (rest := [.ref (b + (List.length C1000014)), .ref (b + x0)]) (iX5_init l D b C1000015 (List.length C1000014) 4 C1000017 4 (by decide) hc1000016) yl_X5_init vi_X5_init rfl ml_RX10_31 rfl ⟨(Nat.le_of_ble_eq_true rfl), (Nat.le_of_ble_eq_true rfl)⟩ hl rfl (Nat.le_of_ble_eq_true rfl) dX10_init_61 ⟨(Nat.le_of_ble_eq_true rfl), (Nat.le_of_ble_eq_true rfl)⟩ (fun H locs hW hS => ?_)
  refine i_putR Y hW hS hm (by decide) (by decide) cl_10 gl_RX10_41 hin (fun _ _ _ h _ => by cases h; rfl) rfl (fun _ => rfl) (fun _ => rfl) dX10_init_64 (fun C1000018 H locs hl1 hm hW hS => ?_)
  refine lv_aload_n hx hb dX10_init_67 rfl (lv_at hl 0 rfl) ?_
  refine i_new Y hW hS hm (by decide) cl_5 df_5 nl_RX10_29 dX10_init_68 (Nat.le_of_ble_eq_true rfl) (Nat.le_of_ble_eq_true rfl) (fun C1000019 H hl1 hm hW hS => ?_)
  refine lv_dup hx hb dX10_init_71 rfl ?_
  refine lv_iconst (v := 4) hx hb dX10_init_72 (by decide) ?_
  obtain ⟨C1000021, hc1000020, hm⟩ := q_b1i hm
  refine i_callI Y hW hS (As := [.int 4]) (rest := [.ref (b + (List.length C1000018)), .ref (b + x0)]) (iX5_init l D b C1000019 (List.length C1000018) 4 C1000021 4 (by decide) hc1000020) yl_X5_init vi_X5_init rfl ml_RX10_31 rfl ⟨(Nat.le_of_ble_eq_true rfl), (Nat.le_of_ble_eq_true rfl)⟩ hl rfl (Nat.le_of_ble_eq_true rfl) dX10_init_73 ⟨(Nat.le_of_ble_eq_true rfl), (Nat.le_of_ble_eq_true rfl)⟩ (fun H locs hW hS => ?_)
  refine i_putR Y hW hS hm (by decide) (by decide) cl_10 gl_RX10_44 hin (fun _ _ _ h _ => by cases h; rfl) rfl (fun _ => rfl) (fun _ => rfl) dX10_init_76 (fun C1000022 H locs hl1 hm hW hS => ?_)
  refine lv_aload_n hx hb dX10_init_79 rfl (lv_at hl 0 rfl) ?_
  refine lv_iconst (v := 0) hx hb dX10_init_80 (by decide) ?_
  refine i_putI Y hW hS hm ff_10_7 cl_10 gl_RX10_47 hin (fun _ _ _ h _ => by cases h; rfl) rfl dX10_init_81 (fun C1000023 H locs hl1 hm hW hS => ?_)
  refine lv_aload_n hx hb dX10_init_84 rfl (lv_at hl 0 rfl) ?_
  refine lv_iconst (v := 0) hx hb dX10_init_85 (by decide) ?_
  refine i_putI Y hW hS hm ff_10_8 cl_10 gl_RX10_51 hin (fun _ _ _ h _ => by cases h; rfl) rfl dX10_init_86 (fun C1000024 H locs hl1 hm hW hS => ?_)
  refine lv_aload_n hx hb dX10_init_89 rfl (lv_at hl 0 rfl) ?_
  refine lv_iconst (v := 0) hx hb dX10_init_90 (by decide) ?_
  refine i_putI Y hW hS hm ff_10_9 cl_10 gl_RX10_54 hin (fun _ _ _ h _ => by cases h; rfl) rfl dX10_init_91 (fun C1000025 H locs hl1 hm hW hS => ?_)
  refine lv_aload_n hx hb dX10_init_94 rfl (lv_at hl 0 rfl) ?_
  refine lv_iconst (v := 0) hx hb dX10_init_95 (by decide) ?_
  refine i_putI Y hW hS hm ff_10_10 cl_10 gl_RX10_57 hin (fun _ _ _ h _ => by cases h; rfl) rfl dX10_init_96 (fun C1000026 H locs hl1 hm hW hS => ?_)
  refine lv_aload_n hx hb dX10_init_99 rfl (lv_at hl 0 rfl) ?_
  refine lv_iconst (v := 0) hx hb dX10_init_100 (by decide) ?_
  refine i_putI Y hW hS hm ff_10_11 cl_10 gl_RX10_60 hin (fun _ _ _ h _ => by cases h; rfl) rfl dX10_init_101 (fun C1000027 H locs hl1 hm hW hS => ?_)
  refine lv_aload_n hx hb dX10_init_104 rfl (lv_at hl 0 rfl) ?_
  refine lv_sipush (v := 256) hx hb dX10_init_105 (by decide) ?_
  refine i_putI Y hW hS hm ff_10_12 cl_10 gl_RX10_63 hin (fun _ _ _ h _ => by cases h; rfl) rfl dX10_init_108 (fun C1000028 H locs hl1 hm hW hS => ?_)
  refine lv_aload_n hx hb dX10_init_111 rfl (lv_at hl 0 rfl) ?_
  refine lv_iconst (v := 0) hx hb dX10_init_112 (by decide) ?_
  refine i_putI Y hW hS hm ff_10_13 cl_10 gl_RX10_66 hin (fun _ _ _ h _ => by cases h; rfl) rfl dX10_init_113 (fun C1000029 H locs hl1 hm hW hS => ?_)
  refine lv_aload_n hx hb dX10_init_116 rfl (lv_at hl 0 rfl) ?_
  refine lv_iconst (v := 0) hx hb dX10_init_117 (by decide) ?_
  refine i_putI Y hW hS hm ff_10_14 cl_10 gl_RX10_69 hin (fun _ _ _ h _ => by cases h; rfl) rfl dX10_init_118 (fun C1000030 H locs hl1 hm hW hS => ?_)
  refine lv_iconst (v := 0) hx hb dX10_init_121 (by decide) ?_
  refine lv_istore_n (i := 1) (lv' := [(1, .int 0), (0, .ref (b + x0))]) hx hb dX10_init_122 rfl hl (by decide) rfl (fun ls hl => ?_)
  refine lv_iload_n hx hb dX10_init_123 rfl (lv_at hl 0 rfl) ?_
  refine lv_aload_n hx hb dX10_init_124 rfl (lv_at hl 1 rfl) ?_
  refine i_getR Y hW hm (by decide) (by decide) cl_10 fl_RX10_11 dX10_init_125 (fun o1000031 hm => ?_)
  refine i_alenR Y hW hm (t0 := 4) (v := 8) rfl (by decide) dX10_init_128 (fun hm => ?_)
  refine lv_icmp_ge (tgt := 151) hx hb dX10_init_129 (by decide) (fun h => absurd h (by decide)) (fun _ => ?_)
  refine lv_aload_n hx hb dX10_init_132 rfl (lv_at hl 1 rfl) ?_
  refine i_getR Y hW hm (by decide) (by decide) cl_10 fl_RX10_11 dX10_init_133 (fun o1000032 hm => ?_)
  refine lv_iload_n hx hb dX10_init_136 rfl (lv_at hl 0 rfl) ?_
  refine i_new Y hW hS hm (by decide) cl_0 df_0 nl_RX10_9 dX10_init_137 (Nat.le_of_ble_eq_true rfl) (Nat.le_of_ble_eq_true rfl) (fun C1000033 H hl1 hm hW hS => ?_)
  refine lv_dup hx hb dX10_init_140 rfl ?_
  obtain ⟨C1000035, hc1000034, hm⟩ := q_b1i hm
  refine i_callI Y hW hS (As := []) (rest := [.ref (b + (List.length C1000030)), .int 0, .ref (b + o1000032)]) (iX0_init l D b C1000033 (List.length C1000030) C1000035 hc1000034) yl_X0_init vi_X0_init rfl ml_RX10_72 rfl ⟨(Nat.le_of_ble_eq_true rfl), (Nat.le_of_ble_eq_true rfl)⟩ hl rfl (Nat.le_of_ble_eq_true rfl) dX10_init_141 ⟨(Nat.le_of_ble_eq_true rfl), (Nat.le_of_ble_eq_true rfl)⟩ (fun H locs hW hS => ?_)
  refine i_aast Y hW hS hm (t0 := 4) (by decide) rfl rfl dX10_init_144 (fun C1000036 H locs hl1 hm hW hS => ?_)
  refine lv_iinc (v := 1) (lv' := [(1, .int 1), (0, .ref (b + x0))]) hx hb dX10_init_145 hl (k := 0) rfl (by decide) (by decide) rfl (fun ls hl => ?_)
  refine lv_goto (tgt := 123) hx hb dX10_init_148 (by decide) ?_
  refine lv_iload_n hx hb dX10_init_123 rfl (lv_at hl 0 rfl) ?_
  refine lv_aload_n hx hb dX10_init_124 rfl (lv_at hl 1 rfl) ?_
  refine i_getR Y hW hm (by decide) (by decide) cl_10 fl_RX10_11 dX10_init_125 (fun o1000037 hm => ?_)
  refine i_alenR Y hW hm (t0 := 4) (v := 8) rfl (by decide) dX10_init_128 (fun hm => ?_)
  refine lv_icmp_ge (tgt := 151) hx hb dX10_init_129 (by decide) (fun h => absurd h (by decide)) (fun _ => ?_)
  refine lv_aload_n hx hb dX10_init_132 rfl (lv_at hl 1 rfl) ?_
  refine i_getR Y hW hm (by decide) (by decide) cl_10 fl_RX10_11 dX10_init_133 (fun o1000038 hm => ?_)
  refine lv_iload_n hx hb dX10_init_136 rfl (lv_at hl 0 rfl) ?_
  refine i_new Y hW hS hm (by decide) cl_0 df_0 nl_RX10_9 dX10_init_137 (Nat.le_of_ble_eq_true rfl) (Nat.le_of_ble_eq_true rfl) (fun C1000039 H hl1 hm hW hS => ?_)
  refine lv_dup hx hb dX10_init_140 rfl ?_
  obtain ⟨C1000041, hc1000040, hm⟩ := q_b1i hm
  refine i_callI Y hW hS (As := []) (rest := [.ref (b + (List.length C1000036)), .int 1, .ref (b + o1000038)]) (iX0_init l D b C1000039 (List.length C1000036) C1000041 hc1000040) yl_X0_init vi_X0_init rfl ml_RX10_72 rfl ⟨(Nat.le_of_ble_eq_true rfl), (Nat.le_of_ble_eq_true rfl)⟩ hl rfl (Nat.le_of_ble_eq_true rfl) dX10_init_141 ⟨(Nat.le_of_ble_eq_true rfl), (Nat.le_of_ble_eq_true rfl)⟩ (fun H locs hW hS => ?_)
  refine i_aast Y hW hS hm (t0 := 4) (by decide) rfl rfl dX10_init_144 (fun C1000042 H locs hl1 hm hW hS => ?_)
  refine lv_iinc (v := 2) (lv' := [(1, .int 2), (0, .ref (b + x0))]) hx hb dX10_init_145 hl (k := 0) rfl (by decide) (by decide) rfl (fun ls hl => ?_)
  refine lv_goto (tgt := 123) hx hb dX10_init_148 (by decide) ?_
  refine lv_iload_n hx hb dX10_init_123 rfl (lv_at hl 0 rfl) ?_
  refine lv_aload_n hx hb dX10_init_124 rfl (lv_at hl 1 rfl) ?_
  refine i_getR Y hW hm (by decide) (by decide) cl_10 fl_RX10_11 dX10_init_125 (fun o1000043 hm => ?_)
  refine i_alenR Y hW hm (t0 := 4) (v := 8) rfl (by decide) dX10_init_128 (fun hm => ?_)
  refine lv_icmp_ge (tgt := 151) hx hb dX10_init_129 (by decide) (fun h => absurd h (by decide)) (fun _ => ?_)
  refine lv_aload_n hx hb dX10_init_132 rfl (lv_at hl 1 rfl) ?_
  refine i_getR Y hW hm (by decide) (by decide) cl_10 fl_RX10_11 dX10_init_133 (fun o1000044 hm => ?_)
  refine lv_iload_n hx hb dX10_init_136 rfl (lv_at hl 0 rfl) ?_
  refine i_new Y hW hS hm (by decide) cl_0 df_0 nl_RX10_9 dX10_init_137 (Nat.le_of_ble_eq_true rfl) (Nat.le_of_ble_eq_true rfl) (fun C1000045 H hl1 hm hW hS => ?_)
  refine lv_dup hx hb dX10_init_140 rfl ?_
  obtain ⟨C1000047, hc1000046, hm⟩ := q_b1i hm
  refine i_callI Y hW hS (As := []) (rest := [.ref (b + (List.length C1000042)), .int 2, .ref (b + o1000044)]) (iX0_init l D b C1000045 (List.length C1000042) C1000047 hc1000046) yl_X0_init vi_X0_init rfl ml_RX10_72 rfl ⟨(Nat.le_of_ble_eq_true rfl), (Nat.le_of_ble_eq_true rfl)⟩ hl rfl (Nat.le_of_ble_eq_true rfl) dX10_init_141 ⟨(Nat.le_of_ble_eq_true rfl), (Nat.le_of_ble_eq_true rfl)⟩ (fun H locs hW hS => ?_)
  refine i_aast Y hW hS hm (t0 := 4) (by decide) rfl rfl dX10_init_144 (fun C1000048 H locs hl1 hm hW hS => ?_)
  refine lv_iinc (v := 3) (lv' := [(1, .int 3), (0, .ref (b + x0))]) hx hb dX10_init_145 hl (k := 0) rfl (by decide) (by decide) rfl (fun ls hl => ?_)
  refine lv_goto (tgt := 123) hx hb dX10_init_148 (by decide) ?_
  refine lv_iload_n hx hb dX10_init_123 rfl (lv_at hl 0 rfl) ?_
  refine lv_aload_n hx hb dX10_init_124 rfl (lv_at hl 1 rfl) ?_
  refine i_getR Y hW hm (by decide) (by decide) cl_10 fl_RX10_11 dX10_init_125 (fun o1000049 hm => ?_)
  refine i_alenR Y hW hm (t0 := 4) (v := 8) rfl (by decide) dX10_init_128 (fun hm => ?_)
  refine lv_icmp_ge (tgt := 151) hx hb dX10_init_129 (by decide) (fun h => absurd h (by decide)) (fun _ => ?_)
  refine lv_aload_n hx hb dX10_init_132 rfl (lv_at hl 1 rfl) ?_
  refine i_getR Y hW hm (by decide) (by decide) cl_10 fl_RX10_11 dX10_init_133 (fun o1000050 hm => ?_)
  refine lv_iload_n hx hb dX10_init_136 rfl (lv_at hl 0 rfl) ?_
  refine i_new Y hW hS hm (by decide) cl_0 df_0 nl_RX10_9 dX10_init_137 (Nat.le_of_ble_eq_true rfl) (Nat.le_of_ble_eq_true rfl) (fun C1000051 H hl1 hm hW hS => ?_)
  refine lv_dup hx hb dX10_init_140 rfl ?_
  obtain ⟨C1000053, hc1000052, hm⟩ := q_b1i hm
  refine i_callI Y hW hS (As := []) (rest := [.ref (b + (List.length C1000048)), .int 3, .ref (b + o1000050)]) (iX0_init l D b C1000051 (List.length C1000048) C1000053 hc1000052) yl_X0_init vi_X0_init rfl ml_RX10_72 rfl ⟨(Nat.le_of_ble_eq_true rfl), (Nat.le_of_ble_eq_true rfl)⟩ hl rfl (Nat.le_of_ble_eq_true rfl) dX10_init_141 ⟨(Nat.le_of_ble_eq_true rfl), (Nat.le_of_ble_eq_true rfl)⟩ (fun H locs hW hS => ?_)
  refine i_aast Y hW hS hm (t0 := 4) (by decide) rfl rfl dX10_init_144 (fun C1000054 H locs hl1 hm hW hS => ?_)
  refine lv_iinc (v := 4) (lv' := [(1, .int 4), (0, .ref (b + x0))]) hx hb dX10_init_145 hl (k := 0) rfl (by decide) (by decide) rfl (fun ls hl => ?_)
  refine lv_goto (tgt := 123) hx hb dX10_init_148 (by decide) ?_
  refine lv_iload_n hx hb dX10_init_123 rfl (lv_at hl 0 rfl) ?_
  refine lv_aload_n hx hb dX10_init_124 rfl (lv_at hl 1 rfl) ?_
  refine i_getR Y hW hm (by decide) (by decide) cl_10 fl_RX10_11 dX10_init_125 (fun o1000055 hm => ?_)
  refine i_alenR Y hW hm (t0 := 4) (v := 8) rfl (by decide) dX10_init_128 (fun hm => ?_)
  refine lv_icmp_ge (tgt := 151) hx hb dX10_init_129 (by decide) (fun h => absurd h (by decide)) (fun _ => ?_)
  refine lv_aload_n hx hb dX10_init_132 rfl (lv_at hl 1 rfl) ?_
  refine i_getR Y hW hm (by decide) (by decide) cl_10 fl_RX10_11 dX10_init_133 (fun o1000056 hm => ?_)
  refine lv_iload_n hx hb dX10_init_136 rfl (lv_at hl 0 rfl) ?_
  refine i_new Y hW hS hm (by decide) cl_0 df_0 nl_RX10_9 dX10_init_137 (Nat.le_of_ble_eq_true rfl) (Nat.le_of_ble_eq_true rfl) (fun C1000057 H hl1 hm hW hS => ?_)
  refine lv_dup hx hb dX10_init_140 rfl ?_
  obtain ⟨C1000059, hc1000058, hm⟩ := q_b1i hm
  refine i_callI Y hW hS (As := []) (rest := [.ref (b + (List.length C1000054)), .int 4, .ref (b + o1000056)]) (iX0_init l D b C1000057 (List.length C1000054) C1000059 hc1000058) yl_X0_init vi_X0_init rfl ml_RX10_72 rfl ⟨(Nat.le_of_ble_eq_true rfl), (Nat.le_of_ble_eq_true rfl)⟩ hl rfl (Nat.le_of_ble_eq_true rfl) dX10_init_141 ⟨(Nat.le_of_ble_eq_true rfl), (Nat.le_of_ble_eq_true rfl)⟩ (fun H locs hW hS => ?_)
  refine i_aast Y hW hS hm (t0 := 4) (by decide) rfl rfl dX10_init_144 (fun C1000060 H locs hl1 hm hW hS => ?_)
  refine lv_iinc (v := 5) (lv' := [(1, .int 5), (0, .ref (b + x0))]) hx hb dX10_init_145 hl (k := 0) rfl (by decide) (by decide) rfl (fun ls hl => ?_)
  refine lv_goto (tgt := 123) hx hb dX10_init_148 (by decide) ?_
  refine lv_iload_n hx hb dX10_init_123 rfl (lv_at hl 0 rfl) ?_
  refine lv_aload_n hx hb dX10_init_124 rfl (lv_at hl 1 rfl) ?_
  refine i_getR Y hW hm (by decide) (by decide) cl_10 fl_RX10_11 dX10_init_125 (fun o1000061 hm => ?_)
  refine i_alenR Y hW hm (t0 := 4) (v := 8) rfl (by decide) dX10_init_128 (fun hm => ?_)
  refine lv_icmp_ge (tgt := 151) hx hb dX10_init_129 (by decide) (fun h => absurd h (by decide)) (fun _ => ?_)
  refine lv_aload_n hx hb dX10_init_132 rfl (lv_at hl 1 rfl) ?_
  refine i_getR Y hW hm (by decide) (by decide) cl_10 fl_RX10_11 dX10_init_133 (fun o1000062 hm => ?_)
  refine lv_iload_n hx hb dX10_init_136 rfl (lv_at hl 0 rfl) ?_
  refine i_new Y hW hS hm (by decide) cl_0 df_0 nl_RX10_9 dX10_init_137 (Nat.le_of_ble_eq_true rfl) (Nat.le_of_ble_eq_true rfl) (fun C1000063 H hl1 hm hW hS => ?_)
  refine lv_dup hx hb dX10_init_140 rfl ?_
  obtain ⟨C1000065, hc1000064, hm⟩ := q_b1i hm
  refine i_callI Y hW hS (As := []) (rest := [.ref (b + (List.length C1000060)), .int 5, .ref (b + o1000062)]) (iX0_init l D b C1000063 (List.length C1000060) C1000065 hc1000064) yl_X0_init vi_X0_init rfl ml_RX10_72 rfl ⟨(Nat.le_of_ble_eq_true rfl), (Nat.le_of_ble_eq_true rfl)⟩ hl rfl (Nat.le_of_ble_eq_true rfl) dX10_init_141 ⟨(Nat.le_of_ble_eq_true rfl), (Nat.le_of_ble_eq_true rfl)⟩ (fun H locs hW hS => ?_)
  refine i_aast Y hW hS hm (t0 := 4) (by decide) rfl rfl dX10_init_144 (fun C1000066 H locs hl1 hm hW hS => ?_)
  refine lv_iinc (v := 6) (lv' := [(1, .int 6), (0, .ref (b + x0))]) hx hb dX10_init_145 hl (k := 0) rfl (by decide) (by decide) rfl (fun ls hl => ?_)
  refine lv_goto (tgt := 123) hx hb dX10_init_148 (by decide) ?_
  refine lv_iload_n hx hb dX10_init_123 rfl (lv_at hl 0 rfl) ?_
  refine lv_aload_n hx hb dX10_init_124 rfl (lv_at hl 1 rfl) ?_
  refine i_getR Y hW hm (by decide) (by decide) cl_10 fl_RX10_11 dX10_init_125 (fun o1000067 hm => ?_)
  refine i_alenR Y hW hm (t0 := 4) (v := 8) rfl (by decide) dX10_init_128 (fun hm => ?_)
  refine lv_icmp_ge (tgt := 151) hx hb dX10_init_129 (by decide) (fun h => absurd h (by decide)) (fun _ => ?_)
  refine lv_aload_n hx hb dX10_init_132 rfl (lv_at hl 1 rfl) ?_
  refine i_getR Y hW hm (by decide) (by decide) cl_10 fl_RX10_11 dX10_init_133 (fun o1000068 hm => ?_)
  refine lv_iload_n hx hb dX10_init_136 rfl (lv_at hl 0 rfl) ?_
  refine i_new Y hW hS hm (by decide) cl_0 df_0 nl_RX10_9 dX10_init_137 (Nat.le_of_ble_eq_true rfl) (Nat.le_of_ble_eq_true rfl) (fun C1000069 H hl1 hm hW hS => ?_)
  refine lv_dup hx hb dX10_init_140 rfl ?_
  obtain ⟨C1000071, hc1000070, hm⟩ := q_b1i hm
  refine i_callI Y hW hS (As := []) (rest := [.ref (b + (List.length C1000066)), .int 6, .ref (b + o1000068)]) (iX0_init l D b C1000069 (List.length C1000066) C1000071 hc1000070) yl_X0_init vi_X0_init rfl ml_RX10_72 rfl ⟨(Nat.le_of_ble_eq_true rfl), (Nat.le_of_ble_eq_true rfl)⟩ hl rfl (Nat.le_of_ble_eq_true rfl) dX10_init_141 ⟨(Nat.le_of_ble_eq_true rfl), (Nat.le_of_ble_eq_true rfl)⟩ (fun H locs hW hS => ?_)
  refine i_aast Y hW hS hm (t0 := 4) (by decide) rfl rfl dX10_init_144 (fun C1000072 H locs hl1 hm hW hS => ?_)
  refine lv_iinc (v := 7) (lv' := [(1, .int 7), (0, .ref (b + x0))]) hx hb dX10_init_145 hl (k := 0) rfl (by decide) (by decide) rfl (fun ls hl => ?_)
  refine lv_goto (tgt := 123) hx hb dX10_init_148 (by decide) ?_
  refine lv_iload_n hx hb dX10_init_123 rfl (lv_at hl 0 rfl) ?_
  refine lv_aload_n hx hb dX10_init_124 rfl (lv_at hl 1 rfl) ?_
  refine i_getR Y hW hm (by decide) (by decide) cl_10 fl_RX10_11 dX10_init_125 (fun o1000073 hm => ?_)
  refine i_alenR Y hW hm (t0 := 4) (v := 8) rfl (by decide) dX10_init_128 (fun hm => ?_)
  refine lv_icmp_ge (tgt := 151) hx hb dX10_init_129 (by decide) (fun h => absurd h (by decide)) (fun _ => ?_)
  refine lv_aload_n hx hb dX10_init_132 rfl (lv_at hl 1 rfl) ?_
  refine i_getR Y hW hm (by decide) (by decide) cl_10 fl_RX10_11 dX10_init_133 (fun o1000074 hm => ?_)
  refine lv_iload_n hx hb dX10_init_136 rfl (lv_at hl 0 rfl) ?_
  refine i_new Y hW hS hm (by decide) cl_0 df_0 nl_RX10_9 dX10_init_137 (Nat.le_of_ble_eq_true rfl) (Nat.le_of_ble_eq_true rfl) (fun C1000075 H hl1 hm hW hS => ?_)
  refine lv_dup hx hb dX10_init_140 rfl ?_
  obtain ⟨C1000077, hc1000076, hm⟩ := q_b1i hm
  refine i_callI Y hW hS (As := []) (rest := [.ref (b + (List.length C1000072)), .int 7, .ref (b + o1000074)]) (iX0_init l D b C1000075 (List.length C1000072) C1000077 hc1000076) yl_X0_init vi_X0_init rfl ml_RX10_72 rfl ⟨(Nat.le_of_ble_eq_true rfl), (Nat.le_of_ble_eq_true rfl)⟩ hl rfl (Nat.le_of_ble_eq_true rfl) dX10_init_141 ⟨(Nat.le_of_ble_eq_true rfl), (Nat.le_of_ble_eq_true rfl)⟩ (fun H locs hW hS => ?_)
  refine i_aast Y hW hS hm (t0 := 4) (by decide) rfl rfl dX10_init_144 (fun C1000078 H locs hl1 hm hW hS => ?_)
  refine lv_iinc (v := 8) (lv' := [(1, .int 8), (0, .ref (b + x0))]) hx hb dX10_init_145 hl (k := 0) rfl (by decide) (by decide) rfl (fun ls hl => ?_)
  refine lv_goto (tgt := 123) hx hb dX10_init_148 (by decide) ?_
  refine lv_iload_n hx hb dX10_init_123 rfl (lv_at hl 0 rfl) ?_
  refine lv_aload_n hx hb dX10_init_124 rfl (lv_at hl 1 rfl) ?_
  refine i_getR Y hW hm (by decide) (by decide) cl_10 fl_RX10_11 dX10_init_125 (fun o1000079 hm => ?_)
  refine i_alenR Y hW hm (t0 := 4) (v := 8) rfl (by decide) dX10_init_128 (fun hm => ?_)
  refine lv_icmp_ge (tgt := 151) hx hb dX10_init_129 (by decide) (fun _ => ?_) (fun h => absurd (by decide) h)
  refine lv_iconst (v := 0) hx hb dX10_init_151 (by decide) ?_
  refine lv_istore_n (i := 1) (lv' := [(1, .int 0), (0, .ref (b + x0))]) hx hb dX10_init_152 rfl hl (by decide) rfl (fun ls hl => ?_)
  refine lv_iload_n hx hb dX10_init_153 rfl (lv_at hl 0 rfl) ?_
  refine lv_aload_n hx hb dX10_init_154 rfl (lv_at hl 1 rfl) ?_
  refine i_getR Y hW hm (by decide) (by decide) cl_10 fl_RX10_19 dX10_init_155 (fun o1000080 hm => ?_)
  refine i_alenR Y hW hm (t0 := 5) (v := 6) rfl (by decide) dX10_init_158 (fun hm => ?_)
  refine lv_icmp_ge (tgt := 181) hx hb dX10_init_159 (by decide) (fun h => absurd h (by decide)) (fun _ => ?_)
  refine lv_aload_n hx hb dX10_init_162 rfl (lv_at hl 1 rfl) ?_
  refine i_getR Y hW hm (by decide) (by decide) cl_10 fl_RX10_19 dX10_init_163 (fun o1000081 hm => ?_)
  refine lv_iload_n hx hb dX10_init_166 rfl (lv_at hl 0 rfl) ?_
  refine i_new Y hW hS hm (by decide) cl_1 df_1 nl_RX10_17 dX10_init_167 (Nat.le_of_ble_eq_true rfl) (Nat.le_of_ble_eq_true rfl) (fun C1000082 H hl1 hm hW hS => ?_)
  refine lv_dup hx hb dX10_init_170 rfl ?_
  obtain ⟨C1000084, hc1000083, hm⟩ := q_b1i hm
  refine i_callI Y hW hS (As := []) (rest := [.ref (b + (List.length C1000078)), .int 0, .ref (b + o1000081)]) (iX1_init l D b C1000082 (List.length C1000078) C1000084 hc1000083) yl_X1_init vi_X1_init rfl ml_RX10_73 rfl ⟨(Nat.le_of_ble_eq_true rfl), (Nat.le_of_ble_eq_true rfl)⟩ hl rfl (Nat.le_of_ble_eq_true rfl) dX10_init_171 ⟨(Nat.le_of_ble_eq_true rfl), (Nat.le_of_ble_eq_true rfl)⟩ (fun H locs hW hS => ?_)
  refine i_aast Y hW hS hm (t0 := 5) (by decide) rfl rfl dX10_init_174 (fun C1000085 H locs hl1 hm hW hS => ?_)
  refine lv_iinc (v := 1) (lv' := [(1, .int 1), (0, .ref (b + x0))]) hx hb dX10_init_175 hl (k := 0) rfl (by decide) (by decide) rfl (fun ls hl => ?_)
  refine lv_goto (tgt := 153) hx hb dX10_init_178 (by decide) ?_
  refine lv_iload_n hx hb dX10_init_153 rfl (lv_at hl 0 rfl) ?_
  refine lv_aload_n hx hb dX10_init_154 rfl (lv_at hl 1 rfl) ?_
  refine i_getR Y hW hm (by decide) (by decide) cl_10 fl_RX10_19 dX10_init_155 (fun o1000086 hm => ?_)
  refine i_alenR Y hW hm (t0 := 5) (v := 6) rfl (by decide) dX10_init_158 (fun hm => ?_)
  refine lv_icmp_ge (tgt := 181) hx hb dX10_init_159 (by decide) (fun h => absurd h (by decide)) (fun _ => ?_)
  refine lv_aload_n hx hb dX10_init_162 rfl (lv_at hl 1 rfl) ?_
  refine i_getR Y hW hm (by decide) (by decide) cl_10 fl_RX10_19 dX10_init_163 (fun o1000087 hm => ?_)
  refine lv_iload_n hx hb dX10_init_166 rfl (lv_at hl 0 rfl) ?_
  refine i_new Y hW hS hm (by decide) cl_1 df_1 nl_RX10_17 dX10_init_167 (Nat.le_of_ble_eq_true rfl) (Nat.le_of_ble_eq_true rfl) (fun C1000088 H hl1 hm hW hS => ?_)
  refine lv_dup hx hb dX10_init_170 rfl ?_
  obtain ⟨C1000090, hc1000089, hm⟩ := q_b1i hm
  refine i_callI Y hW hS (As := []) (rest := [.ref (b + (List.length C1000085)), .int 1, .ref (b + o1000087)]) (iX1_init l D b C1000088 (List.length C1000085) C1000090 hc1000089) yl_X1_init vi_X1_init rfl ml_RX10_73 rfl ⟨(Nat.le_of_ble_eq_true rfl), (Nat.le_of_ble_eq_true rfl)⟩ hl rfl (Nat.le_of_ble_eq_true rfl) dX10_init_171 ⟨(Nat.le_of_ble_eq_true rfl), (Nat.le_of_ble_eq_true rfl)⟩ (fun H locs hW hS => ?_)
  refine i_aast Y hW hS hm (t0 := 5) (by decide) rfl rfl dX10_init_174 (fun C1000091 H locs hl1 hm hW hS => ?_)
  refine lv_iinc (v := 2) (lv' := [(1, .int 2), (0, .ref (b + x0))]) hx hb dX10_init_175 hl (k := 0) rfl (by decide) (by decide) rfl (fun ls hl => ?_)
  refine lv_goto (tgt := 153) hx hb dX10_init_178 (by decide) ?_
  refine lv_iload_n hx hb dX10_init_153 rfl (lv_at hl 0 rfl) ?_
  refine lv_aload_n hx hb dX10_init_154 rfl (lv_at hl 1 rfl) ?_
  refine i_getR Y hW hm (by decide) (by decide) cl_10 fl_RX10_19 dX10_init_155 (fun o1000092 hm => ?_)
  refine i_alenR Y hW hm (t0 := 5) (v := 6) rfl (by decide) dX10_init_158 (fun hm => ?_)
  refine lv_icmp_ge (tgt := 181) hx hb dX10_init_159 (by decide) (fun h => absurd h (by decide)) (fun _ => ?_)
  refine lv_aload_n hx hb dX10_init_162 rfl (lv_at hl 1 rfl) ?_
  refine i_getR Y hW hm (by decide) (by decide) cl_10 fl_RX10_19 dX10_init_163 (fun o1000093 hm => ?_)
  refine lv_iload_n hx hb dX10_init_166 rfl (lv_at hl 0 rfl) ?_
  refine i_new Y hW hS hm (by decide) cl_1 df_1 nl_RX10_17 dX10_init_167 (Nat.le_of_ble_eq_true rfl) (Nat.le_of_ble_eq_true rfl) (fun C1000094 H hl1 hm hW hS => ?_)
  refine lv_dup hx hb dX10_init_170 rfl ?_
  obtain ⟨C1000096, hc1000095, hm⟩ := q_b1i hm
  refine i_callI Y hW hS (As := []) (rest := [.ref (b + (List.length C1000091)), .int 2, .ref (b + o1000093)]) (iX1_init l D b C1000094 (List.length C1000091) C1000096 hc1000095) yl_X1_init vi_X1_init rfl ml_RX10_73 rfl ⟨(Nat.le_of_ble_eq_true rfl), (Nat.le_of_ble_eq_true rfl)⟩ hl rfl (Nat.le_of_ble_eq_true rfl) dX10_init_171 ⟨(Nat.le_of_ble_eq_true rfl), (Nat.le_of_ble_eq_true rfl)⟩ (fun H locs hW hS => ?_)
  refine i_aast Y hW hS hm (t0 := 5) (by decide) rfl rfl dX10_init_174 (fun C1000097 H locs hl1 hm hW hS => ?_)
  refine lv_iinc (v := 3) (lv' := [(1, .int 3), (0, .ref (b + x0))]) hx hb dX10_init_175 hl (k := 0) rfl (by decide) (by decide) rfl (fun ls hl => ?_)
  refine lv_goto (tgt := 153) hx hb dX10_init_178 (by decide) ?_
  refine lv_iload_n hx hb dX10_init_153 rfl (lv_at hl 0 rfl) ?_
  refine lv_aload_n hx hb dX10_init_154 rfl (lv_at hl 1 rfl) ?_
  refine i_getR Y hW hm (by decide) (by decide) cl_10 fl_RX10_19 dX10_init_155 (fun o1000098 hm => ?_)
  refine i_alenR Y hW hm (t0 := 5) (v := 6) rfl (by decide) dX10_init_158 (fun hm => ?_)
  refine lv_icmp_ge (tgt := 181) hx hb dX10_init_159 (by decide) (fun h => absurd h (by decide)) (fun _ => ?_)
  refine lv_aload_n hx hb dX10_init_162 rfl (lv_at hl 1 rfl) ?_
  refine i_getR Y hW hm (by decide) (by decide) cl_10 fl_RX10_19 dX10_init_163 (fun o1000099 hm => ?_)
  refine lv_iload_n hx hb dX10_init_166 rfl (lv_at hl 0 rfl) ?_
  refine i_new Y hW hS hm (by decide) cl_1 df_1 nl_RX10_17 dX10_init_167 (Nat.le_of_ble_eq_true rfl) (Nat.le_of_ble_eq_true rfl) (fun C1000100 H hl1 hm hW hS => ?_)
  refine lv_dup hx hb dX10_init_170 rfl ?_
  obtain ⟨C1000102, hc1000101, hm⟩ := q_b1i hm
  refine i_callI Y hW hS (As := []) (rest := [.ref (b + (List.length C1000097)), .int 3, .ref (b + o1000099)]) (iX1_init l D b C1000100 (List.length C1000097) C1000102 hc1000101) yl_X1_init vi_X1_init rfl ml_RX10_73 rfl ⟨(Nat.le_of_ble_eq_true rfl), (Nat.le_of_ble_eq_true rfl)⟩ hl rfl (Nat.le_of_ble_eq_true rfl) dX10_init_171 ⟨(Nat.le_of_ble_eq_true rfl), (Nat.le_of_ble_eq_true rfl)⟩ (fun H locs hW hS => ?_)
  refine i_aast Y hW hS hm (t0 := 5) (by decide) rfl rfl dX10_init_174 (fun C1000103 H locs hl1 hm hW hS => ?_)
  refine lv_iinc (v := 4) (lv' := [(1, .int 4), (0, .ref (b + x0))]) hx hb dX10_init_175 hl (k := 0) rfl (by decide) (by decide) rfl (fun ls hl => ?_)
  refine lv_goto (tgt := 153) hx hb dX10_init_178 (by decide) ?_
  refine lv_iload_n hx hb dX10_init_153 rfl (lv_at hl 0 rfl) ?_
  refine lv_aload_n hx hb dX10_init_154 rfl (lv_at hl 1 rfl) ?_
  refine i_getR Y hW hm (by decide) (by decide) cl_10 fl_RX10_19 dX10_init_155 (fun o1000104 hm => ?_)
  refine i_alenR Y hW hm (t0 := 5) (v := 6) rfl (by decide) dX10_init_158 (fun hm => ?_)
  refine lv_icmp_ge (tgt := 181) hx hb dX10_init_159 (by decide) (fun h => absurd h (by decide)) (fun _ => ?_)
  refine lv_aload_n hx hb dX10_init_162 rfl (lv_at hl 1 rfl) ?_
  refine i_getR Y hW hm (by decide) (by decide) cl_10 fl_RX10_19 dX10_init_163 (fun o1000105 hm => ?_)
  refine lv_iload_n hx hb dX10_init_166 rfl (lv_at hl 0 rfl) ?_
  refine i_new Y hW hS hm (by decide) cl_1 df_1 nl_RX10_17 dX10_init_167 (Nat.le_of_ble_eq_true rfl) (Nat.le_of_ble_eq_true rfl) (fun C1000106 H hl1 hm hW hS => ?_)
  refine lv_dup hx hb dX10_init_170 rfl ?_
  obtain ⟨C1000108, hc1000107, hm⟩ := q_b1i hm
  refine i_callI Y hW hS (As := []) (rest := [.ref (b + (List.length C1000103)), .int 4, .ref (b + o1000105)]) (iX1_init l D b C1000106 (List.length C1000103) C1000108 hc1000107) yl_X1_init vi_X1_init rfl ml_RX10_73 rfl ⟨(Nat.le_of_ble_eq_true rfl), (Nat.le_of_ble_eq_true rfl)⟩ hl rfl (Nat.le_of_ble_eq_true rfl) dX10_init_171 ⟨(Nat.le_of_ble_eq_true rfl), (Nat.le_of_ble_eq_true rfl)⟩ (fun H locs hW hS => ?_)
  refine i_aast Y hW hS hm (t0 := 5) (by decide) rfl rfl dX10_init_174 (fun C1000109 H locs hl1 hm hW hS => ?_)
  refine lv_iinc (v := 5) (lv' := [(1, .int 5), (0, .ref (b + x0))]) hx hb dX10_init_175 hl (k := 0) rfl (by decide) (by decide) rfl (fun ls hl => ?_)
  refine lv_goto (tgt := 153) hx hb dX10_init_178 (by decide) ?_
  refine lv_iload_n hx hb dX10_init_153 rfl (lv_at hl 0 rfl) ?_
  refine lv_aload_n hx hb dX10_init_154 rfl (lv_at hl 1 rfl) ?_
  refine i_getR Y hW hm (by decide) (by decide) cl_10 fl_RX10_19 dX10_init_155 (fun o1000110 hm => ?_)
  refine i_alenR Y hW hm (t0 := 5) (v := 6) rfl (by decide) dX10_init_158 (fun hm => ?_)
  refine lv_icmp_ge (tgt := 181) hx hb dX10_init_159 (by decide) (fun h => absurd h (by decide)) (fun _ => ?_)
  refine lv_aload_n hx hb dX10_init_162 rfl (lv_at hl 1 rfl) ?_
  refine i_getR Y hW hm (by decide) (by decide) cl_10 fl_RX10_19 dX10_init_163 (fun o1000111 hm => ?_)
  refine lv_iload_n hx hb dX10_init_166 rfl (lv_at hl 0 rfl) ?_
  refine i_new Y hW hS hm (by decide) cl_1 df_1 nl_RX10_17 dX10_init_167 (Nat.le_of_ble_eq_true rfl) (Nat.le_of_ble_eq_true rfl) (fun C1000112 H hl1 hm hW hS => ?_)
  refine lv_dup hx hb dX10_init_170 rfl ?_
  obtain ⟨C1000114, hc1000113, hm⟩ := q_b1i hm
  refine i_callI Y hW hS (As := []) (rest := [.ref (b + (List.length C1000109)), .int 5, .ref (b + o1000111)]) (iX1_init l D b C1000112 (List.length C1000109) C1000114 hc1000113) yl_X1_init vi_X1_init rfl ml_RX10_73 rfl ⟨(Nat.le_of_ble_eq_true rfl), (Nat.le_of_ble_eq_true rfl)⟩ hl rfl (Nat.le_of_ble_eq_true rfl) dX10_init_171 ⟨(Nat.le_of_ble_eq_true rfl), (Nat.le_of_ble_eq_true rfl)⟩ (fun H locs hW hS => ?_)
  refine i_aast Y hW hS hm (t0 := 5) (by decide) rfl rfl dX10_init_174 (fun C1000115 H locs hl1 hm hW hS => ?_)
  refine lv_iinc (v := 6) (lv' := [(1, .int 6), (0, .ref (b + x0))]) hx hb dX10_init_175 hl (k := 0) rfl (by decide) (by decide) rfl (fun ls hl => ?_)
  refine lv_goto (tgt := 153) hx hb dX10_init_178 (by decide) ?_
  refine lv_iload_n hx hb dX10_init_153 rfl (lv_at hl 0 rfl) ?_
  refine lv_aload_n hx hb dX10_init_154 rfl (lv_at hl 1 rfl) ?_
  refine i_getR Y hW hm (by decide) (by decide) cl_10 fl_RX10_19 dX10_init_155 (fun o1000116 hm => ?_)
  refine i_alenR Y hW hm (t0 := 5) (v := 6) rfl (by decide) dX10_init_158 (fun hm => ?_)
  refine lv_icmp_ge (tgt := 181) hx hb dX10_init_159 (by decide) (fun _ => ?_) (fun h => absurd (by decide) h)
  refine lv_iconst (v := 0) hx hb dX10_init_181 (by decide) ?_
  refine lv_istore_n (i := 1) (lv' := [(1, .int 0), (0, .ref (b + x0))]) hx hb dX10_init_182 rfl hl (by decide) rfl (fun ls hl => ?_)
  refine lv_iload_n hx hb dX10_init_183 rfl (lv_at hl 0 rfl) ?_
  refine lv_aload_n hx hb dX10_init_184 rfl (lv_at hl 1 rfl) ?_
  refine i_getR Y hW hm (by decide) (by decide) cl_10 fl_RX10_25 dX10_init_185 (fun o1000117 hm => ?_)
  refine i_alenR Y hW hm (t0 := 7) (v := 6) rfl (by decide) dX10_init_188 (fun hm => ?_)
  refine lv_icmp_ge (tgt := 211) hx hb dX10_init_189 (by decide) (fun h => absurd h (by decide)) (fun _ => ?_)
  refine lv_aload_n hx hb dX10_init_192 rfl (lv_at hl 1 rfl) ?_
  refine i_getR Y hW hm (by decide) (by decide) cl_10 fl_RX10_25 dX10_init_193 (fun o1000118 hm => ?_)
  refine lv_iload_n hx hb dX10_init_196 rfl (lv_at hl 0 rfl) ?_
  refine i_new Y hW hS hm (by decide) cl_7 df_7 nl_RX10_23 dX10_init_197 (Nat.le_of_ble_eq_true rfl) (Nat.le_of_ble_eq_true rfl) (fun C1000119 H hl1 hm hW hS => ?_)
  refine lv_dup hx hb dX10_init_200 rfl ?_
  obtain ⟨C1000121, hc1000120, hm⟩ := q_b1i hm
  refine i_callI Y hW hS (As := []) (rest := [.ref (b + (List.length C1000115)), .int 0, .ref (b + o1000118)]) (iX7_init l D b C1000119 (List.length C1000115) C1000121 hc1000120) yl_X7_init vi_X7_init rfl ml_RX10_74 rfl ⟨(Nat.le_of_ble_eq_true rfl), (Nat.le_of_ble_eq_true rfl)⟩ hl rfl (Nat.le_of_ble_eq_true rfl) dX10_init_201 ⟨(Nat.le_of_ble_eq_true rfl), (Nat.le_of_ble_eq_true rfl)⟩ (fun H locs hW hS => ?_)
  refine i_aast Y hW hS hm (t0 := 7) (by decide) rfl rfl dX10_init_204 (fun C1000122 H locs hl1 hm hW hS => ?_)
  refine lv_iinc (v := 1) (lv' := [(1, .int 1), (0, .ref (b + x0))]) hx hb dX10_init_205 hl (k := 0) rfl (by decide) (by decide) rfl (fun ls hl => ?_)
  refine lv_goto (tgt := 183) hx hb dX10_init_208 (by decide) ?_
  refine lv_iload_n hx hb dX10_init_183 rfl (lv_at hl 0 rfl) ?_
  refine lv_aload_n hx hb dX10_init_184 rfl (lv_at hl 1 rfl) ?_
  refine i_getR Y hW hm (by decide) (by decide) cl_10 fl_RX10_25 dX10_init_185 (fun o1000123 hm => ?_)
  refine i_alenR Y hW hm (t0 := 7) (v := 6) rfl (by decide) dX10_init_188 (fun hm => ?_)
  refine lv_icmp_ge (tgt := 211) hx hb dX10_init_189 (by decide) (fun h => absurd h (by decide)) (fun _ => ?_)
  refine lv_aload_n hx hb dX10_init_192 rfl (lv_at hl 1 rfl) ?_
  refine i_getR Y hW hm (by decide) (by decide) cl_10 fl_RX10_25 dX10_init_193 (fun o1000124 hm => ?_)
  refine lv_iload_n hx hb dX10_init_196 rfl (lv_at hl 0 rfl) ?_
  refine i_new Y hW hS hm (by decide) cl_7 df_7 nl_RX10_23 dX10_init_197 (Nat.le_of_ble_eq_true rfl) (Nat.le_of_ble_eq_true rfl) (fun C1000125 H hl1 hm hW hS => ?_)
  refine lv_dup hx hb dX10_init_200 rfl ?_
  obtain ⟨C1000127, hc1000126, hm⟩ := q_b1i hm
  refine i_callI Y hW hS (As := []) (rest := [.ref (b + (List.length C1000122)), .int 1, .ref (b + o1000124)]) (iX7_init l D b C1000125 (List.length C1000122) C1000127 hc1000126) yl_X7_init vi_X7_init rfl ml_RX10_74 rfl ⟨(Nat.le_of_ble_eq_true rfl), (Nat.le_of_ble_eq_true rfl)⟩ hl rfl (Nat.le_of_ble_eq_true rfl) dX10_init_201 ⟨(Nat.le_of_ble_eq_true rfl), (Nat.le_of_ble_eq_true rfl)⟩ (fun H locs hW hS => ?_)
  refine i_aast Y hW hS hm (t0 := 7) (by decide) rfl rfl dX10_init_204 (fun C1000128 H locs hl1 hm hW hS => ?_)
  refine lv_iinc (v := 2) (lv' := [(1, .int 2), (0, .ref (b + x0))]) hx hb dX10_init_205 hl (k := 0) rfl (by decide) (by decide) rfl (fun ls hl => ?_)
  refine lv_goto (tgt := 183) hx hb dX10_init_208 (by decide) ?_
  refine lv_iload_n hx hb dX10_init_183 rfl (lv_at hl 0 rfl) ?_
  refine lv_aload_n hx hb dX10_init_184 rfl (lv_at hl 1 rfl) ?_
  refine i_getR Y hW hm (by decide) (by decide) cl_10 fl_RX10_25 dX10_init_185 (fun o1000129 hm => ?_)
  refine i_alenR Y hW hm (t0 := 7) (v := 6) rfl (by decide) dX10_init_188 (fun hm => ?_)
  refine lv_icmp_ge (tgt := 211) hx hb dX10_init_189 (by decide) (fun h => absurd h (by decide)) (fun _ => ?_)
  refine lv_aload_n hx hb dX10_init_192 rfl (lv_at hl 1 rfl) ?_
  refine i_getR Y hW hm (by decide) (by decide) cl_10 fl_RX10_25 dX10_init_193 (fun o1000130 hm => ?_)
  refine lv_iload_n hx hb dX10_init_196 rfl (lv_at hl 0 rfl) ?_
  refine i_new Y hW hS hm (by decide) cl_7 df_7 nl_RX10_23 dX10_init_197 (Nat.le_of_ble_eq_true rfl) (Nat.le_of_ble_eq_true rfl) (fun C1000131 H hl1 hm hW hS => ?_)
  refine lv_dup hx hb dX10_init_200 rfl ?_
  obtain ⟨C1000133, hc1000132, hm⟩ := q_b1i hm
  refine i_callI Y hW hS (As := []) (rest := [.ref (b + (List.length C1000128)), .int 2, .ref (b + o1000130)]) (iX7_init l D b C1000131 (List.length C1000128) C1000133 hc1000132) yl_X7_init vi_X7_init rfl ml_RX10_74 rfl ⟨(Nat.le_of_ble_eq_true rfl), (Nat.le_of_ble_eq_true rfl)⟩ hl rfl (Nat.le_of_ble_eq_true rfl) dX10_init_201 ⟨(Nat.le_of_ble_eq_true rfl), (Nat.le_of_ble_eq_true rfl)⟩ (fun H locs hW hS => ?_)
  refine i_aast Y hW hS hm (t0 := 7) (by decide) rfl rfl dX10_init_204 (fun C1000134 H locs hl1 hm hW hS => ?_)
  refine lv_iinc (v := 3) (lv' := [(1, .int 3), (0, .ref (b + x0))]) hx hb dX10_init_205 hl (k := 0) rfl (by decide) (by decide) rfl (fun ls hl => ?_)
  refine lv_goto (tgt := 183) hx hb dX10_init_208 (by decide) ?_
  refine lv_iload_n hx hb dX10_init_183 rfl (lv_at hl 0 rfl) ?_
  refine lv_aload_n hx hb dX10_init_184 rfl (lv_at hl 1 rfl) ?_
  refine i_getR Y hW hm (by decide) (by decide) cl_10 fl_RX10_25 dX10_init_185 (fun o1000135 hm => ?_)
  refine i_alenR Y hW hm (t0 := 7) (v := 6) rfl (by decide) dX10_init_188 (fun hm => ?_)
  refine lv_icmp_ge (tgt := 211) hx hb dX10_init_189 (by decide) (fun h => absurd h (by decide)) (fun _ => ?_)
  refine lv_aload_n hx hb dX10_init_192 rfl (lv_at hl 1 rfl) ?_
  refine i_getR Y hW hm (by decide) (by decide) cl_10 fl_RX10_25 dX10_init_193 (fun o1000136 hm => ?_)
  refine lv_iload_n hx hb dX10_init_196 rfl (lv_at hl 0 rfl) ?_
  refine i_new Y hW hS hm (by decide) cl_7 df_7 nl_RX10_23 dX10_init_197 (Nat.le_of_ble_eq_true rfl) (Nat.le_of_ble_eq_true rfl) (fun C1000137 H hl1 hm hW hS => ?_)
  refine lv_dup hx hb dX10_init_200 rfl ?_
  obtain ⟨C1000139, hc1000138, hm⟩ := q_b1i hm
  refine i_callI Y hW hS (As := []) (rest := [.ref (b + (List.length C1000134)), .int 3, .ref (b + o1000136)]) (iX7_init l D b C1000137 (List.length C1000134) C1000139 hc1000138) yl_X7_init vi_X7_init rfl ml_RX10_74 rfl ⟨(Nat.le_of_ble_eq_true rfl), (Nat.le_of_ble_eq_true rfl)⟩ hl rfl (Nat.le_of_ble_eq_true rfl) dX10_init_201 ⟨(Nat.le_of_ble_eq_true rfl), (Nat.le_of_ble_eq_true rfl)⟩ (fun H locs hW hS => ?_)
  refine i_aast Y hW hS hm (t0 := 7) (by decide) rfl rfl dX10_init_204 (fun C1000140 H locs hl1 hm hW hS => ?_)
  refine lv_iinc (v := 4) (lv' := [(1, .int 4), (0, .ref (b + x0))]) hx hb dX10_init_205 hl (k := 0) rfl (by decide) (by decide) rfl (fun ls hl => ?_)
  refine lv_goto (tgt := 183) hx hb dX10_init_208 (by decide) ?_
  refine lv_iload_n hx hb dX10_init_183 rfl (lv_at hl 0 rfl) ?_
  refine lv_aload_n hx hb dX10_init_184 rfl (lv_at hl 1 rfl) ?_
  refine i_getR Y hW hm (by decide) (by decide) cl_10 fl_RX10_25 dX10_init_185 (fun o1000141 hm => ?_)
  refine i_alenR Y hW hm (t0 := 7) (v := 6) rfl (by decide) dX10_init_188 (fun hm => ?_)
  refine lv_icmp_ge (tgt := 211) hx hb dX10_init_189 (by decide) (fun h => absurd h (by decide)) (fun _ => ?_)
  refine lv_aload_n hx hb dX10_init_192 rfl (lv_at hl 1 rfl) ?_
  refine i_getR Y hW hm (by decide) (by decide) cl_10 fl_RX10_25 dX10_init_193 (fun o1000142 hm => ?_)
  refine lv_iload_n hx hb dX10_init_196 rfl (lv_at hl 0 rfl) ?_
  refine i_new Y hW hS hm (by decide) cl_7 df_7 nl_RX10_23 dX10_init_197 (Nat.le_of_ble_eq_true rfl) (Nat.le_of_ble_eq_true rfl) (fun C1000143 H hl1 hm hW hS => ?_)
  refine lv_dup hx hb dX10_init_200 rfl ?_
  obtain ⟨C1000145, hc1000144, hm⟩ := q_b1i hm
  refine i_callI Y hW hS (As := []) (rest := [.ref (b + (List.length C1000140)), .int 4, .ref (b + o1000142)]) (iX7_init l D b C1000143 (List.length C1000140) C1000145 hc1000144) yl_X7_init vi_X7_init rfl ml_RX10_74 rfl ⟨(Nat.le_of_ble_eq_true rfl), (Nat.le_of_ble_eq_true rfl)⟩ hl rfl (Nat.le_of_ble_eq_true rfl) dX10_init_201 ⟨(Nat.le_of_ble_eq_true rfl), (Nat.le_of_ble_eq_true rfl)⟩ (fun H locs hW hS => ?_)
  refine i_aast Y hW hS hm (t0 := 7) (by decide) rfl rfl dX10_init_204 (fun C1000146 H locs hl1 hm hW hS => ?_)
  refine lv_iinc (v := 5) (lv' := [(1, .int 5), (0, .ref (b + x0))]) hx hb dX10_init_205 hl (k := 0) rfl (by decide) (by decide) rfl (fun ls hl => ?_)
  refine lv_goto (tgt := 183) hx hb dX10_init_208 (by decide) ?_
  refine lv_iload_n hx hb dX10_init_183 rfl (lv_at hl 0 rfl) ?_
  refine lv_aload_n hx hb dX10_init_184 rfl (lv_at hl 1 rfl) ?_
  refine i_getR Y hW hm (by decide) (by decide) cl_10 fl_RX10_25 dX10_init_185 (fun o1000147 hm => ?_)
  refine i_alenR Y hW hm (t0 := 7) (v := 6) rfl (by decide) dX10_init_188 (fun hm => ?_)
  refine lv_icmp_ge (tgt := 211) hx hb dX10_init_189 (by decide) (fun h => absurd h (by decide)) (fun _ => ?_)
  refine lv_aload_n hx hb dX10_init_192 rfl (lv_at hl 1 rfl) ?_
  refine i_getR Y hW hm (by decide) (by decide) cl_10 fl_RX10_25 dX10_init_193 (fun o1000148 hm => ?_)
  refine lv_iload_n hx hb dX10_init_196 rfl (lv_at hl 0 rfl) ?_
  refine i_new Y hW hS hm (by decide) cl_7 df_7 nl_RX10_23 dX10_init_197 (Nat.le_of_ble_eq_true rfl) (Nat.le_of_ble_eq_true rfl) (fun C1000149 H hl1 hm hW hS => ?_)
  refine lv_dup hx hb dX10_init_200 rfl ?_
  obtain ⟨C1000151, hc1000150, hm⟩ := q_b1i hm
  refine i_callI Y hW hS (As := []) (rest := [.ref (b + (List.length C1000146)), .int 5, .ref (b + o1000148)]) (iX7_init l D b C1000149 (List.length C1000146) C1000151 hc1000150) yl_X7_init vi_X7_init rfl ml_RX10_74 rfl ⟨(Nat.le_of_ble_eq_true rfl), (Nat.le_of_ble_eq_true rfl)⟩ hl rfl (Nat.le_of_ble_eq_true rfl) dX10_init_201 ⟨(Nat.le_of_ble_eq_true rfl), (Nat.le_of_ble_eq_true rfl)⟩ (fun H locs hW hS => ?_)
  refine i_aast Y hW hS hm (t0 := 7) (by decide) rfl rfl dX10_init_204 (fun C1000152 H locs hl1 hm hW hS => ?_)
  refine lv_iinc (v := 6) (lv' := [(1, .int 6), (0, .ref (b + x0))]) hx hb dX10_init_205 hl (k := 0) rfl (by decide) (by decide) rfl (fun ls hl => ?_)
  refine lv_goto (tgt := 183) hx hb dX10_init_208 (by decide) ?_
  refine lv_iload_n hx hb dX10_init_183 rfl (lv_at hl 0 rfl) ?_
  refine lv_aload_n hx hb dX10_init_184 rfl (lv_at hl 1 rfl) ?_
  refine i_getR Y hW hm (by decide) (by decide) cl_10 fl_RX10_25 dX10_init_185 (fun o1000153 hm => ?_)
  refine i_alenR Y hW hm (t0 := 7) (v := 6) rfl (by decide) dX10_init_188 (fun hm => ?_)
  refine lv_icmp_ge (tgt := 211) hx hb dX10_init_189 (by decide) (fun _ => ?_) (fun h => absurd (by decide) h)
  exact j_v Y hW hS hm (Nat.le_of_ble_eq_true rfl) (Nat.le_of_ble_eq_true rfl) dX10_init_211
theorem dX11_init_0 : decode cX11_init 0 = .ok (.aload_n 0, 1) := by decide +kernel
theorem dX11_init_1 : decode cX11_init 1 = .ok (.invokespecial 1, 3) := by decide +kernel
theorem dX11_init_4 : decode cX11_init 4 = .ok (.aload_n 0, 1) := by decide +kernel
theorem dX11_init_5 : decode cX11_init 5 = .ok (.new 7, 3) := by decide +kernel
theorem dX11_init_8 : decode cX11_init 8 = .ok (.dup, 1) := by decide +kernel
theorem dX11_init_9 : decode cX11_init 9 = .ok (.invokespecial 9, 3) := by decide +kernel
theorem dX11_init_12 : decode cX11_init 12 = .ok (.putfield 10, 3) := by decide +kernel
theorem dX11_init_15 : decode cX11_init 15 = .ok (.aload_n 0, 1) := by decide +kernel
theorem dX11_init_16 : decode cX11_init 16 = .ok (.new 16, 3) := by decide +kernel
theorem dX11_init_19 : decode cX11_init 19 = .ok (.dup, 1) := by decide +kernel
theorem dX11_init_20 : decode cX11_init 20 = .ok (.invokespecial 18, 3) := by decide +kernel
theorem dX11_init_23 : decode cX11_init 23 = .ok (.putfield 19, 3) := by decide +kernel
theorem dX11_init_26 : decode cX11_init 26 = .ok (.aload_n 0, 1) := by decide +kernel
theorem dX11_init_27 : decode cX11_init 27 = .ok (.iconst 3, 1) := by decide +kernel
theorem dX11_init_28 : decode cX11_init 28 = .ok (.anewarray 16, 3) := by decide +kernel
theorem dX11_init_31 : decode cX11_init 31 = .ok (.putfield 23, 3) := by decide +kernel
theorem dX11_init_34 : decode cX11_init 34 = .ok (.aload_n 0, 1) := by decide +kernel
theorem dX11_init_35 : decode cX11_init 35 = .ok (.new 27, 3) := by decide +kernel
theorem dX11_init_38 : decode cX11_init 38 = .ok (.dup, 1) := by decide +kernel
theorem dX11_init_39 : decode cX11_init 39 = .ok (.invokespecial 29, 3) := by decide +kernel
theorem dX11_init_42 : decode cX11_init 42 = .ok (.putfield 30, 3) := by decide +kernel
theorem dX11_init_45 : decode cX11_init 45 = .ok (.aload_n 0, 1) := by decide +kernel
theorem dX11_init_46 : decode cX11_init 46 = .ok (.new 34, 3) := by decide +kernel
theorem dX11_init_49 : decode cX11_init 49 = .ok (.dup, 1) := by decide +kernel
theorem dX11_init_50 : decode cX11_init 50 = .ok (.invokespecial 36, 3) := by decide +kernel
theorem dX11_init_53 : decode cX11_init 53 = .ok (.putfield 37, 3) := by decide +kernel
theorem dX11_init_56 : decode cX11_init 56 = .ok (.aload_n 0, 1) := by decide +kernel
theorem dX11_init_57 : decode cX11_init 57 = .ok (.new 41, 3) := by decide +kernel
theorem dX11_init_60 : decode cX11_init 60 = .ok (.dup, 1) := by decide +kernel
theorem dX11_init_61 : decode cX11_init 61 = .ok (.invokespecial 43, 3) := by decide +kernel
theorem dX11_init_64 : decode cX11_init 64 = .ok (.putfield 44, 3) := by decide +kernel
theorem dX11_init_67 : decode cX11_init 67 = .ok (.aload_n 0, 1) := by decide +kernel
theorem dX11_init_68 : decode cX11_init 68 = .ok (.new 48, 3) := by decide +kernel
theorem dX11_init_71 : decode cX11_init 71 = .ok (.dup, 1) := by decide +kernel
theorem dX11_init_72 : decode cX11_init 72 = .ok (.invokespecial 50, 3) := by decide +kernel
theorem dX11_init_75 : decode cX11_init 75 = .ok (.putfield 51, 3) := by decide +kernel
theorem dX11_init_78 : decode cX11_init 78 = .ok (.aload_n 0, 1) := by decide +kernel
theorem dX11_init_79 : decode cX11_init 79 = .ok (.new 48, 3) := by decide +kernel
theorem dX11_init_82 : decode cX11_init 82 = .ok (.dup, 1) := by decide +kernel
theorem dX11_init_83 : decode cX11_init 83 = .ok (.invokespecial 50, 3) := by decide +kernel
theorem dX11_init_86 : decode cX11_init 86 = .ok (.putfield 55, 3) := by decide +kernel
theorem dX11_init_89 : decode cX11_init 89 = .ok (.aload_n 0, 1) := by decide +kernel
theorem dX11_init_90 : decode cX11_init 90 = .ok (.iconst (-1), 1) := by decide +kernel
theorem dX11_init_91 : decode cX11_init 91 = .ok (.putfield 58, 3) := by decide +kernel
theorem dX11_init_94 : decode cX11_init 94 = .ok (.aload_n 0, 1) := by decide +kernel
theorem dX11_init_95 : decode cX11_init 95 = .ok (.iconst 0, 1) := by decide +kernel
theorem dX11_init_96 : decode cX11_init 96 = .ok (.putfield 62, 3) := by decide +kernel
theorem dX11_init_99 : decode cX11_init 99 = .ok (.iconst 0, 1) := by decide +kernel
theorem dX11_init_100 : decode cX11_init 100 = .ok (.istore_n 1, 1) := by decide +kernel
theorem dX11_init_101 : decode cX11_init 101 = .ok (.iload_n 1, 1) := by decide +kernel
theorem dX11_init_102 : decode cX11_init 102 = .ok (.aload_n 0, 1) := by decide +kernel
theorem dX11_init_103 : decode cX11_init 103 = .ok (.getfield 23, 3) := by decide +kernel
theorem dX11_init_106 : decode cX11_init 106 = .ok (.arraylength, 1) := by decide +kernel
theorem dX11_init_107 : decode cX11_init 107 = .ok (.if_icmp .ge 22, 3) := by decide +kernel
theorem dX11_init_110 : decode cX11_init 110 = .ok (.aload_n 0, 1) := by decide +kernel
theorem dX11_init_111 : decode cX11_init 111 = .ok (.getfield 23, 3) := by decide +kernel
theorem dX11_init_114 : decode cX11_init 114 = .ok (.iload_n 1, 1) := by decide +kernel
theorem dX11_init_115 : decode cX11_init 115 = .ok (.new 16, 3) := by decide +kernel
theorem dX11_init_118 : decode cX11_init 118 = .ok (.dup, 1) := by decide +kernel
theorem dX11_init_119 : decode cX11_init 119 = .ok (.invokespecial 18, 3) := by decide +kernel
theorem dX11_init_122 : decode cX11_init 122 = .ok (.aastore, 1) := by decide +kernel
theorem dX11_init_123 : decode cX11_init 123 = .ok (.iinc 1 1, 3) := by decide +kernel
theorem dX11_init_126 : decode cX11_init 126 = .ok (.goto (-25), 3) := by decide +kernel
theorem dX11_init_129 : decode cX11_init 129 = .ok (.return_, 1) := by decide +kernel
set_option maxHeartbeats 10000000 in
set_option maxRecDepth 100000 in
theorem iX11_init (l : Launch) (D : q_D) (b : Nat) (C : List q_Ce) (x0 : Nat) (C0 : List q_Ce) (hm : IX11_init C x0 = some C0) : q_Mi l yX11_init cX11_init 2 none 6 145 D b [.ref (b + x0)] C none C0 235 18815 := by
  refine q_Mi.of (by decide) (Nat.le_of_ble_eq_true rfl) ?_
  intro p e s m args below meth c ls Y hin hW hl
  have hx := Y.1
  have hb := Y.2.1
  have hown := Y.2.2.2.2.2.1
  have hts := Y.2.2.2.2.2.2.1
  have hs0 : s.heap.size = b + List.length C := hW.2.1
  have hS : va_S (fun q => b ≤ q) s.heap s.heap [] := va_S.rf
  have hl : lv_has ls 2 [(0, .ref (b + x0))] := hl
  unfold IX11_init at hm
  have hin := hin rfl
  refine lv_aload_n hx hb dX11_init_0 rfl (lv_at hl 0 rfl) ?_
  refine W.objInit hx hb hown (hts _ wob_RX11_1) (hts _ woi) (hts _ woc) rfl (hl.1.trans Y.2.2.1.symm) rfl dX11_init_1 (Nat.le_of_ble_eq_true rfl) (Nat.le_of_ble_eq_true rfl) ?_
  refine W.eq (g2 := F0 m 4 ls []) rfl ?_
  refine lv_aload_n hx hb dX11_init_4 rfl (lv_at hl 0 rfl) ?_
  refine i_new Y hW hS hm (by decide) cl_3 df_3 nl_RX11_7 dX11_init_5 (Nat.le_of_ble_eq_true rfl) (Nat.le_of_ble_eq_true rfl) (fun C1000001 H hl1 hm hW hS => ?_)
  refine lv_dup hx hb dX11_init_8 rfl ?_
  obtain ⟨C1000003, hc1000002, hm⟩ := q_b1i hm
  refine i_callI Y hW hS (As := []) (rest := [.ref (b + (List.length C)), .ref (b + x0)]) (iX3_init l D b C1000001 (List.length C) C1000003 hc1000002) yl_X3_init vi_X3_init rfl ml_RX11_9 rfl ⟨(Nat.le_of_ble_eq_true rfl), (Nat.le_of_ble_eq_true rfl)⟩ hl rfl (Nat.le_of_ble_eq_true rfl) dX11_init_9 ⟨(Nat.le_of_ble_eq_true rfl), (Nat.le_of_ble_eq_true rfl)⟩ (fun H locs hW hS => ?_)
  refine i_putR Y hW hS hm (by decide) (by decide) cl_11 gl_RX11_10 hin (fun _ _ _ h _ => by cases h; rfl) rfl (fun _ => rfl) (fun _ => rfl) dX11_init_12 (fun C1000004 H locs hl1 hm hW hS => ?_)
  refine lv_aload_n hx hb dX11_init_15 rfl (lv_at hl 0 rfl) ?_
  refine i_new Y hW hS hm (by decide) cl_8 df_8 nl_RX11_16 dX11_init_16 (Nat.le_of_ble_eq_true rfl) (Nat.le_of_ble_eq_true rfl) (fun C1000005 H hl1 hm hW hS => ?_)
  refine lv_dup hx hb dX11_init_19 rfl ?_
  obtain ⟨C1000007, hc1000006, hm⟩ := q_b1i hm
  refine i_callI Y hW hS (As := []) (rest := [.ref (b + (List.length C1000004)), .ref (b + x0)]) (iX8_init l D b C1000005 (List.length C1000004) C1000007 hc1000006) yl_X8_init vi_X8_init rfl ml_RX11_18 rfl ⟨(Nat.le_of_ble_eq_true rfl), (Nat.le_of_ble_eq_true rfl)⟩ hl rfl (Nat.le_of_ble_eq_true rfl) dX11_init_20 ⟨(Nat.le_of_ble_eq_true rfl), (Nat.le_of_ble_eq_true rfl)⟩ (fun H locs hW hS => ?_)
  refine i_putR Y hW hS hm (by decide) (by decide) cl_11 gl_RX11_19 hin (fun _ _ _ h _ => by cases h; rfl) rfl (fun _ => rfl) (fun _ => rfl) dX11_init_23 (fun C1000008 H locs hl1 hm hW hS => ?_)
  refine lv_aload_n hx hb dX11_init_26 rfl (lv_at hl 0 rfl) ?_
  refine lv_iconst (v := 3) hx hb dX11_init_27 (by decide) ?_
  refine i_anew Y hW hS hm (N := 3) (t0 := 8) rfl wl_RX11_16 wo_8 (by decide) dX11_init_28 (Nat.le_of_ble_eq_true rfl) (Nat.le_of_ble_eq_true rfl) (fun C1000009 H hl1 hm hW hS => ?_)
  refine i_putR Y hW hS hm (by decide) (by decide) cl_11 gl_RX11_23 hin (fun _ _ _ h _ => by cases h; rfl) rfl (fun _ => rfl) (fun _ => rfl) dX11_init_31 (fun C1000010 H locs hl1 hm hW hS => ?_)
  refine lv_aload_n hx hb dX11_init_34 rfl (lv_at hl 0 rfl) ?_
  refine i_new Y hW hS hm (by decide) cl_2 df_2 nl_RX11_27 dX11_init_35 (Nat.le_of_ble_eq_true rfl) (Nat.le_of_ble_eq_true rfl) (fun C1000011 H hl1 hm hW hS => ?_)
  refine lv_dup hx hb dX11_init_38 rfl ?_
  obtain ⟨C1000013, hc1000012, hm⟩ := q_b1i hm
  refine i_callI Y hW hS (As := []) (rest := [.ref (b + (List.length C1000010)), .ref (b + x0)]) (iX2_init l D b C1000011 (List.length C1000010) C1000013 hc1000012) yl_X2_init vi_X2_init rfl ml_RX11_29 rfl ⟨(Nat.le_of_ble_eq_true rfl), (Nat.le_of_ble_eq_true rfl)⟩ hl rfl (Nat.le_of_ble_eq_true rfl) dX11_init_39 ⟨(Nat.le_of_ble_eq_true rfl), (Nat.le_of_ble_eq_true rfl)⟩ (fun H locs hW hS => ?_)
  refine i_putR Y hW hS hm (by decide) (by decide) cl_11 gl_RX11_30 hin (fun _ _ _ h _ => by cases h; rfl) rfl (fun _ => rfl) (fun _ => rfl) dX11_init_42 (fun C1000014 H locs hl1 hm hW hS => ?_)
  refine lv_aload_n hx hb dX11_init_45 rfl (lv_at hl 0 rfl) ?_
  refine i_new Y hW hS hm (by decide) cl_6 df_6 nl_RX11_34 dX11_init_46 (Nat.le_of_ble_eq_true rfl) (Nat.le_of_ble_eq_true rfl) (fun C1000015 H hl1 hm hW hS => ?_)
  refine lv_dup hx hb dX11_init_49 rfl ?_
  obtain ⟨C1000017, hc1000016, hm⟩ := q_b1i hm
  refine i_callI Y hW hS (As := []) (rest := [.ref (b + (List.length C1000014)), .ref (b + x0)]) (iX6_init l D b C1000015 (List.length C1000014) C1000017 hc1000016) yl_X6_init vi_X6_init rfl ml_RX11_36 rfl ⟨(Nat.le_of_ble_eq_true rfl), (Nat.le_of_ble_eq_true rfl)⟩ hl rfl (Nat.le_of_ble_eq_true rfl) dX11_init_50 ⟨(Nat.le_of_ble_eq_true rfl), (Nat.le_of_ble_eq_true rfl)⟩ (fun H locs hW hS => ?_)
  refine i_putR Y hW hS hm (by decide) (by decide) cl_11 gl_RX11_37 hin (fun _ _ _ h _ => by cases h; rfl) rfl (fun _ => rfl) (fun _ => rfl) dX11_init_53 (fun C1000018 H locs hl1 hm hW hS => ?_)
  refine lv_aload_n hx hb dX11_init_56 rfl (lv_at hl 0 rfl) ?_
  refine i_new Y hW hS hm (by decide) cl_4 df_4 nl_RX11_41 dX11_init_57 (Nat.le_of_ble_eq_true rfl) (Nat.le_of_ble_eq_true rfl) (fun C1000019 H hl1 hm hW hS => ?_)
  refine lv_dup hx hb dX11_init_60 rfl ?_
  obtain ⟨C1000021, hc1000020, hm⟩ := q_b1i hm
  refine i_callI Y hW hS (As := []) (rest := [.ref (b + (List.length C1000018)), .ref (b + x0)]) (iX4_init l D b C1000019 (List.length C1000018) C1000021 hc1000020) yl_X4_init vi_X4_init rfl ml_RX11_43 rfl ⟨(Nat.le_of_ble_eq_true rfl), (Nat.le_of_ble_eq_true rfl)⟩ hl rfl (Nat.le_of_ble_eq_true rfl) dX11_init_61 ⟨(Nat.le_of_ble_eq_true rfl), (Nat.le_of_ble_eq_true rfl)⟩ (fun H locs hW hS => ?_)
  refine i_putR Y hW hS hm (by decide) (by decide) cl_11 gl_RX11_44 hin (fun _ _ _ h _ => by cases h; rfl) rfl (fun _ => rfl) (fun _ => rfl) dX11_init_64 (fun C1000022 H locs hl1 hm hW hS => ?_)
  refine lv_aload_n hx hb dX11_init_67 rfl (lv_at hl 0 rfl) ?_
  refine i_new Y hW hS hm (by decide) cl_10 df_10 nl_RX11_48 dX11_init_68 (Nat.le_of_ble_eq_true rfl) (Nat.le_of_ble_eq_true rfl) (fun C1000023 H hl1 hm hW hS => ?_)
  refine lv_dup hx hb dX11_init_71 rfl ?_
  obtain ⟨C1000025, hc1000024, hm⟩ := q_b1i hm
  refine i_callI Y hW hS (As := []) (rest := [.ref (b + (List.length C1000022)), .ref (b + x0)]) (iX10_init l D b C1000023 (List.length C1000022) C1000025 hc1000024) yl_X10_init vi_X10_init rfl ml_RX11_50 rfl ⟨(Nat.le_of_ble_eq_true rfl), (Nat.le_of_ble_eq_true rfl)⟩ hl rfl (Nat.le_of_ble_eq_true rfl) dX11_init_72 ⟨(Nat.le_of_ble_eq_true rfl), (Nat.le_of_ble_eq_true rfl)⟩ (fun H locs hW hS => ?_)
  refine i_putR Y hW hS hm (by decide) (by decide) cl_11 gl_RX11_51 hin (fun _ _ _ h _ => by cases h; rfl) rfl (fun _ => rfl) (fun _ => rfl) dX11_init_75 (fun C1000026 H locs hl1 hm hW hS => ?_)
  refine lv_aload_n hx hb dX11_init_78 rfl (lv_at hl 0 rfl) ?_
  refine i_new Y hW hS hm (by decide) cl_10 df_10 nl_RX11_48 dX11_init_79 (Nat.le_of_ble_eq_true rfl) (Nat.le_of_ble_eq_true rfl) (fun C1000027 H hl1 hm hW hS => ?_)
  refine lv_dup hx hb dX11_init_82 rfl ?_
  obtain ⟨C1000029, hc1000028, hm⟩ := q_b1i hm
  refine i_callI Y hW hS (As := []) (rest := [.ref (b + (List.length C1000026)), .ref (b + x0)]) (iX10_init l D b C1000027 (List.length C1000026) C1000029 hc1000028) yl_X10_init vi_X10_init rfl ml_RX11_50 rfl ⟨(Nat.le_of_ble_eq_true rfl), (Nat.le_of_ble_eq_true rfl)⟩ hl rfl (Nat.le_of_ble_eq_true rfl) dX11_init_83 ⟨(Nat.le_of_ble_eq_true rfl), (Nat.le_of_ble_eq_true rfl)⟩ (fun H locs hW hS => ?_)
  refine i_putR Y hW hS hm (by decide) (by decide) cl_11 gl_RX11_55 hin (fun _ _ _ h _ => by cases h; rfl) rfl (fun _ => rfl) (fun _ => rfl) dX11_init_86 (fun C1000030 H locs hl1 hm hW hS => ?_)
  refine lv_aload_n hx hb dX11_init_89 rfl (lv_at hl 0 rfl) ?_
  refine lv_iconst (v := (-1)) hx hb dX11_init_90 (by decide) ?_
  refine i_putI Y hW hS hm ff_11_8 cl_11 gl_RX11_58 hin (fun _ _ _ h _ => by cases h; rfl) rfl dX11_init_91 (fun C1000031 H locs hl1 hm hW hS => ?_)
  refine lv_aload_n hx hb dX11_init_94 rfl (lv_at hl 0 rfl) ?_
  refine lv_iconst (v := 0) hx hb dX11_init_95 (by decide) ?_
  refine i_putI Y hW hS hm ff_11_9 cl_11 gl_RX11_62 hin (fun _ _ _ h _ => by cases h; rfl) rfl dX11_init_96 (fun C1000032 H locs hl1 hm hW hS => ?_)
  refine lv_iconst (v := 0) hx hb dX11_init_99 (by decide) ?_
  refine lv_istore_n (i := 1) (lv' := [(1, .int 0), (0, .ref (b + x0))]) hx hb dX11_init_100 rfl hl (by decide) rfl (fun ls hl => ?_)
  refine lv_iload_n hx hb dX11_init_101 rfl (lv_at hl 0 rfl) ?_
  refine lv_aload_n hx hb dX11_init_102 rfl (lv_at hl 1 rfl) ?_
  refine i_getR Y hW hm (by decide) (by decide) cl_11 fl_RX11_23 dX11_init_103 (fun o1000033 hm => ?_)
  refine i_alenR Y hW hm (t0 := 8) (v := 3) rfl (by decide) dX11_init_106 (fun hm => ?_)
  refine lv_icmp_ge (tgt := 129) hx hb dX11_init_107 (by decide) (fun h => absurd h (by decide)) (fun _ => ?_)
  refine lv_aload_n hx hb dX11_init_110 rfl (lv_at hl 1 rfl) ?_
  refine i_getR Y hW hm (by decide) (by decide) cl_11 fl_RX11_23 dX11_init_111 (fun o1000034 hm => ?_)
  refine lv_iload_n hx hb dX11_init_114 rfl (lv_at hl 0 rfl) ?_
  refine i_new Y hW hS hm (by decide) cl_8 df_8 nl_RX11_16 dX11_init_115 (Nat.le_of_ble_eq_true rfl) (Nat.le_of_ble_eq_true rfl) (fun C1000035 H hl1 hm hW hS => ?_)
  refine lv_dup hx hb dX11_init_118 rfl ?_
  obtain ⟨C1000037, hc1000036, hm⟩ := q_b1i hm
  refine i_callI Y hW hS (As := []) (rest := [.ref (b + (List.length C1000032)), .int 0, .ref (b + o1000034)]) (iX8_init l D b C1000035 (List.length C1000032) C1000037 hc1000036) yl_X8_init vi_X8_init rfl ml_RX11_18 rfl ⟨(Nat.le_of_ble_eq_true rfl), (Nat.le_of_ble_eq_true rfl)⟩ hl rfl (Nat.le_of_ble_eq_true rfl) dX11_init_119 ⟨(Nat.le_of_ble_eq_true rfl), (Nat.le_of_ble_eq_true rfl)⟩ (fun H locs hW hS => ?_)
  refine i_aast Y hW hS hm (t0 := 8) (by decide) rfl rfl dX11_init_122 (fun C1000038 H locs hl1 hm hW hS => ?_)
  refine lv_iinc (v := 1) (lv' := [(1, .int 1), (0, .ref (b + x0))]) hx hb dX11_init_123 hl (k := 0) rfl (by decide) (by decide) rfl (fun ls hl => ?_)
  refine lv_goto (tgt := 101) hx hb dX11_init_126 (by decide) ?_
  refine lv_iload_n hx hb dX11_init_101 rfl (lv_at hl 0 rfl) ?_
  refine lv_aload_n hx hb dX11_init_102 rfl (lv_at hl 1 rfl) ?_
  refine i_getR Y hW hm (by decide) (by decide) cl_11 fl_RX11_23 dX11_init_103 (fun o1000039 hm => ?_)
  refine i_alenR Y hW hm (t0 := 8) (v := 3) rfl (by decide) dX11_init_106 (fun hm => ?_)
  refine lv_icmp_ge (tgt := 129) hx hb dX11_init_107 (by decide) (fun h => absurd h (by decide)) (fun _ => ?_)
  refine lv_aload_n hx hb dX11_init_110 rfl (lv_at hl 1 rfl) ?_
  refine i_getR Y hW hm (by decide) (by decide) cl_11 fl_RX11_23 dX11_init_111 (fun o1000040 hm => ?_)
  refine lv_iload_n hx hb dX11_init_114 rfl (lv_at hl 0 rfl) ?_
  refine i_new Y hW hS hm (by decide) cl_8 df_8 nl_RX11_16 dX11_init_115 (Nat.le_of_ble_eq_true rfl) (Nat.le_of_ble_eq_true rfl) (fun C1000041 H hl1 hm hW hS => ?_)
  refine lv_dup hx hb dX11_init_118 rfl ?_
  obtain ⟨C1000043, hc1000042, hm⟩ := q_b1i hm
  refine i_callI Y hW hS (As := []) (rest := [.ref (b + (List.length C1000038)), .int 1, .ref (b + o1000040)]) (iX8_init l D b C1000041 (List.length C1000038) C1000043 hc1000042) yl_X8_init vi_X8_init rfl ml_RX11_18 rfl ⟨(Nat.le_of_ble_eq_true rfl), (Nat.le_of_ble_eq_true rfl)⟩ hl rfl (Nat.le_of_ble_eq_true rfl) dX11_init_119 ⟨(Nat.le_of_ble_eq_true rfl), (Nat.le_of_ble_eq_true rfl)⟩ (fun H locs hW hS => ?_)
  refine i_aast Y hW hS hm (t0 := 8) (by decide) rfl rfl dX11_init_122 (fun C1000044 H locs hl1 hm hW hS => ?_)
  refine lv_iinc (v := 2) (lv' := [(1, .int 2), (0, .ref (b + x0))]) hx hb dX11_init_123 hl (k := 0) rfl (by decide) (by decide) rfl (fun ls hl => ?_)
  refine lv_goto (tgt := 101) hx hb dX11_init_126 (by decide) ?_
  refine lv_iload_n hx hb dX11_init_101 rfl (lv_at hl 0 rfl) ?_
  refine lv_aload_n hx hb dX11_init_102 rfl (lv_at hl 1 rfl) ?_
  refine i_getR Y hW hm (by decide) (by decide) cl_11 fl_RX11_23 dX11_init_103 (fun o1000045 hm => ?_)
  refine i_alenR Y hW hm (t0 := 8) (v := 3) rfl (by decide) dX11_init_106 (fun hm => ?_)
  refine lv_icmp_ge (tgt := 129) hx hb dX11_init_107 (by decide) (fun h => absurd h (by decide)) (fun _ => ?_)
  refine lv_aload_n hx hb dX11_init_110 rfl (lv_at hl 1 rfl) ?_
  refine i_getR Y hW hm (by decide) (by decide) cl_11 fl_RX11_23 dX11_init_111 (fun o1000046 hm => ?_)
  refine lv_iload_n hx hb dX11_init_114 rfl (lv_at hl 0 rfl) ?_
  refine i_new Y hW hS hm (by decide) cl_8 df_8 nl_RX11_16 dX11_init_115 (Nat.le_of_ble_eq_true rfl) (Nat.le_of_ble_eq_true rfl) (fun C1000047 H hl1 hm hW hS => ?_)
  refine lv_dup hx hb dX11_init_118 rfl ?_
  obtain ⟨C1000049, hc1000048, hm⟩ := q_b1i hm
  refine i_callI Y hW hS (As := []) (rest := [.ref (b + (List.length C1000044)), .int 2, .ref (b + o1000046)]) (iX8_init l D b C1000047 (List.length C1000044) C1000049 hc1000048) yl_X8_init vi_X8_init rfl ml_RX11_18 rfl ⟨(Nat.le_of_ble_eq_true rfl), (Nat.le_of_ble_eq_true rfl)⟩ hl rfl (Nat.le_of_ble_eq_true rfl) dX11_init_119 ⟨(Nat.le_of_ble_eq_true rfl), (Nat.le_of_ble_eq_true rfl)⟩ (fun H locs hW hS => ?_)
  refine i_aast Y hW hS hm (t0 := 8) (by decide) rfl rfl dX11_init_122 (fun C1000050 H locs hl1 hm hW hS => ?_)
  refine lv_iinc (v := 3) (lv' := [(1, .int 3), (0, .ref (b + x0))]) hx hb dX11_init_123 hl (k := 0) rfl (by decide) (by decide) rfl (fun ls hl => ?_)
  refine lv_goto (tgt := 101) hx hb dX11_init_126 (by decide) ?_
  refine lv_iload_n hx hb dX11_init_101 rfl (lv_at hl 0 rfl) ?_
  refine lv_aload_n hx hb dX11_init_102 rfl (lv_at hl 1 rfl) ?_
  refine i_getR Y hW hm (by decide) (by decide) cl_11 fl_RX11_23 dX11_init_103 (fun o1000051 hm => ?_)
  refine i_alenR Y hW hm (t0 := 8) (v := 3) rfl (by decide) dX11_init_106 (fun hm => ?_)
  refine lv_icmp_ge (tgt := 129) hx hb dX11_init_107 (by decide) (fun _ => ?_) (fun h => absurd (by decide) h)
  exact j_v Y hW hS hm (Nat.le_of_ble_eq_true rfl) (Nat.le_of_ble_eq_true rfl) dX11_init_129
