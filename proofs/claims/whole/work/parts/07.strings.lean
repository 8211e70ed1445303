theorem dJ0_length_8abf5_0 : decode cJ0_length_8abf5 0 = .ok (.aload_n 0, 1) := by decide +kernel
theorem dJ0_length_8abf5_1 : decode cJ0_length_8abf5 1 = .ok (.getfield 9, 3) := by decide +kernel
theorem dJ0_length_8abf5_4 : decode cJ0_length_8abf5 4 = .ok (.arraylength, 1) := by decide +kernel
theorem dJ0_length_8abf5_5 : decode cJ0_length_8abf5 5 = .ok (.aload_n 0, 1) := by decide +kernel
theorem dJ0_length_8abf5_6 : decode cJ0_length_8abf5 6 = .ok (.invokevirtual 335, 3) := by decide +kernel
theorem dJ0_length_8abf5_9 : decode cJ0_length_8abf5 9 = .ok (.ishr, 1) := by decide +kernel
theorem dJ0_length_8abf5_10 : decode cJ0_length_8abf5 10 = .ok (.ireturn, 1) := by decide +kernel
theorem dJ0_coder_7d493_0 : decode cJ0_coder_7d493 0 = .ok (.getstatic 38, 3) := by decide +kernel
theorem dJ0_coder_7d493_3 : decode cJ0_coder_7d493 3 = .ok (.ifCond .eq 10, 3) := by decide +kernel
theorem dJ0_coder_7d493_6 : decode cJ0_coder_7d493 6 = .ok (.aload_n 0, 1) := by decide +kernel
theorem dJ0_coder_7d493_7 : decode cJ0_coder_7d493 7 = .ok (.getfield 15, 3) := by decide +kernel
theorem dJ0_coder_7d493_10 : decode cJ0_coder_7d493 10 = .ok (.goto 4, 3) := by decide +kernel
theorem dJ0_coder_7d493_13 : decode cJ0_coder_7d493 13 = .ok (.iconst 1, 1) := by decide +kernel
theorem dJ0_coder_7d493_14 : decode cJ0_coder_7d493 14 = .ok (.ireturn, 1) := by decide +kernel
theorem dJ0_isLatin1_aae02_0 : decode cJ0_isLatin1_aae02 0 = .ok (.getstatic 38, 3) := by decide +kernel
theorem dJ0_isLatin1_aae02_3 : decode cJ0_isLatin1_aae02 3 = .ok (.ifCond .eq 14, 3) := by decide +kernel
theorem dJ0_isLatin1_aae02_6 : decode cJ0_isLatin1_aae02 6 = .ok (.aload_n 0, 1) := by decide +kernel
theorem dJ0_isLatin1_aae02_7 : decode cJ0_isLatin1_aae02 7 = .ok (.getfield 15, 3) := by decide +kernel
theorem dJ0_isLatin1_aae02_10 : decode cJ0_isLatin1_aae02 10 = .ok (.ifCond .ne 7, 3) := by decide +kernel
theorem dJ0_isLatin1_aae02_13 : decode cJ0_isLatin1_aae02 13 = .ok (.iconst 1, 1) := by decide +kernel
theorem dJ0_isLatin1_aae02_14 : decode cJ0_isLatin1_aae02 14 = .ok (.goto 4, 3) := by decide +kernel
theorem dJ0_isLatin1_aae02_17 : decode cJ0_isLatin1_aae02 17 = .ok (.iconst 0, 1) := by decide +kernel
theorem dJ0_isLatin1_aae02_18 : decode cJ0_isLatin1_aae02 18 = .ok (.ireturn, 1) := by decide +kernel
theorem dJ0_charAt_5068e_0 : decode cJ0_charAt_5068e 0 = .ok (.aload_n 0, 1) := by decide +kernel
theorem dJ0_charAt_5068e_1 : decode cJ0_charAt_5068e 1 = .ok (.invokevirtual 492, 3) := by decide +kernel
theorem dJ0_charAt_5068e_4 : decode cJ0_charAt_5068e 4 = .ok (.ifCond .eq 12, 3) := by decide +kernel
theorem dJ0_charAt_5068e_7 : decode cJ0_charAt_5068e 7 = .ok (.aload_n 0, 1) := by decide +kernel
theorem dJ0_charAt_5068e_8 : decode cJ0_charAt_5068e 8 = .ok (.getfield 9, 3) := by decide +kernel
theorem dJ0_charAt_5068e_11 : decode cJ0_charAt_5068e 11 = .ok (.iload_n 1, 1) := by decide +kernel
theorem dJ0_charAt_5068e_12 : decode cJ0_charAt_5068e 12 = .ok (.invokestatic 495, 3) := by decide +kernel
theorem dJ0_charAt_5068e_15 : decode cJ0_charAt_5068e 15 = .ok (.ireturn, 1) := by decide +kernel
theorem dJ0_charAt_5068e_16 : decode cJ0_charAt_5068e 16 = .ok (.aload_n 0, 1) := by decide +kernel
theorem dJ0_charAt_5068e_17 : decode cJ0_charAt_5068e 17 = .ok (.getfield 9, 3) := by decide +kernel
theorem dJ0_charAt_5068e_20 : decode cJ0_charAt_5068e 20 = .ok (.iload_n 1, 1) := by decide +kernel
theorem dJ0_charAt_5068e_21 : decode cJ0_charAt_5068e 21 = .ok (.invokestatic 498, 3) := by decide +kernel
theorem dJ0_charAt_5068e_24 : decode cJ0_charAt_5068e 24 = .ok (.ireturn, 1) := by decide +kernel
theorem dJ0_checkIndex_df160_0 : decode cJ0_checkIndex_df160 0 = .ok (.iload_n 0, 1) := by decide +kernel
theorem dJ0_checkIndex_df160_1 : decode cJ0_checkIndex_df160 1 = .ok (.iload_n 1, 1) := by decide +kernel
theorem dJ0_checkIndex_df160_2 : decode cJ0_checkIndex_df160 2 = .ok (.getstatic 1053, 3) := by decide +kernel
theorem dJ0_checkIndex_df160_5 : decode cJ0_checkIndex_df160 5 = .ok (.invokestatic 1059, 3) := by decide +kernel
theorem dJ0_checkIndex_df160_8 : decode cJ0_checkIndex_df160 8 = .ok (.pop, 1) := by decide +kernel
theorem dJ0_checkIndex_df160_9 : decode cJ0_checkIndex_df160 9 = .ok (.return_, 1) := by decide +kernel
theorem dJ1_charAt_3b067_0 : decode cJ1_charAt_3b067 0 = .ok (.iload_n 1, 1) := by decide +kernel
theorem dJ1_charAt_3b067_1 : decode cJ1_charAt_3b067 1 = .ok (.aload_n 0, 1) := by decide +kernel
theorem dJ1_charAt_3b067_2 : decode cJ1_charAt_3b067 2 = .ok (.arraylength, 1) := by decide +kernel
theorem dJ1_charAt_3b067_3 : decode cJ1_charAt_3b067 3 = .ok (.invokestatic 9, 3) := by decide +kernel
theorem dJ1_charAt_3b067_6 : decode cJ1_charAt_3b067 6 = .ok (.aload_n 0, 1) := by decide +kernel
theorem dJ1_charAt_3b067_7 : decode cJ1_charAt_3b067 7 = .ok (.iload_n 1, 1) := by decide +kernel
theorem dJ1_charAt_3b067_8 : decode cJ1_charAt_3b067 8 = .ok (.baload, 1) := by decide +kernel
theorem dJ1_charAt_3b067_9 : decode cJ1_charAt_3b067 9 = .ok (.sipush 255, 3) := by decide +kernel
theorem dJ1_charAt_3b067_12 : decode cJ1_charAt_3b067 12 = .ok (.iand, 1) := by decide +kernel
theorem dJ1_charAt_3b067_13 : decode cJ1_charAt_3b067 13 = .ok (.i2c, 1) := by decide +kernel
theorem dJ1_charAt_3b067_14 : decode cJ1_charAt_3b067 14 = .ok (.ireturn, 1) := by decide +kernel
theorem dJ3_checkIndex_8e157_0 : decode cJ3_checkIndex_8e157 0 = .ok (.iload_n 0, 1) := by decide +kernel
theorem dJ3_checkIndex_8e157_1 : decode cJ3_checkIndex_8e157 1 = .ok (.ifCond .lt 8, 3) := by decide +kernel
theorem dJ3_checkIndex_8e157_4 : decode cJ3_checkIndex_8e157 4 = .ok (.iload_n 0, 1) := by decide +kernel
theorem dJ3_checkIndex_8e157_5 : decode cJ3_checkIndex_8e157 5 = .ok (.iload_n 1, 1) := by decide +kernel
theorem dJ3_checkIndex_8e157_6 : decode cJ3_checkIndex_8e157 6 = .ok (.if_icmp .lt 10, 3) := by decide +kernel
theorem dJ3_checkIndex_8e157_9 : decode cJ3_checkIndex_8e157 9 = .ok (.aload_n 2, 1) := by decide +kernel
theorem dJ3_checkIndex_8e157_10 : decode cJ3_checkIndex_8e157 10 = .ok (.iload_n 0, 1) := by decide +kernel
theorem dJ3_checkIndex_8e157_11 : decode cJ3_checkIndex_8e157 11 = .ok (.iload_n 1, 1) := by decide +kernel
theorem dJ3_checkIndex_8e157_12 : decode cJ3_checkIndex_8e157 12 = .ok (.invokestatic 95, 3) := by decide +kernel
theorem dJ3_checkIndex_8e157_15 : decode cJ3_checkIndex_8e157 15 = .ok (.athrow, 1) := by decide +kernel
theorem dJ3_checkIndex_8e157_16 : decode cJ3_checkIndex_8e157 16 = .ok (.iload_n 0, 1) := by decide +kernel
theorem dJ3_checkIndex_8e157_17 : decode cJ3_checkIndex_8e157 17 = .ok (.ireturn, 1) := by decide +kernel
/-! what the JDK's String answers of a constant -/
theorem q_len0 : ∀ i, i < 9 → (Int32.ofNat (q_sl.getD i 0)) >>> ((0 : Int32) &&& 31) = q_slen i := by decide +kernel
theorem q_chr : ∀ i, i < 9 → ∀ j, j < q_sl.getD i 0 → ((((q_sb.getD i []).getD j 0) &&& 255).toUInt32.toUInt16.toUInt32.toInt32 = (q_sb.getD i []).getD j 0 ∧ narrow .char (.int ((q_sb.getD i []).getD j 0)) = .int ((q_sb.getD i []).getD j 0)) := by decide +kernel
theorem c_coder (l : Launch) (D : q_D) (al : q_Al) (dt : q_Dt) (i : Nat) (hi : i < 9) : q_Mt l yJ0_coder_7d493 cJ0_coder_7d493 1 (some .byte) 0 0 D al [.ref (D.2.2.1 i)] dt 0 (some (.int 0)) dt := by
  refine q_Mt.of (by decide) (Nat.le_of_ble_eq_true rfl) ?_
  intro p e s m args below meth c ls C hargs hW hl
  have hx := C.1
  have hb := C.2.1
  have hown := C.2.2.2.2.2.1
  have hts := C.2.2.2.2.2.2.1
  have hS : va_S (q_A al) s.heap s.heap [] := va_S.rf
  have hl : lv_has ls 1 [(0, .ref (D.2.2.1 i))] := hl
  have hSt := C.2.2.2.2.2.2.2.2
  refine va_gets hx hb hSt.2.1 hS hown (hts _ jl_RJ0_38) (fun _ h => h) dJ0_coder_7d493_0 ?_
  refine lv_if_eq (tgt := 13) hx hb dJ0_coder_7d493_3 (by decide) (fun h => absurd h (by decide)) (fun _ => ?_)
  refine lv_aload_n hx hb dJ0_coder_7d493_6 rfl (lv_at hl 0 rfl) ?_
  refine vk_getf hx hb (hSt.1.1 i hi).2.1 hS hown (hts _ jl_RJ0_15) (fun _ h => h) dJ0_coder_7d493_7 ?_
  refine lv_goto (tgt := 14) hx hb dJ0_coder_7d493_10 (by decide) ?_
  exact W.zret hx hb C.2.2.2.1 rfl (fun t ht _ => ⟨rfl, ⟨by rw [ht]; exact hW, Or.inl rfl⟩, hS.F ht⟩) hS.2.2 dJ0_coder_7d493_14 C.2.2.2.2.1
theorem c_isLatin1 (l : Launch) (D : q_D) (al : q_Al) (dt : q_Dt) (i : Nat) (hi : i < 9) : q_Mt l yJ0_isLatin1_aae02 cJ0_isLatin1_aae02 1 (some .boolean) 0 0 D al [.ref (D.2.2.1 i)] dt 0 (some (.int 1)) dt := by
  refine q_Mt.of (by decide) (Nat.le_of_ble_eq_true rfl) ?_
  intro p e s m args below meth c ls C hargs hW hl
  have hx := C.1
  have hb := C.2.1
  have hown := C.2.2.2.2.2.1
  have hts := C.2.2.2.2.2.2.1
  have hS : va_S (q_A al) s.heap s.heap [] := va_S.rf
  have hl : lv_has ls 1 [(0, .ref (D.2.2.1 i))] := hl
  have hSt := C.2.2.2.2.2.2.2.2
  refine va_gets hx hb hSt.2.1 hS hown (hts _ jl_RJ0_38) (fun _ h => h) dJ0_isLatin1_aae02_0 ?_
  refine lv_if_eq (tgt := 17) hx hb dJ0_isLatin1_aae02_3 (by decide) (fun h => absurd h (by decide)) (fun _ => ?_)
  refine lv_aload_n hx hb dJ0_isLatin1_aae02_6 rfl (lv_at hl 0 rfl) ?_
  refine vk_getf hx hb (hSt.1.1 i hi).2.1 hS hown (hts _ jl_RJ0_15) (fun _ h => h) dJ0_isLatin1_aae02_7 ?_
  refine lv_if_ne (tgt := 17) hx hb dJ0_isLatin1_aae02_10 (by decide) (fun h => absurd rfl h) (fun _ => ?_)
  refine lv_iconst (v := 1) hx hb dJ0_isLatin1_aae02_13 (by decide) ?_
  refine lv_goto (tgt := 18) hx hb dJ0_isLatin1_aae02_14 (by decide) ?_
  exact q_retz C hW hS (Or.inr rfl) dJ0_isLatin1_aae02_18
theorem c_slength (l : Launch) (D : q_D) (al : q_Al) (dt : q_Dt) (i : Nat) (hi : i < 9) : q_Mt l yJ0_length_8abf5 cJ0_length_8abf5 1 (some .int) 1 20 D al [.ref (D.2.2.1 i)] dt 0 (some (.int (q_slen i))) dt := by
  refine q_Mt.of (by decide) (Nat.le_of_ble_eq_true rfl) ?_
  intro p e s m args below meth c ls C hargs hW hl
  have hx := C.1
  have hb := C.2.1
  have hown := C.2.2.2.2.2.1
  have hts := C.2.2.2.2.2.2.1
  have hS : va_S (q_A al) s.heap s.heap [] := va_S.rf
  have hl : lv_has ls 1 [(0, .ref (D.2.2.1 i))] := hl
  have hSt := C.2.2.2.2.2.2.2.2
  refine lv_aload_n hx hb dJ0_length_8abf5_0 rfl (lv_at hl 0 rfl) ?_
  refine vk_getf hx hb (hSt.1.1 i hi).2.2.1 hS hown (hts _ jl_RJ0_9) (fun _ h => h) dJ0_length_8abf5_1 ?_
  refine va_tlen hx hb (hSt.1.1 i hi).2.2.2 hS rfl dJ0_length_8abf5_4 ?_
  refine lv_aload_n hx hb dJ0_length_8abf5_5 rfl (lv_at hl 0 rfl) ?_
  refine q_callG C hW hS (As := []) (rest := [.int (Int32.ofNat (q_sl.getD i 0))]) (st1 := [.int 0, .int (Int32.ofNat (q_sl.getD i 0))]) (c_coder l D al dt i hi) yl_J0_coder_7d493 vl_J0_coder_7d493 ml_RJ0_335 (vk_recv hSt.1 hi hS) rfl ⟨Nat.le_of_ble_eq_true rfl, Nat.le_of_ble_eq_true rfl⟩ hl rfl (Nat.le_of_ble_eq_true rfl) dJ0_length_8abf5_6 ⟨Nat.le_refl _, Nat.le_refl _⟩ rfl (fun H locs _ hW hS => ?_)
  refine lv_ishr hx hb dJ0_length_8abf5_9 ?_
  rw [q_len0 i hi]
  exact q_reti C hW hS dJ0_length_8abf5_10
theorem c_ckP (l : Launch) (D : q_D) (al : q_Al) (dt : q_Dt) (i n : Int32) (o : Option Nat) (h0 : ¬ i < 0) (h1 : i < n) : q_Mt l yJ3_checkIndex_8e157 cJ3_checkIndex_8e157 3 (some .int) 0 0 D al [.int i, .int n, va_rf o] dt 0 (some (.int i)) dt := by
  refine q_Mt.of (by decide) (by simp [lg_sl, q_cat, q_catR, q_catI, q_catL]) ?_
  intro p e s m args below meth c ls C hargs hW hl
  have hx := C.1
  have hb := C.2.1
  have hS : va_S (q_A al) s.heap s.heap [] := va_S.rf
  have hl : lv_has ls 3 [(0, .int i), (1, .int n), (2, va_rf o)] := by simpa [lv_args, q_cat, q_catR, q_catI, q_catL] using hl
  refine lv_iload_n hx hb dJ3_checkIndex_8e157_0 rfl (lv_at hl 0 rfl) ?_
  refine lv_if_lt (tgt := 9) hx hb dJ3_checkIndex_8e157_1 (by decide) (fun h => absurd h h0) (fun _ => ?_)
  refine lv_iload_n hx hb dJ3_checkIndex_8e157_4 rfl (lv_at hl 0 rfl) ?_
  refine lv_iload_n hx hb dJ3_checkIndex_8e157_5 rfl (lv_at hl 1 rfl) ?_
  refine lv_icmp_lt (tgt := 16) hx hb dJ3_checkIndex_8e157_6 (by decide) (fun _ => ?_) (fun h => absurd h1 h)
  refine lv_iload_n hx hb dJ3_checkIndex_8e157_16 rfl (lv_at hl 0 rfl) ?_
  exact q_reti C hW hS dJ3_checkIndex_8e157_17
theorem c_ckS (l : Launch) (D : q_D) (al : q_Al) (dt : q_Dt) (i n : Int32) (h0 : ¬ i < 0) (h1 : i < n) : q_Mt l yJ0_checkIndex_df160 cJ0_checkIndex_df160 2 none 1 22 D al [.int i, .int n] dt 0 none dt := by
  refine q_Mt.of (by decide) (Nat.le_of_ble_eq_true rfl) ?_
  intro p e s m args below meth c ls C hargs hW hl
  have hx := C.1
  have hb := C.2.1
  have hown := C.2.2.2.2.2.1
  have hts := C.2.2.2.2.2.2.1
  have hS : va_S (q_A al) s.heap s.heap [] := va_S.rf
  have hl : lv_has ls 2 [(0, .int i), (1, .int n)] := hl
  have hSt := C.2.2.2.2.2.2.2.2
  refine lv_iload_n hx hb dJ0_checkIndex_df160_0 rfl (lv_at hl 0 rfl) ?_
  refine lv_iload_n hx hb dJ0_checkIndex_df160_1 rfl (lv_at hl 1 rfl) ?_
  have hz : ∃ o : Option Nat, va_Z "jdk/internal/util/Preconditions" "SIOOBE_FORMATTER" "Ljava/util/function/BiFunction;" (va_rf o) (q_A al) s s.heap := by
    rcases hSt.2.2 with h | ⟨t, h⟩
    · exact ⟨none, h⟩
    · exact ⟨some t, h⟩
  obtain ⟨o, hz⟩ := hz
  refine va_gets hx hb hz hS hown (hts _ jl_RJ0_1053) (fun _ h => h) dJ0_checkIndex_df160_2 ?_
  refine q_callS C hW hS (As := [.int i, .int n, va_rf o]) (rest := []) (st1 := [.int i]) (c_ckP l D al dt i n o h0 h1) yl_J3_checkIndex_8e157 sl_J3_checkIndex_8e157 ml_RJ0_1059 rfl ⟨Nat.le_of_ble_eq_true rfl, Nat.le_of_ble_eq_true rfl⟩ hl rfl (Nat.le_of_ble_eq_true rfl) dJ0_checkIndex_df160_5 ⟨Nat.le_refl _, Nat.le_refl _⟩ rfl (fun H locs _ hW hS => ?_)
  refine lv_pop hx hb dJ0_checkIndex_df160_8 rfl ?_
  exact q_retv C hW hS dJ0_checkIndex_df160_9
theorem q_ltI {i : Int32} {n : Nat} (hn : n < 2 ^ 31) (h : ¬ (i < 0 ∨ n ≤ i.toNatClampNeg)) : ¬ i < 0 ∧ i < Int32.ofNat n := by
  obtain ⟨j, hj, rfl⟩ := vp_in_of (x := i) h hn
  exact ⟨nI_pos (by omega), nI_lt hj hn⟩
theorem q_sl31 : ∀ i, i < 9 → q_sl.getD i 0 < 2 ^ 31 := by decide +kernel
theorem c_chL (l : Launch) (D : q_D) (al : q_Al) (dt : q_Dt) (i : Nat) (hi : i < 9) (j : Int32) (hj : ¬ (j < 0 ∨ q_sl.getD i 0 ≤ j.toNatClampNeg)) : q_Mt l yJ1_charAt_3b067 cJ1_charAt_3b067 2 (some .char) 2 43 D al [.ref (D.2.2.2 i), .int j] dt 0 (some (.int (q_sch i j))) dt := by
  refine q_Mt.of (by decide) (Nat.le_of_ble_eq_true rfl) ?_
  intro p e s m args below meth c ls C hargs hW hl
  have hx := C.1
  have hb := C.2.1
  have hS : va_S (q_A al) s.heap s.heap [] := va_S.rf
  have hl : lv_has ls 2 [(0, .ref (D.2.2.2 i)), (1, .int j)] := hl
  have hSt := C.2.2.2.2.2.2.2.2
  obtain ⟨h0, h1⟩ := q_ltI (q_sl31 i hi) hj
  refine lv_iload_n hx hb dJ1_charAt_3b067_0 rfl (lv_at hl 1 rfl) ?_
  refine lv_aload_n hx hb dJ1_charAt_3b067_1 rfl (lv_at hl 0 rfl) ?_
  refine va_tlen hx hb (hSt.1.1 i hi).2.2.2 hS rfl dJ1_charAt_3b067_2 ?_
  refine q_callS C hW hS (As := [.int j, .int (Int32.ofNat (q_sl.getD i 0))]) (rest := []) (st1 := []) (c_ckS l D al dt j _ h0 h1) yl_J0_checkIndex_df160 sl_J0_checkIndex_df160 ml_RJ1_9 rfl ⟨Nat.le_of_ble_eq_true rfl, Nat.le_of_ble_eq_true rfl⟩ hl rfl (Nat.le_of_ble_eq_true rfl) dJ1_charAt_3b067_3 ⟨Nat.le_refl _, Nat.le_refl _⟩ rfl (fun H locs _ hW hS => ?_)
  refine lv_aload_n hx hb dJ1_charAt_3b067_6 rfl (lv_at hl 0 rfl) ?_
  refine lv_iload_n hx hb dJ1_charAt_3b067_7 rfl (lv_at hl 1 rfl) ?_
  refine va_tb hx hb (hSt.1.1 i hi).2.2.2 hS hj rfl dJ1_charAt_3b067_8 ?_
  refine lv_sipush (v := 255) hx hb dJ1_charAt_3b067_9 (by decide) ?_
  refine lv_iand hx hb dJ1_charAt_3b067_12 ?_
  obtain ⟨e1, e2⟩ := q_chr i hi j.toNatClampNeg (q_clamp hj)
  refine lv_i2c (v := q_sch i j) hx hb dJ1_charAt_3b067_13 e1 ?_
  exact W.zret hx hb C.2.2.2.1 e2 (fun t ht _ => ⟨rfl, ⟨by rw [ht]; exact hW, Or.inl rfl⟩, hS.F ht⟩) hS.2.2 dJ1_charAt_3b067_14 C.2.2.2.2.1
theorem c_scharAt (l : Launch) (D : q_D) (al : q_Al) (dt : q_Dt) (i : Nat) (hi : i < 9) (j : Int32) (hj : ¬ (j < 0 ∨ q_sl.getD i 0 ≤ j.toNatClampNeg)) : q_Mt l yJ0_charAt_5068e cJ0_charAt_5068e 2 (some .char) 3 64 D al [.ref (D.2.2.1 i), .int j] dt 0 (some (.int (q_sch i j))) dt := by
  refine q_Mt.of (by decide) (Nat.le_of_ble_eq_true rfl) ?_
  intro p e s m args below meth c ls C hargs hW hl
  have hx := C.1
  have hb := C.2.1
  have hown := C.2.2.2.2.2.1
  have hts := C.2.2.2.2.2.2.1
  have hS : va_S (q_A al) s.heap s.heap [] := va_S.rf
  have hl : lv_has ls 2 [(0, .ref (D.2.2.1 i)), (1, .int j)] := hl
  have hSt := C.2.2.2.2.2.2.2.2
  refine lv_aload_n hx hb dJ0_charAt_5068e_0 rfl (lv_at hl 0 rfl) ?_
  refine q_callG C hW hS (As := []) (rest := []) (st1 := [.int 1]) (c_isLatin1 l D al dt i hi) yl_J0_isLatin1_aae02 vl_J0_isLatin1_aae02 ml_RJ0_492 (vk_recv hSt.1 hi hS) rfl ⟨Nat.le_of_ble_eq_true rfl, Nat.le_of_ble_eq_true rfl⟩ hl rfl (Nat.le_of_ble_eq_true rfl) dJ0_charAt_5068e_1 ⟨Nat.le_refl _, Nat.le_refl _⟩ rfl (fun H locs _ hW hS => ?_)
  refine lv_if_eq (tgt := 16) hx hb dJ0_charAt_5068e_4 (by decide) (fun h => absurd h (by decide)) (fun _ => ?_)
  refine lv_aload_n hx hb dJ0_charAt_5068e_7 rfl (lv_at hl 0 rfl) ?_
  refine vk_getf hx hb (hSt.1.1 i hi).2.2.1 hS hown (hts _ jl_RJ0_9) (fun _ h => h) dJ0_charAt_5068e_8 ?_
  refine lv_iload_n hx hb dJ0_charAt_5068e_11 rfl (lv_at hl 1 rfl) ?_
  refine q_callS C hW hS (As := [.ref (D.2.2.2 i), .int j]) (rest := []) (st1 := [.int (q_sch i j)]) (c_chL l D al dt i hi j hj) yl_J1_charAt_3b067 sl_J1_charAt_3b067 ml_RJ0_495 rfl ⟨Nat.le_of_ble_eq_true rfl, Nat.le_of_ble_eq_true rfl⟩ hl rfl (Nat.le_of_ble_eq_true rfl) dJ0_charAt_5068e_12 ⟨Nat.le_refl _, Nat.le_refl _⟩ rfl (fun H locs _ hW hS => ?_)
  obtain ⟨e1, e2⟩ := q_chr i hi j.toNatClampNeg (q_clamp hj)
  exact W.zret hx hb C.2.2.2.1 e2 (fun t ht _ => ⟨rfl, ⟨by rw [ht]; exact hW, Or.inl rfl⟩, hS.F ht⟩) hS.2.2 dJ0_charAt_5068e_15 C.2.2.2.2.1
section QCS
variable {p : Program} {l : Launch} {e : Env} {R : Room} {s : State} {m : MethodId} {args : Array Value} {below : List Frame} {meth : Method} {c : Code} {H : Heap} {locs : List Loc} {cells slots : Nat} {Q : State → Prop}
variable {D : q_D} {al : q_Al} {dt : q_Dt} {cc : ByteArray} {nL : Nat} {ret : Option FieldType} {own : String} {pc : Nat} {ls : Array Slot} {rest : List Value}
theorem q_callSL (C : q_Cx D al cc nL ret own p s m args meth c) (hW : q_W D al dt H) (hS : va_S (q_A al) s.heap H locs) {i idx : Nat} {lv : List (Nat × Value)} (hL : q_Ml own idx yJ0_length_8abf5) (hi : i < 9) (hl : lv_has ls nL lv) (hcat : (rest.map fun v => v.category).sum ≤ 8) (hR : 2 ≤ R.frames ∧ 40 ≤ R.locals) (hdg : decode cc pc = .ok (.invokevirtual idx, 3)) (hcs : cells ≤ R.cells ∧ slots ≤ R.slots)
    (kk : ∀ (H1 : Heap) (locs1 : List Loc), q_W D al dt H1 → va_S (q_A al) s.heap H1 locs1 → W p l e R s m args below meth c H1 locs1 cells slots Q (F0 m (pc + 3) ls (.int (q_slen i) :: rest))) : W p l e R s m args below meth c H locs cells slots Q (F0 m pc ls (.ref (D.2.2.1 i) :: rest)) :=
  q_callG C hW hS (As := []) (rest := rest) (st1 := .int (q_slen i) :: rest) (c_slength l D al dt i hi) yl_J0_length_8abf5 vl_J0_length_8abf5 hL (vk_recv C.2.2.2.2.2.2.2.2.1 hi hS) rfl hR hl rfl hcat hdg hcs rfl (fun H locs _ hW hS => kk H locs hW hS)
theorem q_callSC (C : q_Cx D al cc nL ret own p s m args meth c) (hW : q_W D al dt H) (hS : va_S (q_A al) s.heap H locs) {β : Type} {B : Option β} {u : β} {i idx : Nat} {j : Int32} {lv : List (Nat × Value)} (hm : (if j < 0 ∨ q_sl.getD i 0 ≤ j.toNatClampNeg then none else B) = some u) (hL : q_Ml own idx yJ0_charAt_5068e) (hi : i < 9) (hl : lv_has ls nL lv) (hcat : (rest.map fun v => v.category).sum ≤ 8) (hR : 4 ≤ R.frames ∧ 85 ≤ R.locals) (hdg : decode cc pc = .ok (.invokevirtual idx, 3)) (hcs : cells ≤ R.cells ∧ slots ≤ R.slots)
    (kk : ∀ (H1 : Heap) (locs1 : List Loc), B = some u → q_W D al dt H1 → va_S (q_A al) s.heap H1 locs1 → W p l e R s m args below meth c H1 locs1 cells slots Q (F0 m (pc + 3) ls (.int (q_sch i j) :: rest))) : W p l e R s m args below meth c H locs cells slots Q (F0 m pc ls (.int j :: .ref (D.2.2.1 i) :: rest)) :=
  q_callG C hW hS (As := [.int j]) (rest := rest) (st1 := .int (q_sch i j) :: rest) (c_scharAt l D al dt i hi j (q_ini hm).1) yl_J0_charAt_5068e vl_J0_charAt_5068e hL (vk_recv C.2.2.2.2.2.2.2.2.1 hi hS) rfl hR hl rfl hcat hdg hcs rfl (fun H locs _ hW hS => kk H locs (q_ini hm).2 hW hS)
end QCS
