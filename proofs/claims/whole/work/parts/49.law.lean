theorem q_lc {i L : Nat} (hi : i ≤ 4104) (hL : L ≤ 4096) (h : ¬ (nI L - 8 < nI i)) : i + 8 ≤ L := by
  rw [Int32.lt_iff_toInt_lt, Int32.toInt_sub, nI_toInt (by omega), nI_toInt (by omega), show (8 : Int32).toInt = 8 by decide] at h
  unfold Int.bmod at h
  simp only [] at h
  split at h <;> omega
def q_L2 (Rel : Nat → Nat → Nat → q_Dt → q_Dt → Prop) : Prop := q_c_feed Rel ∧ q_c_back Rel ∧ q_c_read Rel ∧ q_c_place Rel ∧ q_c_code Rel ∧ q_c_chip Rel ∧ q_c_alike Rel ∧ q_c_worst Rel ∧ q_c_times Rel ∧ q_c_depth Rel ∧ q_c_family Rel ∧ q_c_sample Rel ∧ q_c_power Rel ∧ q_c_wave Rel ∧ q_c_add Rel ∧ q_c_noise Rel ∧ q_c_anew Rel ∧ q_c_sum Rel ∧ q_c_metric Rel ∧ q_c_best Rel ∧ q_c_second Rel ∧ q_c_peak Rel ∧ q_c_alarms Rel ∧ q_c_plan Rel ∧ q_c_mean Rel ∧ q_c_over Rel ∧ q_c_bit Rel ∧ q_c_wrong Rel ∧ q_c_joined Rel ∧ q_c_frame Rel ∧ q_c_hurt Rel ∧ q_c_atOnce Rel ∧ q_c_taken Rel ∧ q_c_rest Rel ∧ q_c_loop Rel ∧ q_c_follows Rel ∧ q_c_range Rel ∧ q_c_near Rel ∧ q_c_hop Rel ∧ q_c_hits Rel ∧ q_c_worstHits Rel ∧ q_c_crowded Rel ∧ q_c_jammed Rel ∧ q_c_strongest Rel ∧ q_c_hold Rel ∧ q_c_restore Rel ∧ q_c_count Rel
set_option maxRecDepth 100000 in
theorem law_loop {p : Program} {l : Launch} {e : Env} {s : State} {m : MethodId} {below : List Frame} {meth : Method} {c : Code} {D : q_D} {b L b1 b2 cells slots : Nat} {xs : Nat → Int32} (Y : q_Cy D s.heap.size code 4 ret R_law p s m #[Value.ref b] meth c) (hX : va_X b L xs s s.heap) (hbl : b < s.heap.size) (hb1 : s.heap.size ≤ b1) (hb2 : b1 + q_S1.length ≤ b2) (hcs : cells ≤ room_1.cells ∧ slots ≤ room_1.slots) {Rel : Nat → Nat → Nat → q_Dt → q_Dt → Prop} (hL : L ≤ 4096) (hlocks : meth.locks = false) (h2 : q_L2 Rel) (hskip : ∀ k b1 b2 dt1 dt2, Rel k b1 b2 dt1 dt2 → Rel (k + 1) b1 b2 dt1 dt2) :
    ∀ (n k : Nat) (x3 : Int32), k ≤ 512 → n + k = 513 → x3 = nI (8 * k) → ∀ (dt1 dt2 : q_Dt) (H : Heap) (locs : List Loc) (ls : Array Slot), Rel k b1 b2 dt1 dt2 → q_W D (q_ca b1 q_S1) dt1 H → q_W D (q_ca b2 q_S2) dt2 H → va_S (fun q => s.heap.size ≤ q) s.heap H locs → lv_has ls 4 [(0, .ref b), (1, .ref b1), (2, .ref b2), (3, .int x3)] → W p l e room_1 s m #[Value.ref b] below meth c H locs cells slots (lw_Z below #[Value.ref b] s) (F0 m 18 ls []) := by
  have hx := Y.1
  have hb := Y.2.1
  have hown := Y.2.2.2.2.2.1
  have hts := Y.2.2.2.2.2.2.1
  have hbA : ¬ (fun q : Nat => s.heap.size ≤ q) b := Nat.not_le.mpr hbl
  have kd1 := kd1_ok b1
  have kd2 := kd2_ok b2
  obtain ⟨f_feed, f_back, f_read, f_place, f_code, f_chip, f_alike, f_worst, f_times, f_depth, f_family, f_sample, f_power, f_wave, f_add, f_noise, f_anew, f_sum, f_metric, f_best, f_second, f_peak, f_alarms, f_plan, f_mean, f_over, f_bit, f_wrong, f_joined, f_frame, f_hurt, f_atOnce, f_taken, f_rest, f_loop, f_follows, f_range, f_near, f_hop, f_hits, f_worstHits, f_crowded, f_jammed, f_strongest, f_hold, f_restore, f_count⟩ := h2
  intro n
  induction n with
  | zero => intro k x3 h1 h2; omega
  | succ n ih =>
    intro k x3 hk0 hn ex dt1 dt2 H locs ls hR hW1 hW2 hS hl
    refine lv_iload_n hx hb dL_law_18 rfl (lv_at hl 3 rfl) ?_
    refine lv_aload_n hx hb dL_law_19 rfl (lv_at hl 0 rfl) ?_
    refine va_slen hx hb hX hbl hbA hS dL_law_20 ?_
    refine lv_bipush (v := 8) hx hb dL_law_21 (by decide) ?_
    refine lv_isub hx hb dL_law_23 ?_
    refine lv_icmp_gt (tgt := 2241) hx hb dL_law_24 (by decide) (fun _ => ?_) (fun cc => ?_)
    · refine lv_iconst (v := 1) hx hb dL_law_2241 (by decide) ?_
      refine va_forget (fun q hq => hS.2.2 q hq) ?_
      refine W.widen (k := 600000) (n := 7302250) hcs.1 hcs.2 ?_
      exact lw_ret hx hb Y.2.2.2.1 hlocks dL_law_2242
    · rw [ex] at cc
      have h8 : 8 * k + 8 ≤ L := q_lc (by omega) hL cc
      have hk : k < 512 := by omega
      have hin : ∀ j, j < 8 → vp_in (x3 + Int32.ofNat j) L := fun j hj => by
        rw [ex, show nI (8 * k) + Int32.ofNat j = nI (8 * k + j) from nI_add _ _]
        exact vp_in_nI (by omega) (by omega)
      have hin0 : vp_in x3 L := by rw [ex]; exact vp_in_nI (by omega) (by omega)
      have next : ∀ (d1 d2 : q_Dt) (H : Heap) (locs : List Loc) (ls : Array Slot), Rel (k + 1) b1 b2 d1 d2 → q_W D (q_ca b1 q_S1) d1 H → q_W D (q_ca b2 q_S2) d2 H → va_S (fun q => s.heap.size ≤ q) s.heap H locs → lv_has ls 4 [(0, .ref b), (1, .ref b1), (2, .ref b2), (3, .int x3)] → W p l e room_1 s m #[Value.ref b] below meth c H locs cells slots (lw_Z below #[Value.ref b] s) (F0 m 2235 ls []) := by
        intro d1 d2 H locs ls hR hW1 hW2 hS hl
        obtain ⟨y3, ey⟩ : ∃ y : Int32, y = x3 + 8 := ⟨_, rfl⟩
        refine lv_iinc (v := y3) (lv' := [(3, .int y3), (0, .ref b), (1, .ref b1), (2, .ref b2)]) hx hb dL_law_2235 hl (k := 3) rfl (by rw [ey]; rfl) (by decide) rfl (fun ls hl => ?_)
        refine lv_goto (tgt := 18) hx hb dL_law_2238 (by decide) ?_
        exact ih (k + 1) y3 (by omega) (by omega) (by rw [ey, ex]; exact nI_add (8 * k) 8) d1 d2 H locs ls hR hW1 hW2 hS (lv_sub hl [1, 2, 3, 0] rfl)
      refine lv_aload_n hx hb dL_law_27 rfl (lv_at hl 0 rfl) ?_
      refine lv_iload_n hx hb dL_law_28 rfl (lv_at hl 3 rfl) ?_
      refine va_sld hx hb hX hbl hbA hS hin0 dL_law_29 ?_
      refine lv_bipush (v := 63) hx hb dL_law_30 (by decide) ?_
      refine lv_iand hx hb dL_law_32 ?_
      refine lv_topi (fun a0 ea => ?_)
      by_cases g0 : a0 = 0
      · refine lv_tableIn (tgt := 236) hx hb dL_law_33 (by rw [g0]; decide) (by rw [g0]; decide) (by rw [g0]; rfl) (by decide) ?_
        exact w_feed Y hX hbl hb1 hb2 hcs f_feed hk hR hin0 hin hW1 hW2 hS hl next
      by_cases g1 : a0 = 1
      · refine lv_tableIn (tgt := 299) hx hb dL_law_33 (by rw [g1]; decide) (by rw [g1]; decide) (by rw [g1]; rfl) (by decide) ?_
        exact w_back Y hX hbl hb1 hb2 hcs f_back hk hR hin0 hin hW1 hW2 hS hl next
      by_cases g2 : a0 = 2
      · refine lv_tableIn (tgt := 322) hx hb dL_law_33 (by rw [g2]; decide) (by rw [g2]; decide) (by rw [g2]; rfl) (by decide) ?_
        exact w_read Y hX hbl hb1 hb2 hcs f_read hk hR hin0 hin hW1 hW2 hS hl next
      by_cases g3 : a0 = 3
      · refine lv_tableIn (tgt := 335) hx hb dL_law_33 (by rw [g3]; decide) (by rw [g3]; decide) (by rw [g3]; rfl) (by decide) ?_
        exact w_place Y hX hbl hb1 hb2 hcs f_place hk hR hin0 hin hW1 hW2 hS hl next
      by_cases g4 : a0 = 4
      · refine lv_tableIn (tgt := 348) hx hb dL_law_33 (by rw [g4]; decide) (by rw [g4]; decide) (by rw [g4]; rfl) (by decide) ?_
        exact w_code Y hX hbl hb1 hb2 hcs f_code hk hR hin0 hin hW1 hW2 hS hl next
      by_cases g5 : a0 = 5
      · refine lv_tableIn (tgt := 381) hx hb dL_law_33 (by rw [g5]; decide) (by rw [g5]; decide) (by rw [g5]; rfl) (by decide) ?_
        exact w_chip Y hX hbl hb1 hb2 hcs f_chip hk hR hin0 hin hW1 hW2 hS hl next
      by_cases g6 : a0 = 6
      · refine lv_tableIn (tgt := 414) hx hb dL_law_33 (by rw [g6]; decide) (by rw [g6]; decide) (by rw [g6]; rfl) (by decide) ?_
        exact w_alike Y hX hbl hb1 hb2 hcs f_alike hk hR hin0 hin hW1 hW2 hS hl next
      by_cases g7 : a0 = 7
      · refine lv_tableIn (tgt := 457) hx hb dL_law_33 (by rw [g7]; decide) (by rw [g7]; decide) (by rw [g7]; rfl) (by decide) ?_
        exact w_worst Y hX hbl hb1 hb2 hcs f_worst hk hR hin0 hin hW1 hW2 hS hl next
      by_cases g8 : a0 = 8
      · refine lv_tableIn (tgt := 490) hx hb dL_law_33 (by rw [g8]; decide) (by rw [g8]; decide) (by rw [g8]; rfl) (by decide) ?_
        exact w_times Y hX hbl hb1 hb2 hcs f_times hk hR hin0 hin hW1 hW2 hS hl next
      by_cases g9 : a0 = 9
      · refine lv_tableIn (tgt := 533) hx hb dL_law_33 (by rw [g9]; decide) (by rw [g9]; decide) (by rw [g9]; rfl) (by decide) ?_
        exact w_depth Y hX hbl hb1 hb2 hcs f_depth hk hR hin0 hin hW1 hW2 hS hl next
      by_cases g10 : a0 = 10
      · refine lv_tableIn (tgt := 556) hx hb dL_law_33 (by rw [g10]; decide) (by rw [g10]; decide) (by rw [g10]; rfl) (by decide) ?_
        exact w_family Y hX hbl hb1 hb2 hcs f_family hk hR hin0 hin hW1 hW2 hS hl next
      by_cases g11 : a0 = 11
      · refine lv_tableIn (tgt := 589) hx hb dL_law_33 (by rw [g11]; decide) (by rw [g11]; decide) (by rw [g11]; rfl) (by decide) ?_
        exact w_sample Y hX hbl hb1 hb2 hcs f_sample hk hR hin0 hin hW1 hW2 hS hl next
      by_cases g12 : a0 = 12
      · refine lv_tableIn (tgt := 638) hx hb dL_law_33 (by rw [g12]; decide) (by rw [g12]; decide) (by rw [g12]; rfl) (by decide) ?_
        exact w_power Y hX hbl hb1 hb2 hcs f_power hk hR hin0 hin hW1 hW2 hS hl next
      by_cases g13 : a0 = 13
      · refine lv_tableIn (tgt := 672) hx hb dL_law_33 (by rw [g13]; decide) (by rw [g13]; decide) (by rw [g13]; rfl) (by decide) ?_
        exact w_wave Y hX hbl hb1 hb2 hcs f_wave hk hR hin0 hin hW1 hW2 hS hl next
      by_cases g14 : a0 = 14
      · refine lv_tableIn (tgt := 731) hx hb dL_law_33 (by rw [g14]; decide) (by rw [g14]; decide) (by rw [g14]; rfl) (by decide) ?_
        exact w_add Y hX hbl hb1 hb2 hcs f_add hk hR hin0 hin hW1 hW2 hS hl next
      by_cases g15 : a0 = 15
      · refine lv_tableIn (tgt := 764) hx hb dL_law_33 (by rw [g15]; decide) (by rw [g15]; decide) (by rw [g15]; rfl) (by decide) ?_
        exact w_noise Y hX hbl hb1 hb2 hcs f_noise hk hR hin0 hin hW1 hW2 hS hl next
      by_cases g16 : a0 = 16
      · refine lv_tableIn (tgt := 797) hx hb dL_law_33 (by rw [g16]; decide) (by rw [g16]; decide) (by rw [g16]; rfl) (by decide) ?_
        exact w_anew Y hX hbl hb1 hb2 hcs f_anew hk hR hin0 hin hW1 hW2 hS hl next
      by_cases g17 : a0 = 17
      · refine lv_tableIn (tgt := 810) hx hb dL_law_33 (by rw [g17]; decide) (by rw [g17]; decide) (by rw [g17]; rfl) (by decide) ?_
        exact w_sum Y hX hbl hb1 hb2 hcs f_sum hk hR hin0 hin hW1 hW2 hS hl next
      by_cases g18 : a0 = 18
      · refine lv_tableIn (tgt := 889) hx hb dL_law_33 (by rw [g18]; decide) (by rw [g18]; decide) (by rw [g18]; rfl) (by decide) ?_
        exact w_metric Y hX hbl hb1 hb2 hcs f_metric hk hR hin0 hin hW1 hW2 hS hl next
      by_cases g19 : a0 = 19
      · refine lv_tableIn (tgt := 943) hx hb dL_law_33 (by rw [g19]; decide) (by rw [g19]; decide) (by rw [g19]; rfl) (by decide) ?_
        exact w_best Y hX hbl hb1 hb2 hcs f_best hk hR hin0 hin hW1 hW2 hS hl next
      by_cases g20 : a0 = 20
      · refine lv_tableIn (tgt := 986) hx hb dL_law_33 (by rw [g20]; decide) (by rw [g20]; decide) (by rw [g20]; rfl) (by decide) ?_
        exact w_second Y hX hbl hb1 hb2 hcs f_second hk hR hin0 hin hW1 hW2 hS hl next
      by_cases g21 : a0 = 21
      · refine lv_tableIn (tgt := 1039) hx hb dL_law_33 (by rw [g21]; decide) (by rw [g21]; decide) (by rw [g21]; rfl) (by decide) ?_
        exact w_peak Y hX hbl hb1 hb2 hcs f_peak hk hR hin0 hin hW1 hW2 hS hl next
      by_cases g22 : a0 = 22
      · refine lv_tableIn (tgt := 1102) hx hb dL_law_33 (by rw [g22]; decide) (by rw [g22]; decide) (by rw [g22]; rfl) (by decide) ?_
        exact w_alarms Y hX hbl hb1 hb2 hcs f_alarms hk hR hin0 hin hW1 hW2 hS hl next
      by_cases g23 : a0 = 23
      · refine lv_tableIn (tgt := 1185) hx hb dL_law_33 (by rw [g23]; decide) (by rw [g23]; decide) (by rw [g23]; rfl) (by decide) ?_
        exact w_plan Y hX hbl hb1 hb2 hcs f_plan hk hR hin0 hin hW1 hW2 hS hl next
      by_cases g24 : a0 = 24
      · refine lv_tableIn (tgt := 1292) hx hb dL_law_33 (by rw [g24]; decide) (by rw [g24]; decide) (by rw [g24]; rfl) (by decide) ?_
        exact w_mean Y hX hbl hb1 hb2 hcs f_mean hk hR hin0 hin hW1 hW2 hS hl next
      by_cases g25 : a0 = 25
      · refine lv_tableIn (tgt := 1384) hx hb dL_law_33 (by rw [g25]; decide) (by rw [g25]; decide) (by rw [g25]; rfl) (by decide) ?_
        exact w_over Y hX hbl hb1 hb2 hcs f_over hk hR hin0 hin hW1 hW2 hS hl next
      by_cases g26 : a0 = 26
      · refine lv_tableIn (tgt := 1448) hx hb dL_law_33 (by rw [g26]; decide) (by rw [g26]; decide) (by rw [g26]; rfl) (by decide) ?_
        exact w_bit Y hX hbl hb1 hb2 hcs f_bit hk hR hin0 hin hW1 hW2 hS hl next
      by_cases g27 : a0 = 27
      · refine lv_tableIn (tgt := 1481) hx hb dL_law_33 (by rw [g27]; decide) (by rw [g27]; decide) (by rw [g27]; rfl) (by decide) ?_
        exact w_wrong Y hX hbl hb1 hb2 hcs f_wrong hk hR hin0 hin hW1 hW2 hS hl next
      by_cases g28 : a0 = 28
      · refine lv_tableIn (tgt := 1504) hx hb dL_law_33 (by rw [g28]; decide) (by rw [g28]; decide) (by rw [g28]; rfl) (by decide) ?_
        exact w_joined Y hX hbl hb1 hb2 hcs f_joined hk hR hin0 hin hW1 hW2 hS hl next
      by_cases g29 : a0 = 29
      · refine lv_tableIn (tgt := 1537) hx hb dL_law_33 (by rw [g29]; decide) (by rw [g29]; decide) (by rw [g29]; rfl) (by decide) ?_
        exact w_frame Y hX hbl hb1 hb2 hcs f_frame hk hR hin0 hin hW1 hW2 hS hl next
      by_cases g30 : a0 = 30
      · refine lv_tableIn (tgt := 1580) hx hb dL_law_33 (by rw [g30]; decide) (by rw [g30]; decide) (by rw [g30]; rfl) (by decide) ?_
        exact w_hurt Y hX hbl hb1 hb2 hcs f_hurt hk hR hin0 hin hW1 hW2 hS hl next
      by_cases g31 : a0 = 31
      · refine lv_tableIn (tgt := 1633) hx hb dL_law_33 (by rw [g31]; decide) (by rw [g31]; decide) (by rw [g31]; rfl) (by decide) ?_
        exact w_atOnce Y hX hbl hb1 hb2 hcs f_atOnce hk hR hin0 hin hW1 hW2 hS hl next
      by_cases g32 : a0 = 32
      · refine lv_tableIn (tgt := 1656) hx hb dL_law_33 (by rw [g32]; decide) (by rw [g32]; decide) (by rw [g32]; rfl) (by decide) ?_
        exact w_taken Y hX hbl hb1 hb2 hcs f_taken hk hR hin0 hin hW1 hW2 hS hl next
      by_cases g33 : a0 = 33
      · refine lv_tableIn (tgt := 1689) hx hb dL_law_33 (by rw [g33]; decide) (by rw [g33]; decide) (by rw [g33]; rfl) (by decide) ?_
        exact w_rest Y hX hbl hb1 hb2 hcs f_rest hk hR hin0 hin hW1 hW2 hS hl next
      by_cases g34 : a0 = 34
      · refine lv_tableIn (tgt := 1713) hx hb dL_law_33 (by rw [g34]; decide) (by rw [g34]; decide) (by rw [g34]; rfl) (by decide) ?_
        exact w_loop Y hX hbl hb1 hb2 hcs f_loop hk hR hin0 hin hW1 hW2 hS hl next
      by_cases g35 : a0 = 35
      · refine lv_tableIn (tgt := 1776) hx hb dL_law_33 (by rw [g35]; decide) (by rw [g35]; decide) (by rw [g35]; rfl) (by decide) ?_
        exact w_follows Y hX hbl hb1 hb2 hcs f_follows hk hR hin0 hin hW1 hW2 hS hl next
      by_cases g36 : a0 = 36
      · refine lv_tableIn (tgt := 1809) hx hb dL_law_33 (by rw [g36]; decide) (by rw [g36]; decide) (by rw [g36]; rfl) (by decide) ?_
        exact w_range Y hX hbl hb1 hb2 hcs f_range hk hR hin0 hin hW1 hW2 hS hl next
      by_cases g37 : a0 = 37
      · refine lv_tableIn (tgt := 1885) hx hb dL_law_33 (by rw [g37]; decide) (by rw [g37]; decide) (by rw [g37]; rfl) (by decide) ?_
        exact w_near Y hX hbl hb1 hb2 hcs f_near hk hR hin0 hin hW1 hW2 hS hl next
      by_cases g38 : a0 = 38
      · refine lv_tableIn (tgt := 1948) hx hb dL_law_33 (by rw [g38]; decide) (by rw [g38]; decide) (by rw [g38]; rfl) (by decide) ?_
        exact w_hop Y hX hbl hb1 hb2 hcs f_hop hk hR hin0 hin hW1 hW2 hS hl next
      by_cases g39 : a0 = 39
      · refine lv_tableIn (tgt := 1981) hx hb dL_law_33 (by rw [g39]; decide) (by rw [g39]; decide) (by rw [g39]; rfl) (by decide) ?_
        exact w_hits Y hX hbl hb1 hb2 hcs f_hits hk hR hin0 hin hW1 hW2 hS hl next
      by_cases g40 : a0 = 40
      · refine lv_tableIn (tgt := 2024) hx hb dL_law_33 (by rw [g40]; decide) (by rw [g40]; decide) (by rw [g40]; rfl) (by decide) ?_
        exact w_worstHits Y hX hbl hb1 hb2 hcs f_worstHits hk hR hin0 hin hW1 hW2 hS hl next
      by_cases g41 : a0 = 41
      · refine lv_tableIn (tgt := 2057) hx hb dL_law_33 (by rw [g41]; decide) (by rw [g41]; decide) (by rw [g41]; rfl) (by decide) ?_
        exact w_crowded Y hX hbl hb1 hb2 hcs f_crowded hk hR hin0 hin hW1 hW2 hS hl next
      by_cases g42 : a0 = 42
      · refine lv_tableIn (tgt := 2100) hx hb dL_law_33 (by rw [g42]; decide) (by rw [g42]; decide) (by rw [g42]; rfl) (by decide) ?_
        exact w_jammed Y hX hbl hb1 hb2 hcs f_jammed hk hR hin0 hin hW1 hW2 hS hl next
      by_cases g43 : a0 = 43
      · refine lv_tableIn (tgt := 2133) hx hb dL_law_33 (by rw [g43]; decide) (by rw [g43]; decide) (by rw [g43]; rfl) (by decide) ?_
        exact w_strongest Y hX hbl hb1 hb2 hcs f_strongest hk hR hin0 hin hW1 hW2 hS hl next
      by_cases g44 : a0 = 44
      · refine lv_tableIn (tgt := 2166) hx hb dL_law_33 (by rw [g44]; decide) (by rw [g44]; decide) (by rw [g44]; rfl) (by decide) ?_
        exact w_hold Y hX hbl hb1 hb2 hcs f_hold hk hR hin0 hin hW1 hW2 hS hl next
      by_cases g45 : a0 = 45
      · refine lv_tableIn (tgt := 2189) hx hb dL_law_33 (by rw [g45]; decide) (by rw [g45]; decide) (by rw [g45]; rfl) (by decide) ?_
        exact w_restore Y hX hbl hb1 hb2 hcs f_restore hk hR hin0 hin hW1 hW2 hS hl next
      by_cases g46 : a0 = 46
      · refine lv_tableIn (tgt := 2212) hx hb dL_law_33 (by rw [g46]; decide) (by rw [g46]; decide) (by rw [g46]; rfl) (by decide) ?_
        exact w_count Y hX hbl hb1 hb2 hcs f_count hk hR hin0 hin hW1 hW2 hS hl next
      have e0 := lv_neT g0 (a := 0) rfl
      have e1 := lv_neT g1 (a := 1) rfl
      have e2 := lv_neT g2 (a := 2) rfl
      have e3 := lv_neT g3 (a := 3) rfl
      have e4 := lv_neT g4 (a := 4) rfl
      have e5 := lv_neT g5 (a := 5) rfl
      have e6 := lv_neT g6 (a := 6) rfl
      have e7 := lv_neT g7 (a := 7) rfl
      have e8 := lv_neT g8 (a := 8) rfl
      have e9 := lv_neT g9 (a := 9) rfl
      have e10 := lv_neT g10 (a := 10) rfl
      have e11 := lv_neT g11 (a := 11) rfl
      have e12 := lv_neT g12 (a := 12) rfl
      have e13 := lv_neT g13 (a := 13) rfl
      have e14 := lv_neT g14 (a := 14) rfl
      have e15 := lv_neT g15 (a := 15) rfl
      have e16 := lv_neT g16 (a := 16) rfl
      have e17 := lv_neT g17 (a := 17) rfl
      have e18 := lv_neT g18 (a := 18) rfl
      have e19 := lv_neT g19 (a := 19) rfl
      have e20 := lv_neT g20 (a := 20) rfl
      have e21 := lv_neT g21 (a := 21) rfl
      have e22 := lv_neT g22 (a := 22) rfl
      have e23 := lv_neT g23 (a := 23) rfl
      have e24 := lv_neT g24 (a := 24) rfl
      have e25 := lv_neT g25 (a := 25) rfl
      have e26 := lv_neT g26 (a := 26) rfl
      have e27 := lv_neT g27 (a := 27) rfl
      have e28 := lv_neT g28 (a := 28) rfl
      have e29 := lv_neT g29 (a := 29) rfl
      have e30 := lv_neT g30 (a := 30) rfl
      have e31 := lv_neT g31 (a := 31) rfl
      have e32 := lv_neT g32 (a := 32) rfl
      have e33 := lv_neT g33 (a := 33) rfl
      have e34 := lv_neT g34 (a := 34) rfl
      have e35 := lv_neT g35 (a := 35) rfl
      have e36 := lv_neT g36 (a := 36) rfl
      have e37 := lv_neT g37 (a := 37) rfl
      have e38 := lv_neT g38 (a := 38) rfl
      have e39 := lv_neT g39 (a := 39) rfl
      have e40 := lv_neT g40 (a := 40) rfl
      have e41 := lv_neT g41 (a := 41) rfl
      have e42 := lv_neT g42 (a := 42) rfl
      have e43 := lv_neT g43 (a := 43) rfl
      have e44 := lv_neT g44 (a := 44) rfl
      have e45 := lv_neT g45 (a := 45) rfl
      have e46 := lv_neT g46 (a := 46) rfl
      refine lv_tableOut (tgt := 2235) hx hb dL_law_33 (by omega) (by decide) ?_
      exact next dt1 dt2 H locs ls (hskip k b1 b2 dt1 dt2 hR) hW1 hW2 hS hl
set_option maxRecDepth 100000 in
theorem whole_start_open {p : Program} {e : Env} {s : State} {m : MethodId} {below : List Frame} {meth : Method} {c : Code} (l : Launch) {b L : Nat} {xs : Nat → Int32} (hL : L ≤ 4096) (C0 : lw_At p s m meth c b L xs) {Rel : Nat → Nat → Nat → q_Dt → q_Dt → Prop} (h2 : q_L2 Rel) (hskip : ∀ k b1 b2 dt1 dt2, Rel k b1 b2 dt1 dt2 → Rel (k + 1) b1 b2 dt1 dt2) (h0 : ∀ b1 b2, Rel 0 b1 b2 (q_cd b1 q_S1) (q_cd b2 q_S2)) : W p l e room_1 s m #[Value.ref b] below meth c s.heap [] 0 0 (lw_Z below #[Value.ref b] s) (entryFrame m ([Value.ref b] : List Value).toArray 4) := by
  obtain ⟨D, hK, hSt⟩ := q_start C0
  obtain ⟨hx, hb, hr, hml, hown, hts, hX, hbl, hlocks, hgv⟩ := C0
  have Y : q_Cy D s.heap.size code 4 ret R_law p s m #[Value.ref b] meth c := ⟨hx, hb, hml, hr, hlocks, hown, fun w hw => hts w (List.mem_filter.mp hw).1, hK, hSt⟩
  have hS : va_S (fun q => s.heap.size ≤ q) s.heap s.heap [] := va_S.rf
  have hl := lv_entry ([.ref b]) (n := 4) (Nat.le_of_ble_eq_true rfl)
  rw [lg_entry_eq]
  generalize (lg_sl ([.ref b]) ++ List.replicate (4 - (lg_sl ([.ref b])).length) Slot.unset).toArray = ls at hl ⊢
  have hl : lv_has ls 4 [(0, .ref b)] := hl
  refine i_newF Y (b := s.heap.size) rfl (Nat.le_refl _) hS (by decide) cl_11 df_11 nl_RL_7 dL_law_0 (Nat.le_of_ble_eq_true rfl) (Nat.le_of_ble_eq_true rfl) (fun H hC1 _ hS => ?_)
  refine lv_dup hx hb dL_law_3 rfl ?_
  refine i_callIF Y (Nat.le_refl _) hC1 hS (As := []) (rest := [.ref s.heap.size]) (iX11_init l D s.heap.size [(11 + 101, 0, [], [], [])] 0 q_N1 q_N1_ok) yl_X11_init vi_X11_init rfl ml_RL_9 rfl ⟨Nat.le_of_ble_eq_true rfl, Nat.le_of_ble_eq_true rfl⟩ hl rfl (Nat.le_of_ble_eq_true rfl) dL_law_4 ⟨Nat.le_of_ble_eq_true rfl, Nat.le_of_ble_eq_true rfl⟩ (fun H locs hC1 _ hS => ?_)
  refine lv_astore_n (i := 1) (lv' := [(1, .ref s.heap.size), (0, .ref b)]) hx hb dL_law_7 rfl hl (by decide) rfl (fun ls hl => ?_)
  obtain ⟨b2, hb2⟩ : ∃ z, z = s.heap.size + 236 := ⟨_, rfl⟩
  have hz : H.size = b2 := by rw [hC1.2.1, q_N1_l, hb2]
  have hle : s.heap.size ≤ b2 := by omega
  refine i_newF Y hz hle hS (by decide) cl_12 df_12 nl_RL_10 dL_law_8 (Nat.le_of_ble_eq_true rfl) (Nat.le_of_ble_eq_true rfl) (fun H1 hC2a ho1 hS => ?_)
  refine lv_dup hx hb dL_law_11 rfl ?_
  refine i_callIF Y hle hC2a hS (As := []) (rest := [.ref b2]) (iX12_init l D b2 [(12 + 101, 0, [], [], [])] 0 q_N2 q_N2_ok) yl_X12_init vi_X12_init rfl ml_RL_12 rfl ⟨Nat.le_of_ble_eq_true rfl, Nat.le_of_ble_eq_true rfl⟩ hl rfl (Nat.le_of_ble_eq_true rfl) dL_law_12 ⟨Nat.le_of_ble_eq_true rfl, Nat.le_of_ble_eq_true rfl⟩ (fun H2 locs hC2 ho2 hS => ?_)
  refine lv_astore_n (i := 2) (lv' := [(2, .ref b2), (1, .ref s.heap.size), (0, .ref b)]) hx hb dL_law_15 rfl hl (by decide) rfl (fun ls hl => ?_)
  refine lv_iconst (v := 0) hx hb dL_law_16 (by decide) ?_
  refine lv_istore_n (i := 3) (lv' := [(3, .int 0), (2, .ref b2), (1, .ref s.heap.size), (0, .ref b)]) hx hb dL_law_17 rfl hl (by decide) rfl (fun ls hl => ?_)
  have hW1 : q_W D (q_ca s.heap.size q_S1) (q_cd s.heap.size q_S1) H2 := by
    have h1 := q_sealW hC1 q_N1_s
    refine ⟨fun x => ?_, h1.2⟩
    by_cases hx0 : (q_ca s.heap.size (q_seal q_N1)).1 x = 0
    · unfold q_at; rw [if_pos (show (q_ca s.heap.size q_S1).1 x = 0 from hx0)]; trivial
    · have h5 := q_A_ca hx0
      have h6 : (q_seal q_N1).length = 236 := by unfold q_seal; rw [List.length_map]; exact q_N1_l
      have h7 : x < b2 := by omega
      refine (h1.1 x).frame rfl rfl rfl rfl rfl rfl ?_
      have h9 : H1.size = b2 + 1 := hC2a.2.1
      rw [ho2 x h7 (by omega), ho1 x (by omega)]
  have hW2 : q_W D (q_ca b2 q_S2) (q_cd b2 q_S2) H2 := q_sealW hC2 q_N2_s
  exact law_loop Y hX hbl (Nat.le_refl _) (by have h6 : q_S1.length = 236 := (by unfold q_S1 q_seal; rw [List.length_map]; exact q_N1_l); omega) ⟨Nat.le_of_ble_eq_true rfl, Nat.le_of_ble_eq_true rfl⟩ hL hlocks h2 hskip 513 0 0 (by decide) rfl rfl _ _ H2 locs ls (h0 _ _) hW1 hW2 hS (lv_sub hl [3, 2, 1, 0] rfl)
