/-! level two: best, second, peak, alarms, plan: the calls -/
theorem Mc_mk {b sd c w m : Nat} {dt : q_Dt} {T : q_Tl} {g : Nat → Nat → Int} (hM : q_M b sd dt T) (hg : q_now (b + 39) dt g) (hz : ∀ a i, TN T ≤ i → g a i = 0) (hb : ∀ a i, -3300000 ≤ g a i ∧ g a i ≤ 3300000) (hc : c < Tnc T) (hw : w < 10000) (hm : m ≤ 9) : q_Mc b dt (wI c) (wI w) (wI m) (Tlen T c) (q_mc T g c w m) := by
  refine ⟨(hM.1.2.1 c hc).1, fun i => q_mc_b hM.1 hc hb hm, fun d q1 => M_long (M_e2 hM q1) hc, fun d i q1 hi => ?_⟩
  obtain ⟨d', h1, h2⟩ := M_metric (M_e2 hM q1) (N_e2 hg q1) hz hb hc hi hw (show m < 100 by omega)
  exact ⟨d', h1, q_e2_t q1 h2.1, h2.2⟩
theorem Ms_mk {b tt c w m : Nat} {dt : q_Dt} {T : q_Tl} {g : Nat → Nat → Int} (hT : q_TT b tt dt T) (hg : q_sig (b + 21) (TN T) dt g) (hz : ∀ a i, TN T ≤ i → g a i = 0) (hb : ∀ a i, -3300000 ≤ g a i ∧ g a i ≤ 3300000) (hc : c < Tnc T) (hw : w < 10000) (hm : m ≤ 9) : ∃ d', X6_survey (A1 b) dt (b + 36) (some (tt + 12 + 3 * c)) (b + 21) (wI w) (wI m) = some d' ∧ q_e1 b dt d' ∧ q_Ms b d' (Tlen T c) (q_mc T g c w m) := by
  obtain ⟨d', h1, h2, h3, h4⟩ := T_survey hT hg hz hc hw (show m < 100 by omega)
  exact ⟨d', h1, h2, h3, (hT.1.2.1 c hc).1, h4, fun i => q_mc_b hT.1 hc hb hm⟩
theorem R_best : q_c_best q_Rel := by
  intro k b1 b2 dt1 dt2 a0 a1 a2 hk hR
  obtain ⟨x, rfl, hx1, hx2⟩ := q_arg a0
  obtain ⟨w, rfl, hw1, hw2⟩ := q_arg a1
  obtain ⟨m, rfl, hm1, hm2⟩ := q_arg a2
  have hR' := hR
  obtain ⟨T, tt, sd, g, hT, hM, ho, hs, hn, hg, -⟩ := hR'
  have hb := q_gb_i hg (by omega)
  have hN := hT.1.1
  show ∃ r d1 d2, X11_best (A1 b1) dt1 b1 (wI x) (wI w) (wI m) = some (r, d1) ∧ X12_best (A2 b2) dt2 b2 (wI x) (wI w) (wI m) = some (r, d2) ∧ _
  unfold X11_best X12_best
  by_cases hl : q_look T x w m
  · obtain ⟨hc, hw, hm⟩ := hl
    obtain ⟨c, rfl⟩ := Int.eq_ofNat_of_zero_le hc.1
    obtain ⟨w, rfl⟩ := Int.eq_ofNat_of_zero_le hw.1
    obtain ⟨m, rfl⟩ := Int.eq_ofNat_of_zero_le (show 0 ≤ m by omega)
    have hc' : c < Tnc T := by omega
    have hMc := Mc_mk hM hn hg.2 hb hc' (show w < 10000 by omega) (show m ≤ 9 by omega)
    obtain ⟨d1, p1, p2, p3⟩ := Ms_mk hT hs hg.2 hb hc' (show w < 10000 by omega) (show m ≤ 9 by omega)
    obtain ⟨d2, r1, r2⟩ := M_best hMc
    rw [T_lookY hT ho hc' hw hm, M_lookY hM hc' hw hm, r1]
    simp only [b1s, m1s, q_10, if_false, s0_4, s0_1, p1, T_great p3, b2s]
    exact ⟨_, _, _, rfl, rfl, R_keep hR p2 r2⟩
  · rw [T_lookN hT ho hx1 hx2 hw1 hw2 hm1 hm2 hl, M_lookN hM hx1 hx2 hw1 hw2 hm1 hm2 hl]
    simp only [b1s, m1n, if_true]
    exact ⟨_, _, _, rfl, rfl, R_up hR⟩
theorem R_second : q_c_second q_Rel := by
  intro k b1 b2 dt1 dt2 a0 a1 a2 a3 hk hR
  obtain ⟨x, rfl, hx1, hx2⟩ := q_arg a0
  obtain ⟨w, rfl, hw1, hw2⟩ := q_arg a1
  obtain ⟨m, rfl, hm1, hm2⟩ := q_arg a2
  obtain ⟨gp, rfl, hp1, hp2⟩ := q_arg a3
  have hR' := hR
  obtain ⟨T, tt, sd, g, hT, hM, ho, hs, hn, hg, -⟩ := hR'
  have hb := q_gb_i hg (by omega)
  have hN := hT.1.1
  show ∃ r d1 d2, X11_second (A1 b1) dt1 b1 (wI x) (wI w) (wI m) (wI gp) = some (r, d1) ∧ X12_second (A2 b2) dt2 b2 (wI x) (wI w) (wI m) (wI gp) = some (r, d2) ∧ _
  have n10 : ¬ (1 : Int32) = 0 := by decide
  have z0 : (wI gp < 0) = (gp < 0) := by
    rw [show (0 : Int32) = wI 0 from rfl, wI_lt hp1 hp2 (by omega) (by omega)]
  have z60 : (wI gp ≤ 60) = (gp ≤ 60) := by
    rw [show (60 : Int32) = wI 60 from rfl, wI_le hp1 hp2 (by omega) (by omega)]
  by_cases hl : q_look T x w m
  · obtain ⟨hc, hw, hm⟩ := hl
    obtain ⟨c, rfl⟩ := Int.eq_ofNat_of_zero_le hc.1
    obtain ⟨w, rfl⟩ := Int.eq_ofNat_of_zero_le hw.1
    obtain ⟨m, rfl⟩ := Int.eq_ofNat_of_zero_le (show 0 ≤ m by omega)
    have hc' : c < Tnc T := by omega
    have hC := (hT.1.2.1 c hc').1
    by_cases hgp : 0 ≤ gp ∧ gp ≤ 60
    · have hMc := Mc_mk hM hn hg.2 hb hc' (show w < 10000 by omega) (show m ≤ 9 by omega)
      obtain ⟨d1, p1, p2, p3⟩ := Ms_mk hT hs hg.2 hb hc' (show w < 10000 by omega) (show m ≤ 9 by omega)
      obtain ⟨d2, r1, r2⟩ := M_best hMc
      have hgr := q_gr_le (q_mc T g c w m) (4 * Tlen T c - 1)
      obtain ⟨d3, r3, r4⟩ := M_second hMc (show q_gr (q_mc T g c w m) (4 * Tlen T c - 1) < 4 * Tlen T c by omega) hgp d2 r2
      have eA : X11_second (A1 b1) dt1 b1 (wI c) (wI w) (wI m) (wI gp) = some (wI (q_sc (q_far (Tlen T c) (q_gr (q_mc T g c w m) (4 * Tlen T c - 1)) gp) (q_mc T g c w m) (4 * Tlen T c)), d1) := by
        unfold X11_second
        rw [T_lookY hT ho hc' hw hm]
        simp only [b1s, m1s, z0, z60]
        rw [if_neg (show ¬ gp < 0 by omega), if_pos (show gp ≤ 60 by omega), s0_4, s0_1, p1]
        simp only [b1s]
        rw [T_great p3]
        simp only [b1s]
        rw [T_beside2 p3 (show q_gr (q_mc T g c w m) (4 * Tlen T c - 1) < 4 * Tlen T c by omega) hgp]
        simp only [b1s]
      have eB : X12_second (A2 b2) dt2 b2 (wI c) (wI w) (wI m) (wI gp) = some (wI (q_sc (q_far (Tlen T c) (q_gr (q_mc T g c w m) (4 * Tlen T c - 1)) gp) (q_mc T g c w m) (4 * Tlen T c)), d3) := by
        unfold X12_second
        rw [M_lookY hM hc' hw hm, b1s, if_neg n10, show X12_in (wI gp) 0 60 = some 1 from M_in1 (a := 0) (b := 60) hp1 hp2 (by omega) (by omega) (by omega) (by omega) hgp, b1s, if_neg n10, r1, b2s]
        exact r3
      exact ⟨_, _, _, eA, eB, R_keep hR p2 r4⟩
    · refine ⟨-1, dt1, dt2, ?_, ?_, R_up hR⟩
      · unfold X11_second
        rw [T_lookY hT ho hc' hw hm]
        simp only [b1s, m1s, z0, z60]
        by_cases h0 : gp < 0
        · rw [if_pos h0]
        · rw [if_neg h0, if_neg (show ¬ gp ≤ 60 by omega)]
      · unfold X12_second
        rw [M_lookY hM hc' hw hm, b1s, if_neg n10, show X12_in (wI gp) 0 60 = some 0 from M_in0 (a := 0) (b := 60) hp1 hp2 (by omega) (by omega) (by omega) (by omega) hgp, b1s, if_pos rfl]
  · refine ⟨-1, dt1, dt2, ?_, ?_, R_up hR⟩
    · unfold X11_second
      rw [T_lookN hT ho hx1 hx2 hw1 hw2 hm1 hm2 hl, b1s, m1n]
    · unfold X12_second
      rw [M_lookN hM hx1 hx2 hw1 hw2 hm1 hm2 hl, b1s, if_pos rfl]
theorem R_peak : q_c_peak q_Rel := by
  intro k b1 b2 dt1 dt2 a0 a1 a2 a3 a4 hk hR
  obtain ⟨x, rfl, hx1, hx2⟩ := q_arg a0
  obtain ⟨t, rfl, ht1, ht2⟩ := q_arg a1
  obtain ⟨w, rfl, hw1, hw2⟩ := q_arg a2
  obtain ⟨m, rfl, hm1, hm2⟩ := q_arg a3
  obtain ⟨r, rfl, hr1, hr2⟩ := q_arg a4
  have hR' := hR
  obtain ⟨T, tt, sd, g, hT, hM, ho, hs, hn, hg, -⟩ := hR'
  have hb := q_gb_i hg (by omega)
  have hN := hT.1.1
  show ∃ r' d1 d2, X11_peak (A1 b1) dt1 b1 (wI x) (wI t) (wI w) (wI m) (wI r) = some (r', d1) ∧ X12_peak (A2 b2) dt2 b2 (wI x) (wI t) (wI w) (wI m) (wI r) = some (r', d2) ∧ _
  unfold X11_peak X12_peak
  by_cases hl : q_look T x w m
  · obtain ⟨hc, hw, hm⟩ := hl
    obtain ⟨c, rfl⟩ := Int.eq_ofNat_of_zero_le hc.1
    obtain ⟨w, rfl⟩ := Int.eq_ofNat_of_zero_le hw.1
    obtain ⟨m, rfl⟩ := Int.eq_ofNat_of_zero_le (show 0 ≤ m by omega)
    have hc' : c < Tnc T := by omega
    have hC := (hT.1.2.1 c hc').1
    have ec := T_isCell hT hc' hr1 hr2 ht1 ht2
    rw [T_lookY hT ho hc' hw hm, M_lookY hM hc' hw hm, show X12_in (wI t) 0 3 = some (if 0 ≤ t ∧ t ≤ 3 then 1 else 0) from M_in (a := 0) (b := 3) ht1 ht2 (by omega) (by omega) (by omega) (by omega), M_long hM hc']
    simp only [b1s, q_10, if_false, ec]
    rw [show (1 : Int32) = wI 1 from rfl, wI_sub, show X12_in (wI r) 0 (wI ((Tlen T c : Int) - 1)) = some (if 0 ≤ r ∧ r ≤ (Tlen T c : Int) - 1 then 1 else 0) from M_in (a := 0) hr1 hr2 (by omega) (by omega) (by omega) (by omega), show wI 1 = (1 : Int32) from rfl]
    simp only [b1s]
    by_cases ht : 0 ≤ t ∧ t < 4
    · by_cases hr : 0 ≤ r ∧ r < Tlen T c
      · obtain ⟨t, rfl⟩ := Int.eq_ofNat_of_zero_le ht.1
        obtain ⟨r, rfl⟩ := Int.eq_ofNat_of_zero_le hr.1
        have hMc := Mc_mk hM hn hg.2 hb hc' (show w < 10000 by omega) (show m ≤ 9 by omega)
        obtain ⟨d1, p1, p2, p3⟩ := Ms_mk hT hs hg.2 hb hc' (show w < 10000 by omega) (show m ≤ 9 by omega)
        obtain ⟨d2, r1, r2⟩ := M_peak hMc (show t < 4 by omega) (show r < Tlen T c by omega)
        rw [if_pos (show (0 ≤ (r : Int) ∧ (r : Int) < (Tlen T c : Int)) ∧ 0 ≤ (t : Int) ∧ (t : Int) < 4 from ⟨hr, ht⟩), if_pos (show 0 ≤ (t : Int) ∧ (t : Int) ≤ 3 by omega), if_pos (show 0 ≤ (r : Int) ∧ (r : Int) ≤ (Tlen T c : Int) - 1 by omega)]
        simp only [q_10, if_false, s0_4, s0_1, p1, b1s, T_peak p3 (show t < 4 by omega) (show r < Tlen T c by omega), r1]
        exact ⟨_, _, _, rfl, rfl, R_keep hR p2 r2⟩
      · rw [if_neg (show ¬ ((0 ≤ r ∧ r < (Tlen T c : Int)) ∧ 0 ≤ t ∧ t < 4) from fun q => hr q.1), if_pos (show 0 ≤ t ∧ t ≤ 3 by omega), if_neg (show ¬ (0 ≤ r ∧ r ≤ (Tlen T c : Int) - 1) by omega)]
        simp only [q_10, if_false, q_00, if_true]
        exact ⟨_, _, _, rfl, rfl, R_up hR⟩
    · rw [if_neg (show ¬ ((0 ≤ r ∧ r < (Tlen T c : Int)) ∧ 0 ≤ t ∧ t < 4) from fun q => ht q.2), if_neg (show ¬ (0 ≤ t ∧ t ≤ 3) by omega)]
      simp only [q_00, if_true]
      exact ⟨_, _, _, rfl, rfl, R_up hR⟩
  · rw [T_lookN hT ho hx1 hx2 hw1 hw2 hm1 hm2 hl, M_lookN hM hx1 hx2 hw1 hw2 hm1 hm2 hl]
    simp only [b1s, if_true, show X11_isCell (A1 b1) dt1 none (wI r) (wI t) = some 0 from rfl]
    exact ⟨_, _, _, rfl, rfl, R_up hR⟩
theorem R_alarms : q_c_alarms q_Rel := by
  intro k b1 b2 dt1 dt2 a0 a1 a2 a3 hk hR
  obtain ⟨x, rfl, hx1, hx2⟩ := q_arg a0
  obtain ⟨w, rfl, hw1, hw2⟩ := q_arg a1
  obtain ⟨m, rfl, hm1, hm2⟩ := q_arg a2
  obtain ⟨th, rfl, hth1, hth2⟩ := q_argJ a3
  have hR' := hR
  obtain ⟨T, tt, sd, g, hT, hM, ho, hs, hn, hg, -⟩ := hR'
  have hb := q_gb_i hg (by omega)
  have hN := hT.1.1
  show ∃ r d1 d2, X11_alarms (A1 b1) dt1 b1 (wI x) (wI w) (wI m) (wJ th) = some (r, d1) ∧ X12_alarms (A2 b2) dt2 b2 (wI x) (wI w) (wI m) (wJ th) = some (r, d2) ∧ _
  unfold X11_alarms X12_alarms
  by_cases hl : q_look T x w m
  · obtain ⟨hc, hw, hm⟩ := hl
    obtain ⟨c, rfl⟩ := Int.eq_ofNat_of_zero_le hc.1
    obtain ⟨w, rfl⟩ := Int.eq_ofNat_of_zero_le hw.1
    obtain ⟨m, rfl⟩ := Int.eq_ofNat_of_zero_le (show 0 ≤ m by omega)
    have hc' : c < Tnc T := by omega
    have hMc := Mc_mk hM hn hg.2 hb hc' (show w < 10000 by omega) (show m ≤ 9 by omega)
    obtain ⟨d1, p1, p2, p3⟩ := Ms_mk hT hs hg.2 hb hc' (show w < 10000 by omega) (show m ≤ 9 by omega)
    obtain ⟨d2, r1, r2⟩ := M_alarms hMc hth1 hth2
    rw [T_lookY hT ho hc' hw hm, M_lookY hM hc' hw hm]
    simp only [b1s, m1s, q_10, if_false, s0_4, s0_1, p1, T_alarms p3 hth1 hth2, r1]
    exact ⟨_, _, _, rfl, rfl, R_keep hR p2 r2⟩
  · rw [T_lookN hT ho hx1 hx2 hw1 hw2 hm1 hm2 hl, M_lookN hM hx1 hx2 hw1 hw2 hm1 hm2 hl]
    simp only [b1s, m1n, if_true]
    exact ⟨_, _, _, rfl, rfl, R_up hR⟩
theorem R_plan : q_c_plan q_Rel := by
  intro k b1 b2 dt1 dt2 a0 a1 a2 a3 a4 a5 hk hR
  obtain ⟨x, rfl, hx1, hx2⟩ := q_arg a0
  obtain ⟨w, rfl, hw1, hw2⟩ := q_arg a1
  obtain ⟨m, rfl, hm1, hm2⟩ := q_arg a2
  obtain ⟨y, rfl, hy1, hy2⟩ := q_arg a3
  obtain ⟨s, rfl, hs1, hs2⟩ := q_arg a4
  obtain ⟨th, rfl, hth1, hth2⟩ := q_argJ a5
  have hR' := hR
  obtain ⟨T, tt, sd, g, hT, hM, ho, hs, hn, hg, -⟩ := hR'
  have hb := q_gb_i hg (by omega)
  have hN := hT.1.1
  show ∃ r d1 d2, X11_plan (A1 b1) dt1 b1 (wI x) (wI w) (wI m) (wI y) (wI s) (wJ th) = some (r, d1) ∧ X12_plan (A2 b2) dt2 b2 (wI x) (wI w) (wI m) (wI y) (wI s) (wJ th) = some (r, d2) ∧ _
  unfold X11_plan X12_plan X0_cells
  by_cases hl : q_look T x w m
  · obtain ⟨hc, hw, hm⟩ := hl
    obtain ⟨c, rfl⟩ := Int.eq_ofNat_of_zero_le hc.1
    obtain ⟨w, rfl⟩ := Int.eq_ofNat_of_zero_le hw.1
    obtain ⟨m, rfl⟩ := Int.eq_ofNat_of_zero_le (show 0 ≤ m by omega)
    have hc' : c < Tnc T := by omega
    have hC := (hT.1.2.1 c hc').1
    have hcd := T_code hT hc'
    rw [T_lookY hT ho hc' hw hm, M_lookY hM hc' hw hm, M_cell hM hc' hy1 hy2, M_long hM hc']
    simp only [b1s, m1s, q_10, if_false, hcd.2.1]
    rw [show (4 : Int32) = wI 4 from rfl, wI_mul, show X12_in (wI s) 1 (wI (4 * (Tlen T c : Int))) = some (if 1 ≤ s ∧ s ≤ 4 * (Tlen T c : Int) then 1 else 0) from M_in (a := 1) hs1 hs2 (by omega) (by omega) (by omega) (by omega)]
    simp only [b1s]
    have z0 : (wI y < 0) = (y < 0) := by
      rw [show (0 : Int32) = wI 0 from rfl, wI_lt hy1 hy2 (by omega) (by omega)]
    have z1 : (wI s < 1) = (s < 1) := by
      rw [show (1 : Int32) = wI 1 from rfl, wI_lt hs1 hs2 (by omega) (by omega)]
    simp (disch := omega) only [z0, z1, wI_le]
    by_cases hy : 0 ≤ y ∧ y < 4 * (Tlen T c : Int)
    · rw [if_pos hy]
      by_cases hst : 1 ≤ s ∧ s ≤ 4 * (Tlen T c : Int)
      · obtain ⟨y, rfl⟩ := Int.eq_ofNat_of_zero_le hy.1
        obtain ⟨s, rfl⟩ := Int.eq_ofNat_of_zero_le (show 0 ≤ s by omega)
        have hMc := Mc_mk hM hn hg.2 hb hc' (show w < 10000 by omega) (show m ≤ 9 by omega)
        obtain ⟨d1, p1, p2, p3⟩ := Ms_mk hT hs hg.2 hb hc' (show w < 10000 by omega) (show m ≤ 9 by omega)
        obtain ⟨d2, r1, r2⟩ := M_plan hMc hth1 hth2 (show y < 4 * Tlen T c by omega) (show s ≤ 4 * Tlen T c by omega)
        rw [if_pos hst, if_neg (show ¬ (y : Int) < 0 by omega), if_neg (show ¬ 4 * (Tlen T c : Int) ≤ (y : Int) by omega), if_neg (show ¬ (s : Int) < 1 by omega), if_pos (show (s : Int) ≤ 4 * (Tlen T c : Int) by omega)]
        simp only [q_10, if_false, s0_4, s0_1, p1, b1s, T_plan p3 hth1 hth2 (show y < 4 * Tlen T c by omega) (show s ≤ 4 * Tlen T c by omega), r1]
        exact ⟨_, _, _, rfl, rfl, R_keep hR p2 r2⟩
      · rw [if_neg hst, if_neg (show ¬ y < 0 by omega), if_neg (show ¬ 4 * (Tlen T c : Int) ≤ y by omega)]
        simp only [q_10, if_false, q_00, if_true]
        by_cases h1 : s < 1
        · rw [if_pos h1]
          exact ⟨_, _, _, rfl, rfl, R_up hR⟩
        · rw [if_neg h1, if_neg (show ¬ s ≤ 4 * (Tlen T c : Int) by omega)]
          exact ⟨_, _, _, rfl, rfl, R_up hR⟩
    · rw [if_neg hy]
      simp only [q_00, if_true]
      by_cases h0 : y < 0
      · rw [if_pos h0]
        exact ⟨_, _, _, rfl, rfl, R_up hR⟩
      · rw [if_neg h0, if_pos (show 4 * (Tlen T c : Int) ≤ y by omega)]
        exact ⟨_, _, _, rfl, rfl, R_up hR⟩
  · rw [T_lookN hT ho hx1 hx2 hw1 hw2 hm1 hm2 hl, M_lookN hM hx1 hx2 hw1 hw2 hm1 hm2 hl]
    simp only [b1s, m1n, if_true]
    exact ⟨_, _, _, rfl, rfl, R_up hR⟩
