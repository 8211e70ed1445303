/-! level two: place, code, chip, alike, worst, times -/
def q_pair (T : q_Tl) (x y : Int) : Prop := (0 ≤ x ∧ x < Tnc T) ∧ (0 ≤ y ∧ y < Tnc T) ∧ Tlen T x.toNat = Tlen T y.toNat
theorem T_pairNo {b t : Nat} {dt : q_Dt} {T : q_Tl} (h : q_TT b t dt T) {x y : Int} (hx1 : -2147483648 ≤ x) (hx2 : x < 2147483648) (hy1 : -2147483648 ≤ y) (hy2 : y < 2147483648) (hn : ¬ q_pair T x y) : ∃ v1 v2, X10_codeAt (A1 b) dt t (wI x) = some v1 ∧ X10_codeAt (A1 b) dt t (wI y) = some v2 ∧ X11_likeLong (A1 b) dt v1 v2 = some 0 := by
  by_cases h1 : 0 ≤ x ∧ x < Tnc T
  · obtain ⟨c, rfl⟩ := Int.eq_ofNat_of_zero_le h1.1
    by_cases h2 : 0 ≤ y ∧ y < Tnc T
    · obtain ⟨o, rfl⟩ := Int.eq_ofNat_of_zero_le h2.1
      have hc : c < Tnc T := by omega
      have ho : o < Tnc T := by omega
      refine ⟨_, _, T_codeAt h hc, T_codeAt h ho, ?_⟩
      have e1 := (h.2.2.2.1 c hc).1
      have e2 := (h.2.2.2.1 o ho).1
      have e3 := (h.1.2.1 c hc).1
      have e4 := (h.1.2.1 o ho).1
      have e5 : Tlen T c ≠ Tlen T o := fun q => hn ⟨h1, h2, q⟩
      simp (disch := omega) only [X11_likeLong, q_m, e1, e2, wI_eq]
      rw [if_neg (by omega)]
    · refine ⟨_, _, T_codeAt h (show c < Tnc T by omega), T_codeNo h hy1 hy2 h2, rfl⟩
  · by_cases h2 : 0 ≤ y ∧ y < Tnc T
    · obtain ⟨o, rfl⟩ := Int.eq_ofNat_of_zero_le h2.1
      exact ⟨_, _, T_codeNo h hx1 hx2 h1, T_codeAt h (show o < Tnc T by omega), rfl⟩
    · exact ⟨_, _, T_codeNo h hx1 hx2 h1, T_codeNo h hy1 hy2 h2, rfl⟩
theorem T_pairYes {b t : Nat} {dt : q_Dt} {T : q_Tl} (h : q_TT b t dt T) {c o : Nat} (hc : c < Tnc T) (ho : o < Tnc T) (hl : Tlen T c = Tlen T o) : X11_likeLong (A1 b) dt (some (t + 12 + 3 * c)) (some (t + 12 + 3 * o)) = some 1 := by
  simp only [X11_likeLong, q_m, (h.2.2.2.1 c hc).1, (h.2.2.2.1 o ho).1, hl, if_true]
theorem M_pairYes {b sd : Nat} {dt : q_Dt} {T : q_Tl} (h : q_M b sd dt T) {c o : Nat} (hc : c < Tnc T) (ho : o < Tnc T) (hl : Tlen T c = Tlen T o) : X12_arePair (A2 b) dt b (wI c) (wI o) = some 1 := by
  have hn := h.1.1.1
  have e1 := M_isCode h (x := c) (by omega) (by omega)
  have e2 := M_isCode h (x := o) (by omega) (by omega)
  rw [if_pos (by omega)] at e1 e2
  simp only [X12_arePair, e1, e2, q_b1, q_10, if_false, M_long h hc, M_long h ho, hl, if_true]
theorem M_pairNo {b sd : Nat} {dt : q_Dt} {T : q_Tl} (h : q_M b sd dt T) {x y : Int} (hx1 : -2147483648 ≤ x) (hx2 : x < 2147483648) (hy1 : -2147483648 ≤ y) (hy2 : y < 2147483648) (hn : ¬ q_pair T x y) : X12_arePair (A2 b) dt b (wI x) (wI y) = some 0 := by
  have e1 := M_isCode h hx1 hx2
  have e2 := M_isCode h hy1 hy2
  by_cases h1 : 0 ≤ x ∧ x < Tnc T
  · rw [if_pos h1] at e1
    obtain ⟨c, rfl⟩ := Int.eq_ofNat_of_zero_le h1.1
    by_cases h2 : 0 ≤ y ∧ y < Tnc T
    · rw [if_pos h2] at e2
      obtain ⟨o, rfl⟩ := Int.eq_ofNat_of_zero_le h2.1
      have hc : c < Tnc T := by omega
      have ho : o < Tnc T := by omega
      have e3 := (h.1.2.1 c hc).1
      have e4 := (h.1.2.1 o ho).1
      have e5 : Tlen T c ≠ Tlen T o := fun q => hn ⟨h1, h2, q⟩
      simp only [X12_arePair, e1, e2, q_b1, q_10, if_false, M_long h hc, M_long h ho]
      simp (disch := omega) only [wI_eq]
      rw [if_neg (by omega)]
    · rw [if_neg h2] at e2
      simp only [X12_arePair, e1, e2, q_b1, q_10, if_false, q_00, if_true]
  · rw [if_neg h1] at e1
    simp only [X12_arePair, e1, q_b1, q_00, if_true]
theorem R_place : q_c_place q_Rel := by
  intro k b1 b2 dt1 dt2 hk hR
  refine ⟨dt1.1 b1 8, rfl, ?_, R_up hR⟩
  obtain ⟨T, t, sd, g, -, -, -, -, -, -, -, -, -, hp⟩ := hR
  rw [hp]
  rfl
theorem R_code : q_c_code q_Rel := by
  intro k b1 b2 dt1 dt2 a0 a1 hk hR
  obtain ⟨x, rfl, hx1, hx2⟩ := q_arg a0
  obtain ⟨y, rfl, hy1, hy2⟩ := q_arg a1
  have hR' := hR
  obtain ⟨T, t, sd, g, hT, hM, ho, -⟩ := hR'
  have e1 := M_isCode hM hx1 hx2
  show ∃ r, X11_code (A1 b1) dt1 b1 (wI x) (wI y) = some r ∧ X12_code (A2 b2) dt2 b2 (wI x) (wI y) = some r ∧ _
  by_cases hc : 0 ≤ x ∧ x < Tnc T
  · rw [if_pos hc] at e1
    obtain ⟨c, rfl⟩ := Int.eq_ofNat_of_zero_le hc.1
    have hc' : c < Tnc T := by omega
    have hC := hM.1.2.1 c hc'
    have hcd := T_code hT hc'
    have e2 : X11_code (A1 b1) dt1 b1 (wI c) (wI y) = (if wI y = 0 then (some (wI (Tlen T c))) else (if wI y = 1 then (some (wI (q_sum (fun i => if Tch T c i < 0 then 1 else 0) (Tlen T c)))) else (if wI y = 2 then (some (wI (q_find (fun s => q_alk (Tlen T c) (Tch T c) (Tch T c) s = Tlen T c) (Tlen T c - 1) 1 : Nat))) else (if wI y = 3 then (some (wI (q_sum (fun i => if Tch T c i = Tch T c ((i + 1) % Tlen T c) then 0 else 1) (Tlen T c)))) else (some (-1)))))) := by
      simp only [X11_code, q_o, ho.1, q_m, T_codeAt hT hc', q_b1, hcd.2.1, c_minuses hcd, c_own hcd, c_changes hcd]
    rw [e2]
    by_cases hy : 0 ≤ y ∧ y ≤ 3
    · have e3 : X12_code (A2 b2) dt2 b2 (wI c) (wI y) = (if wI y = 0 then (some (wI (Tlen T c))) else (if wI y = 2 then (some (wI (q_find (fun s => q_alk (Tlen T c) (Tch T c) (Tch T c) s = Tlen T c) (Tlen T c - 1) 1 : Nat))) else (X12_code_b48 (A2 b2) dt2 b2 (wI c) (wI y) (wI (Tlen T c)) q_FU 0 0))) := by
        simp only [X12_code, e1, q_b1, q_10, if_false, show (0 : Int32) = wI 0 from rfl, show (3 : Int32) = wI 3 from rfl, M_in1 hy1 hy2 (show -2147483648 ≤ (0 : Int) by omega) (show (0 : Int) < 2147483648 by omega) (show -2147483648 ≤ (3 : Int) by omega) (show (3 : Int) < 2147483648 by omega) hy, M_long hM hc', M_round hM hc']
        rfl
      rw [e3]
      rcases (show y = 0 ∨ y = 1 ∨ y = 2 ∨ y = 3 by omega) with rfl | rfl | rfl | rfl
      · exact ⟨_, rfl, rfl, R_up hR⟩
      · exact ⟨_, rfl, M_code1 hM hc', R_up hR⟩
      · exact ⟨_, rfl, rfl, R_up hR⟩
      · exact ⟨_, rfl, M_code3 hM hc', R_up hR⟩
    · refine ⟨-1, ?_, ?_, R_up hR⟩
      · simp (disch := omega) only [wI_lit, wI_eq]
        rw [if_neg (by omega), if_neg (by omega), if_neg (by omega), if_neg (by omega)]
      · simp only [X12_code, e1, q_b1, q_10, if_false, show (0 : Int32) = wI 0 from rfl, show (3 : Int32) = wI 3 from rfl, M_in0 hy1 hy2 (show -2147483648 ≤ (0 : Int) by omega) (show (0 : Int) < 2147483648 by omega) (show -2147483648 ≤ (3 : Int) by omega) (show (3 : Int) < 2147483648 by omega) hy]
        rfl
  · rw [if_neg hc] at e1
    refine ⟨-1, ?_, ?_, R_up hR⟩
    · simp only [X11_code, q_o, ho.1, q_m, T_codeNo hT hx1 hx2 hc, q_b1]
    · simp only [X12_code, e1, q_b1, q_00, if_true]
theorem R_chip : q_c_chip q_Rel := by
  intro k b1 b2 dt1 dt2 a0 a1 hk hR
  obtain ⟨x, rfl, hx1, hx2⟩ := q_arg a0
  obtain ⟨y, rfl, hy1, hy2⟩ := q_arg a1
  have hR' := hR
  obtain ⟨T, t, sd, g, hT, hM, ho, -⟩ := hR'
  have e1 := M_isCode hM hx1 hx2
  show ∃ r, X11_chip (A1 b1) dt1 b1 (wI x) (wI y) = some r ∧ X12_chip (A2 b2) dt2 b2 (wI x) (wI y) = some r ∧ _
  by_cases hc : 0 ≤ x ∧ x < Tnc T
  · rw [if_pos hc] at e1
    obtain ⟨c, rfl⟩ := Int.eq_ofNat_of_zero_le hc.1
    have hc' : c < Tnc T := by omega
    have hC := (hM.1.2.1 c hc').1
    have hcd := T_code hT hc'
    by_cases hy : 0 ≤ y ∧ y < Tlen T c
    · obtain ⟨i, rfl⟩ := Int.eq_ofNat_of_zero_le hy.1
      refine ⟨wI (Tch T c i), ?_, ?_, R_up hR⟩
      · simp (disch := omega) only [X11_chip, q_o, ho.1, q_m, T_codeAt hT hc', q_b1, hcd.2.1, c_chip hcd (show i < Tlen T c by omega), wI_lit, wI_lt]
        rw [if_neg (by omega), if_pos (by omega)]
      · simp only [X12_chip, e1, q_b1, q_10, if_false, M_long hM hc', wI_lit, wI_sub]
        rw [M_in1 (by omega) (by omega) (by omega) (by omega) (by omega) (by omega) (by omega)]
        simp only [q_b1, M_chip hM hc' (show i < Tlen T c by omega)]
        rfl
    · refine ⟨0, ?_, ?_, R_up hR⟩
      · simp (disch := omega) only [X11_chip, q_o, ho.1, q_m, T_codeAt hT hc', q_b1, hcd.2.1, wI_lit, wI_lt, X11_chip_b25]
        by_cases h0 : y < 0
        · rw [if_pos (by omega)] <;> rfl
        · rw [if_neg (by omega), if_neg (by omega)] <;> rfl
      · simp only [X12_chip, e1, q_b1, q_10, if_false, M_long hM hc', wI_lit, wI_sub]
        rw [M_in0 (by omega) (by omega) (by omega) (by omega) (by omega) (by omega) (by omega)]
        rfl
  · rw [if_neg hc] at e1
    refine ⟨0, ?_, ?_, R_up hR⟩
    · simp only [X11_chip, q_o, ho.1, q_m, T_codeNo hT hx1 hx2 hc, q_b1, X11_chip_b25]
    · simp only [X12_chip, e1, q_b1, q_00, if_true]
theorem R_alike : q_c_alike q_Rel := by
  intro k b1 b2 dt1 dt2 a0 a1 a2 hk hR
  obtain ⟨x, rfl, hx1, hx2⟩ := q_arg a0
  obtain ⟨y, rfl, hy1, hy2⟩ := q_arg a1
  obtain ⟨s, rfl, hs1, hs2⟩ := q_arg a2
  have hR' := hR
  obtain ⟨T, t, sd, g, hT, hM, ho, -⟩ := hR'
  show ∃ r, X11_alike (A1 b1) dt1 b1 (wI x) (wI y) (wI s) = some r ∧ X12_alike (A2 b2) dt2 b2 (wI x) (wI y) (wI s) = some r ∧ _
  by_cases hp : q_pair T x y
  · obtain ⟨⟨hp1, hp2⟩, ⟨hp3, hp4⟩, hp5⟩ := hp
    obtain ⟨c, rfl⟩ := Int.eq_ofNat_of_zero_le hp1
    obtain ⟨o, rfl⟩ := Int.eq_ofNat_of_zero_le hp3
    have hc : c < Tnc T := by omega
    have ho2 : o < Tnc T := by omega
    have hl : Tlen T c = Tlen T o := hp5
    have hC := (hM.1.2.1 c hc).1
    have hcd := T_code hT hc
    have hod := T_code hT ho2
    rw [← hl] at hod
    by_cases hs : 0 ≤ s ∧ s < Tlen T c
    · obtain ⟨i, rfl⟩ := Int.eq_ofNat_of_zero_le hs.1
      have hi : i < Tlen T c := by omega
      refine ⟨wI (q_alk (Tlen T c) (Tch T c) (Tch T o) i), ?_, ?_, R_up hR⟩
      · simp only [X11_alike, q_o, ho.1, q_m, T_codeAt hT hc, T_codeAt hT ho2, q_b1, T_pairYes hT hc ho2 hl, q_10, if_false, hcd.2.1, c_alike hcd hod hi]
        simp (disch := omega) only [wI_lit, wI_lt]
        rw [if_neg (by omega), if_pos (by omega)]
      · simp only [X12_alike, M_pairYes hM hc ho2 hl, q_b1, q_10, if_false, M_long hM hc, wI_lit, wI_sub]
        rw [M_in1 (by omega) (by omega) (by omega) (by omega) (by omega) (by omega) (by omega)]
        simp only [q_b1, M_alike hM hc ho2 hl hi]
        rfl
    · refine ⟨-1000, ?_, ?_, R_up hR⟩
      · simp only [X11_alike, q_o, ho.1, q_m, T_codeAt hT hc, T_codeAt hT ho2, q_b1, T_pairYes hT hc ho2 hl, q_10, if_false, hcd.2.1]
        simp (disch := omega) only [wI_lit, wI_lt]
        by_cases h0 : s < 0
        · rw [if_pos (by omega)] <;> rfl
        · rw [if_neg (by omega), if_neg (by omega)] <;> rfl
      · simp only [X12_alike, M_pairYes hM hc ho2 hl, q_b1, q_10, if_false, M_long hM hc, wI_lit, wI_sub]
        rw [M_in0 (by omega) (by omega) (by omega) (by omega) (by omega) (by omega) (by omega)]
        rfl
  · obtain ⟨v1, v2, g1, g2, g3⟩ := T_pairNo hT hx1 hx2 hy1 hy2 hp
    refine ⟨-1000, ?_, ?_, R_up hR⟩
    · simp only [X11_alike, q_o, ho.1, q_m, g1, g2, g3, q_b1, q_00, if_true]
    · simp only [X12_alike, M_pairNo hM hx1 hx2 hy1 hy2 hp, q_b1, q_00, if_true]
theorem R_worst : q_c_worst q_Rel := by
  intro k b1 b2 dt1 dt2 a0 a1 hk hR
  obtain ⟨x, rfl, hx1, hx2⟩ := q_arg a0
  obtain ⟨y, rfl, hy1, hy2⟩ := q_arg a1
  have hR' := hR
  obtain ⟨T, t, sd, g, hT, hM, ho, -⟩ := hR'
  have hn := hM.1.1.1
  show ∃ r, X11_worst (A1 b1) dt1 b1 (wI x) (wI y) = some r ∧ X12_worst (A2 b2) dt2 b2 (wI x) (wI y) = some r ∧ _
  by_cases hp : q_pair T x y
  · obtain ⟨⟨hp1, hp2⟩, ⟨hp3, hp4⟩, hp5⟩ := hp
    obtain ⟨c, rfl⟩ := Int.eq_ofNat_of_zero_le hp1
    obtain ⟨o, rfl⟩ := Int.eq_ofNat_of_zero_le hp3
    have hc : c < Tnc T := by omega
    have ho2 : o < Tnc T := by omega
    have hl : Tlen T c = Tlen T o := hp5
    have hcd := T_code hT hc
    have hod := T_code hT ho2
    rw [← hl] at hod
    refine ⟨wI (q_wrst (Tlen T c) (Tch T c) (Tch T o) (if c = o then 1 else 0)), ?_, ?_, R_up hR⟩
    · simp only [X11_worst, q_o, ho.1, q_m, T_codeAt hT hc, T_codeAt hT ho2, q_b1, T_pairYes hT hc ho2 hl, q_10, if_false, X11_worst_b41]
      simp (disch := omega) only [wI_eq]
      by_cases h : c = o
      · rw [if_pos (by omega), if_pos h]
        have := c_worst hcd hod (st := 1) (by omega)
        rw [show (1 : Int32) = wI (1 : Nat) from rfl, this]
      · rw [if_neg (by omega), if_neg h]
        have := c_worst hcd hod (st := 0) (by omega)
        rw [show (0 : Int32) = wI (0 : Nat) from rfl, this]
    · simp only [X12_worst, M_pairYes hM hc ho2 hl, q_b1, q_10, if_false, M_worst hM hc ho2 hl]
  · obtain ⟨v1, v2, g1, g2, g3⟩ := T_pairNo hT hx1 hx2 hy1 hy2 hp
    refine ⟨-1, ?_, ?_, R_up hR⟩
    · simp only [X11_worst, q_o, ho.1, q_m, g1, g2, g3, q_b1, q_00, if_true]
    · simp only [X12_worst, M_pairNo hM hx1 hx2 hy1 hy2 hp, q_b1, q_00, if_true]
theorem R_times : q_c_times q_Rel := by
  intro k b1 b2 dt1 dt2 a0 a1 a2 hk hR
  obtain ⟨x, rfl, hx1, hx2⟩ := q_arg a0
  obtain ⟨y, rfl, hy1, hy2⟩ := q_arg a1
  obtain ⟨v, rfl, hv1, hv2⟩ := q_arg a2
  have hR' := hR
  obtain ⟨T, t, sd, g, hT, hM, ho, -⟩ := hR'
  show ∃ r, X11_times (A1 b1) dt1 b1 (wI x) (wI y) (wI v) = some r ∧ X12_times (A2 b2) dt2 b2 (wI x) (wI y) (wI v) = some r ∧ _
  by_cases hp : q_pair T x y
  · obtain ⟨⟨hp1, hp2⟩, ⟨hp3, hp4⟩, hp5⟩ := hp
    obtain ⟨c, rfl⟩ := Int.eq_ofNat_of_zero_le hp1
    obtain ⟨o, rfl⟩ := Int.eq_ofNat_of_zero_le hp3
    have hc : c < Tnc T := by omega
    have ho2 : o < Tnc T := by omega
    have hl : Tlen T c = Tlen T o := hp5
    have hcd := T_code hT hc
    have hod := T_code hT ho2
    rw [← hl] at hod
    refine ⟨wI (q_sum (fun s => if q_alk (Tlen T c) (Tch T c) (Tch T o) s = v then 1 else 0) (Tlen T c)), ?_, ?_, R_up hR⟩
    · simp only [X11_times, q_o, ho.1, q_m, T_codeAt hT hc, T_codeAt hT ho2, q_b1, T_pairYes hT hc ho2 hl, q_10, if_false, c_times hcd hod hv1 hv2]
    · simp only [X12_times, M_pairYes hM hc ho2 hl, q_b1, q_10, if_false, M_timesL hM hc ho2 hl hv1 hv2]
  · obtain ⟨v1, v2, g1, g2, g3⟩ := T_pairNo hT hx1 hx2 hy1 hy2 hp
    refine ⟨-1, ?_, ?_, R_up hR⟩
    · simp only [X11_times, q_o, ho.1, q_m, g1, g2, g3, q_b1, q_00, if_true]
    · simp only [X12_times, M_pairNo hM hx1 hx2 hy1 hy2 hp, q_b1, q_00, if_true]
