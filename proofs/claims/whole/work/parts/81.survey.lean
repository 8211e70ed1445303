/-! level two: sum, metric, the survey -/
def q_look (T : q_Tl) (x w m : Int) : Prop := (0 ≤ x ∧ x < Tnc T) ∧ (0 ≤ w ∧ w < TN T) ∧ 1 ≤ m ∧ m ≤ 9
theorem T_lookY {b t c : Nat} {dt : q_Dt} {T : q_Tl} (hT : q_TT b t dt T) (ho : q_own b t dt) (hc : c < Tnc T) {w m : Int} (hw : 0 ≤ w ∧ w < TN T) (hm : 1 ≤ m ∧ m ≤ 9) : X11_searched (A1 b) dt b (wI c) (wI w) (wI m) = some (some (t + 12 + 3 * c)) := by
  have hN := hT.1.1
  have e1 := T_isSample hT ho (x := w) (by omega) (by omega)
  rw [if_pos hw] at e1
  unfold X11_searched
  rw [show (9 : Int32) = wI 9 from rfl]
  simp only [e1, b1s, q_10, if_false, o1s, ho.1, m1s, T_codeAt hT hc]
  rw [show (1 : Int32) = wI 1 from rfl]
  simp (disch := omega) only [wI_lt]
  rw [if_neg (by omega), if_neg (by omega)]
theorem T_lookN {b t : Nat} {dt : q_Dt} {T : q_Tl} (hT : q_TT b t dt T) (ho : q_own b t dt) {x w m : Int} (hx1 : -2147483648 ≤ x) (hx2 : x < 2147483648) (hw1 : -2147483648 ≤ w) (hw2 : w < 2147483648) (hm1 : -2147483648 ≤ m) (hm2 : m < 2147483648) (hn : ¬ q_look T x w m) : X11_searched (A1 b) dt b (wI x) (wI w) (wI m) = some none := by
  have e1 := T_isSample hT ho hw1 hw2
  unfold X11_searched
  rw [show (9 : Int32) = wI 9 from rfl]
  by_cases hw : 0 ≤ w ∧ w < TN T
  · rw [if_pos hw] at e1
    simp only [e1, b1s, q_10, if_false, o1s, ho.1, m1s]
    rw [show (1 : Int32) = wI 1 from rfl]
    simp (disch := omega) only [wI_lt]
    by_cases h2 : m < 1
    · rw [if_pos h2]
    · rw [if_neg h2]
      by_cases h3 : 9 < m
      · rw [if_pos h3]
      · rw [if_neg h3, T_codeNo hT hx1 hx2 (fun q => hn ⟨q, hw, by omega, by omega⟩)]
        rfl
  · rw [if_neg hw] at e1
    simp only [e1, b1s, q_00, if_true]
theorem M_lookY {b sd c : Nat} {dt : q_Dt} {T : q_Tl} (hM : q_M b sd dt T) (hc : c < Tnc T) {w m : Int} (hw : 0 ≤ w ∧ w < TN T) (hm : 1 ≤ m ∧ m ≤ 9) : X12_canLook (A2 b) dt b (wI c) (wI w) (wI m) = some 1 := by
  have hN := hM.1.1
  have e1 := M_isCode hM (x := c) (by omega) (by omega)
  rw [if_pos (by omega)] at e1
  have e2 := M_isSample hM (x := w) (by omega) (by omega)
  rw [if_pos hw] at e2
  unfold X12_canLook
  rw [show X12_in (wI m) 1 9 = some 1 from M_in1 (by omega) (by omega) (by omega) (by omega) (by omega) (by omega) hm]
  simp only [e1, e2, b1s, q_10, if_false]
theorem M_lookN {b sd : Nat} {dt : q_Dt} {T : q_Tl} (hM : q_M b sd dt T) {x w m : Int} (hx1 : -2147483648 ≤ x) (hx2 : x < 2147483648) (hw1 : -2147483648 ≤ w) (hw2 : w < 2147483648) (hm1 : -2147483648 ≤ m) (hm2 : m < 2147483648) (hn : ¬ q_look T x w m) : X12_canLook (A2 b) dt b (wI x) (wI w) (wI m) = some 0 := by
  have e1 := M_isCode hM hx1 hx2
  have e2 := M_isSample hM hw1 hw2
  unfold X12_canLook
  by_cases h1 : 0 ≤ x ∧ x < Tnc T
  · rw [if_pos h1] at e1
    by_cases h2 : 0 ≤ w ∧ w < TN T
    · rw [if_pos h2] at e2
      rw [show X12_in (wI m) 1 9 = some 0 from M_in0 (a := 1) (b := 9) hm1 hm2 (by omega) (by omega) (by omega) (by omega) (fun q => hn ⟨h1, h2, q⟩)]
      simp only [e1, e2, b1s, q_10, if_false, q_00, if_true]
    · rw [if_neg h2] at e2
      simp only [e1, e2, b1s, q_10, if_false, q_00, if_true]
  · rw [if_neg h1] at e1
    simp only [e1, b1s, q_00, if_true]
theorem M_cell {b sd c : Nat} {dt : q_Dt} {T : q_Tl} (hM : q_M b sd dt T) (hc : c < Tnc T) {y : Int} (hy1 : -2147483648 ≤ y) (hy2 : y < 2147483648) : X12_isCell (A2 b) dt b (wI c) (wI y) = some (if 0 ≤ y ∧ y < 4 * (Tlen T c : Int) then 1 else 0) := by
  have hC := (hM.1.2.1 c hc).1
  unfold X12_isCell
  rw [M_long hM hc]
  simp only [b1s]
  rw [show (4 : Int32) = wI 4 from rfl, wI_mul, show (1 : Int32) = wI 1 from rfl, wI_sub, show (0 : Int32) = wI 0 from rfl]
  by_cases h : 0 ≤ y ∧ y < 4 * (Tlen T c : Int)
  · rw [if_pos h, M_in1 hy1 hy2 (by omega) (by omega) (by omega) (by omega) (by omega)]
    rfl
  · rw [if_neg h, M_in0 hy1 hy2 (by omega) (by omega) (by omega) (by omega) (by omega)]
    rfl
theorem R_sum : q_c_sum q_Rel := by
  intro k b1 b2 dt1 dt2 a0 a1 a2 a3 a4 ha hk hR
  obtain ⟨x, rfl, hx1, hx2⟩ := q_arg a0
  obtain ⟨d, rfl, hd1, hd2⟩ := q_arg a1
  obtain ⟨t, rfl, ht1, ht2⟩ := q_arg a2
  obtain ⟨w, rfl, hw1, hw2⟩ := q_arg a3
  have hR' := hR
  obtain ⟨T, tt, sd, g, hT, hM, ho, hs, hn, hg, -⟩ := hR'
  obtain ⟨a, ha2, rfl, hax⟩ := m_axis ha
  have hN := hT.1.1
  have e1 := M_isCode hM hx1 hx2
  have f1 := T_isSample hT ho hw1 hw2
  have f2 := M_isSample hM hw1 hw2
  show ∃ r d1 d2, X11_sum (A1 b1) dt1 b1 (wI x) (wI d) (wI t) (wI w) (wI a) = some (r, d1) ∧ X12_sum (A2 b2) dt2 b2 (wI x) (wI d) (wI t) (wI w) (wI a) = some (r, d2) ∧ _
  unfold X11_sum X12_sum X12_sum_b41
  by_cases hc : 0 ≤ x ∧ x < Tnc T
  · rw [if_pos hc] at e1
    obtain ⟨c, rfl⟩ := Int.eq_ofNat_of_zero_le hc.1
    have hc' : c < Tnc T := by omega
    have hC := (hM.1.2.1 c hc').1
    have ec := T_isCell hT hc' hd1 hd2 ht1 ht2
    simp only [o1s, ho.1, m1s, T_codeAt hT hc', b1s, ec, e1, q_10, if_false, M_long hM hc', s0_4, s0_1]
    rw [show (1 : Int32) = wI 1 from rfl, wI_sub, show X12_in (wI d) 0 (wI ((Tlen T c : Int) - 1)) = some (if 0 ≤ d ∧ d ≤ (Tlen T c : Int) - 1 then 1 else 0) from M_in (a := 0) hd1 hd2 (by omega) (by omega) (by omega) (by omega), show X12_in (wI t) 0 3 = some (if 0 ≤ t ∧ t ≤ 3 then 1 else 0) from M_in (a := 0) (b := 3) ht1 ht2 (by omega) (by omega) (by omega) (by omega)]
    by_cases hd : 0 ≤ d ∧ d < Tlen T c
    · by_cases ht : 0 ≤ t ∧ t < 4
      · rw [if_pos (show (0 ≤ d ∧ d < (Tlen T c : Int)) ∧ 0 ≤ t ∧ t < 4 from ⟨hd, ht⟩), if_pos (show 0 ≤ d ∧ d ≤ (Tlen T c : Int) - 1 by omega), if_pos (show 0 ≤ t ∧ t ≤ 3 by omega)]
        simp only [b1s]
        rw [if_neg (show ¬ wI 1 = 0 by decide), if_neg (show ¬ (1 : Int32) = 0 by decide), if_neg (show ¬ (1 : Int32) = 0 by decide)]
        by_cases hw : 0 ≤ w ∧ w < TN T
        · rw [if_pos hw] at f1 f2
          obtain ⟨d, rfl⟩ := Int.eq_ofNat_of_zero_le hd.1
          obtain ⟨t, rfl⟩ := Int.eq_ofNat_of_zero_le ht.1
          obtain ⟨w, rfl⟩ := Int.eq_ofNat_of_zero_le hw.1
          obtain ⟨p1, p2, p3⟩ := T_sumOf hT hs hg.2 hc' (show d < Tlen T c by omega) (show t < 4 by omega) (show w < 100000 by omega) ha2
          obtain ⟨r1, r2, r3, r4, r5⟩ := M_sums hM hn hg.2 hc' (show d < Tlen T c by omega) (show t < 4 by omega) (show w < 100000 by omega)
          rw [f1, f2]
          simp only [b1s, hax, p2, b2s, r2, wJ_wI]
          rw [if_neg (show ¬ (1 : Int32) = 0 by decide), if_neg (show ¬ (1 : Int32) = 0 by decide)]
          rcases (show a = 0 ∨ a = 1 by omega) with rfl | rfl
          · rw [if_pos (show wI ((0 : Nat) : Int) = 0 from rfl), r3]
            exact ⟨_, _, _, rfl, rfl, R_keep hR p3 r5.1⟩
          · rw [if_neg (show ¬ wI ((1 : Nat) : Int) = 0 by decide), r4]
            exact ⟨_, _, _, rfl, rfl, R_keep hR p3 r5.1⟩
        · rw [if_neg hw] at f1 f2
          rw [f1, f2]
          simp only [b1s, if_true]
          exact ⟨_, _, _, rfl, rfl, R_up hR⟩
      · rw [if_neg (show ¬ ((0 ≤ d ∧ d < (Tlen T c : Int)) ∧ 0 ≤ t ∧ t < 4) from fun q => ht q.2), if_pos (show 0 ≤ d ∧ d ≤ (Tlen T c : Int) - 1 by omega), if_neg (show ¬ (0 ≤ t ∧ t ≤ 3) by omega)]
        simp only [b1s, if_true, q_10, if_false]
        exact ⟨_, _, _, rfl, rfl, R_up hR⟩
    · rw [if_neg (show ¬ ((0 ≤ d ∧ d < (Tlen T c : Int)) ∧ 0 ≤ t ∧ t < 4) from fun q => hd q.1), if_neg (show ¬ (0 ≤ d ∧ d ≤ (Tlen T c : Int) - 1) by omega)]
      simp only [b1s, if_true]
      exact ⟨_, _, _, rfl, rfl, R_up hR⟩
  · rw [if_neg hc] at e1
    simp only [o1s, ho.1, m1s, T_codeNo hT hx1 hx2 hc, b1s, e1, show X11_isCell (A1 b1) dt1 none (wI d) (wI t) = some 0 from rfl, if_true]
    exact ⟨_, _, _, rfl, rfl, R_up hR⟩
theorem R_metric : q_c_metric q_Rel := by
  intro k b1 b2 dt1 dt2 a0 a1 a2 a3 hk hR
  obtain ⟨x, rfl, hx1, hx2⟩ := q_arg a0
  obtain ⟨y, rfl, hy1, hy2⟩ := q_arg a1
  obtain ⟨w, rfl, hw1, hw2⟩ := q_arg a2
  obtain ⟨m, rfl, hm1, hm2⟩ := q_arg a3
  have hR' := hR
  obtain ⟨T, tt, sd, g, hT, hM, ho, hs, hn, hg, -⟩ := hR'
  have hb := q_gb_i hg (by omega)
  have hN := hT.1.1
  show ∃ r d1 d2, X11_metric (A1 b1) dt1 b1 (wI x) (wI y) (wI w) (wI m) = some (r, d1) ∧ X12_metric (A2 b2) dt2 b2 (wI x) (wI y) (wI w) (wI m) = some (r, d2) ∧ _
  unfold X11_metric X12_metric X11_metric_b28 X12_metric_b32
  by_cases hl : q_look T x w m
  · obtain ⟨hc, hw, hm⟩ := hl
    obtain ⟨c, rfl⟩ := Int.eq_ofNat_of_zero_le hc.1
    have hc' : c < Tnc T := by omega
    have hC := (hM.1.2.1 c hc').1
    have hcd := T_code hT hc'
    rw [T_lookY hT ho hc' hw hm, M_lookY hM hc' hw hm]
    simp only [b1s, m1s, q_10, if_false, M_cell hM hc' hy1 hy2, s0_4, s0_1]
    unfold X0_cells
    rw [hcd.2.1, show (4 : Int32) = wI 4 from rfl, wI_mul]
    simp only [b1s]
    by_cases hy : 0 ≤ y ∧ y < 4 * (Tlen T c : Int)
    · rw [if_pos hy]
      obtain ⟨y, rfl⟩ := Int.eq_ofNat_of_zero_le hy.1
      obtain ⟨w, rfl⟩ := Int.eq_ofNat_of_zero_le hw.1
      obtain ⟨m, rfl⟩ := Int.eq_ofNat_of_zero_le (show 0 ≤ m by omega)
      obtain ⟨d1, p1, p2⟩ := T_metric hT hs hg.2 hc' (show y < 4 * Tlen T c by omega) (show w < 10000 by omega) (show m < 100 by omega)
      obtain ⟨d2, r1, r2⟩ := M_metric hM hn hg.2 hb hc' (show y < 4 * Tlen T c by omega) (show w < 10000 by omega) (show m < 100 by omega)
      rw [p1, r1, if_neg (show ¬ (1 : Int32) = 0 by decide), show (0 : Int32) = wI 0 from rfl]
      simp (disch := omega) only [wI_lt, b2s]
      rw [if_neg (show ¬ (y : Int) < 0 by omega), if_pos (show (y : Int) < 4 * (Tlen T c : Int) by omega)]
      exact ⟨_, _, _, rfl, rfl, R_keep hR p2 r2.1⟩
    · rw [if_neg hy, show (0 : Int32) = wI 0 from rfl]
      simp (disch := omega) only [wI_lt, if_true]
      by_cases h0 : y < 0
      · rw [if_pos h0]
        exact ⟨_, _, _, rfl, rfl, R_up hR⟩
      · rw [if_neg h0, if_neg (show ¬ y < 4 * (Tlen T c : Int) by omega)]
        exact ⟨_, _, _, rfl, rfl, R_up hR⟩
  · rw [T_lookN hT ho hx1 hx2 hw1 hw2 hm1 hm2 hl, M_lookN hM hx1 hx2 hw1 hw2 hm1 hm2 hl]
    simp only [b1s, m1n, if_true]
    exact ⟨_, _, _, rfl, rfl, R_up hR⟩
theorem q_sq2_z {T : q_Tl} {g : Nat → Nat → Int} {c d t w : Nat} (hz : ∀ a i, TN T ≤ i → g a i = 0) (hw : TN T ≤ w) : q_sq2 T g c d t w = 0 := by
  have h : ∀ a, q_cs T g c d t w a = 0 := fun a => by
    unfold q_cs
    refine q_sum_cut (m := 0) (by omega) (fun i _ _ => ?_)
    show q_tn g t (w + i) a * Tch T c ((i + Tlen T c - d) % Tlen T c) = 0
    rw [q_tn_z (fun a => hz a _ (by omega)), Int.zero_mul]
  unfold q_sq2
  rw [h, h]
  rfl
/-- the METRICS as far as they are laid: tones below `t` whole, of `t` the periods below `j`, of `j` the delays below `d` -/
def q_pm (T : q_Tl) (g : Nat → Nat → Int) (c w m t j d cell : Nat) : Int := if cell % 4 < t then q_mc T g c w m cell else if cell % 4 = t then q_sum (fun j => q_sq2 T g c (cell / 4) (cell % 4) (w + j * Tlen T c)) (if cell / 4 < d then j + 1 else j) else 0
theorem T_survey {b tt c w m : Nat} {dt : q_Dt} {T : q_Tl} {g : Nat → Nat → Int} (hT : q_TT b tt dt T) (hg : q_sig (b + 21) (TN T) dt g) (hz : ∀ a i, TN T ≤ i → g a i = 0) (hc : c < Tnc T) (hw : w < 10000) (hm : m < 100) : ∃ d', X6_survey (A1 b) dt (b + 36) (some (tt + 12 + 3 * c)) (b + 21) (wI w) (wI m) = some d' ∧ q_e1 b dt d' ∧ d'.1 (b + 36) 3 = wI (Tlen T c) ∧ ∀ cell, cell < 4 * Tlen T c → d'.2.1 (b + 42) cell = wJ (q_mc T g c w m cell) := by
  have hC := hT.1.2.1 c hc
  have hN := hT.1.1
  have hD : ∀ (t j : Nat), t < 4 → ∀ (k18 k27 : Int32 → q_Dt → Option q_Dt) d, q_e1 b dt d → d.1 (b + 36) 3 = wI (Tlen T c) → (∀ k, k < Tlen T c → d.2.1 (b + 38) k = wJ (q_tn g t (w + j * Tlen T c + k) 0)) → (∀ k, k < Tlen T c → d.2.1 (b + 40) k = wJ (q_tn g t (w + j * Tlen T c + k) 1)) → (∀ cell, cell < 4 * Tlen T c → d.2.1 (b + 42) cell = wJ (q_pm T g c w m t j 0 cell)) → ∃ d', X6_survey_b73 (A1 b) k18 k27 (b + 36) (tt + 12 + 3 * c) (b + 21) (wI w) (wI m) (wI t) (wI j) q_FU (wI (0 : Nat)) d = k27 (wI (j + 1 : Nat)) d' ∧ q_e1 b dt d' ∧ d'.1 (b + 36) 3 = wI (Tlen T c) ∧ ∀ cell, cell < 4 * Tlen T c → d'.2.1 (b + 42) cell = wJ (q_pm T g c w m t (j + 1) 0 cell) := by
    intro t j ht k18 k27 d q1 q2 q3 q4 q5
    have hl : ∀ n i k : Nat, i + n = Tlen T c → n < k → ∀ d, q_e1 b dt d → d.1 (b + 36) 3 = wI (Tlen T c) → (∀ k, k < Tlen T c → d.2.1 (b + 38) k = wJ (q_tn g t (w + j * Tlen T c + k) 0)) → (∀ k, k < Tlen T c → d.2.1 (b + 40) k = wJ (q_tn g t (w + j * Tlen T c + k) 1)) → (∀ cell, cell < 4 * Tlen T c → d.2.1 (b + 42) cell = wJ (q_pm T g c w m t j i cell)) → ∃ d', X6_survey_b73 (A1 b) k18 k27 (b + 36) (tt + 12 + 3 * c) (b + 21) (wI w) (wI m) (wI t) (wI j) k (wI i) d = k27 (wI (j + 1 : Nat)) d' ∧ q_e1 b dt d' ∧ d'.1 (b + 36) 3 = wI (Tlen T c) ∧ ∀ cell, cell < 4 * Tlen T c → d'.2.1 (b + 42) cell = wJ (q_pm T g c w m t (j + 1) 0 cell) := by
      intro n
      induction n with
      | zero =>
        intro i k z1 z2 
        obtain ⟨k, rfl⟩ : ∃ m, k = m + 1 := ⟨k - 1, by omega⟩
        have e : i = Tlen T c := by omega
        intro d q1 q2 q3 q4 q5
        refine ⟨d, ?_, q1, q2, fun cell hcell => ?_⟩
        · rw [X6_survey_b73.eq_2, q2, show wI j + 1 = wI (j + 1 : Nat) from wI_add j 1]
          simp (disch := omega) only [wI_le]
          rw [if_pos (by omega)]
        · rw [q5 cell hcell]
          congr 1
          unfold q_pm
          rw [if_pos (show cell / 4 < i by omega), if_neg (show ¬ cell / 4 < 0 by omega)]
      | succ n ih =>
        intro i k z1 z2 
        obtain ⟨k, rfl⟩ : ∃ m, k = m + 1 := ⟨k - 1, by omega⟩
        have hi : i < Tlen T c := by omega
        intro d q1 q2 q3 q4 q5
        have hT2 := T_e1 hT q1
        have hs := T_s2 (w := w + j * Tlen T c) hT2 hc hi q3 q4
        have ei : wI i + 1 = wI (i + 1 : Nat) := wI_add i 1
        have e4 : 4 * wI i + wI t = wI (4 * i + t : Nat) := by
          rw [show (4 : Int32) = wI ((4 : Nat) : Int) from rfl, wI_mul, wI_add]
          rfl
        have h5 := q5 (4 * i + t) (by omega)
        obtain ⟨d', v1, v2⟩ := ih (i + 1) k (by omega) (by omega) (q_pJ d (b + 42) (4 * i + t) (wJ (q_pm T g c w m t j i (4 * i + t)) + wJ (q_sq2 T g c i t (w + j * Tlen T c)))) (q_e1_J q1 (by omega) (by omega)) q2 (fun k hk => (congrFun (q_pJ_o (by omega)) k).trans (q3 k hk)) (fun k hk => (congrFun (q_pJ_o (by omega)) k).trans (q4 k hk)) (fun cell hcell => by
          by_cases e : cell = 4 * i + t
          · rw [e, q_pJ_s, wJ_add]
            congr 1
            unfold q_pm
            rw [show (4 * i + t) % 4 = t by omega, show (4 * i + t) / 4 = i by omega, if_neg (show ¬ t < t by omega), if_pos rfl, if_neg (show ¬ t < t by omega), if_pos rfl, if_neg (show ¬ i < i by omega), if_pos (show i < i + 1 by omega), q_sum_s]
          · rw [q_pJ_k e, q5 cell hcell]
            congr 1
            unfold q_pm
            by_cases h1 : cell % 4 < t
            · rw [if_pos h1, if_pos h1]
            · rw [if_neg h1, if_neg h1]
              by_cases h2 : cell % 4 = t
              · rw [if_pos h2, if_pos h2]
                by_cases h3 : cell / 4 < i
                · rw [if_pos h3, if_pos (by omega)]
                · rw [if_neg h3, if_neg (by omega)]
              · rw [if_neg h2, if_neg h2])
        refine ⟨d', ?_, v2⟩
        rw [X6_survey_b73.eq_2, q2, hs, e4, ei, s36_2]
        simp (disch := omega) only [wI_le, b1s]
        rw [if_neg (by omega), r_inc (s41_0 b) (l42 b) (by omega) (by omega), h5]
        simp only [b1s]
        exact v1
    exact hl (Tlen T c) 0 q_FU (by omega) (by unfold q_FU; omega) d q1 q2 q3 q4 q5
  have hJ : ∀ (t : Nat), t < 4 → ∀ (k18 : Int32 → q_Dt → Option q_Dt) d, q_e1 b dt d → d.1 (b + 36) 3 = wI (Tlen T c) → (∀ cell, cell < 4 * Tlen T c → d.2.1 (b + 42) cell = wJ (q_pm T g c w m t 0 0 cell)) → ∃ d', X6_survey_b27 (A1 b) k18 (b + 36) (tt + 12 + 3 * c) (b + 21) (wI w) (wI m) (wI t) q_FU (wI (0 : Nat)) d = k18 (wI (t + 1 : Nat)) d' ∧ q_e1 b dt d' ∧ d'.1 (b + 36) 3 = wI (Tlen T c) ∧ ∀ cell, cell < 4 * Tlen T c → d'.2.1 (b + 42) cell = wJ (q_pm T g c w m (t + 1) 0 0 cell) := by
    intro t ht k18 d q1 q2 q5
    have hl : ∀ n i k : Nat, i + n = m → n < k → ∀ d, q_e1 b dt d → d.1 (b + 36) 3 = wI (Tlen T c) → (∀ cell, cell < 4 * Tlen T c → d.2.1 (b + 42) cell = wJ (q_pm T g c w m t i 0 cell)) → ∃ d', X6_survey_b27 (A1 b) k18 (b + 36) (tt + 12 + 3 * c) (b + 21) (wI w) (wI m) (wI t) k (wI i) d = k18 (wI (t + 1 : Nat)) d' ∧ q_e1 b dt d' ∧ d'.1 (b + 36) 3 = wI (Tlen T c) ∧ ∀ cell, cell < 4 * Tlen T c → d'.2.1 (b + 42) cell = wJ (q_pm T g c w m (t + 1) 0 0 cell) := by
      intro n
      induction n with
      | zero =>
        intro i k z1 z2 
        obtain ⟨k, rfl⟩ : ∃ m, k = m + 1 := ⟨k - 1, by omega⟩
        have e : i = m := by omega
        intro d q1 q2 q5
        refine ⟨d, ?_, q1, q2, fun cell hcell => ?_⟩
        · rw [X6_survey_b27.eq_2]
          unfold X6_survey_b115
          rw [show wI t + 1 = wI (t + 1 : Nat) from wI_add t 1]
          simp (disch := omega) only [wI_le]
          rw [if_pos (by omega)]
        · rw [q5 cell hcell]
          congr 1
          unfold q_pm
          rw [e, if_neg (show ¬ cell / 4 < 0 by omega)]
          by_cases h1 : cell % 4 < t
          · rw [if_pos h1, if_pos (by omega)]
          · rw [if_neg h1]
            by_cases h2 : cell % 4 = t
            · rw [if_pos h2, if_pos (by omega)]
              rfl
            · rw [if_neg h2, if_neg (by omega)]
              by_cases h3 : cell % 4 = t + 1
              · rw [if_pos h3]
                rfl
              · rw [if_neg h3]
      | succ n ih =>
        intro i k z1 z2 
        obtain ⟨k, rfl⟩ : ∃ m, k = m + 1 := ⟨k - 1, by omega⟩
        have hi : i < m := by omega
        intro d q1 q2 q5
        have hml : i * Tlen T c ≤ 100 * 127 := Nat.mul_le_mul (by omega) (by omega)
        have hsam : d.1 (b + 21) 2 = wI (TN T) := (S_e1 hg q1).1
        by_cases hend : TN T ≤ w + i * Tlen T c
        · refine ⟨d, ?_, q1, q2, fun cell hcell => ?_⟩
          · rw [X6_survey_b27.eq_2, q2, hsam]
            unfold X6_survey_b115
            rw [show wI t + 1 = wI (t + 1 : Nat) from wI_add t 1]
            simp (disch := omega) only [wI_le, wI_mul, wI_add, ← Int.natCast_mul, ← Int.natCast_add]
            rw [if_neg (by omega), if_pos (by omega)]
          · rw [q5 cell hcell]
            congr 1
            unfold q_pm
            rw [if_neg (show ¬ cell / 4 < 0 by omega)]
            by_cases h1 : cell % 4 < t
            · rw [if_pos h1, if_pos (by omega)]
            · rw [if_neg h1]
              by_cases h2 : cell % 4 = t
              · rw [if_pos h2, if_pos (by omega)]
                refine Eq.symm (q_sum_cut (show i ≤ m by omega) (fun j h3 h4 => q_sq2_z hz ?_))
                have h5 : i * Tlen T c ≤ j * Tlen T c := Nat.mul_le_mul_right _ h3
                omega
              · rw [if_neg h2, if_neg (by omega)]
                by_cases h3 : cell % 4 = t + 1
                · rw [if_pos h3]
                  rfl
                · rw [if_neg h3]
        have e1 := T_turn (S_e1 hg q1) (show TN T ≤ 512 by omega) hz (show Tlen T c ≤ 127 by omega) ht (show w + i * Tlen T c < 100000 by omega)
        have he := q_e1_row2 (n := Tlen T c) (f := fun k => wJ (q_tn g t (w + i * Tlen T c + k) 0)) (h := fun k => wJ (q_tn g t (w + i * Tlen T c + k) 1)) q1
        obtain ⟨d1, r1, r2, r3, r4⟩ := hD t i ht k18 (X6_survey_b27 (A1 b) k18 (b + 36) (tt + 12 + 3 * c) (b + 21) (wI w) (wI m) (wI t) k) _ he q2 (fun k hk => q_row2_A hk) (fun k hk => q_row2_B (by omega) hk) (fun cell hcell => (congrFun (q_row2_o (by omega) (by omega)) cell).trans (q5 cell hcell))
        obtain ⟨d', v1, v2⟩ := ih (i + 1) k (by omega) (by omega) d1 r2 r3 r4
        refine ⟨d', ?_, v2⟩
        rw [X6_survey_b27.eq_2, q2, hsam]
        simp (disch := omega) only [wI_le, wI_mul, wI_add, ← Int.natCast_mul, ← Int.natCast_add, e1, b1s]
        rw [if_neg (by omega), if_neg (by omega), show (0 : Int32) = wI ((0 : Nat) : Int) from rfl]
        exact r1.trans v1
    exact hl m 0 q_FU (by omega) (by unfold q_FU; omega) d q1 q2 q5
  have hl : ∀ n i k : Nat, i + n = 4 → n < k → ∀ d, q_e1 b dt d → d.1 (b + 36) 3 = wI (Tlen T c) → (∀ cell, cell < 4 * Tlen T c → d.2.1 (b + 42) cell = wJ (q_pm T g c w m i 0 0 cell)) → ∃ d', X6_survey_b18 (A1 b) (b + 36) (tt + 12 + 3 * c) (b + 21) (wI w) (wI m) k (wI i) d = some d' ∧ q_e1 b dt d' ∧ d'.1 (b + 36) 3 = wI (Tlen T c) ∧ ∀ cell, cell < 4 * Tlen T c → d'.2.1 (b + 42) cell = wJ (q_mc T g c w m cell) := by
    intro n
    induction n with
    | zero =>
      intro i k z1 z2 
      obtain ⟨k, rfl⟩ : ∃ m, k = m + 1 := ⟨k - 1, by omega⟩
      have e : i = 4 := by omega
      intro d q1 q2 q5
      refine ⟨d, ?_, q1, q2, fun cell hcell => ?_⟩
      · rw [X6_survey_b18.eq_2, show (4 : Int32) = wI 4 from rfl]
        simp (disch := omega) only [wI_le]
        rw [if_pos (by omega)]
      · rw [q5 cell hcell]
        congr 1
        unfold q_pm
        rw [if_pos (by omega)]
    | succ n ih =>
      intro i k z1 z2 
      obtain ⟨k, rfl⟩ : ∃ m, k = m + 1 := ⟨k - 1, by omega⟩
      have hi : i < 4 := by omega
      intro d q1 q2 q5
      obtain ⟨d1, r1, r2, r3, r4⟩ := hJ i hi (X6_survey_b18 (A1 b) (b + 36) (tt + 12 + 3 * c) (b + 21) (wI w) (wI m) k) d q1 q2 q5
      obtain ⟨d', v1, v2⟩ := ih (i + 1) k (by omega) (by omega) d1 r2 r3 r4
      refine ⟨d', ?_, v2⟩
      rw [X6_survey_b18.eq_2, show (4 : Int32) = wI 4 from rfl]
      simp (disch := omega) only [wI_le]
      rw [if_neg (by omega), show (0 : Int32) = wI ((0 : Nat) : Int) from rfl]
      exact r1.trans v1
  have hcd := T_code hT hc
  obtain ⟨d', v1, v2⟩ := hl 4 0 q_FU (by omega) (by unfold q_FU; omega) (q_row (q_pI dt (b + 36) 3 (wI (Tlen T c))) (b + 42) 508 (fun _ => 0)) (q_e1_row (q_e1_I q_e1_r (by omega) (by omega)) (by omega) (by omega)) q_pI_s (fun cell hcell => by
    rw [q_row_i (by omega)]
    unfold q_pm
    rw [if_neg (by omega), if_neg (show ¬ cell / 4 < 0 by omega), show q_sum (fun j => q_sq2 T g c (cell / 4) (cell % 4) (w + j * Tlen T c)) 0 = 0 from rfl, ite_self]
    rfl)
  refine ⟨d', ?_, v2⟩
  unfold X6_survey
  simp only [m1s, o1s]
  rw [hcd.2.1, s36_2, r_clear (s41_0 b) (l42 b) (by omega)]
  simp only [b1s]
  rw [show (0 : Int32) = wI ((0 : Nat) : Int) from rfl]
  exact v1
