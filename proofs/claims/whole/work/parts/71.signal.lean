/-! level two: signals: sample, power, wave -/
def q_So (b o : Nat) : Prop := (A1 b).2.2 o 0 = o + 1 ∧ (A1 b).2.2 o 1 = o + 3 ∧ (A1 b).2.2 (o + 1) 0 = o + 2 ∧ (A1 b).2.2 (o + 3) 0 = o + 4 ∧ (A1 b).2.1 (o + 2) = 512 ∧ (A1 b).2.1 (o + 4) = 512
theorem So_in (b : Nat) : q_So b (b + 21) := by
  unfold q_So
  rw [show b + 21 + 1 = b + 22 from rfl, show b + 21 + 2 = b + 23 from rfl, show b + 21 + 3 = b + 24 from rfl, show b + 21 + 4 = b + 25 from rfl]
  exact ⟨s21_0 b, s21_1 b, s22_0 b, s24_0 b, l23 b, l25 b⟩
theorem So_left (b : Nat) : q_So b (b + 46) := by
  unfold q_So
  rw [show b + 46 + 1 = b + 47 from rfl, show b + 46 + 2 = b + 48 from rfl, show b + 46 + 3 = b + 49 from rfl, show b + 46 + 4 = b + 50 from rfl]
  exact ⟨s46_0 b, s46_1 b, s47_0 b, s49_0 b, l48 b, l50 b⟩
theorem So_slot (b : Nat) {i : Nat} (h : i < 3) : q_So b (b + 221 + 5 * i) := by
  have e0 : b + 221 + 5 * i = b + (221 + 5 * i) := by omega
  have e1 : b + 221 + 5 * i + 1 = b + (222 + 5 * i) := by omega
  have e2 : b + 221 + 5 * i + 2 = b + (223 + 5 * i) := by omega
  have e3 : b + 221 + 5 * i + 3 = b + (224 + 5 * i) := by omega
  have e4 : b + 221 + 5 * i + 4 = b + (225 + 5 * i) := by omega
  unfold q_So
  rw [e1, e2, e3, e4, e0]
  exact ⟨sl_1 h, sl_2 h, sl_3 h, sl_4 h, sl_l0 h, sl_l1 h⟩
theorem T_value {b o N i a : Nat} {dt : q_Dt} {g : Nat → Nat → Int} (hs : q_So b o) (hg : q_sig o N dt g) (hN : N ≤ 512) (hz : ∀ a i, N ≤ i → g a i = 0) (hi : i < 1000000) (ha : a < 2) : X8_value (A1 b) dt o (wI i) (wI a) = some (wJ (g a i)) := by
  obtain ⟨h1, h2, h3, h4, h5, h6⟩ := hs
  unfold X8_value
  rw [h1, h2, hg.1, show (0 : Int32) = wI 0 from rfl]
  simp (disch := omega) only [wI_lt, wI_eq]
  by_cases g1 : i < N
  · rw [if_pos (by omega), r_at h3 h5 (by omega) (by omega), r_at h4 h6 (by omega) (by omega)]
    simp only [b1s]
    have h7 := hg.2 i (by omega)
    rcases (show a = 0 ∨ a = 1 by omega) with rfl | rfl
    · rw [if_pos (by omega), h7.1]
    · rw [if_neg (by omega), h7.2]
  · rw [if_neg (by omega), hz a i (by omega)]
    rfl
theorem q_sum_sh (F : Nat → Int) (i n : Nat) : q_sum (fun j => F (i + j)) (n + 1) = F i + q_sum (fun j => F (i + 1 + j)) n := by
  induction n with
  | zero =>
    show (0 : Int) + F (i + 0) = F i + 0
    rw [Nat.add_zero]
    omega
  | succ n ih =>
    rw [q_sum_s, ih, q_sum_s, show i + (n + 1) = i + 1 + n by omega]
    omega
def q_sq (g : Nat → Nat → Int) (i : Nat) : Int := g 0 i * g 0 i + g 1 i * g 1 i
theorem T_squares {b o N m : Nat} {dt : q_Dt} {g : Nat → Nat → Int} (hs : q_So b o) (hg : q_sig o N dt g) (hN : N ≤ 512) (hm : m < N) {f : Nat} (hf : f ≤ m + 1) : X8_squares (A1 b) dt o (wI f) (wI m) = some (wJ (q_sum (fun j => q_sq g (f + j)) (m + 1 - f))) := by
  obtain ⟨h1, h2, h3, h4, h5, h6⟩ := hs
  have hl : ∀ n i k, i + n = m + 1 → n < k → ∀ w : Int, X8_squares_b5 (A1 b) dt o (wI m) k (wJ w) (wI i) = some (wJ (w + q_sum (fun j => q_sq g (i + j)) n)) := by
    intro n
    induction n with
    | zero =>
      intro i k z1 z2 
      obtain ⟨k, rfl⟩ : ∃ m, k = m + 1 := ⟨k - 1, by omega⟩
      have e : i = m + 1 := by omega
      intro w
      simp (disch := omega) only [X8_squares_b5, wI_lt, X8_squares_b68]
      rw [if_pos (by omega), show q_sum (fun j => q_sq g (i + j)) 0 = 0 from rfl, Int.add_zero]
    | succ n ih =>
      intro i k z1 z2 
      obtain ⟨k, rfl⟩ : ∃ m, k = m + 1 := ⟨k - 1, by omega⟩
      have hi : i < m + 1 := by omega
      intro w
      have ei : wI i + 1 = wI (i + 1 : Nat) := wI_add i 1
      have h7 := hg.2 i (by omega)
      have hih := ih (i + 1) k (by omega) (by omega) (w + q_sq g i)
      rw [q_sum_sh, ← Int.add_assoc]
      simp (disch := omega) only [X8_squares_b5, h1, h2, hg.1, wI_lt, wI_le]
      rw [if_neg (by omega), if_neg (by omega), r_at h3 h5 (by omega) (by omega), r_at h4 h6 (by omega) (by omega)]
      simp only [b1s, o1s, h7.1, h7.2, wJ_mul, wJ_add, ei]
      exact hih
  have h0 := hl (m + 1 - f) f q_FU (by omega) (by unfold q_FU; omega) 0
  rw [Int.zero_add] at h0
  exact h0
theorem M_power {b x m : Nat} {dt : q_Dt} {g : Nat → Nat → Int} (hx : (A2 b).2.1 x = 1024) (hg : q_now x dt g) (hb : ∀ a i, -2147483648 ≤ g a i ∧ g a i < 2147483648) (hm : m < 512) {f : Nat} (hf : f ≤ m + 1) : X12_powerOf (A2 b) dt x (wI f) (wI m) = some (wJ (q_sum (fun j => q_sq g (f + j)) (m + 1 - f))) := by
  have hl : ∀ n i k, i + n = m + 1 → n < k → ∀ w : Int, X12_powerOf_b5 (A2 b) dt x (wI m) k (wJ w) (wI i) = some (wJ (w + q_sum (fun j => q_sq g (i + j)) n)) := by
    intro n
    induction n with
    | zero =>
      intro i k z1 z2 
      obtain ⟨k, rfl⟩ : ∃ m, k = m + 1 := ⟨k - 1, by omega⟩
      have e : i = m + 1 := by omega
      intro w
      simp (disch := omega) only [X12_powerOf_b5, wI_lt]
      rw [if_pos (by omega), show q_sum (fun j => q_sq g (i + j)) 0 = 0 from rfl, Int.add_zero]
    | succ n ih =>
      intro i k z1 z2 
      obtain ⟨k, rfl⟩ : ∃ m, k = m + 1 := ⟨k - 1, by omega⟩
      have hi : i < m + 1 := by omega
      intro w
      have ei : wI i + 1 = wI (i + 1 : Nat) := wI_add i 1
      have e5 : 512 + wI i = wI (512 + i : Nat) := wI_add 512 i
      have h7 := hg i (by omega)
      have hb0 := hb 0 i
      have hb1 := hb 1 i
      have hih := ih (i + 1) k (by omega) (by omega) (w + q_sq g i)
      rw [q_sum_sh, ← Int.add_assoc]
      simp (disch := omega) only [X12_powerOf_b5, hx, wI_lt, show (0 : Int32) = wI 0 from rfl, wI_nat, Int.toNat_natCast, e5, h7.1, h7.2, wI_wJ, X12_square, wJ_mul, b1s, wJ_add, ei]
      rw [if_neg (by omega), if_neg (by omega), if_neg (by omega)]
      exact hih
  have h0 := hl (m + 1 - f) f q_FU (by omega) (by unfold q_FU; omega) 0
  rw [Int.zero_add] at h0
  exact h0
theorem T_isSample {b t : Nat} {dt : q_Dt} {T : q_Tl} (h : q_TT b t dt T) (ho : q_own b t dt) {x : Int} (hx1 : -2147483648 ≤ x) (hx2 : x < 2147483648) : X11_isSample (A1 b) dt b (wI x) = some (if 0 ≤ x ∧ x < TN T then 1 else 0) := by
  have h1 := h.2.2.1.2.2.2.2.2.1
  have hn := h.1.1.2.2.2.2.2.2.1
  unfold X11_isSample
  rw [show (0 : Int32) = wI 0 from rfl]
  simp (disch := omega) only [o1s, ho.1, m1s, h1, wI_lt, wI_le]
  by_cases g : 0 ≤ x ∧ x < TN T
  · rw [if_pos g, if_neg (by omega), if_neg (by omega)]
  · rw [if_neg g]
    by_cases g2 : x < 0
    · rw [if_pos g2] <;> rfl
    · rw [if_neg g2, if_pos (by omega)] <;> rfl
theorem m_axis {a : Int32} (h : a = 0 ∨ a = 1) : ∃ n : Nat, n < 2 ∧ a = wI n ∧ X11_axis a = some (wI n) := by
  rcases h with rfl | rfl
  · exact ⟨0, by omega, rfl, rfl⟩
  · exact ⟨1, by omega, rfl, rfl⟩
theorem q_gb_i {k : Nat} {T : q_Tl} {g : Nat → Nat → Int} (h : q_gb k T g) (hk : k ≤ 512) : ∀ a i, -3300000 ≤ g a i ∧ g a i ≤ 3300000 := by
  intro a i
  have := h.1 a i
  omega
theorem R_sample : q_c_sample q_Rel := by
  intro k b1 b2 dt1 dt2 a0 a1 ha hk hR
  obtain ⟨x, rfl, hx1, hx2⟩ := q_arg a0
  have hR' := hR
  obtain ⟨T, t, sd, g, hT, hM, ho, hs, hn, hg, -⟩ := hR'
  have hb := q_gb_i hg (by omega)
  obtain ⟨a, ha2, rfl, hax⟩ := m_axis ha
  have hN := hT.1.1
  have e1 := T_isSample hT ho hx1 hx2
  have e2 := M_isSample hM hx1 hx2
  show ∃ r, X11_sample (A1 b1) dt1 b1 (wI x) (wI a) = some r ∧ X12_sample (A2 b2) dt2 b2 (wI x) (wI a) = some r ∧ _
  by_cases hc : 0 ≤ x ∧ x < TN T
  · rw [if_pos hc] at e1 e2
    obtain ⟨i, rfl⟩ := Int.eq_ofNat_of_zero_le hc.1
    refine ⟨wI (g a i), ?_, ?_, R_up hR⟩
    · simp only [X11_sample, e1, b1s, q_10, if_false, hax, s0_1, T_value (So_in b1) hs (by omega) hg.2 (show i < 1000000 by omega) ha2, wJ_wI]
    · have h7 := hn i (by omega)
      have e5 : 512 + wI i = wI (512 + i : Nat) := wI_add 512 i
      simp only [X12_sample, e2, b1s, q_10, if_false]
      rw [show (0 : Int32) = wI 0 from rfl]
      simp (disch := omega) only [X12_sample_b25, m53, n53, e5, show (0 : Int32) = wI 0 from rfl, wI_lt, wI_eq, wI_nat, Int.toNat_natCast, h7.1, h7.2]
      rcases (show a = 0 ∨ a = 1 by omega) with rfl | rfl
      · rw [if_pos (by omega), if_neg (by omega)]
      · rw [if_neg (by omega), if_neg (by omega)]
  · rw [if_neg hc] at e1 e2
    refine ⟨-1000000, ?_, ?_, R_up hR⟩
    · simp only [X11_sample, e1, b1s, q_00, if_true]
    · simp only [X12_sample, e2, b1s, q_00, if_true]
theorem R_power : q_c_power q_Rel := by
  intro k b1 b2 dt1 dt2 a0 a1 hk hR
  obtain ⟨x, rfl, hx1, hx2⟩ := q_arg a0
  obtain ⟨y, rfl, hy1, hy2⟩ := q_arg a1
  have hR' := hR
  obtain ⟨T, t, sd, g, hT, hM, ho, hs, hn, hg, -⟩ := hR'
  have hb := q_gb_i hg (by omega)
  have hN := hT.1.1
  have e1 := T_isSample hT ho hx1 hx2
  have e2 := M_isSample hM hx1 hx2
  have f1 := T_isSample hT ho hy1 hy2
  have f2 := M_isSample hM hy1 hy2
  show ∃ r, X11_power (A1 b1) dt1 b1 (wI x) (wI y) = some r ∧ X12_power (A2 b2) dt2 b2 (wI x) (wI y) = some r ∧ _
  by_cases hc : 0 ≤ x ∧ x < TN T
  · rw [if_pos hc] at e1 e2
    by_cases hd : 0 ≤ y ∧ y < TN T
    · rw [if_pos hd] at f1 f2
      obtain ⟨i, rfl⟩ := Int.eq_ofNat_of_zero_le hc.1
      obtain ⟨m, rfl⟩ := Int.eq_ofNat_of_zero_le hd.1
      by_cases hl : m < i
      · refine ⟨-1, ?_, ?_, R_up hR⟩
        · simp (disch := omega) only [X11_power, e1, f1, b1s, q_10, if_false, wI_lt, X11_power_b33]
          rw [if_pos (by omega)]
        · simp (disch := omega) only [X12_power, e2, f2, b1s, q_10, if_false, wI_lt, X12_power_b33]
          rw [if_pos (by omega)]
      · refine ⟨wJ (q_sum (fun j => q_sq g (i + j)) (m + 1 - i)), ?_, ?_, R_up hR⟩
        · simp (disch := omega) only [X11_power, e1, f1, b1s, q_10, if_false, wI_lt, s0_1, T_squares (So_in b1) hs (show TN T ≤ 512 by omega) (show m < TN T by omega) (show i ≤ m + 1 by omega)]
          rw [if_neg (by omega)]
        · simp (disch := omega) only [X12_power, e2, f2, b1s, q_10, if_false, wI_lt, m53, M_power (n53 b2) hn (fun a i => by have := hb a i; omega) (show m < 512 by omega) (show i ≤ m + 1 by omega)]
          rw [if_neg (by omega)]
    · rw [if_neg hd] at f1 f2
      refine ⟨-1, ?_, ?_, R_up hR⟩
      · simp only [X11_power, e1, f1, b1s, q_10, if_false, q_00, if_true, X11_power_b33]
      · simp only [X12_power, e2, f2, b1s, q_10, if_false, q_00, if_true, X12_power_b33]
  · rw [if_neg hc] at e1 e2
    refine ⟨-1, ?_, ?_, R_up hR⟩
    · simp only [X11_power, e1, b1s, q_00, if_true, X11_power_b33]
    · simp only [X12_power, e2, b1s, q_00, if_true, X12_power_b33]
theorem q_per_b {T : q_Tl} (hw : q_wf T) {s i : Nat} (hs : s < Tns T) : -1 ≤ q_per T s i ∧ q_per T s i ≤ i ∧ (q_dl T s i ≤ i ↔ 0 ≤ q_per T s i) := by
  have hS := hw.2.2.2.1 s hs
  have hC := (hw.2.1 _ hS.1).1
  have h1 := Nat.div_le_self (i - q_dl T s i) (Tlen T (Tsc T s))
  unfold q_per
  obtain ⟨m, hm⟩ : ∃ m, (i - q_dl T s i) / Tlen T (Tsc T s) = m := ⟨_, rfl⟩
  rw [hm] at h1 ⊢
  by_cases h : q_dl T s i ≤ i
  · rw [if_pos h]
    refine ⟨by omega, by omega, fun _ => by omega, fun _ => h⟩
  · rw [if_neg h]
    refine ⟨by omega, by omega, fun g => absurd g h, fun g => by omega⟩
theorem q_sgn_b {T : q_Tl} (hw : q_wf T) {s i : Nat} (hs : s < Tns T) : -1 ≤ q_sgn T s i ∧ q_sgn T s i ≤ 1 := by
  have hS := hw.2.2.2.1 s hs
  have hC := hw.2.1 _ hS.1
  unfold q_sgn
  by_cases h : q_dl T s i ≤ i
  · rw [if_pos h]
    have h2 := hC.2 _ (Nat.mod_lt (i - q_dl T s i) (show 0 < Tlen T (Tsc T s) by omega))
    by_cases h3 : q_trn T s i ≤ 1
    · rw [if_pos h3]; omega
    · rw [if_neg h3]; omega
  · rw [if_neg h]; omega
theorem q_trn_lt {T : q_Tl} {s i : Nat} : q_trn T s i < 4 := Nat.mod_lt _ (by omega)
theorem q_bit_lt {T : q_Tl} {s : Nat} {p : Int} : q_bit T s p < 2 := Nat.mod_lt _ (by omega)
theorem M_amp {b sd : Nat} {dt : q_Dt} {T : q_Tl} (h : q_M b sd dt T) {s : Nat} (hs : s < Tns T) : ((6 * (dt.1 b 18)) + wI s = wI (6 * sd + s : Nat)) ∧ (A2 b).2.1 ((A2 b).2.2 b 33) = 12 ∧ dt.1 ((A2 b).2.2 b 33) (6 * sd + s) = wI (Tsa T s) ∧ 6 * sd + s < 12 := by
  obtain ⟨⟨hw, -⟩, ⟨h1, h2, -⟩, -, -, h3, -⟩ := h
  have h4 := (h3 s hs).2.1
  rw [m33, n33, h2]
  refine ⟨?_, rfl, h4, by omega⟩
  rw [show (6 : Int32) = wI (6 : Nat) from rfl, wI_mul, wI_add]
  rfl
theorem R_wave : q_c_wave q_Rel := by
  intro k b1 b2 dt1 dt2 a0 a1 a2 ha hk hR
  obtain ⟨x, rfl, hx1, hx2⟩ := q_arg a0
  obtain ⟨y, rfl, hy1, hy2⟩ := q_arg a1
  have hR' := hR
  obtain ⟨T, t, sd, g, hT, hM, ho, -⟩ := hR'
  obtain ⟨a, ha2, rfl, hax⟩ := m_axis ha
  have hN := hT.1.1
  have e2 := M_isSender hM hx1 hx2
  have f1 := T_isSample hT ho hy1 hy2
  have f2 := M_isSample hM hy1 hy2
  show ∃ r, X11_wave (A1 b1) dt1 b1 (wI x) (wI y) (wI a) = some r ∧ X12_wave (A2 b2) dt2 b2 (wI x) (wI y) (wI a) = some r ∧ _
  by_cases hc : 0 ≤ x ∧ x < Tns T
  · rw [if_pos hc] at e2
    obtain ⟨s, rfl⟩ := Int.eq_ofNat_of_zero_le hc.1
    have hs : s < Tns T := by omega
    by_cases hd : 0 ≤ y ∧ y < TN T
    · rw [if_pos hd] at f1 f2
      obtain ⟨i, rfl⟩ := Int.eq_ofNat_of_zero_le hd.1
      have hi : i < 1000000 := by omega
      have hp := q_per_b hT.1 (i := i) hs
      have hsg := q_sgn_b hT.1 (i := i) hs
      have htr := q_trn_lt (T := T) (s := s) (i := i)
      have hbt := q_bit_lt (T := T) (s := s) (p := q_per T s i)
      have hA := M_amp hM hs
      have hS := hT.1.2.2.2.1 s hs
      have hsa := (hT.2.2.2.2.2.1 s hs).2.1
      refine ⟨wI (Tsa T s * (if q_trn T s i % 2 = a then (if q_bit T s (q_per T s i) = 1 then - q_sgn T s i else q_sgn T s i) else 0)), ?_, ?_, R_up hR⟩
      · have u1 : X7_unitAt (A1 b1) dt1 (t + 42 + 5 * s) (wI i) (wI a) = some (wI (if q_trn T s i % 2 = a then (if q_bit T s (q_per T s i) = 1 then - q_sgn T s i else q_sgn T s i) else 0)) := by
          unfold X7_unitAt
          rw [T_axis hT hs hi, T_period hT hs hi, T_sign hT hs hi, show (1 : Int32) = wI 1 from rfl]
          simp (disch := omega) only [b1s, wI_eq, T_bit hT hs (show -1000000 < q_per T s i by omega) (show q_per T s i < 1000000 by omega), wI_neg]
          by_cases h1 : q_trn T s i % 2 = a
          · rw [if_pos (by omega), if_pos h1]
            by_cases h2 : q_bit T s (q_per T s i) = 1
            · rw [if_pos (by omega), if_pos h2]
            · rw [if_neg (by omega), if_neg h2]
          · rw [if_neg (by omega), if_neg h1] <;> rfl
        simp only [X11_wave, o1s, ho.1, m1s, T_senderAt hT hs, b1s, f1, q_10, if_false, hax, u1, hsa, wI_mul]
      · unfold X12_wave
        simp only [e2, f2, b1s, q_10, if_false, M_period hM hs hi, M_turn hM hs hi]
        rw [show (0 : Int32) = wI 0 from rfl]
        simp (disch := omega) only [wI_lt, wI_eq, hA.1, hA.2.1, wI_nat, Int.toNat_natCast, hA.2.2.1, o1s]
        by_cases h0 : q_per T s i < 0
        · rw [if_pos h0]
          have hz : q_sgn T s i = 0 := by
            unfold q_sgn
            rw [if_neg (fun q => by have := hp.2.2.mp q; omega)]
          rw [hz]
          have : ∀ (p q : Prop) [Decidable p] [Decidable q], (Tsa T s : Int) * (if p then (if q then -0 else 0) else 0) = 0 := by
            intro p q _ _
            by_cases hp : p
            · rw [if_pos hp]
              by_cases hq : q
              · rw [if_pos hq]; simp
              · rw [if_neg hq]; simp
            · rw [if_neg hp]; simp
          rw [this]
        · rw [if_neg h0]
          by_cases h1 : q_trn T s i % 2 = a
          · rw [if_pos (by omega), if_pos h1, M_sign hM hs hi (hp.2.2.mpr (by omega)), M_data hM hs (show 0 ≤ q_per T s i by omega) (by omega), show (1 : Int32) = wI 1 from rfl]
            simp (disch := omega) only [b1s, wI_mul, wI_eq, wI_neg]
            rw [if_neg (by omega)]
            by_cases h2 : q_bit T s (q_per T s i) = 1
            · rw [if_pos (by omega), if_pos h2, Int.mul_comm, Int.mul_neg]
            · rw [if_neg (by omega), if_neg h2, Int.mul_comm]
          · rw [if_neg (by omega), if_neg h1, Int.mul_zero]
    · rw [if_neg hd] at f1 f2
      refine ⟨-1000000, ?_, ?_, R_up hR⟩
      · simp only [X11_wave, o1s, ho.1, m1s, T_senderAt hT hs, b1s, f1, q_00, if_true]
      · simp only [X12_wave, e2, f2, b1s, q_10, if_false, q_00, if_true, X12_wave_b16]
  · rw [if_neg hc] at e2
    refine ⟨-1000000, ?_, ?_, R_up hR⟩
    · simp only [X11_wave, o1s, ho.1, m1s, m1n, T_senderNo hT hx1 hx2 hc, b1s]
    · simp only [X12_wave, e2, b1s, q_00, if_true, X12_wave_b16]
