/-! level two: the class's side of what is told -/
def q_T0 (t : Nat) (dt : q_Dt) (T : q_Tl) : Prop := dt.1 t 7 = wI (Tnc T) ∧ dt.1 t 8 = wI (Tnh T) ∧ dt.1 t 9 = wI (Tns T) ∧ dt.1 t 10 = wI (Tne T) ∧ dt.1 t 11 = wI (Tnj T) ∧ dt.1 t 12 = wI (TN T) ∧ dt.1 t 13 = wI (Tnm T) ∧ dt.1 t 14 = wI (Tnd T)
def q_TC (t : Nat) (dt : q_Dt) (T : q_Tl) : Prop := ∀ c, c < Tnc T → dt.1 (t + 12 + 3 * c) 1 = wI (Tlen T c) ∧ ∀ i, i < Tlen T c → dt.2.1 (t + 14 + 3 * c) i = wJ (Tch T c i)
def q_TH (t : Nat) (dt : q_Dt) (T : q_Tl) : Prop := ∀ h, h < Tnh T → dt.1 (t + 36 + h) 0 = wI (Thp T h) ∧ dt.1 (t + 36 + h) 1 = wI (Tha T h) ∧ dt.1 (t + 36 + h) 2 = wI (Thb T h)
def q_TS (t : Nat) (dt : q_Dt) (T : q_Tl) : Prop := ∀ s, s < Tns T → dt.2.2 (t + 42 + 5 * s) 2 = some (t + 12 + 3 * Tsc T s) ∧ dt.1 (t + 42 + 5 * s) 4 = wI (Tsa T s) ∧ dt.1 (t + 42 + 5 * s) 5 = wI (Tsd T s) ∧ dt.1 (t + 42 + 5 * s) 6 = wI (Tst T s) ∧ dt.1 (t + 42 + 5 * s) 7 = wI (Tsx T s) ∧ dt.1 (t + 42 + 5 * s) 8 = wI (Tsf T s)
def q_TE (t : Nat) (dt : q_Dt) (T : q_Tl) : Prop := ∀ s, s < Tns T → ∃ (m : Nat) (ix : Nat → Nat), dt.1 (t + 42 + 5 * s) 3 = wI m ∧ m ≤ 6 ∧ (∀ e, e < m → ix e < Tne T ∧ Teo T (ix e) = s ∧ dt.2.1 (t + 44 + 5 * s) e = wJ (Tel T (ix e)) ∧ dt.2.1 (t + 46 + 5 * s) e = wJ (Tea T (ix e))) ∧ ∀ F : Nat → Int, q_sum (fun e => F (ix e)) m = q_sum (fun e => if Teo T e = s then F e else 0) (Tne T)
def q_TJ (t : Nat) (dt : q_Dt) (T : q_Tl) : Prop := ∀ j, j < Tnj T → dt.2.1 (t + 5) j = wJ (Tjf T j) ∧ dt.2.1 (t + 7) j = wJ (Tjt T j) ∧ dt.2.1 (t + 9) j = wJ (Tja T j) ∧ dt.2.1 (t + 11) j = wJ (Tje T j)
def q_TT (b t : Nat) (dt : q_Dt) (T : q_Tl) : Prop := q_wf T ∧ (t = b + 77 ∨ t = b + 149) ∧ q_T0 t dt T ∧ q_TC t dt T ∧ q_TH t dt T ∧ q_TS t dt T ∧ q_TE t dt T ∧ q_TJ t dt T
theorem T_code {b t : Nat} {dt : q_Dt} {T : q_Tl} (h : q_TT b t dt T) {c : Nat} (hc : c < Tnc T) : q_Code (A1 b) dt (t + 12 + 3 * c) (Tlen T c) (Tch T c) := by
  obtain ⟨⟨hw, hC, -⟩, ht, -, h1, -⟩ := h
  have h2 := h1 c hc
  have h3 := hC c hc
  unfold q_Code
  rw [tc_1 ht (by omega), tc_2 ht (by omega), tc_l0 ht (by omega)]
  exact ⟨rfl, h2.1, h3.1, h2.2, h3.2⟩
theorem T_codeAt {b t : Nat} {dt : q_Dt} {T : q_Tl} (h : q_TT b t dt T) {c : Nat} (hc : c < Tnc T) : X10_codeAt (A1 b) dt t (wI c) = some (some (t + 12 + 3 * c)) := by
  obtain ⟨⟨hw, -⟩, ht, ⟨h1, -⟩, -⟩ := h
  simp (disch := omega) only [X10_codeAt, h1, t1_0 ht, t1_l0 ht, wI_ofNat, wI_lit, wI_lt, wI_le, wI_nat, Int.toNat_natCast, tc_0 ht]
  rw [if_neg (by omega), if_neg (by omega), if_neg (by omega), if_neg (by omega)]
theorem T_codeNo {b t : Nat} {dt : q_Dt} {T : q_Tl} (h : q_TT b t dt T) {x : Int} (hx1 : -2147483648 ≤ x) (hx2 : x < 2147483648) (hc : ¬ (0 ≤ x ∧ x < Tnc T)) : X10_codeAt (A1 b) dt t (wI x) = some none := by
  obtain ⟨⟨hw, -⟩, ht, ⟨h1, -⟩, -⟩ := h
  simp (disch := omega) only [X10_codeAt, h1, wI_lit, wI_lt, wI_le]
  by_cases h2 : x < 0
  · rw [if_pos (by omega)]
  · rw [if_neg (by omega), if_pos (by omega)]
theorem T_senderAt {b t : Nat} {dt : q_Dt} {T : q_Tl} (h : q_TT b t dt T) {c : Nat} (hc : c < Tns T) : X10_senderAt (A1 b) dt t (wI c) = some (some (t + 42 + 5 * c)) := by
  obtain ⟨⟨hw, -⟩, ht, ⟨-, -, h1, -⟩, -⟩ := h
  simp (disch := omega) only [X10_senderAt, h1, t1_2 ht, t1_l2 ht, wI_ofNat, wI_lit, wI_lt, wI_le, wI_nat, Int.toNat_natCast, ts_0 ht]
  rw [if_neg (by omega), if_neg (by omega), if_neg (by omega), if_neg (by omega)]
theorem T_senderNo {b t : Nat} {dt : q_Dt} {T : q_Tl} (h : q_TT b t dt T) {x : Int} (hx1 : -2147483648 ≤ x) (hx2 : x < 2147483648) (hc : ¬ (0 ≤ x ∧ x < Tns T)) : X10_senderAt (A1 b) dt t (wI x) = some none := by
  obtain ⟨⟨hw, -⟩, ht, ⟨-, -, h1, -⟩, -⟩ := h
  simp (disch := omega) only [X10_senderAt, h1, wI_lit, wI_lt, wI_le]
  by_cases h2 : x < 0
  · rw [if_pos (by omega)]
  · rw [if_neg (by omega), if_pos (by omega)]
theorem T_hopAt {b t : Nat} {dt : q_Dt} {T : q_Tl} (h : q_TT b t dt T) {c : Nat} (hc : c < Tnh T) : X10_hopAt (A1 b) dt t (wI c) = some (some (t + 36 + c)) := by
  obtain ⟨⟨hw, -⟩, ht, ⟨-, h1, -⟩, -⟩ := h
  simp (disch := omega) only [X10_hopAt, h1, t1_1 ht, t1_l1 ht, wI_ofNat, wI_lit, wI_lt, wI_le, wI_nat, Int.toNat_natCast, th_0 ht]
  rw [if_neg (by omega), if_neg (by omega), if_neg (by omega), if_neg (by omega)]
theorem T_hopNo {b t : Nat} {dt : q_Dt} {T : q_Tl} (h : q_TT b t dt T) {x : Int} (hx1 : -2147483648 ≤ x) (hx2 : x < 2147483648) (hc : ¬ (0 ≤ x ∧ x < Tnh T)) : X10_hopAt (A1 b) dt t (wI x) = some none := by
  obtain ⟨⟨hw, -⟩, ht, ⟨-, h1, -⟩, -⟩ := h
  simp (disch := omega) only [X10_hopAt, h1, wI_lit, wI_lt, wI_le]
  by_cases h2 : x < 0
  · rw [if_pos (by omega)]
  · rw [if_neg (by omega), if_pos (by omega)]
theorem T_len {b t : Nat} {dt : q_Dt} {T : q_Tl} (h : q_TT b t dt T) {s : Nat} (hs : s < Tns T) : X7_length (A1 b) dt (t + 42 + 5 * s) = some (wI (Tlen T (Tsc T s))) := by
  have hS := h.1.2.2.2.1 s hs
  obtain ⟨hw, ht, -, h1, -, h3, -⟩ := h
  simp only [X7_length, q_o, q_m, (h3 s hs).1, (h1 _ hS.1).1]
theorem T_delay {b t : Nat} {dt : q_Dt} {T : q_Tl} (h : q_TT b t dt T) {s i : Nat} (hs : s < Tns T) (hi : i < 1000000) : X7_delayAt (A1 b) dt (t + 42 + 5 * s) (wI i) = some (wI (q_dl T s i)) := by
  have e1 := T_len h hs
  have hS := h.1.2.2.2.1 s hs
  have hC := (h.1.2.1 _ hS.1).1
  obtain ⟨hw, ht, -, h1, -, h3, -⟩ := h
  have h4 := (h3 s hs).2.2.1
  have h5 := (h3 s hs).2.2.2.2.2
  have h7 : Tsf T s * Tlen T (Tsc T s) ≤ 99 * 127 := Nat.mul_le_mul (by omega) (by omega)
  simp (disch := omega) only [X7_delayAt, e1, q_b1, h4, h5, wI_wJ, wJ_mul, ← Int.natCast_mul, m_quo, ← Int.natCast_ediv, wJ_wI, wI_add, ← Int.natCast_add]
  rfl
theorem T_period {b t : Nat} {dt : q_Dt} {T : q_Tl} (h : q_TT b t dt T) {s i : Nat} (hs : s < Tns T) (hi : i < 1000000) : X7_periodAt (A1 b) dt (t + 42 + 5 * s) (wI i) = some (wI (q_per T s i)) := by
  have e1 := T_len h hs
  have e3 := T_delay h hs hi
  have hS := h.1.2.2.2.1 s hs
  have hC := (h.1.2.1 _ hS.1).1
  have h4 := q_dl_b h.1 hs hi
  simp (disch := omega) only [X7_periodAt, e1, e3, q_b1, wI_sub, wI_lit, wI_le]
  unfold q_per
  by_cases h6 : q_dl T s i ≤ i
  · rw [if_pos (by omega), if_pos h6, ← Int.ofNat_sub h6, wI_wJ (by omega) (by omega), wI_wJ (by omega) (by omega), m_quo (by omega) (by omega) (by omega) (by omega)]
    simp only [q_b1, wJ_wI]
    rfl
  · rw [if_neg (by omega), if_neg h6]; rfl
theorem T_axis {b t : Nat} {dt : q_Dt} {T : q_Tl} (h : q_TT b t dt T) {s i : Nat} (hs : s < Tns T) (hi : i < 1000000) : X7_axisAt (A1 b) dt (t + 42 + 5 * s) (wI i) = some (wI (q_trn T s i % 2 : Nat)) := by
  have hS := h.1.2.2.2.1 s hs
  obtain ⟨hw, ht, -, h1, -, h3, -⟩ := h
  simp (disch := omega) only [X7_axisAt, (h3 s hs).2.2.2.1, m_turn, q_b1, wI_and1]
  rfl
theorem T_sign {b t : Nat} {dt : q_Dt} {T : q_Tl} (h : q_TT b t dt T) {s i : Nat} (hs : s < Tns T) (hi : i < 1000000) : X7_signAt (A1 b) dt (t + 42 + 5 * s) (wI i) = some (wI (q_sgn T s i)) := by
  have hS := h.1.2.2.2.1 s hs
  have e3 := T_delay h hs hi
  have h9 := q_dl_b h.1 hs hi
  have hC := T_code h hS.1
  obtain ⟨hw, ht, -, h1, -, h3, -⟩ := h
  have e4 := m_turn (t := Tst T s) (i := i) (by omega) hi
  have h5 : Tst T s * (i / 8) % 4 < 4 := Nat.mod_lt _ (by omega)
  simp (disch := omega) only [X7_signAt, e3, q_b1, wI_sub, wI_lit, wI_lt]
  unfold q_sgn q_trn
  by_cases hd : q_dl T s i ≤ i
  · rw [if_neg (by omega), if_pos hd, ← Int.ofNat_sub hd]
    simp (disch := omega) only [q_o, (h3 s hs).1, q_m, c_round_n hC, q_b1, (h3 s hs).2.2.2.1, e4, wI_le, wI_neg]
    by_cases h6 : Tst T s * (i / 8) % 4 ≤ 1
    · rw [if_pos (by omega), if_pos h6]
    · rw [if_neg (by omega), if_neg h6]
  · rw [if_pos (by omega), if_neg hd]; rfl
theorem T_bit {b t : Nat} {dt : q_Dt} {T : q_Tl} (h : q_TT b t dt T) {s : Nat} {p : Int} (hs : s < Tns T) (hp0 : -1000000 < p) (hp : p < 1000000) : X7_bitSent (A1 b) dt (t + 42 + 5 * s) (wI p) = some (wI (q_bit T s p)) := by
  have hS := h.1.2.2.2.1 s hs
  obtain ⟨hw, ht, -, h1, -, h3, -⟩ := h
  obtain ⟨j, hj⟩ : ∃ j : Nat, p % 14 = j := ⟨(p % 14).toNat, by omega⟩
  unfold X7_bitSent q_bit
  rw [wI_wJ (by omega) (by omega), show (14 : Int64) = wJ 14 from rfl, m_rest (by omega) (by omega) (by omega) (by omega), hj, Int.toNat_natCast]
  simp only [q_b1, wJ_wI, (h3 s hs).2.2.2.2.1]
  rw [wI_shr (by omega) (by omega) (by omega), ← Int.natCast_ediv, wI_and1]
