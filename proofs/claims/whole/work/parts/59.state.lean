/-! level two: what is told, once for both -/
abbrev q_Tl : Type := (Nat → Nat → Nat) × (Nat → Nat → Int) × (Nat → Int)
def Tnc (T : q_Tl) : Nat := T.1 0 0
def Tnh (T : q_Tl) : Nat := T.1 0 1
def Tns (T : q_Tl) : Nat := T.1 0 2
def Tne (T : q_Tl) : Nat := T.1 0 3
def Tnj (T : q_Tl) : Nat := T.1 0 4
def TN (T : q_Tl) : Nat := T.1 0 5
def Tnm (T : q_Tl) : Nat := T.1 0 6
def Tnd (T : q_Tl) : Nat := T.1 0 7
def Tlen (T : q_Tl) (c : Nat) : Nat := T.1 1 c
def Thp (T : q_Tl) (h : Nat) : Nat := T.1 2 h
def Tha (T : q_Tl) (h : Nat) : Nat := T.1 3 h
def Thb (T : q_Tl) (h : Nat) : Nat := T.1 4 h
def Tsc (T : q_Tl) (s : Nat) : Nat := T.1 5 s
def Tsa (T : q_Tl) (s : Nat) : Nat := T.1 6 s
def Tsd (T : q_Tl) (s : Nat) : Nat := T.1 7 s
def Tst (T : q_Tl) (s : Nat) : Nat := T.1 8 s
def Tsx (T : q_Tl) (s : Nat) : Nat := T.1 9 s
def Tsf (T : q_Tl) (s : Nat) : Nat := T.1 10 s
def Teo (T : q_Tl) (e : Nat) : Nat := T.1 11 e
def Tel (T : q_Tl) (e : Nat) : Nat := T.1 12 e
def Tea (T : q_Tl) (e : Nat) : Int := T.2.2 e
def Tjf (T : q_Tl) (j : Nat) : Nat := T.1 13 j
def Tjt (T : q_Tl) (j : Nat) : Nat := T.1 14 j
def Tja (T : q_Tl) (j : Nat) : Nat := T.1 15 j
def Tje (T : q_Tl) (j : Nat) : Nat := T.1 16 j
def Tch (T : q_Tl) (c i : Nat) : Int := T.2.1 c i
def q_wC (T : q_Tl) : Prop := ∀ c, c < Tnc T → (1 ≤ Tlen T c ∧ Tlen T c ≤ 127) ∧ ∀ i, i < Tlen T c → Tch T c i = 1 ∨ Tch T c i = -1
def q_wH (T : q_Tl) : Prop := ∀ h, h < Tnh T → 2 ≤ Thp T h ∧ Thp T h ≤ 31 ∧ Tha T h < Thp T h ∧ Thb T h < Thp T h
def q_wS (T : q_Tl) : Prop := ∀ s, s < Tns T → Tsc T s < Tnc T ∧ (1 ≤ Tsa T s ∧ Tsa T s ≤ 99) ∧ Tsd T s < Tlen T (Tsc T s) ∧ Tst T s < 4 ∧ Tsx T s ≤ 9999 ∧ Tsf T s ≤ 99
def q_wE (T : q_Tl) : Prop := ∀ e, e < Tne T → Teo T e < Tns T ∧ (1 ≤ Tel T e ∧ Tel T e ≤ 99) ∧ -99 ≤ Tea T e ∧ Tea T e ≤ 99
def q_wJ (T : q_Tl) : Prop := ∀ j, j < Tnj T → Tjf T j ≤ Tjt T j ∧ Tjt T j ≤ 511 ∧ (1 ≤ Tja T j ∧ Tja T j ≤ 99) ∧ 1 ≤ Tje T j ∧ Tje T j ≤ 99
def q_wf (T : q_Tl) : Prop := (Tnc T ≤ 8 ∧ Tnh T ≤ 6 ∧ Tns T ≤ 6 ∧ Tne T ≤ 6 ∧ Tnj T ≤ 4 ∧ 16 ≤ TN T ∧ TN T ≤ 512 ∧ Tnm T ≤ 50 ∧ Tnd T ≤ 9999) ∧ q_wC T ∧ q_wH T ∧ q_wS T ∧ q_wE T ∧ q_wJ T
/-! the check's side of it -/
def q_M0 (b sd : Nat) (dt : q_Dt) (T : q_Tl) : Prop := sd < 2 ∧ dt.1 b 18 = wI sd ∧ dt.1 (b + 11) sd = wI (Tnc T) ∧ dt.1 (b + 14) sd = wI (Tnh T) ∧ dt.1 (b + 18) sd = wI (Tns T) ∧ dt.1 (b + 25) sd = wI (Tne T) ∧ dt.1 (b + 29) sd = wI (Tnj T) ∧ dt.1 (b + 34) sd = wI (Tnm T) ∧ dt.1 (b + 35) sd = wI (Tnd T) ∧ dt.1 (b + 36) sd = wI (TN T)
def q_MC (b sd : Nat) (dt : q_Dt) (T : q_Tl) : Prop := ∀ c, c < Tnc T → dt.1 (b + 12) (8 * sd + c) = wI (Tlen T c) ∧ ∀ i, i < Tlen T c → dt.1 (b + 13) (128 * (8 * sd + c) + i) = wI (Tch T c i)
def q_MH (b sd : Nat) (dt : q_Dt) (T : q_Tl) : Prop := ∀ h, h < Tnh T → dt.1 (b + 15) (6 * sd + h) = wI (Thp T h) ∧ dt.1 (b + 16) (6 * sd + h) = wI (Tha T h) ∧ dt.1 (b + 17) (6 * sd + h) = wI (Thb T h)
def q_MS (b sd : Nat) (dt : q_Dt) (T : q_Tl) : Prop := ∀ s, s < Tns T → dt.1 (b + 19) (6 * sd + s) = wI (Tsc T s) ∧ dt.1 (b + 20) (6 * sd + s) = wI (Tsa T s) ∧ dt.1 (b + 21) (6 * sd + s) = wI (Tsd T s) ∧ dt.1 (b + 22) (6 * sd + s) = wI (Tst T s) ∧ dt.1 (b + 23) (6 * sd + s) = wI (Tsx T s) ∧ dt.1 (b + 24) (6 * sd + s) = wI (Tsf T s)
def q_ME (b sd : Nat) (dt : q_Dt) (T : q_Tl) : Prop := ∀ e, e < Tne T → dt.1 (b + 26) (6 * sd + e) = wI (Teo T e) ∧ dt.1 (b + 27) (6 * sd + e) = wI (Tel T e) ∧ dt.1 (b + 28) (6 * sd + e) = wI (Tea T e)
def q_MJ (b sd : Nat) (dt : q_Dt) (T : q_Tl) : Prop := ∀ j, j < Tnj T → dt.1 (b + 30) (4 * sd + j) = wI (Tjf T j) ∧ dt.1 (b + 31) (4 * sd + j) = wI (Tjt T j) ∧ dt.1 (b + 32) (4 * sd + j) = wI (Tja T j) ∧ dt.1 (b + 33) (4 * sd + j) = wI (Tje T j)
def q_M (b sd : Nat) (dt : q_Dt) (T : q_Tl) : Prop := q_wf T ∧ q_M0 b sd dt T ∧ q_MC b sd dt T ∧ q_MH b sd dt T ∧ q_MS b sd dt T ∧ q_ME b sd dt T ∧ q_MJ b sd dt T
theorem M_n {b sd : Nat} {dt : q_Dt} {T : q_Tl} (h : q_M b sd dt T) : X12_n (A2 b) dt b = some (wI (TN T)) := by
  obtain ⟨-, ⟨h1, h2, -, -, -, -, -, -, -, h3⟩, -⟩ := h
  simp (disch := omega) only [X12_n, m49, n49, h2, wI_lit, wI_lt, wI_nat, Int.toNat_natCast, h3]
  rw [if_neg (by omega)]
theorem M_in {x a b : Int} (h1 : -2147483648 ≤ x) (h2 : x < 2147483648) (h3 : -2147483648 ≤ a) (h4 : a < 2147483648) (h5 : -2147483648 ≤ b) (h6 : b < 2147483648) : X12_in (wI x) (wI a) (wI b) = some (if a ≤ x ∧ x ≤ b then 1 else 0) := by
  simp (disch := omega) only [X12_in, wI_lt]
  by_cases h : a ≤ x ∧ x ≤ b
  · rw [if_pos h, if_neg (by omega), if_neg (by omega)]
  · rw [if_neg h]
    by_cases h7 : x < a
    · rw [if_pos h7]
    · rw [if_neg h7, if_pos (by omega)]
theorem M_in1 {x a b : Int} (h1 : -2147483648 ≤ x) (h2 : x < 2147483648) (h3 : -2147483648 ≤ a) (h4 : a < 2147483648) (h5 : -2147483648 ≤ b) (h6 : b < 2147483648) (h : a ≤ x ∧ x ≤ b) : X12_in (wI x) (wI a) (wI b) = some 1 := by
  rw [M_in h1 h2 h3 h4 h5 h6, if_pos h]
theorem M_in0 {x a b : Int} (h1 : -2147483648 ≤ x) (h2 : x < 2147483648) (h3 : -2147483648 ≤ a) (h4 : a < 2147483648) (h5 : -2147483648 ≤ b) (h6 : b < 2147483648) (h : ¬ (a ≤ x ∧ x ≤ b)) : X12_in (wI x) (wI a) (wI b) = some 0 := by
  rw [M_in h1 h2 h3 h4 h5 h6, if_neg h]
theorem q_10 : ((1 : Int32) = 0) = False := by simp
theorem q_00 : ((0 : Int32) = 0) = True := by simp
theorem q_01 : ((0 : Int32) = 1) = False := by simp
theorem q_11 : ((1 : Int32) = 1) = True := by simp
theorem M_isCode {b sd : Nat} {dt : q_Dt} {T : q_Tl} (h : q_M b sd dt T) {x : Int} (hx1 : -2147483648 ≤ x) (hx2 : x < 2147483648) : X12_isCode (A2 b) dt b (wI x) = some (if 0 ≤ x ∧ x < Tnc T then 1 else 0) := by
  obtain ⟨⟨hw, -⟩, ⟨h1, h2, h3, -⟩, -⟩ := h
  simp (disch := omega) only [X12_isCode, m24, n24, h2, wI_lit, wI_lt, wI_nat, Int.toNat_natCast, h3, wI_sub, q_b1]
  rw [if_neg (by omega)]
  by_cases hc : 0 ≤ x ∧ x < Tnc T
  · rw [M_in1 (by omega) (by omega) (by omega) (by omega) (by omega) (by omega) (by omega), if_pos hc]; rfl
  · rw [M_in0 (by omega) (by omega) (by omega) (by omega) (by omega) (by omega) (by omega), if_neg hc]; rfl
theorem M_isSender {b sd : Nat} {dt : q_Dt} {T : q_Tl} (h : q_M b sd dt T) {x : Int} (hx1 : -2147483648 ≤ x) (hx2 : x < 2147483648) : X12_isSender (A2 b) dt b (wI x) = some (if 0 ≤ x ∧ x < Tns T then 1 else 0) := by
  obtain ⟨⟨hw, -⟩, ⟨h1, h2, -, -, h3, -⟩, -⟩ := h
  simp (disch := omega) only [X12_isSender, m31, n31, h2, wI_lit, wI_lt, wI_nat, Int.toNat_natCast, h3, wI_sub, q_b1]
  rw [if_neg (by omega)]
  by_cases hc : 0 ≤ x ∧ x < Tns T
  · rw [M_in1 (by omega) (by omega) (by omega) (by omega) (by omega) (by omega) (by omega), if_pos hc]; rfl
  · rw [M_in0 (by omega) (by omega) (by omega) (by omega) (by omega) (by omega) (by omega), if_neg hc]; rfl
theorem M_isHop {b sd : Nat} {dt : q_Dt} {T : q_Tl} (h : q_M b sd dt T) {x : Int} (hx1 : -2147483648 ≤ x) (hx2 : x < 2147483648) : X12_isHop (A2 b) dt b (wI x) = some (if 0 ≤ x ∧ x < Tnh T then 1 else 0) := by
  obtain ⟨⟨hw, -⟩, ⟨h1, h2, -, h3, -⟩, -⟩ := h
  simp (disch := omega) only [X12_isHop, m27, n27, h2, wI_lit, wI_lt, wI_nat, Int.toNat_natCast, h3, wI_sub, q_b1]
  rw [if_neg (by omega)]
  by_cases hc : 0 ≤ x ∧ x < Tnh T
  · rw [M_in1 (by omega) (by omega) (by omega) (by omega) (by omega) (by omega) (by omega), if_pos hc]; rfl
  · rw [M_in0 (by omega) (by omega) (by omega) (by omega) (by omega) (by omega) (by omega), if_neg hc]; rfl
theorem M_isSample {b sd : Nat} {dt : q_Dt} {T : q_Tl} (h : q_M b sd dt T) {x : Int} (hx1 : -2147483648 ≤ x) (hx2 : x < 2147483648) : X12_isSample (A2 b) dt b (wI x) = some (if 0 ≤ x ∧ x < TN T then 1 else 0) := by
  have hn := M_n h
  obtain ⟨⟨hw, -⟩, -⟩ := h
  simp (disch := omega) only [X12_isSample, hn, q_b1, wI_lit, wI_sub]
  by_cases hc : 0 ≤ x ∧ x < TN T
  · rw [M_in1 (by omega) (by omega) (by omega) (by omega) (by omega) (by omega) (by omega), if_pos hc]; rfl
  · rw [M_in0 (by omega) (by omega) (by omega) (by omega) (by omega) (by omega) (by omega), if_neg hc]; rfl
theorem M_long {b sd : Nat} {dt : q_Dt} {T : q_Tl} (h : q_M b sd dt T) {c : Nat} (hc : c < Tnc T) : X12_long0 (A2 b) dt b (wI c) = some (wI (Tlen T c)) := by
  obtain ⟨⟨hw, -⟩, ⟨h1, h2, -⟩, h3, -⟩ := h
  have h4 := (h3 c hc).1
  simp (disch := omega) only [X12_long0, m25, n25, h2, wI_lit, wI_mul, wI_add, ← Int.natCast_mul, ← Int.natCast_add, wI_lt, wI_nat, Int.toNat_natCast, h4]
  rw [if_neg (by omega)]
theorem M_chip {b sd : Nat} {dt : q_Dt} {T : q_Tl} (h : q_M b sd dt T) {c i : Nat} (hc : c < Tnc T) (hi : i < Tlen T c) : X12_chipOf (A2 b) dt b (wI c) (wI i) = some (wI (Tch T c i)) := by
  obtain ⟨⟨hw, hC, -⟩, ⟨h1, h2, -⟩, h3, -⟩ := h
  have h4 := (h3 c hc).2 i hi
  have h5 := (hC c hc).1
  simp (disch := omega) only [X12_chipOf, m26, n26, h2, wI_lit, wI_mul, wI_add, ← Int.natCast_mul, ← Int.natCast_add, wI_lt, wI_nat, Int.toNat_natCast, h4]
  rw [if_neg (by omega)]
theorem M_p {b sd : Nat} {dt : q_Dt} {T : q_Tl} (h : q_M b sd dt T) {c : Nat} (hc : c < Tnh T) : X12_p (A2 b) dt b (wI c) = some (wI (Thp T c)) := by
  obtain ⟨⟨hw, -⟩, ⟨h1, h2, -⟩, -, h3, -⟩ := h
  have h4 := (h3 c hc).1
  simp (disch := omega) only [X12_p, m28, n28, h2, wI_lit, wI_mul, wI_add, ← Int.natCast_mul, ← Int.natCast_add, wI_lt, wI_nat, Int.toNat_natCast, h4]
  rw [if_neg (by omega)]
theorem M_codeOf {b sd : Nat} {dt : q_Dt} {T : q_Tl} (h : q_M b sd dt T) {s : Nat} (hs : s < Tns T) : X12_codeOf (A2 b) dt b (wI s) = some (wI (Tsc T s)) := by
  obtain ⟨⟨hw, -⟩, ⟨h1, h2, -⟩, -, -, h3, -⟩ := h
  have h4 := (h3 s hs).1
  simp (disch := omega) only [X12_codeOf, m32, n32, h2, wI_lit, wI_mul, wI_add, ← Int.natCast_mul, ← Int.natCast_add, wI_lt, wI_nat, Int.toNat_natCast, h4]
  rw [if_neg (by omega)]
/-- a sender's delay at a sample, its period, its turn -/
def q_dl (T : q_Tl) (s i : Nat) : Nat := Tsd T s + i / (Tsf T s * Tlen T (Tsc T s))
def q_per (T : q_Tl) (s i : Nat) : Int := if q_dl T s i ≤ i then ((i - q_dl T s i) / Tlen T (Tsc T s) : Nat) else -1
def q_trn (T : q_Tl) (s i : Nat) : Nat := Tst T s * (i / 8) % 4
def q_sgn (T : q_Tl) (s i : Nat) : Int := if q_dl T s i ≤ i then (if q_trn T s i ≤ 1 then Tch T (Tsc T s) ((i - q_dl T s i) % Tlen T (Tsc T s)) else - Tch T (Tsc T s) ((i - q_dl T s i) % Tlen T (Tsc T s))) else 0
def q_bit (T : q_Tl) (s : Nat) (p : Int) : Nat := Tsx T s / 2 ^ (p % 14).toNat % 2
theorem M_delay {b sd : Nat} {dt : q_Dt} {T : q_Tl} (h : q_M b sd dt T) {s i : Nat} (hs : s < Tns T) (hi : i < 1000000) : X12_delayAt (A2 b) dt b (wI s) (wI i) = some (wI (q_dl T s i)) := by
  have e1 := M_codeOf h hs
  have hS := h.1.2.2.2.1 s hs
  have e2 := M_long h hS.1
  have hC := (h.1.2.1 _ hS.1).1
  obtain ⟨⟨hw, -⟩, ⟨h1, h2, -⟩, -, -, h3, -⟩ := h
  have h4 := (h3 s hs).2.2.1
  have h5 := (h3 s hs).2.2.2.2.2
  have h7 : Tsf T s * Tlen T (Tsc T s) ≤ 99 * 127 := Nat.mul_le_mul (by omega) (by omega)
  simp (disch := omega) only [X12_delayAt, m34, n34, m37, n37, h2, wI_lit, wI_mul, wI_add, ← Int.natCast_mul, ← Int.natCast_add, wI_lt, wI_nat, Int.toNat_natCast, h4, h5, q_o, wI_eq, e1, e2, q_b1]
  rw [if_neg (by omega), if_neg (by omega)]
  unfold q_dl
  by_cases h6 : Tsf T s = 0
  · rw [if_pos (by omega), h6, Nat.zero_mul, Nat.div_zero, Nat.add_zero]
  · have h8 : 0 < Tsf T s * Tlen T (Tsc T s) := Nat.mul_pos (by omega) (by omega)
    rw [if_neg (by omega), if_neg (by omega), wI_div (by omega) (by omega) (by omega) (by omega), ← Int.natCast_ediv, wI_add, ← Int.natCast_add]
theorem q_dl_b {T : q_Tl} (hw : q_wf T) {s i : Nat} (hs : s < Tns T) (hi : i < 1000000) : q_dl T s i ≤ 1000200 := by
  have hS := hw.2.2.2.1 s hs
  have hC := (hw.2.1 _ hS.1).1
  have := Nat.div_le_self i (Tsf T s * Tlen T (Tsc T s))
  unfold q_dl
  omega
theorem M_period {b sd : Nat} {dt : q_Dt} {T : q_Tl} (h : q_M b sd dt T) {s i : Nat} (hs : s < Tns T) (hi : i < 1000000) : X12_periodAt (A2 b) dt b (wI s) (wI i) = some (wI (q_per T s i)) := by
  have e1 := M_codeOf h hs
  have hS := h.1.2.2.2.1 s hs
  have e2 := M_long h hS.1
  have e3 := M_delay h hs hi
  have hC := (h.1.2.1 _ hS.1).1
  have h4 := q_dl_b h.1 hs hi
  simp (disch := omega) only [X12_periodAt, e1, e2, e3, q_b1, wI_sub, wI_lit, wI_le, wI_eq]
  unfold q_per
  by_cases h6 : q_dl T s i ≤ i
  · rw [if_pos (by omega), if_neg (by omega), if_pos h6, ← Int.ofNat_sub h6, wI_div (by omega) (by omega) (by omega) (by omega), ← Int.natCast_ediv]
  · rw [if_neg (by omega), if_neg h6]; rfl
theorem M_turn {b sd : Nat} {dt : q_Dt} {T : q_Tl} (h : q_M b sd dt T) {s i : Nat} (hs : s < Tns T) (hi : i < 1000000) : X12_isIm (A2 b) dt b (wI s) (wI i) = some (wI (q_trn T s i % 2 : Nat)) := by
  have hS := h.1.2.2.2.1 s hs
  obtain ⟨⟨hw, -⟩, ⟨h1, h2, -⟩, -, -, h3, -⟩ := h
  have h4 := (h3 s hs).2.2.2.1
  have e1 := n_turn (t := Tst T s) (i := i) (by omega) hi
  have h5 : Tst T s * (i / 8) % 4 < 4 := Nat.mod_lt _ (by omega)
  simp (disch := omega) only [X12_isIm, m35, n35, h2, wI_lit, wI_mul, wI_add, ← Int.natCast_mul, ← Int.natCast_add, wI_lt, wI_nat, Int.toNat_natCast, h4, e1, q_b1, wI_mod, ← Int.natCast_emod, wI_eq]
  rw [if_neg (by omega)]
  unfold q_trn
  by_cases h6 : Tst T s * (i / 8) % 4 % 2 = 1
  · rw [if_pos (by omega), h6]
  · rw [if_neg (by omega), show Tst T s * (i / 8) % 4 % 2 = 0 by omega]
theorem M_sign {b sd : Nat} {dt : q_Dt} {T : q_Tl} (h : q_M b sd dt T) {s i : Nat} (hs : s < Tns T) (hi : i < 1000000) (hd : q_dl T s i ≤ i) : X12_signAt (A2 b) dt b (wI s) (wI i) = some (wI (q_sgn T s i)) := by
  have e1 := M_codeOf h hs
  have hS := h.1.2.2.2.1 s hs
  have e2 := M_long h hS.1
  have e3 := M_delay h hs hi
  have hC := (h.1.2.1 _ hS.1).1
  have h9 := q_dl_b h.1 hs hi
  have e5 := M_chip h hS.1 (Nat.mod_lt (i - q_dl T s i) (show 0 < Tlen T (Tsc T s) by omega))
  obtain ⟨⟨hw, -⟩, ⟨h1, h2, -⟩, -, -, h3, -⟩ := h
  have h4 := (h3 s hs).2.2.2.1
  have e4 := n_turn (t := Tst T s) (i := i) (by omega) hi
  have h5 : Tst T s * (i / 8) % 4 < 4 := Nat.mod_lt _ (by omega)
  simp (disch := omega) only [X12_signAt, e1, e2, e3, q_b1, wI_sub, ← Int.ofNat_sub, m35, n35, h2, wI_lit, wI_mul, wI_add, ← Int.natCast_mul, ← Int.natCast_add, wI_lt, wI_nat, Int.toNat_natCast, h4, e4, wI_mod, ← Int.natCast_emod, wI_eq, e5, wI_le, wI_neg]
  rw [if_neg (by omega), if_neg (by omega)]
  unfold q_sgn q_trn
  rw [if_pos hd]
  by_cases h6 : Tst T s * (i / 8) % 4 ≤ 1
  · rw [if_neg (by omega), if_pos h6]
  · rw [if_pos (by omega), if_neg h6]
theorem M_data {b sd : Nat} {dt : q_Dt} {T : q_Tl} (h : q_M b sd dt T) {s : Nat} {p : Int} (hs : s < Tns T) (hp0 : 0 ≤ p) (hp : p < 1000000) : X12_dataBit (A2 b) dt b (wI s) (wI p) = some (wI (q_bit T s p)) := by
  have hS := h.1.2.2.2.1 s hs
  obtain ⟨⟨hw, -⟩, ⟨h1, h2, -⟩, -, -, h3, -⟩ := h
  have h4 := (h3 s hs).2.2.2.2.1
  obtain ⟨j, hj⟩ : ∃ j : Nat, p % 14 = j := ⟨(p % 14).toNat, by omega⟩
  have e1 : (14 : Int32) = wI 14 := rfl
  unfold X12_dataBit q_bit
  rw [e1, wI_mod (by omega) (by omega) (by omega) (by omega), hj, Int.toNat_natCast]
  simp (disch := omega) only [m36, n36, h2, wI_lit, wI_mul, wI_add, ← Int.natCast_mul, ← Int.natCast_add, wI_lt, wI_nat, Int.toNat_natCast, h4]
  rw [if_neg (by omega), show wI ((31 : Nat) : Int) = 31 from rfl, wI_shr (by omega) (by omega) (by omega), ← Int.natCast_ediv, show wI ((1 : Nat) : Int) = 1 from rfl, wI_and1]
