/-! level two: rows laid, class and check -/
def kc_s (v : Nat) : Nat → Nat
  | 0 => 0
  | n + 1 => kc_s v n + v / 2 ^ n % 2
theorem kc_s_b (v : Nat) : ∀ n, kc_s v n ≤ n := by
  intro n
  induction n with
  | zero => exact Nat.le_refl _
  | succ n ih =>
    have : kc_s v (n + 1) = kc_s v n + v / 2 ^ n % 2 := rfl
    omega
theorem kc_J {v : Nat} (h : v < 128) : J6_bitCount_0f7a4 (wI v) = some (wI (kc_s v 14)) := by
  have e : ∀ v : Nat, v < 128 → J6_bitCount_0f7a4 (wI v) = some (wI (kc_s v 14)) := by decide +kernel
  exact e v h
theorem k_odd {v : Nat} (hv : v < 2147483648) : X12_odd (wI v) = some (wI (kc_s v 14 % 2 : Nat)) := by
  have hl : ∀ n i k : Nat, i + n = 14 → n < k → X12_odd_b4 (wI v) k (wI (kc_s v i)) (wI i) = some (wI (kc_s v 14 % 2 : Nat)) := by
    intro n
    induction n with
    | zero =>
      intro i k z1 z2 
      obtain ⟨k, rfl⟩ : ∃ m, k = m + 1 := ⟨k - 1, by omega⟩
      have e : i = 14 := by omega
      rw [X12_odd_b4.eq_2, e, show (14 : Int32) = wI (14 : Nat) from rfl, show (2 : Int32) = wI (2 : Nat) from rfl]
      have hb := kc_s_b v 14
      rw [if_pos (by rw [wI_le (by omega) (by omega) (by omega) (by omega)]; omega), wI_mod (by omega) (by omega) (by omega) (by omega), ← Int.natCast_emod]
    | succ n ih =>
      intro i k z1 z2 
      obtain ⟨k, rfl⟩ : ∃ m, k = m + 1 := ⟨k - 1, by omega⟩
      have hi : i < 14 := by omega
      have hih := ih (i + 1) k (by omega) (by omega)
      have hb := kc_s_b v i
      rw [X12_odd_b4.eq_2, show (14 : Int32) = wI (14 : Nat) from rfl, wI_bit hv (show i < 32 by omega), show wI i + 1 = wI (i + 1 : Nat) from wI_add i 1, if_neg (by rw [wI_le (by omega) (by omega) (by omega) (by omega)]; omega)]
      simp only [o1s]
      rw [wI_add, ← Int.natCast_add]
      exact hih
  exact hl 14 0 q_FU (by omega) (by unfold q_FU; omega)
def kc_st (n taps start : Nat) : Nat → Nat
  | 0 => start
  | i + 1 => kc_st n taps start i / 2 ||| kc_s (kc_st n taps start i &&& taps) 14 % 2 * 2 ^ (n - 1)
theorem kc_st_b {n taps start : Nat} (hn : 1 ≤ n) (hs : start < 2 ^ n) : ∀ i, kc_st n taps start i < 2 ^ n := by
  intro i
  induction i with
  | zero => exact hs
  | succ i ih =>
    have e2 : (2 : Nat) ^ n = 2 * 2 ^ (n - 1) := by
      rw [← Nat.pow_succ', show (n - 1).succ = n by omega]
    have h1 : kc_st n taps start i / 2 < 2 ^ n := by omega
    have h3 := Nat.mod_lt (kc_s (kc_st n taps start i &&& taps) 14) (show 0 < 2 by omega)
    have h2 : kc_s (kc_st n taps start i &&& taps) 14 % 2 * 2 ^ (n - 1) < 2 ^ n := by
      have h4 : kc_s (kc_st n taps start i &&& taps) 14 % 2 * 2 ^ (n - 1) ≤ 1 * 2 ^ (n - 1) := Nat.mul_le_mul_right _ (by omega)
      have h5 := Nat.two_pow_pos (n - 1)
      omega
    exact Nat.or_lt_two_pow h1 h2
def kc_sg (z : Nat) : Int := if z % 2 = 1 then -1 else 1
theorem kc_sg_2 (z : Nat) : kc_sg z = 1 ∨ kc_sg z = -1 := by
  unfold kc_sg
  by_cases g : z % 2 = 1
  · rw [if_pos g]; exact Or.inr rfl
  · rw [if_neg g]; exact Or.inl rfl
def kc_rg (n taps start i : Nat) : Int := kc_sg (kc_st n taps start i)
def kc_wa (r i : Nat) : Int := kc_sg (kc_s (i &&& r) 14)
def kc_bi (v i : Nat) : Int := kc_sg (v / 2 ^ i)
def kc_bo (c1 c2 : Nat → Int) (L s i : Nat) : Int := c1 i * c2 ((i + s) % L)
theorem wI_shp {p c : Nat} (hp : p < 2) (hc : c < 31) : wI p <<< (wI c &&& 31) = wI (p * 2 ^ c : Nat) := by
  have e : ∀ p : Nat, p < 2 → ∀ c : Nat, c < 31 → wI p <<< (wI c &&& 31) = wI (p * 2 ^ c : Nat) := by decide +kernel
  exact e p hp c hc
theorem wI_sh1 {s : Nat} (hs : s < 2147483648) : wI s >>> ((1 : Int32) &&& 31) = wI (s / 2 : Nat) := by
  have h := wI_shr (a := (s : Int)) (s := 1) (by omega) (by omega) (by omega)
  exact h
theorem kc_next {n st p : Nat} (hn : 1 ≤ n ∧ n ≤ 7) (hs : st < 2147483648) (hp : p < 2) : (wI st >>> ((1 : Int32) &&& 31)) ||| (wI p <<< ((wI n - 1) &&& 31)) = wI (st / 2 ||| p * 2 ^ (n - 1) : Nat) := by
  have e : wI n - 1 = wI (n - 1 : Nat) := by
    rw [show (1 : Int32) = wI 1 from rfl, wI_sub]
    congr 1
    omega
  rw [wI_sh1 hs, e, wI_shp hp (by omega), wI_or]
theorem wI_2n {n : Nat} (hn : n < 31) : (1 : Int32) <<< (wI n &&& 31) - 1 = wI ((2 ^ n : Nat) - 1 : Int) := by
  rw [wI_shl (by omega), show (1 : Int32) = wI 1 from rfl, wI_sub]
theorem y_bit {b t c i z : Nat} {d : q_Dt} (ht : t = b + 77 ∨ t = b + 149) (hc : c < 8) (hi : i < 127) : X0_putBit (A1 b) d (t + 12 + 3 * c) (wI i) (wI z) = some (q_pJ d (t + 14 + 3 * c) i (wJ (kc_sg z))) := by
  unfold X0_putBit X0_putBit_b19 kc_sg
  rw [tc_1 ht hc, wI_and1, r_put (tc_2 ht hc) (tc_l0 ht hc) (by omega) hi, r_put (tc_2 ht hc) (tc_l0 ht hc) (by omega) hi]
  simp only [b1s]
  have e : (wI ((z % 2 : Nat) : Int) = 1) = (z % 2 = 1) := by
    rw [show (1 : Int32) = wI (1 : Nat) from rfl, wI_eq (by omega) (by omega) (by omega) (by omega)]
    exact propext ⟨fun q => by omega, fun q => by omega⟩
  simp only [e]
  by_cases g : z % 2 = 1
  · rw [if_pos g, if_pos g]; rfl
  · rw [if_neg g, if_neg g]; rfl
/-- a row laid by the class -/
def kc_L1 (d : q_Dt) (t c len : Nat) (ch : Nat → Int) : q_Dt := q_row (q_pI d (t + 12 + 3 * c) 1 (wI len)) (t + 14 + 3 * c) len (fun i => wJ (ch i))
theorem kc_L1_len {d : q_Dt} {t c len n : Nat} {f : Nat → Int64} : (q_row (q_pI d (t + 12 + 3 * c) 1 (wI len)) (t + 14 + 3 * c) n f).1 (t + 12 + 3 * c) 1 = wI len := by
  show (q_pI d (t + 12 + 3 * c) 1 (wI len)).1 (t + 12 + 3 * c) 1 = wI len
  rw [q_pI_s]
theorem y_reg {b t c w taps start : Nat} {d : q_Dt} (ht : t = b + 77 ∨ t = b + 149) (hc : c < 8) (hn : 1 ≤ w ∧ w ≤ 7) (hta : taps < 2 ^ w) (hs : start < 2 ^ w) : X0_layRegister (A1 b) d (t + 12 + 3 * c) (wI w) (wI taps) (wI start) = some (kc_L1 d t c (2 ^ w - 1) (kc_rg w taps start)) := by
  have h7 : (2 : Nat) ^ w ≤ 2 ^ 7 := Nat.pow_le_pow_right (by omega) hn.2
  have hp := Nat.two_pow_pos w
  obtain ⟨L, hL⟩ : ∃ L, L = 2 ^ w - 1 := ⟨_, rfl⟩
  have hL7 : L ≤ 127 := by omega
  rw [← hL]
  have ef : ∀ i, wJ (kc_sg (kc_st w taps start i)) = (fun i => wJ (kc_rg w taps start i)) i := fun i => rfl
  have hl : ∀ n i k : Nat, i + n = L → n < k → X0_layRegister_b15 (A1 b) (t + 12 + 3 * c) (wI w) (wI taps) k (wI (kc_st w taps start i)) (wI i) (q_row (q_pI d (t + 12 + 3 * c) 1 (wI L)) (t + 14 + 3 * c) i (fun i => wJ (kc_rg w taps start i))) = some (kc_L1 d t c L (kc_rg w taps start)) := by
    intro n
    induction n with
    | zero =>
      intro i k z1 z2 
      obtain ⟨k, rfl⟩ : ∃ m, k = m + 1 := ⟨k - 1, by omega⟩
      have e : i = L := by omega
      rw [X0_layRegister_b15.eq_2, kc_L1_len, if_pos (by rw [wI_le (by omega) (by omega) (by omega) (by omega)]; omega), e]
      rfl
    | succ n ih =>
      intro i k z1 z2 
      obtain ⟨k, rfl⟩ : ∃ m, k = m + 1 := ⟨k - 1, by omega⟩
      have hi : i < L := by omega
      have hih := ih (i + 1) k (by omega) (by omega)
      have hb := kc_st_b (taps := taps) hn.1 hs i
      have hand : kc_st w taps start i &&& taps < 128 := Nat.lt_of_le_of_lt Nat.and_le_right (by omega)
      have hm := Nat.mod_lt (kc_s (kc_st w taps start i &&& taps) 14) (show 0 < 2 by omega)
      rw [X0_layRegister_b15.eq_2, kc_L1_len, if_neg (by rw [wI_le (by omega) (by omega) (by omega) (by omega)]; omega), y_bit ht hc (by omega), wI_and, kc_J hand]
      simp only [b1s, o1s]
      rw [wI_and1, kc_next hn (by omega) hm, show wI i + 1 = wI (i + 1 : Nat) from wI_add i 1, ef, q_row_s]
      exact hih
  have h0 := hl L 0 q_FU (by omega) (by unfold q_FU; omega)
  rw [q_row_0] at h0
  unfold X0_layRegister
  simp only [o1s]
  rw [wI_2n (by omega), show ((2 ^ w : Nat) - 1 : Int) = (L : Int) by omega]
  exact h0
theorem y_wal {b t c n r : Nat} {d : q_Dt} (ht : t = b + 77 ∨ t = b + 149) (hc : c < 8) (hn : 1 ≤ n ∧ n ≤ 6) (hr : r < 128) : X0_layWalsh (A1 b) d (t + 12 + 3 * c) (wI n) (wI r) = some (kc_L1 d t c (2 ^ n) (kc_wa r)) := by
  have h7 : (2 : Nat) ^ n ≤ 2 ^ 6 := Nat.pow_le_pow_right (by omega) hn.2
  obtain ⟨L, hL⟩ : ∃ L, L = 2 ^ n := ⟨_, rfl⟩
  rw [← hL] at h7 ⊢
  have ef : ∀ i, wJ (kc_sg (kc_s (i &&& r) 14)) = (fun i => wJ (kc_wa r i)) i := fun i => rfl
  have hl : ∀ n i k : Nat, i + n = L → n < k → X0_layWalsh_b9 (A1 b) (t + 12 + 3 * c) (wI r) k (wI i) (q_row (q_pI d (t + 12 + 3 * c) 1 (wI L)) (t + 14 + 3 * c) i (fun i => wJ (kc_wa r i))) = some (kc_L1 d t c L (kc_wa r)) := by
    intro n
    induction n with
    | zero =>
      intro i k z1 z2 
      obtain ⟨k, rfl⟩ : ∃ m, k = m + 1 := ⟨k - 1, by omega⟩
      have e : i = L := by omega
      rw [X0_layWalsh_b9.eq_2, kc_L1_len, if_pos (by rw [wI_le (by omega) (by omega) (by omega) (by omega)]; omega), e]
      rfl
    | succ n ih =>
      intro i k z1 z2 
      obtain ⟨k, rfl⟩ : ∃ m, k = m + 1 := ⟨k - 1, by omega⟩
      have hi : i < L := by omega
      have hih := ih (i + 1) k (by omega) (by omega)
      have hand : i &&& r < 128 := Nat.lt_of_le_of_lt Nat.and_le_right (by omega)
      rw [X0_layWalsh_b9.eq_2, kc_L1_len, if_neg (by rw [wI_le (by omega) (by omega) (by omega) (by omega)]; omega), wI_and, kc_J hand]
      simp only [b1s]
      rw [y_bit ht hc (by omega)]
      simp only [b1s]
      rw [show wI i + 1 = wI (i + 1 : Nat) from wI_add i 1, ef, q_row_s]
      exact hih
  have h0 := hl L 0 q_FU (by omega) (by unfold q_FU; omega)
  rw [q_row_0] at h0
  unfold X0_layWalsh
  simp only [o1s]
  rw [wI_shl (by omega), ← hL]
  exact h0
theorem y_bits {b t c w v : Nat} {d : q_Dt} (ht : t = b + 77 ∨ t = b + 149) (hc : c < 8) (hn : w ≤ 13) (hv : v < 2147483648) : X0_layBits (A1 b) d (t + 12 + 3 * c) (wI w) (wI v) = some (kc_L1 d t c w (kc_bi v)) := by
  have ef : ∀ i, wJ (kc_sg (v / 2 ^ i)) = (fun i => wJ (kc_bi v i)) i := fun i => rfl
  have hl : ∀ n i k : Nat, i + n = w → n < k → X0_layBits_b7 (A1 b) (t + 12 + 3 * c) (wI v) k (wI i) (q_row (q_pI d (t + 12 + 3 * c) 1 (wI w)) (t + 14 + 3 * c) i (fun i => wJ (kc_bi v i))) = some (kc_L1 d t c w (kc_bi v)) := by
    intro n
    induction n with
    | zero =>
      intro i k z1 z2 
      obtain ⟨k, rfl⟩ : ∃ m, k = m + 1 := ⟨k - 1, by omega⟩
      have e : i = w := by omega
      rw [X0_layBits_b7.eq_2, kc_L1_len, if_pos (by rw [wI_le (by omega) (by omega) (by omega) (by omega)]; omega), e]
      rfl
    | succ n ih =>
      intro i k z1 z2 
      obtain ⟨k, rfl⟩ : ∃ m, k = m + 1 := ⟨k - 1, by omega⟩
      have hi : i < w := by omega
      have hih := ih (i + 1) k (by omega) (by omega)
      rw [X0_layBits_b7.eq_2, kc_L1_len, if_neg (by rw [wI_le (by omega) (by omega) (by omega) (by omega)]; omega), wI_shr (by omega) (by omega) (by omega), ← Int.natCast_ediv, y_bit ht hc (by omega)]
      simp only [b1s]
      rw [show wI i + 1 = wI (i + 1 : Nat) from wI_add i 1, ef, q_row_s]
      exact hih
  have h0 := hl w 0 q_FU (by omega) (by unfold q_FU; omega)
  rw [q_row_0] at h0
  unfold X0_layBits
  simp only [o1s]
  rw [show (0 : Int32) = wI ((0 : Nat) : Int) from rfl]
  exact h0
theorem q_Code_k {al : q_Al} {d e : q_Dt} {c L : Nat} {ch : Nat → Int} (h : q_Code al d c L ch) (h1 : e.1 c 1 = d.1 c 1) (h2 : e.2.1 (al.2.2 (al.2.2 c 0) 0) = d.2.1 (al.2.2 (al.2.2 c 0) 0)) : q_Code al e c L ch := by
  unfold q_Code at h ⊢
  rw [h1, h2]
  exact h
theorem y_both {b t c x1 x2 L1 L2 s : Nat} {c1 c2 : Nat → Int} {d : q_Dt} (ht : t = b + 77 ∨ t = b + 149) (hc : c < 8) (hx1 : x1 < 8) (hx2 : x2 < 8) (n1 : x1 ≠ c) (n2 : x2 ≠ c) (h1 : q_Code (A1 b) d (t + 12 + 3 * x1) L1 c1) (h2 : q_Code (A1 b) d (t + 12 + 3 * x2) L2 c2) (hs : s < 10000) : X0_layBoth (A1 b) d (t + 12 + 3 * c) (t + 12 + 3 * x1) (t + 12 + 3 * x2) (wI s) = some (kc_L1 d t c L1 (kc_bo c1 c2 L2 s)) := by
  have hL1 := h1.2.2.1
  have hL2 := h2.2.2.1
  have ef : ∀ i, wJ (c1 i * c2 ((i + s) % L2)) = (fun i => wJ (kc_bo c1 c2 L2 s i)) i := fun i => rfl
  have hq : ∀ i f, q_Code (A1 b) (q_row (q_pI d (t + 12 + 3 * c) 1 (wI L1)) (t + 14 + 3 * c) i f) (t + 12 + 3 * x1) L1 c1 ∧ q_Code (A1 b) (q_row (q_pI d (t + 12 + 3 * c) 1 (wI L1)) (t + 14 + 3 * c) i f) (t + 12 + 3 * x2) L2 c2 := by
    intro i f
    refine ⟨q_Code_k h1 ?_ ?_, q_Code_k h2 ?_ ?_⟩
    · exact congrFun (q_pI_o (show t + 12 + 3 * x1 ≠ t + 12 + 3 * c by omega)) 1
    · rw [tc_1 ht hx1, tc_2 ht hx1]
      exact q_row_o (show t + 14 + 3 * x1 ≠ t + 14 + 3 * c by omega)
    · exact congrFun (q_pI_o (show t + 12 + 3 * x2 ≠ t + 12 + 3 * c by omega)) 1
    · rw [tc_1 ht hx2, tc_2 ht hx2]
      exact q_row_o (show t + 14 + 3 * x2 ≠ t + 14 + 3 * c by omega)
  have hl : ∀ n i k : Nat, i + n = L1 → n < k → X0_layBoth_b11 (A1 b) (t + 12 + 3 * c) (t + 12 + 3 * x1) (t + 12 + 3 * x2) (wI s) k (wI i) (q_row (q_pI d (t + 12 + 3 * c) 1 (wI L1)) (t + 14 + 3 * c) i (fun i => wJ (kc_bo c1 c2 L2 s i))) = some (kc_L1 d t c L1 (kc_bo c1 c2 L2 s)) := by
    intro n
    induction n with
    | zero =>
      intro i k z1 z2 
      obtain ⟨k, rfl⟩ : ∃ m, k = m + 1 := ⟨k - 1, by omega⟩
      have e : i = L1 := by omega
      rw [X0_layBoth_b11.eq_2, kc_L1_len, if_pos (by rw [wI_le (by omega) (by omega) (by omega) (by omega)]; omega), e]
      rfl
    | succ n ih =>
      intro i k z1 z2 
      obtain ⟨k, rfl⟩ : ∃ m, k = m + 1 := ⟨k - 1, by omega⟩
      have hi : i < L1 := by omega
      have hih := ih (i + 1) k (by omega) (by omega)
      have hq2 := hq i (fun i => wJ (kc_bo c1 c2 L2 s i))
      have hm := Nat.mod_lt (i + s) (show 0 < L2 by omega)
      have hv1 := h1.2.2.2.2 i hi
      have hv2 := h2.2.2.2.2 ((i + s) % L2) hm
      rw [X0_layBoth_b11.eq_2, kc_L1_len, if_neg (by rw [wI_le (by omega) (by omega) (by omega) (by omega)]; omega), c_round hq2.1 (by omega) (by omega)]
      simp only [b1s]
      rw [wI_add, c_round hq2.2 (by omega) (by omega), show ((i : Int) % (L1 : Int)).toNat = i by rw [Int.emod_eq_of_lt (by omega) (by omega)]; omega, show (((i : Int) + (s : Int)) % (L2 : Int)).toNat = (i + s) % L2 by rw [← Int.natCast_add, ← Int.natCast_emod]; rfl]
      simp only [b1s]
      have hpb : -1 ≤ c1 i * c2 ((i + s) % L2) ∧ c1 i * c2 ((i + s) % L2) ≤ 1 := by
        rcases hv1 with hv1 | hv1 <;> rcases hv2 with hv2 | hv2 <;> rw [hv1, hv2] <;> decide
      rw [wI_mul, wI_wJ (by omega) (by omega), tc_1 ht hc, r_put (tc_2 ht hc) (tc_l0 ht hc) (by omega) (by omega)]
      simp only [b1s]
      rw [show wI i + 1 = wI (i + 1 : Nat) from wI_add i 1, ef, q_row_s]
      exact hih
  have h0 := hl L1 0 q_FU (by omega) (by unfold q_FU; omega)
  rw [q_row_0] at h0
  unfold X0_layBoth
  simp only [o1s]
  rw [h1.2.1]
  exact h0
/-! the check's -/
def kc_L2 (b : Nat) (d : q_Dt) (i len : Nat) (ch : Nat → Int) : q_Dt := q_irow (q_pI d (b + 12) i (wI len)) (b + 13) (128 * i) len (fun k => wI (ch k))
theorem kc_L2_len {b : Nat} {d : q_Dt} {i len n o : Nat} {f : Nat → Int32} : (q_irow (q_pI d (b + 12) i (wI len)) (b + 13) o n f).1 (b + 12) i = wI len := by
  rw [q_irow_o (by omega), q_pI_s]
theorem kc_put {b i k len : Nat} {d : q_Dt} {ch : Nat → Int} : q_pI (q_irow d (b + 13) (128 * i) k (fun k => wI (ch k))) (b + 13) (128 * i + k) (wI (ch k)) = q_irow d (b + 13) (128 * i) (k + 1) (fun k => wI (ch k)) := q_irow_s d (b + 13) (128 * i) k (fun k => wI (ch k))
theorem kc_ix {i k : Nat} : 128 * wI i + wI k = wI (128 * i + k : Nat) := by
  rw [show (128 : Int32) = wI (128 : Nat) from rfl, wI_mul, wI_add]
  rfl
theorem kc_e1 {z : Nat} : (wI ((z % 2 : Nat) : Int) = 1) = (z % 2 = 1) := by
  rw [show (1 : Int32) = wI (1 : Nat) from rfl, wI_eq (by omega) (by omega) (by omega) (by omega)]
  exact propext ⟨fun q => by omega, fun q => by omega⟩
theorem k_reg {b i w taps start : Nat} {d : q_Dt} (hi16 : i < 16) (hn : 1 ≤ w ∧ w ≤ 7) (hta : taps < 2 ^ w) (hs : start < 2 ^ w) : X12_makesRegister (A2 b) d b (wI i) (wI w) (wI taps) (wI start) = some (kc_L2 b d i (2 ^ w - 1) (kc_rg w taps start)) := by
  have h7 : (2 : Nat) ^ w ≤ 2 ^ 7 := Nat.pow_le_pow_right (by omega) hn.2
  have hp := Nat.two_pow_pos w
  obtain ⟨L, hL⟩ : ∃ L, L = 2 ^ w - 1 := ⟨_, rfl⟩
  have hL7 : L ≤ 127 := by omega
  rw [← hL]
  obtain ⟨x, hx⟩ : ∃ x, x = i := ⟨_, rfl⟩
  rw [← hx] at hi16 ⊢
  have hl : ∀ n i k : Nat, i + n = L → n < k → X12_makesRegister_b18 (A2 b) b (wI x) (wI w) (wI taps) k (wI (kc_st w taps start i)) (wI i) (q_irow (q_pI d (b + 12) x (wI L)) (b + 13) (128 * x) i (fun k => wI (kc_rg w taps start k))) = some (kc_L2 b d x L (kc_rg w taps start)) := by
    intro n
    induction n with
    | zero =>
      intro i k z1 z2 
      obtain ⟨k, rfl⟩ : ∃ m, k = m + 1 := ⟨k - 1, by omega⟩
      have e : i = L := by omega
      rw [X12_makesRegister_b18.eq_2, m25, n25]
      simp (disch := omega) only [wI_lit, wI_lt, wI_nat, Int.toNat_natCast, kc_L2_len, wI_le]
      rw [if_neg (by omega), if_pos (by omega), e]
      rfl
    | succ n ih =>
      intro i k z1 z2 
      obtain ⟨k, rfl⟩ : ∃ m, k = m + 1 := ⟨k - 1, by omega⟩
      have hi : i < L := by omega
      have hih := ih (i + 1) k (by omega) (by omega)
      have hb := kc_st_b (taps := taps) hn.1 hs i
      have hm := Nat.mod_lt (kc_s (kc_st w taps start i &&& taps) 14) (show 0 < 2 by omega)
      have hle : kc_st w taps start i &&& taps ≤ taps := Nat.and_le_right
      have hput : ∀ z : Int, z = kc_rg w taps start i → X12_makesRegister_b54 (A2 b) (X12_makesRegister_b18 (A2 b) b (wI x) (wI w) (wI taps) k) b (wI x) (wI w) (wI taps) (wI (kc_st w taps start i)) (wI i) (b + 13) (128 * wI x + wI i) (wI z) (q_irow (q_pI d (b + 12) x (wI L)) (b + 13) (128 * x) i (fun k => wI (kc_rg w taps start k))) = some (kc_L2 b d x L (kc_rg w taps start)) := by
        intro z hz
        unfold X12_makesRegister_b54
        rw [kc_ix, n26, wI_and, k_odd (by omega), hz]
        simp (disch := omega) only [wI_lt, wI_nat, Int.toNat_natCast, o1s, b1s]
        rw [kc_put (len := L), kc_next hn (by omega) hm, show wI i + 1 = wI (i + 1 : Nat) from wI_add i 1, if_neg (by rw [show (0 : Int32) = wI (0 : Nat) from rfl, wI_lt (by omega) (by omega) (by omega) (by omega)]; omega)]
        exact hih
      rw [X12_makesRegister_b18.eq_2, m25, n25, m26, wI_and1]
      simp (disch := omega) only [wI_lt, wI_nat, Int.toNat_natCast, kc_L2_len, wI_le, kc_e1]
      rw [if_neg (by rw [show (0 : Int32) = wI (0 : Nat) from rfl, wI_lt (by omega) (by omega) (by omega) (by omega)]; omega), if_neg (by omega)]
      by_cases g : kc_st w taps start i % 2 = 1
      · rw [if_pos g]
        exact hput (-1) (by unfold kc_rg kc_sg; rw [if_pos g])
      · rw [if_neg g]
        exact hput 1 (by unfold kc_rg kc_sg; rw [if_neg g])
  have h0 := hl L 0 q_FU (by omega) (by unfold q_FU; omega)
  rw [q_irow_0] at h0
  unfold X12_makesRegister
  rw [m25, n25, wI_2n (by omega), show ((2 ^ w : Nat) - 1 : Int) = (L : Int) by omega]
  simp (disch := omega) only [wI_nat, Int.toNat_natCast, o1s]
  rw [if_neg (by rw [show (0 : Int32) = wI (0 : Nat) from rfl, wI_lt (by omega) (by omega) (by omega) (by omega)]; omega)]
  exact h0
theorem k_wal {b x n r : Nat} {d : q_Dt} (hi16 : x < 16) (hn : 1 ≤ n ∧ n ≤ 6) (hr : r < 128) : X12_makesHalves (A2 b) d b (wI x) (wI n) (wI r) = some (kc_L2 b d x (2 ^ n) (kc_wa r)) := by
  have h7 : (2 : Nat) ^ n ≤ 2 ^ 6 := Nat.pow_le_pow_right (by omega) hn.2
  obtain ⟨L, hL⟩ : ∃ L, L = 2 ^ n := ⟨_, rfl⟩
  rw [← hL] at h7 ⊢
  have hl : ∀ n i k : Nat, i + n = L → n < k → X12_makesHalves_b12 (A2 b) b (wI x) (wI r) k (wI i) (q_irow (q_pI d (b + 12) x (wI L)) (b + 13) (128 * x) i (fun k => wI (kc_wa r k))) = some (kc_L2 b d x L (kc_wa r)) := by
    intro n
    induction n with
    | zero =>
      intro i k z1 z2 
      obtain ⟨k, rfl⟩ : ∃ m, k = m + 1 := ⟨k - 1, by omega⟩
      have e : i = L := by omega
      rw [X12_makesHalves_b12.eq_2, m25, n25]
      simp (disch := omega) only [wI_lit, wI_lt, wI_nat, Int.toNat_natCast, kc_L2_len, wI_le]
      rw [if_neg (by omega), if_pos (by omega), e]
      rfl
    | succ n ih =>
      intro i k z1 z2 
      obtain ⟨k, rfl⟩ : ∃ m, k = m + 1 := ⟨k - 1, by omega⟩
      have hi : i < L := by omega
      have hih := ih (i + 1) k (by omega) (by omega)
      have hle : i &&& r ≤ r := Nat.and_le_right
      have hput : ∀ z : Int, z = kc_wa r i → X12_makesHalves_b51 (A2 b) (X12_makesHalves_b12 (A2 b) b (wI x) (wI r) k) b (wI x) (wI r) (wI i) (b + 13) (128 * wI x + wI i) (wI z) (q_irow (q_pI d (b + 12) x (wI L)) (b + 13) (128 * x) i (fun k => wI (kc_wa r k))) = some (kc_L2 b d x L (kc_wa r)) := by
        intro z hz
        unfold X12_makesHalves_b51
        rw [kc_ix, n26, hz]
        simp (disch := omega) only [wI_nat, Int.toNat_natCast, o1s]
        rw [kc_put (len := L), show wI i + 1 = wI (i + 1 : Nat) from wI_add i 1, if_neg (by rw [show (0 : Int32) = wI (0 : Nat) from rfl, wI_lt (by omega) (by omega) (by omega) (by omega)]; omega)]
        exact hih
      rw [X12_makesHalves_b12.eq_2, m25, n25, m26, wI_and, k_odd (by omega)]
      simp (disch := omega) only [wI_nat, Int.toNat_natCast, kc_L2_len, wI_le, b1s, kc_e1]
      rw [if_neg (by rw [show (0 : Int32) = wI (0 : Nat) from rfl, wI_lt (by omega) (by omega) (by omega) (by omega)]; omega), if_neg (by omega)]
      by_cases g : kc_s (i &&& r) 14 % 2 = 1
      · rw [if_pos g]
        exact hput (-1) (by unfold kc_wa kc_sg; rw [if_pos g])
      · rw [if_neg g]
        exact hput 1 (by unfold kc_wa kc_sg; rw [if_neg g])
  have h0 := hl L 0 q_FU (by omega) (by unfold q_FU; omega)
  rw [q_irow_0] at h0
  unfold X12_makesHalves
  rw [m25, n25, wI_shl (by omega), ← hL]
  simp (disch := omega) only [wI_nat, Int.toNat_natCast, o1s]
  rw [if_neg (by rw [show (0 : Int32) = wI (0 : Nat) from rfl, wI_lt (by omega) (by omega) (by omega) (by omega)]; omega)]
  exact h0
theorem k_bits {b x L v : Nat} {d : q_Dt} (hi16 : x < 16) (hn : L ≤ 13) (hv : v < 2147483648) : X12_makesBits (A2 b) d b (wI x) (wI L) (wI v) = some (kc_L2 b d x L (kc_bi v)) := by
  have hl : ∀ n i k : Nat, i + n = L → n < k → X12_makesBits_b10 (A2 b) b (wI x) (wI L) (wI v) k (wI i) (q_irow (q_pI d (b + 12) x (wI L)) (b + 13) (128 * x) i (fun k => wI (kc_bi v k))) = some (kc_L2 b d x L (kc_bi v)) := by
    intro n
    induction n with
    | zero =>
      intro i k z1 z2 
      obtain ⟨k, rfl⟩ : ∃ m, k = m + 1 := ⟨k - 1, by omega⟩
      have e : i = L := by omega
      rw [X12_makesBits_b10.eq_2]
      simp (disch := omega) only [wI_le]
      rw [if_pos (by omega), e]
      rfl
    | succ n ih =>
      intro i k z1 z2 
      obtain ⟨k, rfl⟩ : ∃ m, k = m + 1 := ⟨k - 1, by omega⟩
      have hi : i < L := by omega
      have hih := ih (i + 1) k (by omega) (by omega)
      have hput : ∀ z : Int, z = kc_bi v i → X12_makesBits_b43 (A2 b) (X12_makesBits_b10 (A2 b) b (wI x) (wI L) (wI v) k) b (wI x) (wI L) (wI v) (wI i) (b + 13) (128 * wI x + wI i) (wI z) (q_irow (q_pI d (b + 12) x (wI L)) (b + 13) (128 * x) i (fun k => wI (kc_bi v k))) = some (kc_L2 b d x L (kc_bi v)) := by
        intro z hz
        unfold X12_makesBits_b43
        rw [kc_ix, n26, hz]
        simp (disch := omega) only [wI_nat, Int.toNat_natCast, o1s]
        rw [kc_put (len := L), show wI i + 1 = wI (i + 1 : Nat) from wI_add i 1, if_neg (by rw [show (0 : Int32) = wI (0 : Nat) from rfl, wI_lt (by omega) (by omega) (by omega) (by omega)]; omega)]
        exact hih
      have e1 : q_bt v i = v / 2 ^ i % 2 := rfl
      rw [X12_makesBits_b10.eq_2, m26, wI_bit hv (by omega), e1]
      simp (disch := omega) only [wI_le, kc_e1]
      rw [if_neg (by omega)]
      by_cases g : v / 2 ^ i % 2 = 1
      · rw [if_pos g]
        exact hput (-1) (by unfold kc_bi kc_sg; rw [if_pos g])
      · rw [if_neg g]
        exact hput 1 (by unfold kc_bi kc_sg; rw [if_neg g])
  have h0 := hl L 0 q_FU (by omega) (by unfold q_FU; omega)
  rw [q_irow_0] at h0
  unfold X12_makesBits
  rw [m25, n25]
  simp (disch := omega) only [wI_nat, Int.toNat_natCast, o1s]
  rw [if_neg (by rw [show (0 : Int32) = wI (0 : Nat) from rfl, wI_lt (by omega) (by omega) (by omega) (by omega)]; omega)]
  exact h0
