/-! level two: quotients and bits -/
theorem wI_div {a b : Int} (h1 : 0 ≤ a) (h2 : a < 2147483648) (h3 : 0 < b) (h4 : b < 2147483648) : wI a / wI b = wI (a / b) := by
  have ha : wI a ≠ Int32.minValue := by
    intro h
    have := congrArg Int32.toInt h
    rw [wI_toInt (by omega) (by omega), Int32.toInt_minValue] at this
    omega
  have h5 := Int.ediv_nonneg h1 (Int.le_of_lt h3)
  have h6 := Int.ediv_le_self b h1
  rw [← Int32.toInt_inj, Int32.toInt_div_of_ne_left _ _ ha, wI_toInt (by omega) (by omega), wI_toInt (by omega) (by omega), wI_toInt (by omega) (by omega), Int.tdiv_eq_ediv_of_nonneg h1]
theorem wJ_div {a b : Int} (h1 : 0 ≤ a) (h2 : a < 9223372036854775808) (h3 : 0 < b) (h4 : b < 9223372036854775808) : wJ a / wJ b = wJ (a / b) := by
  have ha : wJ a ≠ Int64.minValue := by
    intro h
    have := congrArg Int64.toInt h
    rw [wJ_toInt (by omega) (by omega), Int64.toInt_minValue] at this
    omega
  have h5 := Int.ediv_nonneg h1 (Int.le_of_lt h3)
  have h6 := Int.ediv_le_self b h1
  rw [← Int64.toInt_inj, Int64.toInt_div_of_ne_left _ _ ha, wJ_toInt (by omega) (by omega), wJ_toInt (by omega) (by omega), wJ_toInt (by omega) (by omega), Int.tdiv_eq_ediv_of_nonneg h1]
theorem wI_mod {a b : Int} (h1 : 0 ≤ a) (h2 : a < 2147483648) (h3 : 0 < b) (h4 : b < 2147483648) : q_ir (wI a) (wI b) = wI (a % b) := by
  rw [wI_ir (by omega) h2 h3 h4, Int.tmod_eq_emod_of_nonneg h1]
theorem wJ_mod {a b : Int} (h1 : 0 ≤ a) (h2 : a < 9223372036854775808) (h3 : 0 < b) (h4 : b < 9223372036854775808) : q_lr (wJ a) (wJ b) = wJ (a % b) := by
  rw [wJ_lr (by omega) h2 h3 h4, Int.tmod_eq_emod_of_nonneg h1]
theorem m_quo {a b : Int} (h1 : 0 ≤ a) (h2 : a < 9223372036854775808) (h3 : 0 ≤ b) (h4 : b < 9223372036854775808) : X11_quotient (wJ a) (wJ b) = some (wJ (a / b)) := by
  simp (disch := omega) only [X11_quotient, wJ_lit, wJ_le, wJ_eq]
  by_cases h : b = 0
  · subst h
    rw [if_neg (by omega), Int.ediv_zero]
    rfl
  · rw [if_pos (by omega), if_neg (by omega), wJ_div h1 h2 (by omega) h4]
theorem m_31 {s : Nat} (h : s < 32) : wI s &&& 31 = wI s := by
  have e : ∀ s : Nat, s < 32 → wI s &&& 31 = wI s := by decide +kernel
  exact e s h
theorem wI_shr {a : Int} {s : Nat} (h1 : -2147483648 ≤ a) (h2 : a < 2147483648) (h : s < 32) : wI a >>> (wI s &&& 31) = wI (a / (2 ^ s : Nat)) := by
  have e : ∀ s : Nat, s < 32 → ((wI s).toBitVec.smod 32).toNat = s := by decide +kernel
  have e2 : (wI a >>> wI s).toInt = a / (2 ^ s : Nat) := by
    show (BitVec.sshiftRight' (wI a).toBitVec ((wI s).toBitVec.smod 32)).toInt = _
    rw [BitVec.toInt_sshiftRight', e s h, Int.shiftRight_eq_div_pow]
    have : (wI a).toBitVec.toInt = a := wI_toInt h1 h2
    rw [this]
  have h3 : (0 : Int) < (2 ^ s : Nat) := Int.natCast_pos.mpr (Nat.two_pow_pos s)
  have h5 : -2147483648 ≤ a / (2 ^ s : Nat) ∧ a / (2 ^ s : Nat) < 2147483648 := by
    have h7 := Int.natAbs_ediv_le_natAbs a (2 ^ s : Nat)
    by_cases h8 : 0 ≤ a
    · have h9 := Int.ediv_nonneg h8 (Int.le_of_lt h3)
      omega
    · have h9 := Int.ediv_neg_of_neg_of_pos (show a < 0 by omega) h3
      omega
  rw [m_31 h, ← Int32.toInt_inj, e2, wI_toInt h5.1 h5.2]
theorem wI_and {a b : Nat} : wI a &&& wI b = wI (a &&& b : Nat) := by
  rw [← Int32.toBitVec_inj, Int32.toBitVec_and]
  show BitVec.ofInt 32 a &&& BitVec.ofInt 32 b = BitVec.ofInt 32 (a &&& b : Nat)
  rw [BitVec.ofInt_natCast, BitVec.ofInt_natCast, BitVec.ofInt_natCast, BitVec.ofNat_and]
theorem wI_or {a b : Nat} : wI a ||| wI b = wI (a ||| b : Nat) := by
  rw [← Int32.toBitVec_inj, Int32.toBitVec_or]
  show BitVec.ofInt 32 a ||| BitVec.ofInt 32 b = BitVec.ofInt 32 (a ||| b : Nat)
  rw [BitVec.ofInt_natCast, BitVec.ofInt_natCast, BitVec.ofInt_natCast, BitVec.ofNat_or]
theorem wI_and1 {a : Nat} : wI a &&& 1 = wI (a % 2 : Nat) := by
  rw [show (1 : Int32) = wI (1 : Nat) from rfl, wI_and, Nat.and_one_is_mod]
theorem wI_and3 {a : Nat} : wI a &&& 3 = wI (a % 4 : Nat) := by
  rw [show (3 : Int32) = wI (3 : Nat) from rfl, wI_and]
  have h := Nat.and_two_pow_sub_one_eq_mod a 2
  rw [show (3 : Nat) = 2 ^ 2 - 1 from rfl, h]
theorem m_turn {t i : Nat} (h1 : t < 4) (h2 : i < 1000000) : X11_turnAt (wI t) (wI i) = some (wI (t * (i / 8) % 4 : Nat)) := by
  unfold X11_turnAt
  rw [show (3 : Int32) &&& 31 = wI (3 : Nat) &&& 31 from rfl, wI_shr (by omega) (by omega) (by omega), show ((i : Int) / ((2 ^ 3 : Nat) : Int)) = ((i / 8 : Nat) : Int) from rfl, wI_mul, ← Int.natCast_mul, wI_and3]
theorem n_turn {t i : Nat} (h1 : t < 4) (h2 : i < 1000000) : X12_turnOf (wI t) (wI i) = some (wI (t * (i / 8) % 4 : Nat)) := by
  unfold X12_turnOf
  have h3 : t * (i / 8) ≤ 3 * (i / 8) := Nat.mul_le_mul_right _ (by omega)
  rw [show (8 : Int32) = wI (8 : Nat) from rfl, show (4 : Int32) = wI (4 : Nat) from rfl, wI_div (by omega) (by omega) (by omega) (by omega), ← Int.natCast_ediv, wI_mul, ← Int.natCast_mul, wI_mod (by omega) (by omega) (by omega) (by omega), ← Int.natCast_emod]
