/-! level two: rests and sums -/
theorem wJ_lr {a b : Int} (h1 : -9223372036854775808 < a) (h2 : a < 9223372036854775808) (h3 : 0 < b) (h4 : b < 9223372036854775808) : q_lr (wJ a) (wJ b) = wJ (a.tmod b) := by
  have hd : wJ a / wJ b = wJ (a.tdiv b) := by
    have ha : wJ a ≠ Int64.minValue := by
      intro h
      have := congrArg Int64.toInt h
      rw [wJ_toInt (by omega) (by omega), Int64.toInt_minValue] at this
      omega
    rw [← Int64.toInt_inj, Int64.toInt_div_of_ne_left _ _ ha, wJ_toInt (by omega) (by omega), wJ_toInt (by omega) (by omega)]
    have h5 : (a.tdiv b).natAbs ≤ a.natAbs := by rw [Int.natAbs_tdiv]; exact Nat.div_le_self _ _
    rw [wJ_toInt (by omega) (by omega)]
  unfold q_lr
  rw [hd, wJ_mul, wJ_sub, Int.tmod_def, Int.mul_comm]
theorem wI_ir {a b : Int} (h1 : -2147483648 < a) (h2 : a < 2147483648) (h3 : 0 < b) (h4 : b < 2147483648) : q_ir (wI a) (wI b) = wI (a.tmod b) := by
  have hd : wI a / wI b = wI (a.tdiv b) := by
    have ha : wI a ≠ Int32.minValue := by
      intro h
      have := congrArg Int32.toInt h
      rw [wI_toInt (by omega) (by omega), Int32.toInt_minValue] at this
      omega
    rw [← Int32.toInt_inj, Int32.toInt_div_of_ne_left _ _ ha, wI_toInt (by omega) (by omega), wI_toInt (by omega) (by omega)]
    have h5 : (a.tdiv b).natAbs ≤ a.natAbs := by rw [Int.natAbs_tdiv]; exact Nat.div_le_self _ _
    rw [wI_toInt (by omega) (by omega)]
  unfold q_ir
  rw [hd, wI_mul, wI_sub, Int.tmod_def, Int.mul_comm]
theorem q_tmod_emod {a b : Int} (h3 : 0 < b) : a % b = if 0 ≤ a.tmod b then a.tmod b else a.tmod b + b := by
  rw [Int.tmod_eq_emod]
  have h1 := Int.emod_nonneg a (show b ≠ 0 by omega)
  have h2 := Int.emod_lt_of_pos a h3
  by_cases hc : 0 ≤ a ∨ b ∣ a
  · simp only [if_pos hc]
    rw [if_pos (by omega)]; omega
  · simp only [if_neg hc]
    rw [if_neg (by omega)]; omega
theorem m_rest {a b : Int} (h1 : -9223372036854775808 < a) (h2 : a < 9223372036854775808) (h3 : 0 < b) (h4 : b < 2147483648) : X11_remainder (wJ a) (wJ b) = some (wJ (a % b)) := by
  have hl := Int.tmod_lt_of_pos a h3
  have hg : -b < a.tmod b := by
    have := Int.lt_tmod_of_pos a h3
    omega
  simp (disch := omega) only [X11_remainder, wJ_lit, wJ_lr, wJ_le, wJ_eq, wJ_add]
  rw [if_pos (by omega), if_neg (by omega), q_tmod_emod h3]
  by_cases h : 0 ≤ a.tmod b
  · rw [if_pos h, if_pos (by omega)]
  · rw [if_neg h, if_neg (by omega)]
