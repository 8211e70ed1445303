/-! level two: rests and sums -/
theorem wJ_lr {a b : Int} (h1 : -9223372036854775808 < a) (h2 : a < 9223372036854775808) (h3 : 0 < b) (h4 : b < 9223372036854775808) : q_lr (wJ a) (wJ b) = wJ (a.tmod b) := by
  have hd : wJ a / wJ b = wJ (a.tdiv b) := by
    have ha : wJ a ≠ Int64.minValue := by
      intro h
      have := congrArg Int64.toInt h
      rw [wJ_toInt (by omega) (by omega), Int64.toInt_minValue] at this
      omega
    rw [← Int64.toInt_inj, Int64.toInt_div_of_ne_left _ _ ha, wJ_toInt (by omega) (by omega), wJ_toInt (by omega) (by omega)]
    have h5 : (a.tdiv b).natAbs ≤ a.natAbs := by rw [Int.natAbs_tdiv]; exact Nat.div_le_self _ _
    rw [wJ_toInt (by omega) (by omega)]
  unfold q_lr
  rw [hd, wJ_mul, wJ_sub, Int.tmod_def, Int.mul_comm]
theorem wI_ir {a b : Int} (h1 : -2147483648 < a) (h2 : a < 2147483648) (h3 : 0 < b) (h4 : b < 2147483648) : q_ir (wI a) (wI b) = wI (a.tmod b) := by
  have hd : wI a / wI b = wI (a.tdiv b) := by
    have ha : wI a ≠ Int32.minValue := by
      intro h
      have := congrArg Int32.toInt h
      rw [wI_toInt (by omega) (by omega), Int32.toInt_minValue] at this
      omega
    rw [← Int32.toInt_inj, Int32.toInt_div_of_ne_left _ _ ha, wI_toInt (by omega) (by omega), wI_toInt (by omega) (by omega)]
    have h5 : (a.tdiv b).natAbs ≤ a.natAbs := by rw [Int.natAbs_tdiv]; exact Nat.div_le_self _ _
    rw [wI_toInt (by omega) (by omega)]
  unfold q_ir
  rw [hd, wI_mul, wI_sub, Int.tmod_def, Int.mul_comm]
