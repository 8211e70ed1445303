/-! level two: a row of whole numbers -/
theorem r_small {al : q_Al} {dt : q_Dt} {a n arr i : Nat} (hR : al.2.2 a 0 = arr) (hn : al.2.1 arr = n) (hb : n < 100000) (h : i < n) : X5_small al dt a (wI i) = some (Int64.toInt32 (dt.2.1 arr i)) := by
  simp (disch := omega) only [X5_small, hR, hn, wI_ofNat, wI_lit, wI_lt, wI_le, wI_nat]
  rw [if_neg (by omega), if_neg (by omega), if_neg (by omega)]
  rfl
theorem r_at {al : q_Al} {dt : q_Dt} {a n arr i : Nat} (hR : al.2.2 a 0 = arr) (hn : al.2.1 arr = n) (hb : n < 100000) (h : i < n) : X5_at al dt a (wI i) = some (dt.2.1 arr i) := by
  simp (disch := omega) only [X5_at, hR, hn, wI_ofNat, wI_lit, wI_lt, wI_le, wI_nat]
  rw [if_neg (by omega), if_neg (by omega), if_neg (by omega)]
  rfl
theorem r_put {al : q_Al} {dt : q_Dt} {a n arr i : Nat} {v : Int64} (hR : al.2.2 a 0 = arr) (hn : al.2.1 arr = n) (hb : n < 100000) (h : i < n) : X5_put al dt a (wI i) v = some (q_pJ dt arr i v) := by
  simp (disch := omega) only [X5_put, hR, hn, wI_ofNat, wI_lit, wI_lt, wI_le, wI_nat, q_o]
  rw [if_neg (by omega), if_neg (by omega), if_neg (by omega)]
  rfl
