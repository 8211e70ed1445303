/-! level two: a row of whole numbers -/
theorem r_small {al : q_Al} {dt : q_Dt} {a n arr i : Nat} (hR : al.2.2 a 0 = arr) (hn : al.2.1 arr = n) (hb : n < 100000) (h : i < n) : X5_small al dt a (wI i) = some (Int64.toInt32 (dt.2.1 arr i)) := by
  simp (disch := omega) only [X5_small, hR, hn, wI_ofNat, wI_lit, wI_lt, wI_le, wI_nat]
  rw [if_neg (by omega), if_neg (by omega), if_neg (by omega)]
  rfl
theorem r_at {al : q_Al} {dt : q_Dt} {a n arr i : Nat} (hR : al.2.2 a 0 = arr) (hn : al.2.1 arr = n) (hb : n < 100000) (h : i < n) : X5_at al dt a (wI i) = some (dt.2.1 arr i) := by
  simp (disch := omega) only [X5_at, hR, hn, wI_ofNat, wI_lit, wI_lt, wI_le, wI_nat]
  rw [if_neg (by omega), if_neg (by omega), if_neg (by omega)]
  rfl
theorem r_put {al : q_Al} {dt : q_Dt} {a n arr i : Nat} {v : Int64} (hR : al.2.2 a 0 = arr) (hn : al.2.1 arr = n) (hb : n < 100000) (h : i < n) : X5_put al dt a (wI i) v = some (q_pJ dt arr i v) := by
  simp (disch := omega) only [X5_put, hR, hn, wI_ofNat, wI_lit, wI_lt, wI_le, wI_nat, q_o]
  rw [if_neg (by omega), if_neg (by omega), if_neg (by omega)]
  rfl
theorem r_inc {al : q_Al} {dt : q_Dt} {a n arr i : Nat} {v : Int64} (hR : al.2.2 a 0 = arr) (hn : al.2.1 arr = n) (hb : n < 100000) (h : i < n) : X5_increase al dt a (wI i) v = some (q_pJ dt arr i (dt.2.1 arr i + v)) := by
  simp (disch := omega) only [X5_increase, hR, hn, wI_ofNat, wI_lit, wI_lt, wI_le, wI_nat, q_o]
  rw [if_neg (by omega), if_neg (by omega), if_neg (by omega), if_neg (by omega)]
  rfl
/-- a row's first `n` places laid anew -/
def q_row (dt : q_Dt) (arr n : Nat) (f : Nat → Int64) : q_Dt := (dt.1, fun x j => if x = arr ∧ j < n then f j else dt.2.1 x j, dt.2.2)
theorem q_row_0 (dt : q_Dt) (arr : Nat) (f : Nat → Int64) : q_row dt arr 0 f = dt := by
  unfold q_row
  simp
theorem q_row_s (dt : q_Dt) (arr n : Nat) (f : Nat → Int64) : q_pJ (q_row dt arr n f) arr n (f n) = q_row dt arr (n + 1) f := by
  unfold q_row q_pJ
  refine Prod.ext rfl (Prod.ext ?_ rfl)
  funext x j
  show (if x = arr ∧ j = n then f n else if x = arr ∧ j < n then f j else dt.2.1 x j) = if x = arr ∧ j < n + 1 then f j else dt.2.1 x j
  by_cases h1 : x = arr
  · by_cases h2 : j = n
    · rw [if_pos ⟨h1, h2⟩, if_pos ⟨h1, by omega⟩, h2]
    · by_cases h3 : j < n
      · rw [if_neg (fun h => h2 h.2), if_pos ⟨h1, h3⟩, if_pos ⟨h1, by omega⟩]
      · rw [if_neg (fun h => h2 h.2), if_neg (fun h => h3 h.2), if_neg (fun h => absurd h.2 (by omega))]
  · rw [if_neg (fun h => h1 h.1), if_neg (fun h => h1 h.1), if_neg (fun h => h1 h.1)]
theorem r_clear {al : q_Al} {dt : q_Dt} {a n arr : Nat} (hR : al.2.2 a 0 = arr) (hn : al.2.1 arr = n) (hb : n < 100000) : X5_clear al dt a = some (q_row dt arr n (fun _ => 0)) := by
  have h : ∀ c i k, i + c = n → c < k → X5_clear_b2 al a k (wI i) (q_row dt arr i (fun _ => 0)) = some (q_row dt arr n (fun _ => 0)) := by
    intro c
    induction c with
    | zero =>
      intro i k h1 h2
      obtain ⟨k, rfl⟩ : ∃ m, k = m + 1 := ⟨k - 1, by omega⟩
      have e : i = n := by omega
      simp (disch := omega) only [X5_clear_b2, hR, hn, wI_ofNat, wI_le]
      rw [if_pos (by omega), e]
    | succ c ih =>
      intro i k h1 h2
      obtain ⟨k, rfl⟩ : ∃ m, k = m + 1 := ⟨k - 1, by omega⟩
      have e2 : (wI i + 1 : Int32) = wI ((i + 1 : Nat) : Int) := wI_add i 1
      simp (disch := omega) only [X5_clear_b2, hR, hn, wI_ofNat, wI_le, wI_lt, wI_nat, q_o, e2]
      rw [if_neg (by omega), if_neg (by rw [show (0 : Int32) = wI 0 from rfl, wI_lt (by omega) (by omega) (by omega) (by omega)]; omega)]
      have e3 := q_row_s dt arr i (fun _ => (0 : Int64))
      simp only [Int.toNat_natCast] at *
      rw [e3]
      exact ih (i + 1) k (by omega) (by omega)
  have h2 := h n 0 q_FU (by omega) (by unfold q_FU; omega)
  rw [q_row_0] at h2
  exact h2
theorem q_row_o {dt : q_Dt} {arr n x : Nat} {f : Nat → Int64} (h : x ≠ arr) : (q_row dt arr n f).2.1 x = dt.2.1 x := by
  unfold q_row
  funext j
  show (if x = arr ∧ j < n then f j else dt.2.1 x j) = dt.2.1 x j
  rw [if_neg (fun q => h q.1)]
theorem q_row_i {dt : q_Dt} {arr n j : Nat} {f : Nat → Int64} (h : j < n) : (q_row dt arr n f).2.1 arr j = f j := by
  unfold q_row
  show (if arr = arr ∧ j < n then f j else dt.2.1 arr j) = f j
  rw [if_pos ⟨rfl, h⟩]
theorem r_take {al : q_Al} {dt : q_Dt} {a n arr o n2 arr2 : Nat} (hR : al.2.2 a 0 = arr) (hn : al.2.1 arr = n) (hb : n < 100000) (hR2 : al.2.2 o 0 = arr2) (hn2 : al.2.1 arr2 = n2) (hb2 : n2 < 100000) (hle : n ≤ n2) (hne : arr2 ≠ arr) : X5_takeOver al dt a o = some (q_row dt arr n (dt.2.1 arr2)) := by
  have h : ∀ c i k, i + c = n → c < k → X5_takeOver_b2 al a o k (wI i) (q_row dt arr i (dt.2.1 arr2)) = some (q_row dt arr n (dt.2.1 arr2)) := by
    intro c
    induction c with
    | zero =>
      intro i k h1 h2
      obtain ⟨k, rfl⟩ : ∃ m, k = m + 1 := ⟨k - 1, by omega⟩
      have e : i = n := by omega
      simp (disch := omega) only [X5_takeOver_b2, hR, hn, wI_ofNat, wI_le]
      rw [if_pos (by omega), e]
    | succ c ih =>
      intro i k h1 h2
      obtain ⟨k, rfl⟩ : ∃ m, k = m + 1 := ⟨k - 1, by omega⟩
      have e2 : (wI i + 1 : Int32) = wI ((i + 1 : Nat) : Int) := wI_add i 1
      have e4 : X5_at al (q_row dt arr i (dt.2.1 arr2)) o (wI i) = some (dt.2.1 arr2 i) := by
        rw [r_at hR2 hn2 hb2 (by omega), q_row_o hne]
      simp (disch := omega) only [X5_takeOver_b2, hR, hn, wI_ofNat, wI_le, wI_nat, q_o, e2, e4, q_b1]
      rw [if_neg (by omega), if_neg (by rw [show (0 : Int32) = wI 0 from rfl, wI_lt (by omega) (by omega) (by omega) (by omega)]; omega)]
      have e3 := q_row_s dt arr i (dt.2.1 arr2)
      simp only [Int.toNat_natCast] at *
      rw [e3]
      exact ih (i + 1) k (by omega) (by omega)
  have h2 := h n 0 q_FU (by omega) (by unfold q_FU; omega)
  rw [q_row_0] at h2
  exact h2
