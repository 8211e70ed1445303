/-! level two: the rest of a code, the class -/
theorem q_sum_s (f : Nat → Int) (n : Nat) : q_sum f (n + 1) = q_sum f n + f n := rfl
theorem q_top_s (f : Nat → Int) (n : Nat) : q_top f (n + 1) = if q_top f n < f n then f n else q_top f n := rfl
theorem m_max {a b : Int} (h1 : -2147483648 ≤ a) (h2 : a < 2147483648) (h3 : -2147483648 ≤ b) (h4 : b < 2147483648) : q_max (wI a) (wI b) = wI (if a < b then b else a) := by
  unfold q_max
  simp only [wI_lt h1 h2 h3 h4]
  by_cases h : a < b
  · rw [if_pos h, if_pos h]
  · rw [if_neg h, if_neg h]
theorem m_min {a b : Int} (h1 : -2147483648 ≤ a) (h2 : a < 2147483648) (h3 : -2147483648 ≤ b) (h4 : b < 2147483648) : q_min (wI a) (wI b) = wI (if b < a then b else a) := by
  unfold q_min
  simp only [wI_lt h3 h4 h1 h2]
  by_cases h : b < a
  · rw [if_pos h, if_pos h]
  · rw [if_neg h, if_neg h]
theorem m_abs {a : Int} (h1 : -2147483648 < a) (h2 : a < 2147483648) : q_abs (wI a) = wI (if a < 0 then -a else a) := by
  simp (disch := omega) only [q_abs, wI_lit, wI_le, wI_sub]
  by_cases h : a < 0
  · rw [if_pos h, if_neg (by omega), show ((0 : Nat) : Int) - a = -a by omega]
  · rw [if_neg h, if_pos (by omega)]
theorem q_arg (a : Int32) : ∃ x : Int, a = wI x ∧ -2147483648 ≤ x ∧ x < 2147483648 := ⟨a.toInt, wI_of a, Int32.le_toInt a, Int32.toInt_lt a⟩
theorem q_argJ (a : Int64) : ∃ x : Int, a = wJ x ∧ -9223372036854775808 ≤ x ∧ x < 9223372036854775808 := ⟨a.toInt, wJ_of a, Int64.le_toInt a, Int64.toInt_lt a⟩
theorem c_round_n {al : q_Al} {dt : q_Dt} {c L : Nat} {ch : Nat → Int} (h : q_Code al dt c L ch) {n : Nat} (h2 : n < 2147483648) : X0_chipRoundAt al dt c (wI (n : Nat)) = some (wI (ch (n % L))) := by
  rw [c_round h (by omega) (by omega), ← Int.natCast_emod, Int.toNat_natCast]
theorem c_changes {al : q_Al} {dt : q_Dt} {c L : Nat} {f : Nat → Int} (h : q_Code al dt c L f) : X0_changes al dt c = some (wI (q_sum (fun i => if f i = f ((i + 1) % L) then 0 else 1) L)) := by
  have hL := h.2.2.1
  have hl : ∀ n i k, i + n = L → n < k → X0_changes_b4 al dt c k (wI (q_sum (fun i => if f i = f ((i + 1) % L) then 0 else 1) i)) (wI i) = some (wI (q_sum (fun i => if f i = f ((i + 1) % L) then 0 else 1) L)) := by
    intro n
    induction n with
    | zero =>
      intro i k h1 h2 
      obtain ⟨k, rfl⟩ : ∃ m, k = m + 1 := ⟨k - 1, by omega⟩
      have e : i = L := by omega
      simp (disch := omega) only [X0_changes_b4, h.2.1, wI_le]
      rw [if_pos (by omega), e]
    | succ n ih =>
      intro i k h1 h2 
      obtain ⟨k, rfl⟩ : ∃ m, k = m + 1 := ⟨k - 1, by omega⟩
      have hi : i < L := by omega
      have hih := ih (i + 1) k (by omega) (by omega)
      rw [q_sum_s] at hih
      have hj := Nat.mod_lt (i + 1) (show 0 < L by omega)
      have hb := h.2.2.2.2 i (by omega)
      have hb2 := h.2.2.2.2 ((i + 1) % L) hj
      simp (disch := omega) only [X0_changes_b4, h.2.1, wI_le, c_chip h hi, q_b1, wI_lit, wI_add, ← Int.natCast_add, c_round_n h, wI_eq, X0_changes_b33]
      rw [if_neg (by omega)]
      by_cases hw : f i = f ((i + 1) % L)
      · rw [if_pos hw]
        rw [if_pos hw] at hih
        exact hih
      · rw [if_neg hw]
        rw [if_neg hw] at hih
        exact hih
  exact hl L 0 q_FU (by omega) (by unfold q_FU; omega)
theorem c_own {al : q_Al} {dt : q_Dt} {c L : Nat} {f : Nat → Int} (h : q_Code al dt c L f) : X0_ownShift al dt c = some (wI (q_find (fun s => q_alk L f f s = L) (L - 1) 1 : Nat)) := by
  have hL := h.2.2.1
  have hl : ∀ n i k, i + n = L → n < k → X0_ownShift_b2 al dt c k (wI i) = some (wI (q_find (fun s => q_alk L f f s = L) n i : Nat)) := by
    intro n
    induction n with
    | zero =>
      intro i k h1 h2 
      obtain ⟨k, rfl⟩ : ∃ m, k = m + 1 := ⟨k - 1, by omega⟩
      have e : i = L := by omega
      simp (disch := omega) only [X0_ownShift_b2, h.2.1, wI_le]
      rw [if_pos (by omega), ← e]
      rfl
    | succ n ih =>
      intro i k h1 h2 
      obtain ⟨k, rfl⟩ : ∃ m, k = m + 1 := ⟨k - 1, by omega⟩
      have hi : i < L := by omega
      have hih := ih (i + 1) k (by omega) (by omega)
      have hb := q_alk_b (s := i) hL h.2.2.2.2 h.2.2.2.2
      simp (disch := omega) only [X0_ownShift_b2, h.2.1, wI_le, c_alike h h hi, q_b1, wI_eq, wI_lit, wI_add]
      rw [if_neg (by omega)]
      show _ = some (wI ((if q_alk L f f i = L then i else q_find (fun s => q_alk L f f s = L) n (i + 1) : Nat) : Int))
      by_cases hw : q_alk L f f i = L
      · rw [if_pos hw, if_pos hw]
      · rw [if_neg hw, if_neg hw]
        exact hih
  exact hl (L - 1) 1 q_FU (by omega) (by unfold q_FU; omega)
def q_mag (z : Int) : Int := if z < 0 then -z else z
/-- WORST: the shifts from `st` on -/
def q_wrst (L : Nat) (f g : Nat → Int) (st : Nat) : Int := q_top (fun s => if s < st then 0 else q_mag (q_alk L f g s)) L
theorem q_top_b {f : Nat → Int} {B : Int} (hB : 0 ≤ B) (n : Nat) (h : ∀ i, i < n → f i ≤ B) : 0 ≤ q_top f n ∧ q_top f n ≤ B := by
  induction n with
  | zero => exact ⟨Int.le_refl 0, hB⟩
  | succ n ih =>
    have h1 := ih (fun i hi => h i (by omega))
    have h2 := h n (by omega)
    rw [q_top_s]
    by_cases hw : q_top f n < f n
    · rw [if_pos hw]; omega
    · rw [if_neg hw]; omega
theorem c_worst {al : q_Al} {dt : q_Dt} {c o L : Nat} {f g : Nat → Int} (h : q_Code al dt c L f) (h' : q_Code al dt o L g) {st : Nat} (hs : st ≤ 1) : X0_worstLikeness al dt c (some o) (wI st) = some (wI (q_wrst L f g st)) := by
  have hL := h.2.2.1
  have hbF : ∀ i, (fun s => if s < st then 0 else q_mag (q_alk L f g s)) i ≤ 127 := by
    intro i
    have hb := q_alk_b (s := i) hL h.2.2.2.2 h'.2.2.2.2
    show (if i < st then 0 else q_mag (q_alk L f g i)) ≤ 127
    unfold q_mag
    by_cases h1 : i < st
    · rw [if_pos h1]; omega
    · rw [if_neg h1]
      by_cases h2 : q_alk L f g i < 0
      · rw [if_pos h2]; omega
      · rw [if_neg h2]; omega
  have hl : ∀ n i k, i + n = L → n < k → (st ≤ i) → X0_worstLikeness_b13 al dt c (some o) k (wI (q_top (fun s => if s < st then 0 else q_mag (q_alk L f g s)) i)) (wI i) = some (wI (q_wrst L f g st)) := by
    intro n
    induction n with
    | zero =>
      intro i k h1 h2 g1
      obtain ⟨k, rfl⟩ : ∃ m, k = m + 1 := ⟨k - 1, by omega⟩
      have e : i = L := by omega
      simp (disch := omega) only [X0_worstLikeness_b13, h.2.1, wI_le]
      rw [if_pos (by omega), e]
      rfl
    | succ n ih =>
      intro i k h1 h2 g1
      obtain ⟨k, rfl⟩ : ∃ m, k = m + 1 := ⟨k - 1, by omega⟩
      have hi : i < L := by omega
      have hih := ih (i + 1) k (by omega) (by omega) (by omega)
      rw [q_top_s, if_neg (show ¬ i < st by omega)] at hih
      have hb := q_alk_b (s := i) hL h.2.2.2.2 h'.2.2.2.2
      have hb2 := q_top_b (by omega) i (fun j _ => hbF j)
      have hb3 := hbF i
      simp only [if_neg (show ¬ i < st by omega)] at hb3
      unfold q_mag at hb3 hih
      simp (disch := omega) only [X0_worstLikeness_b13, h.2.1, wI_le, c_alike h h' hi, q_b1, wI_lit, wI_add, m_abs, m_max]
      rw [if_neg (by omega)]
      exact hih
  have h0 : q_top (fun s => if s < st then 0 else q_mag (q_alk L f g s)) st = 0 := by
    rcases (show st = 0 ∨ st = 1 by omega) with rfl | rfl
    · rfl
    · rfl
  have h1 := hl (L - st) st q_FU (by omega) (by unfold q_FU; omega) (by omega)
  rw [h0] at h1
  unfold X0_worstLikeness
  rcases (show st = 0 ∨ st = 1 by omega) with rfl | rfl
  · rw [if_pos (show wI ((0 : Nat) : Int) = 0 from rfl)]; exact h1
  · rw [if_neg (show ¬ wI ((1 : Nat) : Int) = 0 by decide)]; exact h1
theorem c_times {al : q_Al} {dt : q_Dt} {c o L : Nat} {f g : Nat → Int} (h : q_Code al dt c L f) (h' : q_Code al dt o L g) {v : Int} (hv1 : -2147483648 ≤ v) (hv2 : v < 2147483648) : X0_shiftsAlikeBy al dt c (some o) (wI v) = some (wI (q_sum (fun s => if q_alk L f g s = v then 1 else 0) L)) := by
  have hL := h.2.2.1
  have hl : ∀ n i k, i + n = L → n < k → X0_shiftsAlikeBy_b5 al dt c (some o) (wI v) k (wI (q_sum (fun s => if q_alk L f g s = v then 1 else 0) i)) (wI i) = some (wI (q_sum (fun s => if q_alk L f g s = v then 1 else 0) L)) := by
    intro n
    induction n with
    | zero =>
      intro i k h1 h2 
      obtain ⟨k, rfl⟩ : ∃ m, k = m + 1 := ⟨k - 1, by omega⟩
      have e : i = L := by omega
      simp (disch := omega) only [X0_shiftsAlikeBy_b5, h.2.1, wI_le]
      rw [if_pos (by omega), e]
    | succ n ih =>
      intro i k h1 h2 
      obtain ⟨k, rfl⟩ : ∃ m, k = m + 1 := ⟨k - 1, by omega⟩
      have hi : i < L := by omega
      have hih := ih (i + 1) k (by omega) (by omega)
      rw [q_sum_s] at hih
      have hb := q_alk_b (s := i) hL h.2.2.2.2 h'.2.2.2.2
      simp (disch := omega) only [X0_shiftsAlikeBy_b5, h.2.1, wI_le, c_alike h h' hi, q_b1, wI_lit, wI_add, wI_eq, X0_shiftsAlikeBy_b31]
      rw [if_neg (by omega)]
      by_cases hw : q_alk L f g i = v
      · rw [if_pos hw]
        rw [if_pos hw] at hih
        exact hih
      · rw [if_neg hw]
        rw [if_neg hw] at hih
        exact hih
  exact hl L 0 q_FU (by omega) (by unfold q_FU; omega)
