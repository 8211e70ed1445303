/-! level two: a code of the class -/
def q_sum (f : Nat → Int) : Nat → Int
  | 0 => 0
  | n + 1 => q_sum f n + f n
theorem q_sum_congr {f g : Nat → Int} (n : Nat) (h : ∀ i, i < n → f i = g i) : q_sum f n = q_sum g n := by
  induction n with
  | zero => rfl
  | succ n ih =>
    show q_sum f n + f n = q_sum g n + g n
    rw [ih (fun i hi => h i (by omega)), h n (by omega)]
theorem q_sum_abs {f : Nat → Int} {B : Int} (n : Nat) (h : ∀ i, i < n → -B ≤ f i ∧ f i ≤ B) : -(n * B) ≤ q_sum f n ∧ q_sum f n ≤ n * B := by
  induction n with
  | zero => simp [q_sum]
  | succ n ih =>
    have h1 := ih (fun i hi => h i (by omega))
    have h2 := h n (by omega)
    have e : ((n + 1 : Nat) : Int) * B = n * B + B := by rw [Int.natCast_add, Int.add_mul]; simp
    show -(((n + 1 : Nat) : Int) * B) ≤ q_sum f n + f n ∧ q_sum f n + f n ≤ ((n + 1 : Nat) : Int) * B
    rw [e]
    omega
def q_Code (al : q_Al) (dt : q_Dt) (c L : Nat) (ch : Nat → Int) : Prop :=
  al.2.1 (al.2.2 (al.2.2 c 0) 0) = 127 ∧ dt.1 c 1 = wI L ∧ (1 ≤ L ∧ L ≤ 127) ∧ (∀ i, i < L → dt.2.1 (al.2.2 (al.2.2 c 0) 0) i = wJ (ch i)) ∧ ∀ i, i < L → ch i = 1 ∨ ch i = -1
theorem c_chip {al : q_Al} {dt : q_Dt} {c L : Nat} {ch : Nat → Int} (h : q_Code al dt c L ch) {i : Nat} (hi : i < L) : X0_chipAt al dt c (wI i) = some (wI (ch i)) := by
  have := h.2.2.1
  unfold X0_chipAt
  rw [r_small rfl h.1 (by omega) (by omega), h.2.2.2.1 i hi, wJ_wI]
  rfl
theorem c_round {al : q_Al} {dt : q_Dt} {c L : Nat} {ch : Nat → Int} (h : q_Code al dt c L ch) {z : Int} (h1 : -2147483648 ≤ z) (h2 : z < 2147483648) : X0_chipRoundAt al dt c (wI z) = some (wI (ch (z % L).toNat)) := by
  have h3 := h.2.2.1
  have h4 := Int.emod_nonneg z (show (L : Int) ≠ 0 by omega)
  have h5 := Int.emod_lt_of_pos z (show (0 : Int) < L by omega)
  obtain ⟨j, hj⟩ : ∃ j : Nat, z % L = j := ⟨(z % L).toNat, by omega⟩
  unfold X0_chipRoundAt
  rw [h.2.1, wI_wJ h1 h2, wI_wJ (by omega) (by omega), m_rest (by omega) (by omega) (by omega) (by omega), hj]
  simp only [q_b1, wJ_wI]
  rw [r_small rfl h.1 (by omega) (show j < 127 by omega), h.2.2.2.1 j (by omega), wJ_wI]
  rfl
