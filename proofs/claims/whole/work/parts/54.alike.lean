/-! level two: ALIKE in the class -/
def q_alk (L : Nat) (f g : Nat → Int) (s : Nat) : Int := q_sum (fun i => f i * g ((i + s) % L)) L
theorem c_alike {al : q_Al} {dt : q_Dt} {c o L : Nat} {f g : Nat → Int} (h : q_Code al dt c L f) (h' : q_Code al dt o L g) {s : Nat} (hs : s < L) : X0_alikeness al dt c (some o) (wI s) = some (wI (q_alk L f g s)) := by
  have hL := h.2.2.1
  have hl : ∀ n i k, i + n = L → n < k → X0_alikeness_b8 al dt c (some o) k (wI (q_sum (fun i => f i * g ((i + s) % L)) i)) (wI ((i + s) % L : Nat)) (wI i) = some (wI (q_alk L f g s)) := by
    intro n
    induction n with
    | zero =>
      intro i k h1 h2
      obtain ⟨k, rfl⟩ : ∃ m, k = m + 1 := ⟨k - 1, by omega⟩
      have e : i = L := by omega
      simp (disch := omega) only [X0_alikeness_b8, h.2.1, wI_le]
      rw [if_pos (by omega), e]
      rfl
    | succ n ih =>
      intro i k h1 h2
      obtain ⟨k, rfl⟩ : ∃ m, k = m + 1 := ⟨k - 1, by omega⟩
      have hj := Nat.mod_lt (i + s) (show 0 < L by omega)
      have hih := ih (i + 1) k (by omega) (by omega)
      have e5 : q_sum (fun i => f i * g ((i + s) % L)) (i + 1) = q_sum (fun i => f i * g ((i + s) % L)) i + f i * g ((i + s) % L) := rfl
      rw [e5] at hih
      simp (disch := omega) only [X0_alikeness_b8, h.2.1, wI_le, c_chip h (show i < L by omega), q_b1, q_m, c_chip h' hj, wI_lit, wI_add, wI_mul, X0_alikeness_b52]
      rw [if_neg (by omega)]
      by_cases hw : (i + s) % L + 1 < L
      · rw [if_neg (by omega)]
        rw [show (i + 1 + s) % L = (i + s) % L + 1 by rw [show i + 1 + s = i + s + 1 by omega, Nat.add_mod, Nat.mod_eq_of_lt (show 1 < L by omega), Nat.mod_eq_of_lt hw]] at hih
        exact hih
      · rw [if_pos (by omega)]
        rw [show (i + 1 + s) % L = 0 by
          rw [show i + 1 + s = i + s + 1 by omega]
          have h6 : (i + s) % L + 1 = L := by omega
          have h7 := Nat.div_add_mod (i + s) L
          rw [show i + s + 1 = L * ((i + s) / L + 1) by rw [Nat.mul_add]; omega]
          exact Nat.mul_mod_right _ _] at hih
        exact hih
  have h0 := hl L 0 q_FU (by omega) (by unfold q_FU; omega)
  rw [show (0 + s) % L = s by rw [Nat.zero_add, Nat.mod_eq_of_lt hs]] at h0
  exact h0
