/-! level two: mean, over, near, range -/
def q_gs : Nat → Nat → Nat → Nat
  | 0, h, _ => h
  | s + 1, h, l => if l = 0 then h else q_gs s l (h % l)
theorem q_gcd_s {h l : Nat} (hl : l ≠ 0) : Nat.gcd h l = Nat.gcd l (h % l) := by
  rw [Nat.gcd_comm h l, Nat.gcd_rec l h, Nat.gcd_comm]
theorem q_gs_gcd (m : Nat) : ∀ h l s, l < 2 ^ m → 2 * m ≤ s → q_gs s h l = Nat.gcd h l := by
  induction m with
  | zero =>
    intro h l s h1 h2
    have e : l = 0 := by omega
    subst e
    cases s with
    | zero => rw [Nat.gcd_zero_right] <;> rfl
    | succ s => rw [Nat.gcd_zero_right] <;> rfl
  | succ m ih =>
    intro h l s h1 h2
    obtain ⟨s, rfl⟩ : ∃ s', s = s' + 2 := ⟨s - 2, by omega⟩
    show (if l = 0 then h else q_gs (s + 1) l (h % l)) = _
    by_cases h3 : l = 0
    · rw [if_pos h3, h3, Nat.gcd_zero_right]
    · rw [if_neg h3, q_gcd_s h3]
      show (if h % l = 0 then l else q_gs s (h % l) (l % (h % l))) = _
      by_cases h4 : h % l = 0
      · rw [if_pos h4, h4, Nat.gcd_zero_right]
      · rw [if_neg h4, q_gcd_s h4]
        refine ih _ _ _ ?_ (by omega)
        have h5 := Nat.mod_lt h (show 0 < l by omega)
        have h6 := Nat.mod_lt l (show 0 < h % l by omega)
        have h7 := Nat.div_add_mod l (h % l)
        have h8 : 1 ≤ l / (h % l) := (Nat.one_le_div_iff (by omega)).mpr (by omega)
        have h9 : (h % l) * 1 ≤ (h % l) * (l / (h % l)) := Nat.mul_le_mul_left _ h8
        rw [Nat.pow_succ] at h1
        omega
theorem m_gcd {h l : Nat} (hh : h < 4611686018427387904) (hl : l < 1125899906842624) : X11_commonDivisor (wJ h) (wJ l) = some (wJ (Nat.gcd h l)) := by
  have hA : ∀ n i k h l : Nat, i + n = 100 → n < k → h < 4611686018427387904 → l < 4611686018427387904 → X11_commonDivisor_b9 k (wJ h) (wJ l) (wI i) = some (wJ (q_gs n h l)) := by
    intro n
    induction n with
    | zero =>
      intro i k h l h1 h2 h3 h4
      obtain ⟨k, rfl⟩ : ∃ m, k = m + 1 := ⟨k - 1, by omega⟩
      simp (disch := omega) only [X11_commonDivisor_b9, wI_lit, wI_le, X11_commonDivisor_b44]
      rw [if_pos (by omega)]
      rfl
    | succ n ih =>
      intro i k h l h1 h2 h3 h4
      obtain ⟨k, rfl⟩ : ∃ m, k = m + 1 := ⟨k - 1, by omega⟩
      have hi : i < 100 := by omega
      simp (disch := omega) only [X11_commonDivisor_b9, wI_lit, wJ_lit, wI_le, wJ_le, wJ_eq, X11_commonDivisor_b44]
      rw [if_neg (by omega)]
      show _ = some (wJ ((if l = 0 then h else q_gs n l (h % l) : Nat) : Int))
      by_cases h5 : l = 0
      · rw [if_pos (by omega), if_pos h5]
      · have h6 := Nat.mod_lt h (show 0 < l by omega)
        rw [if_neg (by omega), if_neg (by omega), if_neg h5, wJ_mod (by omega) (by omega) (by omega) (by omega), ← Int.natCast_emod, wI_add, ← Int.natCast_add]
        exact ih (i + 1) k l (h % l) (by omega) (by omega) h4 (by omega)
  have h1 := hA 100 0 q_FU h l (by omega) (by unfold q_FU; omega) hh (by omega)
  rw [q_gs_gcd 50 h l 100 hl (by omega)] at h1
  exact h1
theorem n_gcd {h l : Nat} (hh : h < 4611686018427387904) (hl : l < 1000000) : X12_common (wJ h) (wJ l) = some (wJ (Nat.gcd h l)) := by
  have hA : ∀ k h l : Nat, l < k → h < 4611686018427387904 → l < 4611686018427387904 → X12_common_b6 k (wJ h) (wJ l) = some (wJ (Nat.gcd h l)) := by
    intro k
    induction k with
    | zero => intro h l h1; omega
    | succ k ih =>
      intro h l h1 h3 h4
      simp (disch := omega) only [X12_common_b6, wJ_lit, wJ_eq]
      by_cases h5 : l = 0
      · rw [if_pos (by omega), h5, Nat.gcd_zero_right]
      · have h6 := Nat.mod_lt h (show 0 < l by omega)
        rw [if_neg (by omega), if_neg (by omega), q_gcd_s h5, wJ_mod (by omega) (by omega) (by omega) (by omega), ← Int.natCast_emod]
        exact ih l (h % l) (by omega) h4 (by omega)
  exact hA q_FU h l (by unfold q_FU; omega) hh (by omega)
theorem R_mean : q_c_mean q_Rel := by
  intro k b1 b2 dt1 dt2 a0 a1 a2 a3 a4 a5 ha5 hk hR
  obtain ⟨q, rfl, hq1, hq2⟩ := q_arg a0
  obtain ⟨a, rfl, ha1, ha2⟩ := q_arg a1
  obtain ⟨f, rfl, hf1, hf2⟩ := q_arg a2
  obtain ⟨b, rfl, hb1, hb2⟩ := q_arg a3
  obtain ⟨z, rfl, hz1, hz2⟩ := q_arg a4
  by_cases hv : (2 ≤ q ∧ q ≤ 1000) ∧ (1 ≤ b ∧ b ≤ 100) ∧ (1 ≤ a ∧ a ≤ b) ∧ (0 ≤ f ∧ f ≤ b) ∧ (0 ≤ z ∧ z ≤ 1000)
  · obtain ⟨hv1, hv2, hv3, hv4, hv5⟩ := hv
    obtain ⟨e, he⟩ : ∃ e : Nat, q - 1 = e := ⟨(q - 1).toNat, by omega⟩
    obtain ⟨d, hd⟩ : ∃ d : Nat, 2 * b - a = d := ⟨(2 * b - a).toNat, by omega⟩
    obtain ⟨b, rfl⟩ := Int.eq_ofNat_of_zero_le (show 0 ≤ b by omega)
    obtain ⟨a, rfl⟩ := Int.eq_ofNat_of_zero_le (show 0 ≤ a by omega)
    obtain ⟨f, rfl⟩ := Int.eq_ofNat_of_zero_le (show 0 ≤ f by omega)
    obtain ⟨z, rfl⟩ := Int.eq_ofNat_of_zero_le (show 0 ≤ z by omega)
    have g1 : d * e ≤ 200 * 1000 := Nat.mul_le_mul (by omega) (by omega)
    have g2 : z * f ≤ 1000 * 100 := Nat.mul_le_mul (by omega) (by omega)
    have g3 : d * e * (b + z * f) ≤ 200 * 1000 * (100 + 1000 * 100) := Nat.mul_le_mul g1 (by omega)
    have g4 : 2 * b * b ≤ 200 * 100 := Nat.mul_le_mul (by omega) (by omega)
    have g5 : 2 * a * b ≤ 200 * 100 := Nat.mul_le_mul (by omega) (by omega)
    have g6 : 0 < 2 * a * b := Nat.mul_pos (by omega) (by omega)
    have g7 : 0 < Nat.gcd (d * e * (b + z * f) + 2 * b * b) (2 * a * b) := Nat.gcd_pos_of_pos_right _ g6
    have g8 := Nat.gcd_le_right (d * e * (b + z * f) + 2 * b * b) g6
    have e0 : wI q - 1 = wI e := by
      rw [show (1 : Int32) = wI 1 from rfl, wI_sub, he]
    have e1 : ((((2 : Int64) * wJ b) - wJ a) * wJ e) * (wJ b + (wJ z * wJ f)) + (2 * wJ b) * wJ b = wJ ((d * e * (b + z * f) + 2 * b * b : Nat) : Int) := by
      rw [show (2 : Int64) = wJ 2 from rfl]
      simp only [wJ_mul, wJ_sub, wJ_add]
      rw [hd]
      simp only [Int.natCast_add, Int.natCast_mul]
      rfl
    have e2 : ((2 : Int64) * wJ a) * wJ b = wJ ((2 * a * b : Nat) : Int) := by
      rw [show (2 : Int64) = wJ 2 from rfl]
      simp only [wJ_mul]
      simp only [Int.natCast_mul]
      rfl
    refine ⟨if a5 = 0 then wJ ((d * e * (b + z * f) + 2 * b * b : Nat) / (Nat.gcd (d * e * (b + z * f) + 2 * b * b) (2 * a * b) : Nat) : Int) else wJ ((2 * a * b : Nat) / (Nat.gcd (d * e * (b + z * f) + 2 * b * b) (2 * a * b) : Nat) : Int), ?_, ?_, R_up hR⟩
    · unfold X11_mean
      simp (disch := omega) only [wI_lit, wI_lt]
      rw [if_neg (by omega), if_neg (by omega), if_neg (by omega), if_neg (by omega)]
      unfold X11_mean_b30
      simp (disch := omega) only [wI_lit, wI_lt]
      rw [if_neg (by omega), if_neg (by omega), if_neg (by omega), if_neg (by omega), if_neg (by omega), if_neg (by omega)]
      unfold X11_mean_b71
      rw [if_neg (by decide), if_neg (by decide)]
      simp only [q_o, e0]
      simp (disch := omega) only [wI_wJ]
      rw [e1, e2]
      simp only [X11_mean_b151]
      rw [m_gcd (by omega) (by omega)]
      simp only [q_b1]
      rw [m_quo (by omega) (by omega) (by omega) (by omega), m_quo (by omega) (by omega) (by omega) (by omega)]
      rcases ha5 with rfl | rfl
      · rfl
      · rfl
    · unfold X12_mean
      simp (disch := omega) only [wI_lit, M_in1, q_b1]
      rw [if_neg (by decide), if_neg (by decide), if_neg (by decide), if_neg (by decide), if_neg (by decide)]
      simp only [q_o]
      rw [show wI q - wI ((1 : Nat) : Int) = wI e from e0]
      simp (disch := omega) only [wI_wJ]
      rw [e1, e2, n_gcd (by omega) (by omega)]
      simp only [q_b1]
      simp (disch := omega) only [wJ_lit, wJ_eq]
      rw [if_neg (show ¬ ((Nat.gcd (d * e * (b + z * f) + 2 * b * b) (2 * a * b) : Nat) : Int) = ((0 : Nat) : Int) by omega), if_neg (show ¬ ((Nat.gcd (d * e * (b + z * f) + 2 * b * b) (2 * a * b) : Nat) : Int) = ((0 : Nat) : Int) by omega), wJ_div (by omega) (by omega) (by omega) (by omega), wJ_div (by omega) (by omega) (by omega) (by omega)]
      rcases ha5 with rfl | rfl
      · rfl
      · rfl
  · refine ⟨-1, ?_, ?_, R_up hR⟩
    · have e71 : ∀ w : Int32, X11_mean_b71 (wI q) (wI a) (wI f) (wI b) (wI z) a5 w 0 = some (-1) := by
        intro w
        unfold X11_mean_b71 X11_mean_b83
        by_cases hw : w = 0
        · rw [if_pos hw]
        · rw [if_neg hw, if_pos rfl]
      have e70 : ∀ t : Int32, X11_mean_b71 (wI q) (wI a) (wI f) (wI b) (wI z) a5 0 t = some (-1) := by
        intro t
        unfold X11_mean_b71 X11_mean_b83
        rw [if_pos rfl]
      have e30 : X11_mean_b30 (wI q) (wI a) (wI f) (wI b) (wI z) a5 0 = some (-1) := by
        unfold X11_mean_b30 X11_mean_b70
        simp only [e71, e70, ite_self]
      unfold X11_mean X11_mean_b29
      rw [e30]
      simp (disch := omega) only [wI_lit, wI_lt]
      by_cases h1 : 2 ≤ q ∧ q ≤ 1000 ∧ 0 ≤ z ∧ z ≤ 1000
      · rw [if_neg (by omega), if_neg (by omega), if_neg (by omega), if_neg (by omega)]
        unfold X11_mean_b30 X11_mean_b70
        simp only [e71]
        simp (disch := omega) only [wI_lit, wI_lt]
        by_cases h2 : b < 1
        · rw [if_pos (by omega)] <;> rfl
        · rw [if_neg (by omega)]
          by_cases h3 : 100 < b
          · rw [if_pos (by omega)] <;> rfl
          · rw [if_neg (by omega)]
            by_cases h4 : a < 1
            · rw [if_pos (by omega)] <;> rfl
            · rw [if_neg (by omega)]
              by_cases h5 : b < a
              · rw [if_pos (by omega)] <;> rfl
              · rw [if_neg (by omega)]
                by_cases h6 : f < 0
                · rw [if_pos (by omega)] <;> rfl
                · rw [if_neg (by omega), if_pos (by omega)] <;> rfl
      · by_cases h2 : q < 2
        · rw [if_pos (by omega)] <;> rfl
        · rw [if_neg (by omega)]
          by_cases h3 : 1000 < q
          · rw [if_pos (by omega)] <;> rfl
          · rw [if_neg (by omega)]
            by_cases h4 : z < 0
            · rw [if_pos (by omega)] <;> rfl
            · rw [if_neg (by omega), if_pos (by omega)] <;> rfl
    · unfold X12_mean X12_mean_b54
      simp only [wI_lit]
      by_cases h1 : 2 ≤ q ∧ q ≤ 1000
      · rw [M_in1 (by omega) (by omega) (by omega) (by omega) (by omega) (by omega) (by omega)]
        simp only [q_b1]
        rw [if_neg (by decide)]
        by_cases h2 : 1 ≤ b ∧ b ≤ 100
        · rw [M_in1 (by omega) (by omega) (by omega) (by omega) (by omega) (by omega) (by omega)]
          simp only [q_b1]
          rw [if_neg (by decide)]
          by_cases h3 : 1 ≤ a ∧ a ≤ b
          · rw [M_in1 (by omega) (by omega) (by omega) (by omega) (by omega) (by omega) (by omega)]
            simp only [q_b1]
            rw [if_neg (by decide)]
            by_cases h4 : 0 ≤ f ∧ f ≤ b
            · rw [M_in1 (by omega) (by omega) (by omega) (by omega) (by omega) (by omega) (by omega)]
              simp only [q_b1]
              rw [if_neg (by decide), M_in0 (by omega) (by omega) (by omega) (by omega) (by omega) (by omega) (by omega)]
              rfl
            · rw [M_in0 (by omega) (by omega) (by omega) (by omega) (by omega) (by omega) (by omega)] <;> rfl
          · rw [M_in0 (by omega) (by omega) (by omega) (by omega) (by omega) (by omega) (by omega)] <;> rfl
        · rw [M_in0 (by omega) (by omega) (by omega) (by omega) (by omega) (by omega) (by omega)] <;> rfl
      · rw [M_in0 (by omega) (by omega) (by omega) (by omega) (by omega) (by omega) (by omega)] <;> rfl
