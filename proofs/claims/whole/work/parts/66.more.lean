/-! level two: over, near, range -/
theorem m_pow {x : Int} {L : Nat} (hn : L < 1000) : X11_toThe (wJ x) (wI L) = some (wJ (x ^ L)) := by
  have hl : ∀ n i k, i + n = L → n < k → X11_toThe_b5 (wJ x) (wI L) k (wJ (x ^ i)) (wI i) = some (wJ (x ^ L)) := by
    intro n
    induction n with
    | zero =>
      intro i k h1 h2 
      obtain ⟨k, rfl⟩ : ∃ m, k = m + 1 := ⟨k - 1, by omega⟩
      have e : i = L := by omega
      simp (disch := omega) only [X11_toThe_b5, wI_le]
      rw [if_pos (by omega), e]
    | succ n ih =>
      intro i k h1 h2 
      obtain ⟨k, rfl⟩ : ∃ m, k = m + 1 := ⟨k - 1, by omega⟩
      have hi : i < L := by omega
      have hih := ih (i + 1) k (by omega) (by omega)
      rw [Int.pow_succ] at hih
      simp (disch := omega) only [X11_toThe_b5, wI_le, wJ_mul, wI_lit, wI_add]
      rw [if_neg (by omega)]
      exact hih
  have h0 := hl L 0 q_FU (by omega) (by unfold q_FU; omega)
  rw [Int.pow_zero] at h0
  exact h0
/-- how many of the first `m` looks fall on the right cell -/
def q_lks (q d m : Nat) : Nat := if d < m then (m - 1 - d) / q + 1 else 0
theorem q_lks_s {q d m : Nat} (hq : 0 < q) : q_lks q d (m + 1) = q_lks q d m + if d ≤ m ∧ (m - d) % q = 0 then 1 else 0 := by
  unfold q_lks
  by_cases h1 : d ≤ m
  · rw [if_pos (by omega)]
    by_cases h2 : d < m
    · rw [if_pos h2, show m + 1 - 1 - d = (m - 1 - d) + 1 by omega, Nat.succ_div]
      by_cases h3 : (m - d) % q = 0
      · rw [if_pos (Nat.dvd_of_mod_eq_zero (by rw [show m - 1 - d + 1 = m - d by omega]; exact h3)), if_pos ⟨h1, h3⟩]
      · rw [if_neg (fun g : q ∣ m - 1 - d + 1 => h3 (by rw [show m - d = m - 1 - d + 1 by omega]; exact Nat.mod_eq_zero_of_dvd g)), if_neg (fun g => h3 g.2)]
    · have e : m = d := by omega
      subst e
      rw [if_neg h2, show m + 1 - 1 - m = 0 by omega, Nat.zero_div, if_pos ⟨h1, by rw [Nat.sub_self, Nat.zero_mod]⟩]
  · rw [if_neg (by omega), if_neg (by omega), if_neg (by omega)]
theorem q_lks_le {q d : Nat} (hq : 0 < q) (m : Nat) : q_lks q d m ≤ m := by
  induction m with
  | zero => unfold q_lks; rw [if_neg (by omega)]; omega
  | succ m ih =>
    rw [q_lks_s hq]
    by_cases h : d ≤ m ∧ (m - d) % q = 0
    · rw [if_pos h]; omega
    · rw [if_neg h]; omega
theorem R_over : q_c_over q_Rel := by
  intro k b1 b2 dt1 dt2 a0 a1 a2 a3 a4 hk hR
  obtain ⟨q, rfl, hq1, hq2⟩ := q_arg a0
  obtain ⟨a, rfl, ha1, ha2⟩ := q_arg a1
  obtain ⟨b, rfl, hb1, hb2⟩ := q_arg a2
  obtain ⟨d, rfl, hd1, hd2⟩ := q_arg a3
  obtain ⟨z, rfl, hz1, hz2⟩ := q_arg a4
  by_cases hv : (2 ≤ q ∧ q ≤ 1000) ∧ (1 ≤ b ∧ b ≤ 10) ∧ (1 ≤ a ∧ a ≤ b) ∧ (0 ≤ d ∧ d ≤ q - 1) ∧ (0 ≤ z ∧ z ≤ 18)
  · obtain ⟨hv1, hv2, hv3, hv4, hv5⟩ := hv
    obtain ⟨q, rfl⟩ := Int.eq_ofNat_of_zero_le (show 0 ≤ q by omega)
    obtain ⟨d, rfl⟩ := Int.eq_ofNat_of_zero_le (show 0 ≤ d by omega)
    obtain ⟨L, rfl⟩ := Int.eq_ofNat_of_zero_le (show 0 ≤ z by omega)
    have hle := q_lks_le (q := q) (d := d) (by omega) L
    refine ⟨wJ (b ^ L - (b - a) ^ q_lks q d L * b ^ (L - q_lks q d L)), ?_, ?_, R_up hR⟩
    · have e99 : ∀ m : Nat, m ≤ L → X11_over_b99 (wI a) (wI b) (wI L) (wI m) = some (wJ (b ^ L - (b - a) ^ m * b ^ (L - m))) := by
        intro m hm
        unfold X11_over_b99
        rw [wI_sub, wI_sub, ← Int.ofNat_sub hm, wI_wJ (by omega) (by omega), wI_wJ (by omega) (by omega), m_pow (by omega), m_pow (by omega), m_pow (by omega)]
        simp only [q_b1, wJ_mul, wJ_sub]
      unfold X11_over
      simp (disch := omega) only [wI_lit, wI_lt]
      rw [if_neg (by omega), if_neg (by omega), if_neg (by omega), if_neg (by omega)]
      unfold X11_over_b26
      rw [if_neg (by decide)]
      simp (disch := omega) only [wI_lit, wI_lt, wI_le]
      rw [if_neg (by omega), if_neg (by omega), if_neg (by omega), if_neg (by omega), if_neg (by omega), if_pos (by omega)]
      by_cases h1 : d < L
      · rw [if_neg (by omega)]
        rw [wI_sub, wI_sub, ← Int.ofNat_sub (show 1 ≤ L by omega), ← Int.ofNat_sub (show d ≤ L - 1 by omega), wI_wJ (by omega) (by omega), wI_wJ (by omega) (by omega), m_quo (by omega) (by omega) (by omega) (by omega)]
        simp only [q_b1, wJ_wI]
        rw [wI_add, ← Int.natCast_ediv, ← Int.natCast_add]
        have e2 : (L - 1 - d) / q + 1 = q_lks q d L := by
          unfold q_lks
          rw [if_pos h1]
        rw [e2]
        exact e99 _ hle
      · rw [if_pos (by omega)]
        have e2 : 0 = q_lks q d L := by
          unfold q_lks
          rw [if_neg h1]
        rw [← e2]
        exact e99 0 (by omega)
    · unfold X12_over
      simp (disch := omega) only [wI_lit, wI_sub, M_in1, q_b1]
      rw [if_neg (by decide), if_neg (by decide), if_neg (by decide), if_neg (by decide), if_neg (by decide)]
      have hl : ∀ n i k, i + n = L → n < k → X12_over_b66 (wI q) (wI a) (wI b) (wI d) (wI L) k (wJ (b ^ i)) (wJ ((b - a) ^ q_lks q d i * b ^ (i - q_lks q d i))) (wI (i + 1 : Nat)) = some (wJ (b ^ L - (b - a) ^ q_lks q d L * b ^ (L - q_lks q d L))) := by
        intro n
        induction n with
        | zero =>
          intro i k h1 h2 
          obtain ⟨k, rfl⟩ : ∃ m, k = m + 1 := ⟨k - 1, by omega⟩
          have e : i = L := by omega
          simp (disch := omega) only [X12_over_b66, wI_lt]
          rw [if_pos (by omega), e, wJ_sub]
        | succ n ih =>
          intro i k h1 h2 
          obtain ⟨k, rfl⟩ : ∃ m, k = m + 1 := ⟨k - 1, by omega⟩
          have hi : i < L := by omega
          have hih := ih (i + 1) k (by omega) (by omega)
          have hle2 := q_lks_le (q := q) (d := d) (by omega) i
          rw [q_lks_s (by omega)] at hih
          simp (disch := omega) only [X12_over_b66, wI_lt, wI_le, wI_lit, wI_eq, wI_sub, wI_wJ, wJ_mul, X12_over_b108, X12_over_b110, wI_add, ← Int.natCast_add]
          rw [if_neg (by omega)]
          by_cases h1 : d ≤ i
          · rw [if_neg (by omega), if_neg (by omega)]
            have e3 : ((i + 1 : Nat) : Int) - ((1 : Nat) : Int) - (d : Int) = ((i - d : Nat) : Int) := by omega
            rw [e3, wI_mod (by omega) (by omega) (by omega) (by omega), ← Int.natCast_emod]
            have h2 := Nat.mod_lt (i - d) (show 0 < q by omega)
            simp (disch := omega) only [wI_eq]
            by_cases h3 : (i - d) % q = 0
            · rw [if_pos (by omega)]
              rw [if_pos ⟨h1, h3⟩, show i + 1 - (q_lks q d i + 1) = i - q_lks q d i by omega, Int.pow_succ, Int.pow_succ] at hih
              rw [show (b - a) ^ q_lks q d i * b ^ (i - q_lks q d i) * (b - a) = (b - a) ^ q_lks q d i * (b - a) * b ^ (i - q_lks q d i) by rw [Int.mul_assoc, Int.mul_comm (b ^ (i - q_lks q d i)), ← Int.mul_assoc]]
              exact hih
            · rw [if_neg (by omega)]
              rw [if_neg (fun g => h3 g.2), Nat.add_zero (q_lks q d i), show i + 1 - q_lks q d i = (i - q_lks q d i) + 1 by omega, Int.pow_succ, Int.pow_succ, ← Int.mul_assoc] at hih
              exact hih
          · rw [if_pos (by omega)]
            rw [if_neg (fun g => h1 g.1), Nat.add_zero (q_lks q d i), show i + 1 - q_lks q d i = (i - q_lks q d i) + 1 by omega, Int.pow_succ, Int.pow_succ, ← Int.mul_assoc] at hih
            exact hih
      have h0 := hl L 0 q_FU (by omega) (by unfold q_FU; omega)
      have e0 : q_lks q d 0 = 0 := by unfold q_lks; rw [if_neg (by omega)]
      rw [e0] at h0
      simp only [Int.pow_zero, Nat.sub_zero, Int.mul_one] at h0
      exact h0
  · refine ⟨-1, ?_, ?_, R_up hR⟩
    · have e26 : X11_over_b26 (wI q) (wI a) (wI b) (wI d) (wI z) 0 = some (-1) := by
        unfold X11_over_b26 X11_over_b68
        rw [if_pos rfl]
      unfold X11_over X11_over_b25
      rw [e26]
      simp (disch := omega) only [wI_lit, wI_lt]
      by_cases h1 : 1 ≤ b ∧ b ≤ 10 ∧ 1 ≤ a ∧ a ≤ b
      · rw [if_neg (by omega), if_neg (by omega), if_neg (by omega), if_neg (by omega)]
        unfold X11_over_b26 X11_over_b68
        rw [if_neg (by decide)]
        simp (disch := omega) only [wI_lit, wI_lt, wI_le]
        by_cases h2 : q < 2
        · rw [if_pos (by omega)] <;> rfl
        · rw [if_neg (by omega)]
          by_cases h3 : 1000 < q
          · rw [if_pos (by omega)] <;> rfl
          · rw [if_neg (by omega)]
            by_cases h4 : d < 0
            · rw [if_pos (by omega)] <;> rfl
            · rw [if_neg (by omega)]
              by_cases h5 : q ≤ d
              · rw [if_pos (by omega)] <;> rfl
              · rw [if_neg (by omega)]
                by_cases h6 : z < 0
                · rw [if_pos (by omega)] <;> rfl
                · rw [if_neg (by omega), if_neg (by omega)] <;> rfl
      · by_cases h2 : b < 1
        · rw [if_pos (by omega)] <;> rfl
        · rw [if_neg (by omega)]
          by_cases h3 : 10 < b
          · rw [if_pos (by omega)] <;> rfl
          · rw [if_neg (by omega)]
            by_cases h4 : a < 1
            · rw [if_pos (by omega)] <;> rfl
            · rw [if_neg (by omega), if_pos (by omega)] <;> rfl
    · unfold X12_over X12_over_b53
      simp only [wI_lit]
      by_cases h1 : 2 ≤ q ∧ q ≤ 1000
      · rw [M_in1 (by omega) (by omega) (by omega) (by omega) (by omega) (by omega) (by omega)]
        simp only [q_b1]
        rw [if_neg (by decide)]
        by_cases h2 : 1 ≤ b ∧ b ≤ 10
        · rw [M_in1 (by omega) (by omega) (by omega) (by omega) (by omega) (by omega) (by omega)]
          simp only [q_b1]
          rw [if_neg (by decide)]
          by_cases h3 : 1 ≤ a ∧ a ≤ b
          · rw [M_in1 (by omega) (by omega) (by omega) (by omega) (by omega) (by omega) (by omega)]
            simp only [q_b1]
            rw [if_neg (by decide), wI_sub]
            by_cases h4 : 0 ≤ d ∧ d ≤ q - 1
            · rw [M_in1 (by omega) (by omega) (by omega) (by omega) (by omega) (by omega) (by omega)]
              simp only [q_b1]
              rw [if_neg (by decide), M_in0 (by omega) (by omega) (by omega) (by omega) (by omega) (by omega) (by omega)]
              rfl
            · rw [M_in0 (by omega) (by omega) (by omega) (by omega) (by omega) (by omega) (by omega)] <;> rfl
          · rw [M_in0 (by omega) (by omega) (by omega) (by omega) (by omega) (by omega) (by omega)] <;> rfl
        · rw [M_in0 (by omega) (by omega) (by omega) (by omega) (by omega) (by omega) (by omega)] <;> rfl
      · rw [M_in0 (by omega) (by omega) (by omega) (by omega) (by omega) (by omega) (by omega)] <;> rfl
/-- how far two delays lie apart in a round -/
def q_ap (a d : Int) (l : Nat) : Int := if (l : Int) - (a - d) % l < (a - d) % l then (l : Int) - (a - d) % l else (a - d) % l
theorem q_ap_b {a d : Int} {l : Nat} (hl : 0 < l) : 0 ≤ q_ap a d l ∧ q_ap a d l ≤ l ∧ 2 * q_ap a d l ≤ l := by
  have h1 := Int.emod_nonneg (a - d) (show (l : Int) ≠ 0 by omega)
  have h2 := Int.emod_lt_of_pos (a - d) (show (0 : Int) < l by omega)
  unfold q_ap
  by_cases h : (l : Int) - (a - d) % l < (a - d) % l
  · rw [if_pos h]; omega
  · rw [if_neg h]; omega
theorem m_ap {a d : Int} {l : Nat} (ha1 : -2147483648 ≤ a) (ha2 : a < 2147483648) (hd1 : -2147483648 ≤ d) (hd2 : d < 2147483648) (hl : 0 < l) (hl2 : l < 100000) : X11_apart (wI a) (wI d) (wI l) = some (wI (q_ap a d l)) := by
  have h1 := Int.emod_nonneg (a - d) (show (l : Int) ≠ 0 by omega)
  have h2 := Int.emod_lt_of_pos (a - d) (show (0 : Int) < l by omega)
  simp (disch := omega) only [X11_apart, wI_wJ, wJ_sub, m_rest, q_b1, wJ_wI, wI_sub, m_min]
  rfl
theorem n_ap {a d : Int} {l : Nat} (ha1 : -2147483648 < a - d) (ha2 : a - d < 2147483648) (hl : 0 < l) (hl2 : l < 100000) : X12_apart (wI a) (wI d) (wI l) = some (wI (q_ap a d l)) := by
  have h1 := Int.emod_nonneg (a - d) (show (l : Int) ≠ 0 by omega)
  have h2 := Int.emod_lt_of_pos (a - d) (show (0 : Int) < l by omega)
  have h3 := q_tmod_emod (a := a - d) (show (0 : Int) < l by omega)
  have h4 := Int.tmod_lt_of_pos (a - d) (show (0 : Int) < l by omega)
  have e14 : X12_apart_b14 (wI l) (wI ((a - d) % l)) = some (wI (q_ap a d l)) := by
    simp (disch := omega) only [X12_apart_b14, wI_sub, wI_le]
    unfold q_ap
    by_cases h : (l : Int) - (a - d) % l < (a - d) % l
    · rw [if_pos (by omega), if_pos h]
    · rw [if_neg h]
      by_cases h5 : (l : Int) - (a - d) % l ≤ (a - d) % l
      · rw [if_pos h5, show (l : Int) - (a - d) % l = (a - d) % l by omega]
      · rw [if_neg h5]
  unfold X12_apart
  rw [wI_sub, wI_ir ha1 ha2 (by omega) (by omega)]
  have h5 : -(l : Int) < (a - d).tmod l := Int.lt_tmod_of_pos _ (by omega)
  simp (disch := omega) only [wI_lit, wI_eq, wI_le, wI_add]
  rw [if_neg (by omega)]
  by_cases h : 0 ≤ (a - d).tmod l
  · rw [if_pos h] at h3
    rw [if_pos (by omega), ← h3]
    exact e14
  · rw [if_neg h] at h3
    rw [if_neg (by omega), ← h3]
    exact e14
