/-! level two: frame, count -/
def q_isF (bt : Nat → Nat) (W n0 from' : Nat) : Nat → Nat → Bool
  | 0, _ => true
  | c + 1, i => if bt (from' + i) = q_bt W i then q_isF bt W n0 from' c (i + 1) else false
def q_plF (bt : Nat → Nat) (W n0 np : Nat) : Nat → Nat → Int
  | 0, _ => -1
  | c + 1, p => if p + n0 ≤ np then (if q_isF bt W n0 p n0 0 = true then (p : Int) else q_plF bt W n0 np c (p + 1)) else -1
theorem T_isF {b W n0 fr : Nat} {d : q_Dt} {rs : Nat → Int} (hd : ∀ p, p < 512 → d.2.1 (b + 45) p = wJ (rs p)) (hb : ∀ p, -9223372036854775808 ≤ rs p ∧ rs p < 9223372036854775808) (hW : W < 2147483648) (hn : n0 ≤ 13) (hfr : fr + n0 ≤ 512) : X4_isFrame (A1 b) d (b + 43) (wI W) (wI n0) (wI fr) = some (q_ib (q_isF (fun p => q_sgb1 (rs p)) W n0 fr n0 0)) := by
  have hl : ∀ n i k : Nat, i + n = n0 → n < k → X4_isFrame_b3 (A1 b) d (b + 43) (wI W) (wI n0) (wI fr) k (wI i) = some (q_ib (q_isF (fun p => q_sgb1 (rs p)) W n0 fr n i)) := by
    intro n
    induction n with
    | zero =>
      intro i k z1 z2 
      obtain ⟨k, rfl⟩ : ∃ m, k = m + 1 := ⟨k - 1, by omega⟩
      have e : i = n0 := by omega
      rw [X4_isFrame_b3.eq_2]
      simp (disch := omega) only [wI_le]
      rw [if_pos (by omega)]
      rfl
    | succ n ih =>
      intro i k z1 z2 
      obtain ⟨k, rfl⟩ : ∃ m, k = m + 1 := ⟨k - 1, by omega⟩
      have hi : i < n0 := by omega
      have hih := ih (i + 1) k (by omega) (by omega)
      have ei : wI i + 1 = wI (i + 1 : Nat) := wI_add i 1
      have ef : wI fr + wI i = wI (fr + i : Nat) := wI_add _ _
      have h1 := q_sgb1_b (rs (fr + i))
      have h2 := q_bt_2 W i
      rw [X4_isFrame_b3.eq_2, ef, T_bitRead (hd _ (by omega)) (by omega) (hb _).1 (hb _).2, b1s, wI_bit hW (by omega), ei]
      simp (disch := omega) only [wI_le, wI_eq]
      rw [if_neg (by omega)]
      by_cases h : q_sgb1 (rs (fr + i)) = q_bt W i
      · have e1 : q_isF (fun p => q_sgb1 (rs p)) W n0 fr (n + 1) i = q_isF (fun p => q_sgb1 (rs p)) W n0 fr n (i + 1) := if_pos h
        rw [if_pos (by omega), e1]
        exact hih
      · have e1 : q_isF (fun p => q_sgb1 (rs p)) W n0 fr (n + 1) i = false := if_neg h
        rw [if_neg (by omega), e1]
        rfl
  have h0 := hl n0 0 q_FU (by omega) (by unfold q_FU; omega)
  unfold X4_isFrame
  rw [show (0 : Int32) = wI ((0 : Nat) : Int) from rfl]
  exact h0
theorem T_placeF {b W n0 np : Nat} {d : q_Dt} {rs : Nat → Int} (hd : ∀ p, p < 512 → d.2.1 (b + 45) p = wJ (rs p)) (hb : ∀ p, -9223372036854775808 ≤ rs p ∧ rs p < 9223372036854775808) (hW : W < 2147483648) (hn : n0 ≤ 13) (hn1 : 1 ≤ n0) (hnp : np ≤ 512) : X4_placeOfBits (A1 b) d (b + 43) (wI W) (wI n0) (wI np) = some (wI (q_plF (fun p => q_sgb1 (rs p)) W n0 np 513 0)) := by
  have hl : ∀ n i k : Nat, i + n = 513 → n < k → X4_placeOfBits_b3 (A1 b) d (b + 43) (wI W) (wI n0) (wI np) k (wI i) = some (wI (q_plF (fun p => q_sgb1 (rs p)) W n0 np n i)) := by
    intro n
    induction n with
    | zero =>
      intro i k z1 z2 
      obtain ⟨k, rfl⟩ : ∃ m, k = m + 1 := ⟨k - 1, by omega⟩
      have e : i = 513 := by omega
      rw [X4_placeOfBits_b3.eq_2]
      simp (disch := omega) only [wI_add, wI_lt]
      rw [if_pos (by omega)]
      rfl
    | succ n ih =>
      intro i k z1 z2 
      obtain ⟨k, rfl⟩ : ∃ m, k = m + 1 := ⟨k - 1, by omega⟩
      have hi : i < 513 := by omega
      have hih := ih (i + 1) k (by omega) (by omega)
      have ei : wI i + 1 = wI (i + 1 : Nat) := wI_add i 1
      by_cases h : i + n0 ≤ np
      · rw [X4_placeOfBits_b3.eq_2, T_isF hd hb hW hn (by omega), b1s, ei]
        simp (disch := omega) only [wI_add, wI_lt, q_ib_0]
        rw [if_neg (show ¬ (np : Int) < (i : Int) + n0 by omega)]
        have e1 : q_plF (fun p => q_sgb1 (rs p)) W n0 np (n + 1) i = if q_isF (fun p => q_sgb1 (rs p)) W n0 i n0 0 = true then (i : Int) else q_plF (fun p => q_sgb1 (rs p)) W n0 np n (i + 1) := if_pos h
        rw [e1]
        by_cases h2 : q_isF (fun p => q_sgb1 (rs p)) W n0 i n0 0 = true
        · rw [if_neg (fun q => q h2), if_pos h2]
        · rw [if_pos h2, if_neg h2]
          exact hih
      · have e1 : q_plF (fun p => q_sgb1 (rs p)) W n0 np (n + 1) i = -1 := if_neg h
        rw [X4_placeOfBits_b3.eq_2, e1]
        simp (disch := omega) only [wI_add, wI_lt]
        rw [if_pos (by omega)]
        rfl
  have h0 := hl 513 0 q_FU (by omega) (by unfold q_FU; omega)
  unfold X4_placeOfBits
  rw [show (0 : Int32) = wI ((0 : Nat) : Int) from rfl]
  exact h0
theorem M_isF {b s W n0 fr : Nat} {d : q_Dt} {T : q_Tl} {rs : Nat → Int} (h : q_hs b d T s rs) (hb : ∀ p, -9223372036854775808 ≤ rs p ∧ rs p < 9223372036854775808) (hW : W < 2147483648) (hn : n0 ≤ 13) (hfr : fr + n0 ≤ 512) (kk : Int32 → q_Dt → Option (Int32 × q_Dt)) : X12_frame_b62 (A2 b) kk b (wI W) (wI n0) (wI fr) q_FU 1 0 d = if fr + n0 ≤ q_np T s ∧ q_isF (fun p => q_sgb1 (rs p)) W n0 fr n0 0 = true then some (wI fr, d) else if n0 = 0 then some (wI fr, d) else kk (wI (fr + 1 : Nat)) d := by
  have eF : wI fr + 1 = wI (fr + 1 : Nat) := wI_add fr 1
  have h0 : ∀ n i k : Nat, i + n = n0 → n < k → X12_frame_b62 (A2 b) kk b (wI W) (wI n0) (wI fr) k 0 (wI i) d = kk (wI (fr + 1 : Nat)) d := by
    intro n
    induction n with
    | zero =>
      intro i k z1 z2 
      obtain ⟨k, rfl⟩ : ∃ m, k = m + 1 := ⟨k - 1, by omega⟩
      have e : i = n0 := by omega
      rw [X12_frame_b62.eq_2, eF]
      simp (disch := omega) only [wI_le]
      rw [if_pos (by omega), if_pos trivial]
    | succ n ih =>
      intro i k z1 z2 
      obtain ⟨k, rfl⟩ : ∃ m, k = m + 1 := ⟨k - 1, by omega⟩
      have hi : i < n0 := by omega
      have hih := ih (i + 1) k (by omega) (by omega)
      have ei : wI i + 1 = wI (i + 1 : Nat) := wI_add i 1
      rw [X12_frame_b62.eq_2]
      simp (disch := omega) only [wI_le, if_true, X12_frame_b95, X12_frame_b96, ei]
      rw [if_neg (by omega)]
      exact hih
  have hl : ∀ n i k : Nat, i + n = n0 → n < k → X12_frame_b62 (A2 b) kk b (wI W) (wI n0) (wI fr) k 1 (wI i) d = if (i = n0 ∨ fr + n0 ≤ q_np T s) ∧ q_isF (fun p => q_sgb1 (rs p)) W n0 fr n i = true then some (wI fr, d) else kk (wI (fr + 1 : Nat)) d := by
    intro n
    induction n with
    | zero =>
      intro i k z1 z2 
      obtain ⟨k, rfl⟩ : ∃ m, k = m + 1 := ⟨k - 1, by omega⟩
      have e : i = n0 := by omega
      rw [X12_frame_b62.eq_2, if_pos (show (i = n0 ∨ fr + n0 ≤ q_np T s) ∧ q_isF (fun p => q_sgb1 (rs p)) W n0 fr 0 i = true from ⟨Or.inl e, rfl⟩)]
      simp (disch := omega) only [wI_le]
      rw [if_pos (by omega), if_neg (show ¬ (1 : Int32) = 0 by decide)]
    | succ n ih =>
      intro i k z1 z2 
      obtain ⟨k, rfl⟩ : ∃ m, k = m + 1 := ⟨k - 1, by omega⟩
      have hi : i < n0 := by omega
      have hih := ih (i + 1) k (by omega) (by omega)
      have ei : wI i + 1 = wI (i + 1 : Nat) := wI_add i 1
      have ef : wI fr + wI i = wI (fr + i : Nat) := wI_add _ _
      have h1 := q_sgb1_b (rs (fr + i))
      have h2 := q_bt_2 W i
      have hz := h0 n (i + 1) k (by omega) (by omega)
      have kL : (wI n0 ≤ wI i) = False := by
        rw [wI_le (by omega) (by omega) (by omega) (by omega)]
        exact eq_false (by omega)
      rw [X12_frame_b62.eq_2, ef, M_bitOf h (by omega) (hb _).1 (hb _).2, b1s, wI_bit hW (by omega)]
      simp only [kL, ↓reduceIte, q_10, X12_frame_b95, X12_frame_b96, ei]
      by_cases hq : fr + i < q_np T s
      · rw [if_pos hq]
        simp (disch := omega) only [wI_eq]
        by_cases h3 : q_sgb1 (rs (fr + i)) = q_bt W i
        · have e1 : q_isF (fun p => q_sgb1 (rs p)) W n0 fr (n + 1) i = q_isF (fun p => q_sgb1 (rs p)) W n0 fr n (i + 1) := if_pos h3
          rw [if_pos (by omega), hih, e1]
          by_cases h4 : q_isF (fun p => q_sgb1 (rs p)) W n0 fr n (i + 1) = true
          · by_cases h5 : fr + n0 ≤ q_np T s
            · rw [if_pos ⟨Or.inr h5, h4⟩, if_pos ⟨Or.inr h5, h4⟩]
            · rw [if_neg (fun q => h5 (by have := q.1; omega)), if_neg (fun q => h5 (by have := q.1; omega))]
          · rw [if_neg (fun q => h4 q.2), if_neg (fun q => h4 q.2)]
        · have e1 : q_isF (fun p => q_sgb1 (rs p)) W n0 fr (n + 1) i = false := if_neg h3
          rw [if_neg (by omega), hz, e1, if_neg (fun q => Bool.noConfusion q.2)]
      · rw [if_neg hq, if_neg (show ¬ (-2 : Int32) = wI (q_bt W i : Nat) by
          rw [show (-2 : Int32) = wI (-2) from rfl, wI_eq (by omega) (by omega) (by omega) (by omega)]
          omega), hz, if_neg (fun q => by have := q.1; omega)]
  have hh := hl n0 0 q_FU (by omega) (by unfold q_FU; omega)
  rw [show (0 : Int32) = wI ((0 : Nat) : Int) from rfl] at *
  by_cases hn0 : n0 = 0
  · subst hn0
    rw [hh, if_pos ⟨Or.inl rfl, rfl⟩, if_pos rfl, ite_self]
  · rw [hh, if_neg hn0]
    by_cases h5 : fr + n0 ≤ q_np T s ∧ q_isF (fun p => q_sgb1 (rs p)) W n0 fr n0 0 = true
    · rw [if_pos h5, if_pos ⟨Or.inr h5.1, h5.2⟩]
    · rw [if_neg h5, if_neg (fun q => h5 ⟨by have := q.1; omega, q.2⟩)]
theorem M_placeF {b s W n0 : Nat} {d : q_Dt} {T : q_Tl} {rs : Nat → Int} (h : q_hs b d T s rs) (hb : ∀ p, -9223372036854775808 ≤ rs p ∧ rs p < 9223372036854775808) (hW : W < 2147483648) (hn : n0 ≤ 13) (hn1 : 1 ≤ n0) (hnp : q_np T s ≤ 512) : X12_frame_b46 (A2 b) b (wI W) (wI n0) q_FU 0 d = some (wI (if q_plF (fun p => q_sgb1 (rs p)) W n0 (q_np T s) 513 0 = -1 then -2 else q_plF (fun p => q_sgb1 (rs p)) W n0 (q_np T s) 513 0), d) := by
  have hno : ∀ (n i k : Nat), i + n = 513 → n < k → ¬ i + n0 ≤ q_np T s → X12_frame_b46 (A2 b) b (wI W) (wI n0) k (wI i) d = some (-2, d) := by
    intro n
    induction n with
    | zero =>
      intro i k z1 z2 z3
      obtain ⟨k, rfl⟩ : ∃ m, k = m + 1 := ⟨k - 1, by omega⟩
      rw [X12_frame_b46.eq_2, show (512 : Int32) = wI 512 from rfl]
      simp (disch := omega) only [wI_add, wI_lt]
      rw [if_pos (by omega)]
    | succ n ih =>
      intro i k z1 z2 z3
      obtain ⟨k, rfl⟩ : ∃ m, k = m + 1 := ⟨k - 1, by omega⟩
      by_cases h5 : i + n0 ≤ 512
      · rw [X12_frame_b46.eq_2, M_isF h hb hW hn h5, if_neg (show ¬ (i + n0 ≤ q_np T s ∧ q_isF (fun p => q_sgb1 (rs p)) W n0 i n0 0 = true) from fun q => z3 q.1), if_neg (show ¬ n0 = 0 by omega), show (512 : Int32) = wI 512 from rfl]
        simp (disch := omega) only [wI_add, wI_lt]
        rw [if_neg (by omega)]
        exact ih (i + 1) k (by omega) (by omega) (by omega)
      · rw [X12_frame_b46.eq_2, show (512 : Int32) = wI 512 from rfl]
        simp (disch := omega) only [wI_add, wI_lt]
        rw [if_pos (by omega)]
  have hl : ∀ n i k : Nat, i + n = 513 → n < k → X12_frame_b46 (A2 b) b (wI W) (wI n0) k (wI i) d = some (wI (if q_plF (fun p => q_sgb1 (rs p)) W n0 (q_np T s) n i = -1 then -2 else q_plF (fun p => q_sgb1 (rs p)) W n0 (q_np T s) n i), d) := by
    intro n
    induction n with
    | zero =>
      intro i k z1 z2 
      obtain ⟨k, rfl⟩ : ∃ m, k = m + 1 := ⟨k - 1, by omega⟩
      have e : i = 513 := by omega
      rw [hno 0 i (k + 1) (by omega) (by omega) (by omega), if_pos (show q_plF (fun p => q_sgb1 (rs p)) W n0 (q_np T s) 0 i = -1 from rfl)]
      rfl
    | succ n ih =>
      intro i k z1 z2 
      obtain ⟨k, rfl⟩ : ∃ m, k = m + 1 := ⟨k - 1, by omega⟩
      have hi : i < 513 := by omega
      have hih := ih (i + 1) k (by omega) (by omega)
      by_cases h5 : i + n0 ≤ q_np T s
      · have e1 : q_plF (fun p => q_sgb1 (rs p)) W n0 (q_np T s) (n + 1) i = if q_isF (fun p => q_sgb1 (rs p)) W n0 i n0 0 = true then (i : Int) else q_plF (fun p => q_sgb1 (rs p)) W n0 (q_np T s) n (i + 1) := if_pos h5
        rw [X12_frame_b46.eq_2, M_isF h hb hW hn (by omega), e1, show (512 : Int32) = wI 512 from rfl]
        simp (disch := omega) only [wI_add, wI_lt]
        rw [if_neg (by omega)]
        by_cases h6 : q_isF (fun p => q_sgb1 (rs p)) W n0 i n0 0 = true
        · rw [if_pos ⟨h5, h6⟩, if_pos h6, if_neg (by omega)]
        · rw [if_neg (fun q => h6 q.2), if_neg (show ¬ n0 = 0 by omega), if_neg h6]
          exact hih
      · have e1 : q_plF (fun p => q_sgb1 (rs p)) W n0 (q_np T s) (n + 1) i = -1 := if_neg h5
        rw [hno (n + 1) i (k + 1) (by omega) (by omega) h5, e1, if_pos rfl]
        rfl
  have h0 := hl 513 0 q_FU (by omega) (by unfold q_FU; omega)
  rw [show (0 : Int32) = wI ((0 : Nat) : Int) from rfl]
  exact h0
theorem R_frame : q_c_frame q_Rel := by
  intro k b1 b2 dt1 dt2 a0 a1 a2 hk hR
  obtain ⟨x, rfl, hx1, hx2⟩ := q_arg a0
  obtain ⟨y, rfl, hy1, hy2⟩ := q_arg a1
  obtain ⟨m, rfl, hm1, hm2⟩ := q_arg a2
  have hR' := hR
  obtain ⟨T, tt, sd, g, hT, hM, ho, hs, hn, hg, -⟩ := hR'
  have hb := q_gb_4 hg (by omega)
  have hN := hT.1.1
  have e2 := M_isSender hM hx1 hx2
  have n10 : ¬ (1 : Int32) = 0 := by decide
  have z1 : (wI m < 1) = (m < 1) := by
    rw [show (1 : Int32) = wI 1 from rfl, wI_lt hm1 hm2 (by omega) (by omega)]
  have z13 : (13 < wI m) = (13 < m) := by
    rw [show (13 : Int32) = wI 13 from rfl, wI_lt (by omega) (by omega) hm1 hm2]
  have z0 : (wI y < 0) = (y < 0) := by
    rw [show (0 : Int32) = wI 0 from rfl, wI_lt hy1 hy2 (by omega) (by omega)]
  have i13 : X12_in (wI m) 1 13 = some (if 1 ≤ m ∧ m ≤ 13 then 1 else 0) := M_in (a := 1) (b := 13) hm1 hm2 (by omega) (by omega) (by omega) (by omega)
  show ∃ r d1 d2, X11_frame (A1 b1) dt1 b1 (wI x) (wI y) (wI m) = some (r, d1) ∧ X12_frame (A2 b2) dt2 b2 (wI x) (wI y) (wI m) = some (r, d2) ∧ _
  by_cases hc : 0 ≤ x ∧ x < Tns T
  · rw [if_pos hc] at e2
    obtain ⟨s, rfl⟩ := Int.eq_ofNat_of_zero_le hc.1
    have hsn : s < Tns T := by omega
    have hnp := (q_np_e hT.1 hsn).2
    by_cases hm : 1 ≤ m ∧ m ≤ 13
    · rw [if_pos hm] at i13
      obtain ⟨m, rfl⟩ := Int.eq_ofNat_of_zero_le (show 0 ≤ m by omega)
      have hpw : 2 ^ m ≤ 2 ^ 13 := Nat.pow_le_pow_right (by omega) (by omega)
      have hp0 := Nat.two_pow_pos m
      have zs : (1 : Int32) <<< (wI m &&& 31) = wI (2 ^ m : Nat) := wI_shl (by omega)
      have zy : (wI y < wI (2 ^ m : Nat)) = (y < ((2 ^ m : Nat) : Int)) := by
        rw [wI_lt hy1 hy2 (by omega) (by omega)]
      have iy : X12_in (wI y) 0 (wI (2 ^ m : Nat) - 1) = some (if 0 ≤ y ∧ y ≤ ((2 ^ m : Nat) : Int) - 1 then 1 else 0) := by
        rw [show (1 : Int32) = wI 1 from rfl, wI_sub]
        exact M_in (a := 0) hy1 hy2 (by omega) (by omega) (by omega) (by omega)
      by_cases hy : 0 ≤ y ∧ y < ((2 ^ m : Nat) : Int)
      · rw [if_pos (by omega)] at iy
        obtain ⟨W, rfl⟩ := Int.eq_ofNat_of_zero_le hy.1
        obtain ⟨d1, p1, p2, p3⟩ := T_gather hT (So_in b1) hs hg.2 (Or.inl rfl) hsn
        obtain ⟨d2, r1, r2, r3, r4⟩ := M_sumsUp hM hsn (M_87_0 hM hsn (n53 b2) (by omega) hn hb)
        have hrb : ∀ p, -9223372036854775808 ≤ q_rs T g s p ∧ q_rs T g s p < 9223372036854775808 := fun p => by
          have := q_rs_b (p := p) hT.1 hsn hb
          omega
        have hT2 := T_fJ hT p2
        have fA := T_placeF (rs := q_rs T g s) (W := W) (n0 := m) p3 hrb (by omega) (by omega) (by omega) hnp
        have fB := M_placeF (s := s) (T := T) (rs := q_rs T g s) (W := W) (n0 := m) ⟨r3, r4⟩ hrb (by omega) (by omega) (by omega) hnp
        have hpl : ∀ c i, -1 ≤ q_plF (fun p => q_sgb1 (q_rs T g s p)) W m (q_np T s) c i ∧ q_plF (fun p => q_sgb1 (q_rs T g s p)) W m (q_np T s) c i ≤ (i : Int) + c := by
          intro c
          induction c with
          | zero =>
            intro i
            show (-1 : Int) ≤ -1 ∧ (-1 : Int) ≤ (i : Int) + (0 : Nat)
            omega
          | succ c ih =>
            intro i
            have := ih (i + 1)
            show -1 ≤ (if i + m ≤ q_np T s then (if q_isF (fun p => q_sgb1 (q_rs T g s p)) W m i m 0 = true then (i : Int) else q_plF (fun p => q_sgb1 (q_rs T g s p)) W m (q_np T s) c (i + 1)) else -1) ∧ (if i + m ≤ q_np T s then (if q_isF (fun p => q_sgb1 (q_rs T g s p)) W m i m 0 = true then (i : Int) else q_plF (fun p => q_sgb1 (q_rs T g s p)) W m (q_np T s) c (i + 1)) else -1) ≤ (i : Int) + (c + 1 : Nat)
            by_cases h1 : i + m ≤ q_np T s
            · rw [if_pos h1]
              by_cases h2 : q_isF (fun p => q_sgb1 (q_rs T g s p)) W m i m 0 = true
              · rw [if_pos h2]; omega
              · rw [if_neg h2]; omega
            · rw [if_neg h1]; omega
        have hp2 := hpl 513 0
        refine ⟨wI (if q_plF (fun p => q_sgb1 (q_rs T g s p)) W m (q_np T s) 513 0 = -1 then -2 else q_plF (fun p => q_sgb1 (q_rs T g s p)) W m (q_np T s) 513 0), d1, d2, ?_, ?_, R_keep hR (q_fJ_e1 p2) (q_fs_e2 r2)⟩
        · unfold X11_frame
          rw [ho.1, o1s, m1s, T_senderAt hT hsn, b1s, m1s, zs]
          simp only [z1, z13, z0, zy]
          rw [if_neg (by omega), if_neg (by omega), if_neg (by omega), if_pos (by omega), s0_5, s0_1, p1, b1s, p2.2.1, ho.1, o1s, m1s, hT2.2.2.1.2.2.2.2.2.1, T_periods hT2 hsn, b1s, fA, b1s, show (-1 : Int32) = wI (-1) from rfl]
          simp (disch := omega) only [wI_eq]
          by_cases h9 : q_plF (fun p => q_sgb1 (q_rs T g s p)) W m (q_np T s) 513 0 = -1
          · rw [if_pos h9, if_pos h9]
            rfl
          · rw [if_neg h9, if_neg h9]
        · unfold X12_frame
          rw [e2, b1s, if_neg n10, i13, b1s, if_neg n10, zs, iy, b1s, if_neg n10, m53, r1, b1s]
          exact fB
      · rw [if_neg (by omega)] at iy
        refine ⟨-1, dt1, dt2, ?_, ?_, R_up hR⟩
        · unfold X11_frame
          rw [ho.1, o1s, m1s, T_senderAt hT hsn, b1s, m1s, zs]
          simp only [z1, z13, z0, zy]
          rw [if_neg (by omega), if_neg (by omega)]
          by_cases h0 : y < 0
          · rw [if_pos h0]
          · rw [if_neg h0, if_neg (by omega)]
        · unfold X12_frame
          rw [e2, b1s, if_neg n10, i13, b1s, if_neg n10, zs, iy, b1s, if_pos rfl]
    · rw [if_neg hm] at i13
      refine ⟨-1, dt1, dt2, ?_, ?_, R_up hR⟩
      · unfold X11_frame
        rw [ho.1, o1s, m1s, T_senderAt hT hsn, b1s, m1s]
        simp only [z1, z13]
        by_cases h0 : m < 1
        · rw [if_pos h0]
        · rw [if_neg h0, if_pos (by omega)]
      · unfold X12_frame
        rw [e2, b1s, if_neg n10, i13, b1s, if_pos rfl]
  · rw [if_neg hc] at e2
    refine ⟨-1, dt1, dt2, ?_, ?_, R_up hR⟩
    · unfold X11_frame
      rw [ho.1, o1s, m1s, T_senderNo hT hx1 hx2 hc, b1s, m1n]
    · unfold X12_frame
      rw [e2, b1s, if_pos rfl]
