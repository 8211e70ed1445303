/-! level two: crowded -/
def q_cw (T : q_Tl) (S z : Nat) : Nat → Nat → Nat → Bool
  | 0, _, _ => false
  | n + 1, i, U => if q_bt S i = 1 then (if q_bt U (q_chn T i z) = 1 then true else q_cw T S z n (i + 1) (U ||| 2 ^ q_chn T i z)) else q_cw T S z n (i + 1) U
def q_ci (T : q_Tl) (S z a : Nat) : Nat → Nat → Bool
  | 0, _ => false
  | n + 1, b => if q_bt S b = 1 ∧ q_chn T a z = q_chn T b z then true else q_ci T S z a n (b + 1)
def q_co (T : q_Tl) (S z : Nat) : Nat → Nat → Bool
  | 0, _ => false
  | n + 1, a => if q_bt S a = 1 ∧ q_ci T S z a a 0 = true then true else q_co T S z n (a + 1)
def q_ib (b : Bool) : Int32 := if b = true then 1 else 0
theorem q_ci_iff {T : q_Tl} {S z a : Nat} (n : Nat) : ∀ b, q_ci T S z a n b = true ↔ ∃ j, b ≤ j ∧ j < b + n ∧ q_bt S j = 1 ∧ q_chn T a z = q_chn T j z := by
  induction n with
  | zero =>
    intro b
    refine ⟨fun h => Bool.noConfusion h, fun ⟨j, h1, h2, _⟩ => by omega⟩
  | succ n ih =>
    intro b
    show (if q_bt S b = 1 ∧ q_chn T a z = q_chn T b z then true else q_ci T S z a n (b + 1)) = true ↔ _
    by_cases h : q_bt S b = 1 ∧ q_chn T a z = q_chn T b z
    · rw [if_pos h]
      exact ⟨fun _ => ⟨b, by omega, by omega, h⟩, fun _ => rfl⟩
    · rw [if_neg h, ih (b + 1)]
      refine ⟨fun ⟨j, h1, h2, h3⟩ => ⟨j, by omega, by omega, h3⟩, fun ⟨j, h1, h2, h3⟩ => ⟨j, ?_, by omega, h3⟩⟩
      by_cases e : j = b
      · subst e; exact absurd h3 h
      · omega
theorem q_cw_co {T : q_Tl} {S z : Nat} (n : Nat) : ∀ i U, (∀ c, q_bt U c = 1 ↔ ∃ j, j < i ∧ q_bt S j = 1 ∧ c = q_chn T j z) → q_cw T S z n i U = q_co T S z n i := by
  induction n with
  | zero => intro i U _; rfl
  | succ n ih =>
    intro i U hU
    show (if q_bt S i = 1 then (if q_bt U (q_chn T i z) = 1 then true else q_cw T S z n (i + 1) (U ||| 2 ^ q_chn T i z)) else q_cw T S z n (i + 1) U) = (if q_bt S i = 1 ∧ q_ci T S z i i 0 = true then true else q_co T S z n (i + 1))
    by_cases h : q_bt S i = 1
    · rw [if_pos h]
      have h2 : q_ci T S z i i 0 = true ↔ q_bt U (q_chn T i z) = 1 := by
        rw [q_ci_iff, hU]
        exact ⟨fun ⟨j, _, h2, h3, h4⟩ => ⟨j, by omega, h3, h4⟩, fun ⟨j, h2, h3, h4⟩ => ⟨j, by omega, by omega, h3, h4⟩⟩
      by_cases h3 : q_bt U (q_chn T i z) = 1
      · rw [if_pos h3, if_pos ⟨h, h2.mpr h3⟩]
      · rw [if_neg h3, if_neg (fun g => h3 (h2.mp g.2))]
        refine ih (i + 1) _ (fun c => ?_)
        rw [q_bt_or]
        by_cases h4 : c = q_chn T i z
        · rw [if_pos h4]
          exact ⟨fun _ => ⟨i, by omega, h, h4⟩, fun _ => rfl⟩
        · rw [if_neg h4, hU]
          refine ⟨fun ⟨j, g1, g2, g3⟩ => ⟨j, by omega, g2, g3⟩, fun ⟨j, g1, g2, g3⟩ => ⟨j, ?_, g2, g3⟩⟩
          by_cases e : j = i
          · subst e; exact absurd g3 h4
          · omega
    · rw [if_neg h, if_neg (fun g => h g.1)]
      refine ih (i + 1) U (fun c => ?_)
      rw [hU]
      refine ⟨fun ⟨j, g1, g2, g3⟩ => ⟨j, by omega, g2, g3⟩, fun ⟨j, g1, g2, g3⟩ => ⟨j, ?_, g2, g3⟩⟩
      by_cases e : j = i
      · subst e; exact absurd g2 h
      · omega
theorem wI_andp {U c : Nat} (hU : U < 2147483648) (hc : c < 31) : (wI U &&& wI (2 ^ c : Nat) = wI (0 : Nat)) = (q_bt U c ≠ 1) := by
  have h3 : (2 : Nat) ^ c < 2 ^ 31 := Nat.pow_lt_pow_of_lt (by omega) hc
  have h4 : 0 < 2 ^ c := Nat.two_pow_pos c
  have h2 := q_bt_2 U c
  have h1 : U &&& 2 ^ c = q_bt U c * 2 ^ c := by
    refine Nat.eq_of_testBit_eq (fun j => ?_)
    have hb : (U.testBit c).toNat = q_bt U c := Nat.toNat_testBit U c
    rw [Nat.testBit_and, Nat.testBit_two_pow]
    by_cases e : c = j
    · subst e
      rw [decide_eq_true rfl, Bool.and_true]
      cases hu : U.testBit c with
      | false =>
        rw [hu] at hb
        rw [← hb]
        simp
      | true =>
        rw [hu] at hb
        rw [← hb]
        simp [Nat.testBit_two_pow]
    · rw [decide_eq_false e, Bool.and_false]
      rcases h2 with h2 | h2
      · rw [h2, Nat.zero_mul, Nat.zero_testBit]
      · rw [h2, Nat.one_mul, Nat.testBit_two_pow, decide_eq_false e]
  rw [wI_and, h1]
  rcases h2 with h2 | h2
  · rw [h2, Nat.zero_mul]
    simp
  · rw [h2, Nat.one_mul, wI_eq (by omega) (by omega) (by omega) (by omega)]
    exact propext ⟨fun q => absurd q (by omega), fun q => absurd rfl q⟩
theorem T_crowd {b t : Nat} {dt : q_Dt} {T : q_Tl} (h : q_TT b t dt T) {S z : Nat} (hS : S < 64) (hz : z < 1000) : X10_isCrowded (A1 b) dt t (wI S) (wI z) = some (q_ib (q_co T S z (Tnh T) 0)) := by
  have hn := h.1.1.2.1
  have h0 := h.2.2.1.2.1
  have hl : ∀ n i k, i + n = Tnh T → n < k → ∀ U : Nat, U < 2147483648 → X10_isCrowded_b5 (A1 b) dt t (wI S) (wI z) k (wI U) (wI i) = some (q_ib (q_cw T S z n i U)) := by
    intro n
    induction n with
    | zero =>
      intro i k h1 h2 
      obtain ⟨k, rfl⟩ : ∃ m, k = m + 1 := ⟨k - 1, by omega⟩
      have e : i = Tnh T := by omega
      intro U hU
      simp (disch := omega) only [X10_isCrowded_b5, h0, wI_le]
      rw [if_pos (by omega)]
      rfl
    | succ n ih =>
      intro i k h1 h2 
      obtain ⟨k, rfl⟩ : ∃ m, k = m + 1 := ⟨k - 1, by omega⟩
      have hi : i < Tnh T := by omega
      intro U hU
      have h1 := h.1.2.2.1 i hi
      have hch := q_chn_lt h.1 (i := z) hi
      have ei : wI i + 1 = wI (i + 1 : Nat) := wI_add i 1
      have h1e : (wI (q_bt S i) = (1 : Int32)) = ((q_bt S i : Int) = 1) := by
        have := q_bt_2 S i
        rw [show (1 : Int32) = wI 1 from rfl, wI_eq (by omega) (by omega) (by omega) (by omega)]
      have e0 : wI U &&& 0 = 0 := by
        rw [show (0 : Int32) = wI (0 : Nat) from rfl, wI_and, Nat.and_zero]
      have e00 : wI U ||| 0 = wI U := by
        rw [show (0 : Int32) = wI (0 : Nat) from rfl, wI_or, Nat.or_zero]
      rw [X10_isCrowded_b5.eq_2, wI_bit (by omega) (by omega), T_hopAt h hi]
      simp (disch := omega) only [h0, wI_le, b1s, X10_isCrowded_b34, m1s, m1n, T_chn h hi (show z < 2147483648 by omega), X10_isCrowded_b53, wI_shl, wI_or, ei, h1e, e0, e00]
      rw [if_neg (by omega)]
      show _ = some (q_ib (if q_bt S i = 1 then (if q_bt U (q_chn T i z) = 1 then true else q_cw T S z n (i + 1) (U ||| 2 ^ q_chn T i z)) else q_cw T S z n (i + 1) U))
      by_cases g : q_bt S i = 1
      · rw [if_pos (by omega), if_pos g]
        have e2 := wI_andp hU (show q_chn T i z < 31 by omega)
        rw [show wI ((0 : Nat) : Int) = (0 : Int32) from rfl] at e2
        simp only [e2]
        by_cases g2 : q_bt U (q_chn T i z) = 1
        · rw [if_neg (fun q => q g2), if_pos g2]
          rfl
        · rw [if_pos g2, if_neg g2]
          exact ih (i + 1) k (by omega) (by omega) _ (q_or_lt (n := 31) hU (by omega))
      · rw [if_neg (by omega), if_neg g, if_pos trivial]
        exact ih (i + 1) k (by omega) (by omega) U hU
  have h2 := hl (Tnh T) 0 q_FU (by omega) (by unfold q_FU; omega) 0 (by omega)
  rw [q_cw_co (Tnh T) 0 0 (fun c => by
    rw [q_bt_0]
    exact ⟨fun g => by omega, fun ⟨j, g1, _⟩ => by omega⟩)] at h2
  exact h2
theorem M_crowdI {b sd : Nat} {dt : q_Dt} {T : q_Tl} (h : q_M b sd dt T) {S z a : Nat} (hS : S < 64) (hz : z < 1000) (ha : a < Tnh T) (hab : q_bt S a = 1) (kk : Int32 → Option Int32) : X12_isCrowded_b18 (A2 b) dt kk b (wI S) (wI z) (wI a) q_FU 0 = if q_ci T S z a a 0 = true then some 1 else kk (wI (a + 1 : Nat)) := by
  have hn := h.1.1.2.1
  have hl : ∀ n i k, i + n = a → n < k → X12_isCrowded_b18 (A2 b) dt kk b (wI S) (wI z) (wI a) k (wI i) = (if q_ci T S z a n i = true then some 1 else kk (wI (a + 1 : Nat))) := by
    intro n
    induction n with
    | zero =>
      intro i k h1 h2 
      obtain ⟨k, rfl⟩ : ∃ m, k = m + 1 := ⟨k - 1, by omega⟩
      have e : i = a := by omega
      simp (disch := omega) only [X12_isCrowded_b18, wI_le]
      rw [if_pos (by omega), show wI a + 1 = wI (a + 1 : Nat) from wI_add a 1]
      rfl
    | succ n ih =>
      intro i k h1 h2 
      obtain ⟨k, rfl⟩ : ∃ m, k = m + 1 := ⟨k - 1, by omega⟩
      have hi : i < a := by omega
      have hih := ih (i + 1) k (by omega) (by omega)
      have h1 := h.1.2.2.1 i (by omega)
      have h2 := h.1.2.2.1 a ha
      have c1 := q_chn_lt h.1 (i := z) (show i < Tnh T by omega)
      have c2 := q_chn_lt h.1 (i := z) ha
      have ei : wI i + 1 = wI (i + 1 : Nat) := wI_add i 1
      have h1e : (wI (q_bt S i) = (1 : Int32)) = ((q_bt S i : Int) = 1) := by
        have := q_bt_2 S i
        rw [show (1 : Int32) = wI 1 from rfl, wI_eq (by omega) (by omega) (by omega) (by omega)]
      have h1a : (wI (q_bt S a) = (1 : Int32)) = ((q_bt S a : Int) = 1) := by
        have := q_bt_2 S a
        rw [show (1 : Int32) = wI 1 from rfl, wI_eq (by omega) (by omega) (by omega) (by omega)]
      rw [X12_isCrowded_b18.eq_2, wI_bit (by omega) (by omega), wI_bit (by omega) (by omega), M_chn h ha (show z < 2147483648 by omega), M_chn h (show i < Tnh T by omega) (show z < 2147483648 by omega)]
      simp (disch := omega) only [wI_le, b1s, X12_isCrowded_b61, ei, h1e, h1a, wI_eq]
      rw [if_neg (by omega), if_pos (by omega)]
      by_cases g : q_bt S i = 1
      · rw [if_pos (by omega)]
        by_cases g2 : q_chn T a z = q_chn T i z
        · have e3 : q_ci T S z a (n + 1) i = true := if_pos ⟨g, g2⟩
          rw [e3, if_pos (by omega), if_pos rfl]
        · have e3 : q_ci T S z a (n + 1) i = q_ci T S z a n (i + 1) := if_neg (fun q => g2 q.2)
          rw [e3, if_neg (by omega)]
          exact hih
      · have e3 : q_ci T S z a (n + 1) i = q_ci T S z a n (i + 1) := if_neg (fun q => g q.1)
        rw [e3, if_neg (by omega)]
        exact hih
  exact hl a 0 q_FU (by omega) (by unfold q_FU; omega)
theorem M_crowdS {b sd : Nat} {dt : q_Dt} {T : q_Tl} (h : q_M b sd dt T) {S z a : Nat} (hS : S < 64) (ha : a < Tnh T) (hab : q_bt S a = 0) (kk : Int32 → Option Int32) : X12_isCrowded_b18 (A2 b) dt kk b (wI S) (wI z) (wI a) q_FU 0 = kk (wI (a + 1 : Nat)) := by
  have hn := h.1.1.2.1
  have hl : ∀ n i k, i + n = a → n < k → X12_isCrowded_b18 (A2 b) dt kk b (wI S) (wI z) (wI a) k (wI i) = kk (wI (a + 1 : Nat)) := by
    intro n
    induction n with
    | zero =>
      intro i k h1 h2 
      obtain ⟨k, rfl⟩ : ∃ m, k = m + 1 := ⟨k - 1, by omega⟩
      have e : i = a := by omega
      simp (disch := omega) only [X12_isCrowded_b18, wI_le]
      rw [if_pos (by omega), show wI a + 1 = wI (a + 1 : Nat) from wI_add a 1]
    | succ n ih =>
      intro i k h1 h2 
      obtain ⟨k, rfl⟩ : ∃ m, k = m + 1 := ⟨k - 1, by omega⟩
      have hi : i < a := by omega
      have hih := ih (i + 1) k (by omega) (by omega)
      have ei : wI i + 1 = wI (i + 1 : Nat) := wI_add i 1
      have h1a : (wI (q_bt S a) = (1 : Int32)) = ((q_bt S a : Int) = 1) := by
        have := q_bt_2 S a
        rw [show (1 : Int32) = wI 1 from rfl, wI_eq (by omega) (by omega) (by omega) (by omega)]
      rw [X12_isCrowded_b18.eq_2, wI_bit (by omega) (by omega)]
      simp (disch := omega) only [wI_le, X12_isCrowded_b61, ei, h1a]
      rw [if_neg (by omega), if_neg (by omega)]
      exact hih
  exact hl a 0 q_FU (by omega) (by unfold q_FU; omega)
theorem M_crowd {b sd : Nat} {dt : q_Dt} {T : q_Tl} (h : q_M b sd dt T) {S z : Nat} (hS : S < 64) (hz : z < 1000) : X12_isCrowded (A2 b) dt b (wI S) (wI z) = some (q_ib (q_co T S z (Tnh T) 0)) := by
  have hM := h
  obtain ⟨⟨hw, -⟩, ⟨u1, u2, -, u3, -⟩, -⟩ := hM
  have hl : ∀ n i k, i + n = Tnh T → n < k → X12_isCrowded_b2 (A2 b) dt b (wI S) (wI z) k (wI i) = some (q_ib (q_co T S z n i)) := by
    intro n
    induction n with
    | zero =>
      intro i k h1 h2 
      obtain ⟨k, rfl⟩ : ∃ m, k = m + 1 := ⟨k - 1, by omega⟩
      have e : i = Tnh T := by omega
      simp (disch := omega) only [X12_isCrowded_b2, m27, n27, u2, wI_lit, wI_lt, wI_le, wI_nat, Int.toNat_natCast, u3]
      rw [if_neg (by omega), if_pos (by omega)]
      rfl
    | succ n ih =>
      intro i k h1 h2 
      obtain ⟨k, rfl⟩ : ∃ m, k = m + 1 := ⟨k - 1, by omega⟩
      have hi : i < Tnh T := by omega
      have hih := ih (i + 1) k (by omega) (by omega)
      rw [X12_isCrowded_b2.eq_2]
      have hbt := q_bt_2 S i
      by_cases g : q_bt S i = 1
      · rw [M_crowdI h hS hz hi g]
        simp (disch := omega) only [m27, n27, u2, wI_lit, wI_lt, wI_le, wI_nat, Int.toNat_natCast, u3]
        rw [if_neg (by omega), if_neg (by omega)]
        by_cases g2 : q_ci T S z i i 0 = true
        · have e3 : q_co T S z (n + 1) i = true := if_pos ⟨g, g2⟩
          rw [if_pos g2, e3]
          rfl
        · have e3 : q_co T S z (n + 1) i = q_co T S z n (i + 1) := if_neg (fun q => g2 q.2)
          rw [if_neg g2, e3]
          exact hih
      · have e3 : q_co T S z (n + 1) i = q_co T S z n (i + 1) := if_neg (fun q => g q.1)
        rw [M_crowdS h hS hi (by omega), e3]
        simp (disch := omega) only [m27, n27, u2, wI_lit, wI_lt, wI_le, wI_nat, Int.toNat_natCast, u3]
        rw [if_neg (by omega), if_neg (by omega)]
        exact hih
  exact hl (Tnh T) 0 q_FU (by omega) (by unfold q_FU; omega)
theorem q_ib_0 (b : Bool) : (q_ib b = 0) = (b ≠ true) := by
  cases b with
  | false => simp [q_ib]
  | true => simp [q_ib]
theorem R_crowded : q_c_crowded q_Rel := by
  intro k b1 b2 dt1 dt2 a0 a1 a2 hk hR
  obtain ⟨x, rfl, hx1, hx2⟩ := q_arg a0
  obtain ⟨a, rfl, ha1, ha2⟩ := q_arg a1
  obtain ⟨c, rfl, hc1, hc2⟩ := q_arg a2
  have hR' := hR
  obtain ⟨T, t, sd, g, hT, hM, ho, -⟩ := hR'
  have hn := hT.1.1.2.1
  have h0 := hT.2.2.1.2.1
  have hM' := hM
  obtain ⟨-, ⟨u1, u2, -, u3, -⟩, -⟩ := hM'
  have hpw : 2 ^ Tnh T ≤ 2 ^ 6 := Nat.pow_le_pow_right (by omega) hn
  have hp0 := Nat.two_pow_pos (Tnh T)
  show ∃ r, X11_crowded (A1 b1) dt1 b1 (wI x) (wI a) (wI c) = some r ∧ X12_crowded (A2 b2) dt2 b2 (wI x) (wI a) (wI c) = some r ∧ _
  have q1 : X12_crowded (A2 b2) dt2 b2 (wI x) (wI a) (wI c) = if 0 ≤ x ∧ x ≤ ((2 ^ Tnh T : Nat) : Int) - 1 then (if 0 ≤ a ∧ a ≤ 999 then (if a ≤ c ∧ c ≤ 999 then X12_crowded_b51 (A2 b2) dt2 b2 (wI x) (wI c) q_FU 0 (wI a) else some (-1)) else some (-1)) else some (-1) := by
    have hsh : (1 : Int32) <<< (wI (Tnh T) &&& 31) - 1 = wI (((2 ^ Tnh T : Nat) : Int) - 1) := by
      rw [wI_shl (by omega), show (1 : Int32) = wI 1 from rfl, wI_sub]
    unfold X12_crowded
    rw [m27, n27, u2]
    simp (disch := omega) only [wI_nat, Int.toNat_natCast, u3]
    rw [hsh, show (0 : Int32) = wI 0 from rfl, show (999 : Int32) = wI 999 from rfl]
    simp (disch := omega) only [wI_lt, M_in, b1s]
    rw [if_neg (by omega)]
    have d1 : ((1 : Int32) = wI 0) = False := q_10
    have d0 : ((0 : Int32) = wI 0) = True := q_00
    by_cases g1 : 0 ≤ x ∧ x ≤ ((2 ^ Tnh T : Nat) : Int) - 1
    · simp only [if_pos g1, d1, if_false]
      by_cases g2 : 0 ≤ a ∧ a ≤ 999
      · simp only [if_pos g2, d1, if_false]
        by_cases g3 : a ≤ c ∧ c ≤ 999
        · simp only [if_pos g3, d1, if_false]
        · simp only [if_neg g3, d0, if_true]
      · simp only [if_neg g2, d0, if_true]
    · simp only [if_neg g1, d0, if_true]
  rw [q1]
  have p21 : X11_crowded_b21 (A1 b1) dt1 b1 (wI x) (wI a) (wI c) 0 = some (-1) := by
    unfold X11_crowded_b21
    rw [if_pos rfl]
  unfold X11_crowded X11_crowded_b20
  rw [p21]
  simp (disch := omega) only [show (0 : Int32) = wI 0 from rfl, show (999 : Int32) = wI 999 from rfl, wI_lt]
  by_cases g1 : 0 ≤ x ∧ x ≤ ((2 ^ Tnh T : Nat) : Int) - 1
  · rw [if_pos g1]
    by_cases g2 : 0 ≤ a ∧ a ≤ 999
    · rw [if_pos g2]
      by_cases g3 : a ≤ c ∧ c ≤ 999
      · rw [if_pos g3, if_neg (by omega), if_neg (by omega), if_neg (by omega)]
        obtain ⟨S, rfl⟩ := Int.eq_ofNat_of_zero_le g1.1
        obtain ⟨a, rfl⟩ := Int.eq_ofNat_of_zero_le g2.1
        obtain ⟨L, rfl⟩ := Int.eq_ofNat_of_zero_le (show 0 ≤ c by omega)
        have hl : ∀ n i k, i + n = L + 1 → n < k → ∀ w : Int, X11_crowded_b53 (A1 b1) dt1 b1 (wI S) (wI L) k (wI w) (wI i) = some (wI (w + q_sum (fun j => if q_co T S (i + j) (Tnh T) 0 = true then 1 else 0) n)) ∧ X12_crowded_b51 (A2 b2) dt2 b2 (wI S) (wI L) k (wI w) (wI i) = some (wI (w + q_sum (fun j => if q_co T S (i + j) (Tnh T) 0 = true then 1 else 0) n)) := by
          intro n
          induction n with
          | zero =>
            intro i k h1 h2 
            obtain ⟨k, rfl⟩ : ∃ m, k = m + 1 := ⟨k - 1, by omega⟩
            have e : i = L + 1 := by omega
            intro w
            simp (disch := omega) only [X11_crowded_b53, X12_crowded_b51, wI_lt]
            rw [if_pos (by omega), if_pos (by omega)]
            simp [q_sum]
          | succ n ih =>
            intro i k h1 h2 
            obtain ⟨k, rfl⟩ : ∃ m, k = m + 1 := ⟨k - 1, by omega⟩
            have hi : i < L + 1 := by omega
            intro w
            have ei : wI i + 1 = wI (i + 1 : Nat) := wI_add i 1
            have ew : wI w + 1 = wI (w + 1) := wI_add w 1
            have es : q_sum (fun j => if q_co T S (i + j) (Tnh T) 0 = true then 1 else 0) (n + 1) = (if q_co T S i (Tnh T) 0 = true then 1 else 0) + q_sum (fun j => if q_co T S (i + 1 + j) (Tnh T) 0 = true then 1 else 0) n := by
              clear ih h1 h2 ei ew
              induction n with
              | zero =>
                show (0 : Int) + (if q_co T S (i + 0) (Tnh T) 0 = true then 1 else 0) = (if q_co T S i (Tnh T) 0 = true then 1 else 0) + 0
                rw [Nat.add_zero]
                omega
              | succ n ihn =>
                rw [q_sum_s, ihn, q_sum_s, show i + (n + 1) = i + 1 + n by omega]
                omega
            rw [es]
            simp (disch := omega) only [X11_crowded_b53, X12_crowded_b51, wI_lt, o1s, ho.1, m1s, b1s, T_crowd hT (show S < 64 by omega) (show i < 1000 by omega), M_crowd hM (show S < 64 by omega) (show i < 1000 by omega), q_ib_0, X11_crowded_b75, X12_crowded_b70, ei, ew]
            rw [if_neg (show ¬ (L : Int) < (i : Int) by omega), if_neg (show ¬ (L : Int) < (i : Int) by omega)]
            by_cases g5 : q_co T S i (Tnh T) 0 = true
            · rw [if_neg (show ¬ (q_co T S i (Tnh T) 0 ≠ true) from fun q => q g5), if_neg (show ¬ (q_co T S i (Tnh T) 0 ≠ true) from fun q => q g5), if_pos g5, ← Int.add_assoc]
              exact ih (i + 1) k (by omega) (by omega) (w + 1)
            · rw [if_pos (show q_co T S i (Tnh T) 0 ≠ true from g5), if_pos (show q_co T S i (Tnh T) 0 ≠ true from g5), if_neg g5, Int.zero_add]
              exact ih (i + 1) k (by omega) (by omega) w
        have hh := hl (L + 1 - a) a q_FU (by omega) (by unfold q_FU; omega) 0
        refine ⟨wI (0 + q_sum (fun j => if q_co T S (a + j) (Tnh T) 0 = true then 1 else 0) (L + 1 - a)), ?_, hh.2, R_up hR⟩
        unfold X11_crowded_b21
        rw [if_neg (show ¬ (1 : Int32) = 0 by decide)]
        simp (disch := omega) only [show (0 : Int32) = wI 0 from rfl, wI_lt, o1s, ho.1, m1s, h0, wI_shl]
        rw [if_neg (by omega), if_pos (by omega)]
        exact hh.1
      · rw [if_neg g3, if_neg (by omega)]
        by_cases g4 : c < a
        · rw [if_pos g4]
          exact ⟨_, rfl, rfl, R_up hR⟩
        · rw [if_neg g4, if_pos (by omega)]
          exact ⟨_, rfl, rfl, R_up hR⟩
    · rw [if_neg g2]
      by_cases g4 : a < 0
      · rw [if_pos g4]
        exact ⟨_, rfl, rfl, R_up hR⟩
      · rw [if_neg g4]
        by_cases g5 : c < a
        · rw [if_pos g5]
          exact ⟨_, rfl, rfl, R_up hR⟩
        · rw [if_neg g5, if_pos (by omega)]
          exact ⟨_, rfl, rfl, R_up hR⟩
  · rw [if_neg g1]
    have p22 : X11_crowded_b21 (A1 b1) dt1 b1 (wI x) (wI a) (wI c) 1 = some (-1) := by
      unfold X11_crowded_b21
      rw [if_neg (show ¬ (1 : Int32) = 0 by decide)]
      simp (disch := omega) only [show (0 : Int32) = wI 0 from rfl, wI_lt, o1s, ho.1, m1s, h0, wI_shl]
      by_cases g4 : x < 0
      · rw [if_pos g4]
      · rw [if_neg g4, if_neg (by omega)]
    rw [p22]
    refine ⟨-1, ?_, rfl, R_up hR⟩
    by_cases g4 : a < 0
    · rw [if_pos g4]
    · rw [if_neg g4]
      by_cases g5 : c < a
      · rw [if_pos g5]
      · rw [if_neg g5]
        by_cases g6 : 999 < c
        · rw [if_pos g6]
        · rw [if_neg g6]
