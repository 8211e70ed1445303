/-! level two: sets of channels: jammed, strongest, crowded -/
def q_jm (z : Int32) (c : Nat) : Int := ((z >>> (wI c &&& 31)) &&& 1).toInt
theorem q_jm_e (z : Int32) (c : Nat) : (z >>> (wI c &&& 31)) &&& 1 = wI (q_jm z c) := wI_of _
theorem q_jm_f (z : Int32) (c : Nat) : (z >>> (wI c &&& wI (31 : Nat))) &&& wI (1 : Nat) = wI (q_jm z c) := wI_of _
theorem T_jam {b t : Nat} {dt : q_Dt} {T : q_Tl} (h : q_TT b t dt T) {p : Nat} (hp : p < Tnh T) (z : Int32) : X1_slotsIn (A1 b) dt (t + 36 + p) z = some (wI (q_sum (fun i => q_jm z (q_chn T p i)) (Thp T p))) := by
  have h1 := h.1.2.2.1 p hp
  have h3 := h.2.2.2.2.1 p hp
  have hl : ∀ n i k, i + n = Thp T p → n < k → X1_slotsIn_b4 (A1 b) dt (t + 36 + p) z k (wI (q_sum (fun i => q_jm z (q_chn T p i)) i)) (wI i) = some (wI (q_sum (fun i => q_jm z (q_chn T p i)) (Thp T p))) := by
    intro n
    induction n with
    | zero =>
      intro i k h1 h2 
      obtain ⟨k, rfl⟩ : ∃ m, k = m + 1 := ⟨k - 1, by omega⟩
      have e : i = Thp T p := by omega
      simp (disch := omega) only [X1_slotsIn_b4, h3.1, wI_le]
      rw [if_pos (by omega), e]
    | succ n ih =>
      intro i k h1 h2 
      obtain ⟨k, rfl⟩ : ∃ m, k = m + 1 := ⟨k - 1, by omega⟩
      have hi : i < Thp T p := by omega
      have hih := ih (i + 1) k (by omega) (by omega)
      rw [q_sum_s] at hih
      simp (disch := omega) only [X1_slotsIn_b4, h3.1, wI_le, T_chn h hp (show i < 2147483648 by omega), b1s, o1s, q_jm_f, wI_add, wI_lit, ← Int.natCast_add]
      rw [if_neg (by omega)]
      exact hih
  exact hl (Thp T p) 0 q_FU (by omega) (by unfold q_FU; omega)
theorem M_jam {b sd : Nat} {dt : q_Dt} {T : q_Tl} (h : q_M b sd dt T) {p : Nat} (hp : p < Tnh T) (z : Int32) : X12_jammed_b15 (A2 b) dt b (wI p) z q_FU 0 0 = some (wI (q_sum (fun i => q_jm z (q_chn T p i)) (Thp T p))) := by
  have h1 := h.1.2.2.1 p hp
  have hl : ∀ n i k, i + n = Thp T p → n < k → X12_jammed_b15 (A2 b) dt b (wI p) z k (wI (q_sum (fun i => q_jm z (q_chn T p i)) i)) (wI i) = some (wI (q_sum (fun i => q_jm z (q_chn T p i)) (Thp T p))) := by
    intro n
    induction n with
    | zero =>
      intro i k h1 h2 
      obtain ⟨k, rfl⟩ : ∃ m, k = m + 1 := ⟨k - 1, by omega⟩
      have e : i = Thp T p := by omega
      simp (disch := omega) only [X12_jammed_b15, M_p h hp, b1s, wI_le]
      rw [if_pos (by omega), e]
    | succ n ih =>
      intro i k h1 h2 
      obtain ⟨k, rfl⟩ : ∃ m, k = m + 1 := ⟨k - 1, by omega⟩
      have hi : i < Thp T p := by omega
      have hih := ih (i + 1) k (by omega) (by omega)
      rw [q_sum_s] at hih
      simp (disch := omega) only [X12_jammed_b15, M_p h hp, wI_le, M_chn h hp (show i < 2147483648 by omega), b1s, o1s, q_jm_f, wI_add, wI_lit, ← Int.natCast_add]
      rw [if_neg (by omega)]
      exact hih
  exact hl (Thp T p) 0 q_FU (by omega) (by unfold q_FU; omega)
theorem R_jammed : q_c_jammed q_Rel := by
  intro k b1 b2 dt1 dt2 a0 a1 hk hR
  obtain ⟨x, rfl, hx1, hx2⟩ := q_arg a0
  have hR' := hR
  obtain ⟨T, t, sd, g, hT, hM, ho, -⟩ := hR'
  have e1 := M_isHop hM hx1 hx2
  show ∃ r, X11_jammed (A1 b1) dt1 b1 (wI x) a1 = some r ∧ X12_jammed (A2 b2) dt2 b2 (wI x) a1 = some r ∧ _
  by_cases hc : 0 ≤ x ∧ x < Tnh T
  · rw [if_pos hc] at e1
    obtain ⟨c, rfl⟩ := Int.eq_ofNat_of_zero_le hc.1
    have hc' : c < Tnh T := by omega
    refine ⟨wI (q_sum (fun i => q_jm a1 (q_chn T c i)) (Thp T c)), ?_, ?_, R_up hR⟩
    · simp only [X11_jammed, o1s, ho.1, m1s, T_hopAt hT hc', b1s, T_jam hT hc']
    · simp only [X12_jammed, e1, b1s, q_10, if_false, M_jam hM hc']
  · rw [if_neg hc] at e1
    refine ⟨-1, ?_, ?_, R_up hR⟩
    · simp only [X11_jammed, o1s, ho.1, m1s, m1n, T_hopNo hT hx1 hx2 hc, b1s]
    · simp only [X12_jammed, e1, b1s, q_00, if_true]
/-- the c-th bit of a set -/
def q_bt (S c : Nat) : Nat := S / 2 ^ c % 2
theorem q_bt_2 (S c : Nat) : q_bt S c = 0 ∨ q_bt S c = 1 := by
  unfold q_bt
  omega
theorem q_bt_or (S c j : Nat) : q_bt (S ||| 2 ^ c) j = if j = c then 1 else q_bt S j := by
  unfold q_bt
  rw [← Nat.toNat_testBit, ← Nat.toNat_testBit, Nat.testBit_or, Nat.testBit_two_pow]
  by_cases h : j = c
  · rw [if_pos h, h]; simp
  · rw [if_neg h, decide_eq_false (fun q : c = j => h q.symm), Bool.or_false]
theorem q_bt_0 (j : Nat) : q_bt 0 j = 0 := by
  unfold q_bt
  rw [Nat.zero_div]
theorem q_or_lt {S c n : Nat} (hS : S < 2 ^ n) (hc : c < n) : S ||| 2 ^ c < 2 ^ n := Nat.or_lt_two_pow hS (Nat.pow_lt_pow_of_lt (by omega) hc)
theorem wI_bit {S c : Nat} (hS : S < 2147483648) (hc : c < 32) : (wI S >>> (wI c &&& 31)) &&& 1 = wI (q_bt S c) := by
  rw [wI_shr (by omega) (by omega) hc, ← Int.natCast_ediv, wI_and1]
  rfl
theorem wI_shl {c : Nat} (hc : c < 32) : (1 : Int32) <<< (wI c &&& 31) = wI (2 ^ c : Nat) := by
  have e : ∀ c : Nat, c < 32 → (1 : Int32) <<< (wI c &&& 31) = wI (2 ^ c : Nat) := by decide +kernel
  exact e c hc
theorem q_bt_p {c d : Nat} (hc : c < 31) (hd : d < 31) : q_bt (2 ^ c) d = if d = c then 1 else 0 := by
  have e : ∀ c, c < 31 → ∀ d, d < 31 → q_bt (2 ^ c) d = if d = c then 1 else 0 := by decide +kernel
  exact e c hc d hd
/-- how many SLOTS lie on a channel -/
def q_so (T : q_Tl) (p c : Nat) : Int := q_sum (fun i => if q_chn T p i = c then 1 else 0) (Thp T p)
theorem q_so_b {T : q_Tl} {p c : Nat} : 0 ≤ q_so T p c ∧ q_so T p c ≤ Thp T p := q_sum01 _ (fun i _ => q_if01 _)
theorem T_so {b t : Nat} {dt : q_Dt} {T : q_Tl} (h : q_TT b t dt T) {p c : Nat} (hp : p < Tnh T) (hc : c < Thp T p) : X1_slotsIn (A1 b) dt (t + 36 + p) (wI (2 ^ c : Nat)) = some (wI (q_so T p c)) := by
  have h1 := h.1.2.2.1 p hp
  rw [T_jam h hp]
  congr 2
  unfold q_so
  refine q_sum_congr _ (fun i _ => ?_)
  have h2 := q_chn_lt h.1 (i := i) hp
  have h3 : (2 : Nat) ^ c < 2 ^ 31 := Nat.pow_lt_pow_of_lt (by omega) (by omega)
  unfold q_jm
  rw [wI_bit (by omega) (by omega), q_bt_p (by omega) (by omega)]
  by_cases g : q_chn T p i = c
  · rw [if_pos g, if_pos g]; rfl
  · rw [if_neg g, if_neg g]; rfl
theorem M_so {b sd : Nat} {dt : q_Dt} {T : q_Tl} (h : q_M b sd dt T) {p c : Nat} (hp : p < Tnh T) (hc : c < 1000) : X12_slotsOn (A2 b) dt b (wI p) (wI c) = some (wI (q_so T p c)) := by
  have h1 := h.1.2.2.1 p hp
  have hl : ∀ n i k, i + n = Thp T p → n < k → X12_slotsOn_b5 (A2 b) dt b (wI p) (wI c) k (wI (q_sum (fun i => if q_chn T p i = c then 1 else 0) i)) (wI i) = some (wI (q_so T p c)) := by
    intro n
    induction n with
    | zero =>
      intro i k h1 h2 
      obtain ⟨k, rfl⟩ : ∃ m, k = m + 1 := ⟨k - 1, by omega⟩
      have e : i = Thp T p := by omega
      simp (disch := omega) only [X12_slotsOn_b5, M_p h hp, b1s, wI_le]
      rw [if_pos (by omega), e]
      rfl
    | succ n ih =>
      intro i k h1 h2 
      obtain ⟨k, rfl⟩ : ∃ m, k = m + 1 := ⟨k - 1, by omega⟩
      have hi : i < Thp T p := by omega
      have hih := ih (i + 1) k (by omega) (by omega)
      rw [q_sum_s] at hih
      have q1 := q_chn_lt h.1 (i := i) hp
      simp (disch := omega) only [X12_slotsOn_b5, M_p h hp, wI_le, M_chn h hp (show i < 2147483648 by omega), b1s, wI_eq, X12_slotsOn_b29, wI_lit, wI_add, ← Int.natCast_add]
      rw [if_neg (by omega)]
      by_cases hw : q_chn T p i = c
      · rw [if_pos (by omega)]
        rw [if_pos hw] at hih
        exact hih
      · rw [if_neg (by omega)]
        rw [if_neg hw, Int.add_zero] at hih
        exact hih
  exact hl (Thp T p) 0 q_FU (by omega) (by unfold q_FU; omega)
/-- the best channel beside a set: as the check finds it (-1: none), from `v` on -/
def q_be (T : q_Tl) (p S : Nat) : Nat → Nat → Int → Int
  | 0, _, be => be
  | n + 1, v, be => if q_bt S v = 1 then q_be T p S n (v + 1) be else if be = -1 ∨ q_so T p be.toNat < q_so T p v then q_be T p S n (v + 1) v else q_be T p S n (v + 1) be
theorem q_be_r {T : q_Tl} {p S : Nat} (n : Nat) : ∀ (v : Nat) (be : Int), (be = -1 ∨ (0 ≤ be ∧ be < v)) → (q_be T p S n v be = -1 ∨ (0 ≤ q_be T p S n v be ∧ q_be T p S n v be < v + n)) ∧ ((q_be T p S n v be = -1) → be = -1 ∧ ∀ j, v ≤ j → j < v + n → q_bt S j = 1) ∧ (0 ≤ be → q_bt S be.toNat = 0 → q_bt S (q_be T p S n v be).toNat = 0) ∧ (be = -1 → 0 ≤ q_be T p S n v be → q_bt S (q_be T p S n v be).toNat = 0) := by
  induction n with
  | zero =>
    intro v be h
    refine ⟨by show be = -1 ∨ (0 ≤ be ∧ be < v + (0 : Nat)); omega, fun h2 => ⟨h2, fun j h3 h4 => by omega⟩, fun _ h2 => h2, fun h2 h3 => ?_⟩
    have : (0 : Int) ≤ be := h3
    omega
  | succ n ih =>
    intro v be h
    show ((if q_bt S v = 1 then q_be T p S n (v + 1) be else if be = -1 ∨ q_so T p be.toNat < q_so T p v then q_be T p S n (v + 1) v else q_be T p S n (v + 1) be) = -1 ∨ _) ∧ _
    by_cases h1 : q_bt S v = 1
    · have e : q_be T p S (n + 1) v be = q_be T p S n (v + 1) be := if_pos h1
      have h2 := ih (v + 1) be (by omega)
      rw [e]
      rw [if_pos h1]
      refine ⟨by have := h2.1; omega, fun h3 => ⟨(h2.2.1 h3).1, fun j h4 h5 => ?_⟩, h2.2.2.1, h2.2.2.2⟩
      by_cases h6 : j = v
      · rw [h6]; exact h1
      · exact (h2.2.1 h3).2 j (by omega) (by omega)
    · have h0 : q_bt S v = 0 := by have := q_bt_2 S v; omega
      by_cases h3 : be = -1 ∨ q_so T p be.toNat < q_so T p v
      · have e : q_be T p S (n + 1) v be = q_be T p S n (v + 1) v := (if_neg h1).trans (if_pos h3)
        have h2 := ih (v + 1) v (by omega)
        rw [e]
        rw [if_neg h1, if_pos h3]
        refine ⟨by have := h2.1; omega, fun h4 => ?_, fun _ _ => h2.2.2.1 (by omega) (by rw [Int.toNat_natCast]; exact h0), fun _ _ => h2.2.2.1 (by omega) (by rw [Int.toNat_natCast]; exact h0)⟩
        have := (h2.2.1 h4).1
        omega
      · have e : q_be T p S (n + 1) v be = q_be T p S n (v + 1) be := (if_neg h1).trans (if_neg h3)
        have h2 := ih (v + 1) be (by omega)
        rw [e]
        rw [if_neg h1, if_neg h3]
        refine ⟨by have := h2.1; omega, fun h4 => ?_, h2.2.2.1, h2.2.2.2⟩
        have := (h2.2.1 h4).1
        omega
