/-! level two: strongest, crowded -/
def q_mo (T : q_Tl) (p : Nat) (be : Int) : Int := if be = -1 then -1 else q_so T p be.toNat
def q_fo (be : Int) : Int := if be = -1 then 0 else be
theorem T_beside {b t : Nat} {dt : q_Dt} {T : q_Tl} (h : q_TT b t dt T) {p S : Nat} (hp : p < Tnh T) (hS : S < 2147483648) : X1_strongestBeside (A1 b) dt (t + 36 + p) (wI S) = some (wI (q_fo (q_be T p S (Thp T p) 0 (-1)))) := by
  have h1 := h.1.2.2.1 p hp
  have h3 := h.2.2.2.2.1 p hp
  have hl : ∀ n i k, i + n = Thp T p → n < k → ∀ be : Int, (be = -1 ∨ (0 ≤ be ∧ be < i)) → X1_strongestBeside_b7 (A1 b) dt (t + 36 + p) (wI S) k (wI (q_mo T p be)) (wI (q_fo be)) (wI i) = some (wI (q_fo (q_be T p S n i be))) := by
    intro n
    induction n with
    | zero =>
      intro i k h1 h2 
      obtain ⟨k, rfl⟩ : ∃ m, k = m + 1 := ⟨k - 1, by omega⟩
      have e : i = Thp T p := by omega
      intro be hbe
      simp (disch := omega) only [X1_strongestBeside_b7, h3.1, wI_le]
      rw [if_pos (by omega)]
      rfl
    | succ n ih =>
      intro i k h1 h2 
      obtain ⟨k, rfl⟩ : ∃ m, k = m + 1 := ⟨k - 1, by omega⟩
      have hi : i < Thp T p := by omega
      intro be hbe
      have hbt := q_bt_2 S i
      have hso := q_so_b (T := T) (p := p) (c := i)
      have hso2 := q_so_b (T := T) (p := p) (c := be.toNat)
      have hmo : -1 ≤ q_mo T p be ∧ q_mo T p be ≤ 31 := by
        unfold q_mo
        by_cases g : be = -1
        · rw [if_pos g]; omega
        · rw [if_neg g]; omega
      have e1 : X1_strongestBeside_b7 (A1 b) dt (t + 36 + p) (wI S) (k + 1) (wI (q_mo T p be)) (wI (q_fo be)) (wI i) = if q_bt S i = 1 then X1_strongestBeside_b7 (A1 b) dt (t + 36 + p) (wI S) k (wI (q_mo T p be)) (wI (q_fo be)) (wI (i + 1 : Nat)) else if q_so T p i ≤ q_mo T p be then X1_strongestBeside_b7 (A1 b) dt (t + 36 + p) (wI S) k (wI (q_mo T p be)) (wI (q_fo be)) (wI (i + 1 : Nat)) else X1_strongestBeside_b7 (A1 b) dt (t + 36 + p) (wI S) k (wI (q_so T p i)) (wI i) (wI (i + 1 : Nat)) := by
        rw [X1_strongestBeside_b7.eq_2, wI_bit hS (by omega), wI_shl (by omega), T_so h hp hi]
        simp (disch := omega) only [h3.1, wI_le, b1s, X1_strongestBeside_b38, X1_strongestBeside_b52, wI_lit, wI_neg, wI_eq, wI_add, ← Int.natCast_add]
        rw [if_neg (by omega)]
        by_cases g : q_bt S i = 1
        · rw [if_pos (by omega), if_pos g, if_pos (by omega)]
        · rw [if_neg (by omega), if_neg g]
      rw [e1]
      show _ = some (wI (q_fo (if q_bt S i = 1 then q_be T p S n (i + 1) be else if be = -1 ∨ q_so T p be.toNat < q_so T p i then q_be T p S n (i + 1) i else q_be T p S n (i + 1) be)))
      by_cases g : q_bt S i = 1
      · rw [if_pos g, if_pos g]
        exact ih (i + 1) k (by omega) (by omega) be (by omega)
      · rw [if_neg g, if_neg g]
        by_cases g2 : be = -1 ∨ q_so T p be.toNat < q_so T p i
        · have g3 : ¬ q_so T p i ≤ q_mo T p be := by
            unfold q_mo
            by_cases g4 : be = -1
            · rw [if_pos g4]; omega
            · rw [if_neg g4]; omega
          rw [if_neg g3, if_pos g2]
          have hih := ih (i + 1) k (by omega) (by omega) i (by omega)
          have m1 : q_mo T p (i : Int) = q_so T p i := by
            unfold q_mo
            rw [if_neg (by omega), Int.toNat_natCast]
          have m2 : q_fo (i : Int) = i := if_neg (by omega)
          rw [m1, m2] at hih
          exact hih
        · have g3 : q_so T p i ≤ q_mo T p be := by
            unfold q_mo
            rw [if_neg (by omega)]
            omega
          rw [if_pos g3, if_neg g2]
          exact ih (i + 1) k (by omega) (by omega) be (by omega)
  exact hl (Thp T p) 0 q_FU (by omega) (by unfold q_FU; omega) (-1) (by omega)
theorem M_beside {b sd : Nat} {dt : q_Dt} {T : q_Tl} (h : q_M b sd dt T) {p S m : Nat} (hp : p < Tnh T) (hS : S < 2147483648) (kk : Int32 → Int32 → Option Int32) (w : Int32) : X12_strongest_b40 (A2 b) dt kk b (wI p) w (wI S) (wI m) q_FU (-1) 0 = kk (wI S ||| (1 <<< (wI (q_be T p S (Thp T p) 0 (-1)) &&& 31))) (wI m + 1) := by
  have h1 := h.1.2.2.1 p hp
  have hl : ∀ n i k, i + n = Thp T p → n < k → ∀ be : Int, (be = -1 ∨ (0 ≤ be ∧ be < i)) → X12_strongest_b40 (A2 b) dt kk b (wI p) w (wI S) (wI m) k (wI be) (wI i) = kk (wI S ||| (1 <<< (wI (q_be T p S n i be) &&& 31))) (wI m + 1) := by
    intro n
    induction n with
    | zero =>
      intro i k h1 h2 
      obtain ⟨k, rfl⟩ : ∃ m, k = m + 1 := ⟨k - 1, by omega⟩
      have e : i = Thp T p := by omega
      intro be hbe
      simp (disch := omega) only [X12_strongest_b40, M_p h hp, b1s, wI_le]
      rw [if_pos (by omega)]
      rfl
    | succ n ih =>
      intro i k h1 h2 
      obtain ⟨k, rfl⟩ : ∃ m, k = m + 1 := ⟨k - 1, by omega⟩
      have hi : i < Thp T p := by omega
      intro be hbe
      have hbt := q_bt_2 S i
      have hso := q_so_b (T := T) (p := p) (c := i)
      have hso2 := q_so_b (T := T) (p := p) (c := be.toNat)
      show _ = kk (wI S ||| (1 <<< (wI (if q_bt S i = 1 then q_be T p S n (i + 1) be else if be = -1 ∨ q_so T p be.toNat < q_so T p i then q_be T p S n (i + 1) i else q_be T p S n (i + 1) be) &&& 31))) (wI m + 1)
      have ei : wI i + 1 = wI (i + 1 : Nat) := wI_add i 1
      have h1e : (wI (q_bt S i) = (1 : Int32)) = ((q_bt S i : Int) = 1) := by
        rw [show (1 : Int32) = wI 1 from rfl, wI_eq (by omega) (by omega) (by omega) (by omega)]
      have h2e : (wI be = (-1 : Int32)) = (be = -1) := by
        rw [show (-1 : Int32) = wI (-1) from rfl, wI_eq (by omega) (by omega) (by omega) (by omega)]
      rw [X12_strongest_b40.eq_2, wI_bit hS (by omega), M_so h hp (show i < 1000 by omega), M_p h hp]
      simp (disch := omega) only [wI_le, b1s, X12_strongest_b86, X12_strongest_b90, ei, h1e, h2e]
      rw [if_neg (by omega)]
      by_cases g : q_bt S i = 1
      · rw [if_pos (by omega), if_pos g]
        exact ih (i + 1) k (by omega) (by omega) be (by omega)
      · rw [if_neg (by omega), if_neg g]
        by_cases g4 : be = -1
        · rw [if_pos g4, if_pos (Or.inl g4)]
          exact ih (i + 1) k (by omega) (by omega) i (by omega)
        · rw [if_neg g4]
          obtain ⟨j, rfl⟩ := Int.eq_ofNat_of_zero_le (show 0 ≤ be by omega)
          rw [Int.toNat_natCast] at hso2 ⊢
          rw [M_so h hp (show j < 1000 by omega)]
          simp (disch := omega) only [b1s, wI_le]
          by_cases g2 : q_so T p j < q_so T p i
          · rw [if_neg (by omega), if_pos (Or.inr g2)]
            exact ih (i + 1) k (by omega) (by omega) i (by omega)
          · rw [if_pos (by omega), if_neg (fun g5 => g5.elim g4 g2)]
            exact ih (i + 1) k (by omega) (by omega) j (by omega)
  have h0 := hl (Thp T p) 0 q_FU (by omega) (by unfold q_FU; omega) (-1) (by omega)
  rw [show (-1 : Int32) = wI (-1) from rfl, show (0 : Int32) = wI ((0 : Nat) : Int) from rfl]
  exact h0
def q_sst (T : q_Tl) (p : Nat) : Nat → Nat
  | 0 => 0
  | n + 1 => q_sst T p n ||| 2 ^ (q_be T p (q_sst T p n) (Thp T p) 0 (-1)).toNat
theorem q_sum_upd {f f' : Nat → Int} {c : Nat} {d : Int} (hf : ∀ j, j ≠ c → f' j = f j) (hc : f' c = f c + d) (n : Nat) : q_sum f' n = q_sum f n + if c < n then d else 0 := by
  induction n with
  | zero => rfl
  | succ n ih =>
    rw [q_sum_s, q_sum_s, ih]
    by_cases h1 : n = c
    · subst h1
      rw [if_neg (by omega), if_pos (by omega), hc]
      omega
    · rw [hf n h1]
      by_cases h2 : c < n
      · rw [if_pos h2, if_pos (by omega)]; omega
      · rw [if_neg h2, if_neg (by omega)]; omega
theorem q_sum_one {f : Nat → Int} (n : Nat) (h : ∀ j, j < n → f j = 1) : q_sum f n = n := by
  induction n with
  | zero => rfl
  | succ n ih =>
    rw [q_sum_s, ih (fun j hj => h j (by omega)), h n (by omega)]
    omega
theorem q_st_r {T : q_Tl} {p : Nat} (hP : Thp T p ≤ 31) (m : Nat) (hm : m ≤ Thp T p) : q_sst T p m < 2147483648 ∧ q_sum (fun c => (q_bt (q_sst T p m) c : Int)) (Thp T p) = m ∧ (m < Thp T p → 0 ≤ q_be T p (q_sst T p m) (Thp T p) 0 (-1) ∧ q_be T p (q_sst T p m) (Thp T p) 0 (-1) < Thp T p) := by
  have hC : ∀ S : Nat, ∀ m : Nat, q_sum (fun c => (q_bt S c : Int)) (Thp T p) = m → m < Thp T p → 0 ≤ q_be T p S (Thp T p) 0 (-1) ∧ q_be T p S (Thp T p) 0 (-1) < Thp T p := by
    intro S m h1 h2
    have h3 := q_be_r (T := T) (p := p) (S := S) (Thp T p) 0 (-1) (by omega)
    rcases h3.1 with h4 | h4
    · have h5 := (h3.2.1 h4).2
      have h6 := q_sum_one (f := fun c => (q_bt S c : Int)) (Thp T p) (fun j hj => by
        show (q_bt S j : Int) = 1
        rw [h5 j (by omega) (by omega)]; rfl)
      omega
    · omega
  induction m with
  | zero =>
    have h0 : q_sum (fun c => (q_bt (q_sst T p 0) c : Int)) (Thp T p) = (0 : Nat) := by
      have : ∀ n, q_sum (fun c => (q_bt (q_sst T p 0) c : Int)) n = 0 := by
        intro n
        induction n with
        | zero => rfl
        | succ n ih =>
          rw [q_sum_s, ih, show q_sst T p 0 = 0 from rfl, q_bt_0]
          rfl
      exact this _
    exact ⟨by show 0 < 2147483648; omega, h0, fun h => hC _ 0 h0 h⟩
  | succ m ih =>
    have h1 := ih (by omega)
    have h2 := h1.2.2 (by omega)
    have h3 := q_be_r (T := T) (p := p) (S := q_sst T p m) (Thp T p) 0 (-1) (by omega)
    have h4 := h3.2.2.2 rfl h2.1
    have e : q_sst T p (m + 1) = q_sst T p m ||| 2 ^ (q_be T p (q_sst T p m) (Thp T p) 0 (-1)).toNat := rfl
    have h5 : q_sst T p (m + 1) < 2147483648 := by
      rw [e]
      exact q_or_lt (n := 31) h1.1 (by omega)
    have h6 : q_sum (fun c => (q_bt (q_sst T p (m + 1)) c : Int)) (Thp T p) = (m + 1 : Nat) := by
      rw [q_sum_upd (f := fun c => (q_bt (q_sst T p m) c : Int)) (c := (q_be T p (q_sst T p m) (Thp T p) 0 (-1)).toNat) (d := 1) ?_ ?_, h1.2.1, if_pos (by omega)]
      · rfl
      · intro j hj
        show (q_bt (q_sst T p (m + 1)) j : Int) = q_bt (q_sst T p m) j
        rw [e, q_bt_or, if_neg hj]
      · show (q_bt (q_sst T p (m + 1)) _ : Int) = q_bt (q_sst T p m) _ + 1
        rw [e, q_bt_or, if_pos rfl, h4]
        rfl
    exact ⟨h5, h6, fun h => hC _ (m + 1) h6 h⟩
theorem R_strongest : q_c_strongest q_Rel := by
  intro k b1 b2 dt1 dt2 a0 a1 hk hR
  obtain ⟨x, rfl, hx1, hx2⟩ := q_arg a0
  obtain ⟨y, rfl, hy1, hy2⟩ := q_arg a1
  have hR' := hR
  obtain ⟨T, t, sd, g, hT, hM, ho, -⟩ := hR'
  have e1 := M_isHop hM hx1 hx2
  show ∃ r, X11_strongest (A1 b1) dt1 b1 (wI x) (wI y) = some r ∧ X12_strongest (A2 b2) dt2 b2 (wI x) (wI y) = some r ∧ _
  by_cases hc : 0 ≤ x ∧ x < Tnh T
  · rw [if_pos hc] at e1
    obtain ⟨p, rfl⟩ := Int.eq_ofNat_of_zero_le hc.1
    have hp : p < Tnh T := by omega
    have hP := hM.1.2.2.1 p hp
    have h3 := hT.2.2.2.2.1 p hp
    by_cases hy : 0 ≤ y ∧ y ≤ Thp T p
    · obtain ⟨L, rfl⟩ := Int.eq_ofNat_of_zero_le hy.1
      have hst := fun m hm => q_st_r (T := T) (p := p) (by omega) m hm
      have hl : ∀ n i k, i + n = L → n < k → X1_strongestChannels_b4 (A1 b1) dt1 (t + 36 + p) (wI L) k (wI (q_sst T p i)) (wI i) = some (wI (q_sst T p L)) ∧ X12_strongest_b28 (A2 b2) dt2 b2 (wI p) (wI L) k (wI (q_sst T p i)) (wI i) = some (wI (q_sst T p L)) := by
        intro n
        induction n with
        | zero =>
          intro i k h1 h2 
          obtain ⟨k, rfl⟩ : ∃ m, k = m + 1 := ⟨k - 1, by omega⟩
          have e : i = L := by omega
          simp (disch := omega) only [X1_strongestChannels_b4, X12_strongest_b28, wI_le]
          rw [if_pos (by omega), if_pos (by omega), e]
          exact ⟨rfl, rfl⟩
        | succ n ih =>
          intro i k h1 h2 
          obtain ⟨k, rfl⟩ : ∃ m, k = m + 1 := ⟨k - 1, by omega⟩
          have hi : i < L := by omega
          have hih := ih (i + 1) k (by omega) (by omega)
          have h5 := hst i (by omega)
          have h6 := h5.2.2 (by omega)
          obtain ⟨c, hbc⟩ := Int.eq_ofNat_of_zero_le h6.1
          have e2 : q_sst T p (i + 1) = q_sst T p i ||| 2 ^ c := by
            show q_sst T p i ||| 2 ^ (q_be T p (q_sst T p i) (Thp T p) 0 (-1)).toNat = _
            rw [hbc, Int.toNat_natCast]
          rw [e2] at hih
          rw [X1_strongestChannels_b4.eq_2, X12_strongest_b28.eq_2, T_beside hT hp h5.1, M_beside hM hp h5.1, hbc, show q_fo (c : Int) = c from if_neg (by omega)]
          simp only [b1s]
          rw [wI_shl (by omega), wI_or, show (1 : Int32) = wI (1 : Nat) from rfl, wI_add, ← Int.natCast_add]
          simp (disch := omega) only [wI_le]
          rw [if_neg (by omega), if_neg (by omega)]
          exact hih
      have h0 := hl L 0 q_FU (by omega) (by unfold q_FU; omega)
      refine ⟨wI (q_sst T p L), ?_, ?_, R_up hR⟩
      · unfold X11_strongest
        simp only [o1s, ho.1, m1s, T_hopAt hT hp, b1s, h3.1]
        have h1 : X1_strongestChannels (A1 b1) dt1 (t + 36 + p) (wI L) = some (wI (q_sst T p L)) := h0.1
        rw [h1]
        simp (disch := omega) only [wI_lit, wI_lt, wI_le, b1s]
        rw [if_neg (by omega), if_pos (by omega)]
      · unfold X12_strongest
        simp only [e1, b1s, q_10, if_false, M_p hM hp]
        rw [show (0 : Int32) = wI 0 from rfl, M_in1 (by omega) (by omega) (by omega) (by omega) (by omega) (by omega) (by omega)]
        simp only [b1s]
        rw [if_neg (show ¬ (1 : Int32) = wI 0 by decide)]
        exact h0.2
    · refine ⟨-1, ?_, ?_, R_up hR⟩
      · unfold X11_strongest X11_strongest_b25
        simp only [o1s, ho.1, m1s, T_hopAt hT hp, b1s, h3.1]
        simp (disch := omega) only [wI_lit, wI_lt, wI_le]
        by_cases h0 : y < 0
        · rw [if_pos (by omega)]
        · rw [if_neg (by omega), if_neg (by omega)]
      · unfold X12_strongest
        simp only [e1, b1s, q_10, if_false, M_p hM hp]
        rw [show (0 : Int32) = wI 0 from rfl, M_in0 (by omega) (by omega) (by omega) (by omega) (by omega) (by omega) (by omega)]
        simp only [b1s]
        rw [if_pos (show (0 : Int32) = wI 0 from rfl)]
  · rw [if_neg hc] at e1
    refine ⟨-1, ?_, ?_, R_up hR⟩
    · simp only [X11_strongest, X11_strongest_b25, o1s, ho.1, m1s, m1n, T_hopNo hT hx1 hx2 hc, b1s]
    · simp only [X12_strongest, e1, b1s, q_00, if_true]
