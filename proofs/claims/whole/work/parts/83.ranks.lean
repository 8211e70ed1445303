/-! level two: peak, alarms, plan -/
def q_rnk (F : Nat → Int) (L t d : Nat) : Int := q_sum (fun e => if F (4 * d + t) < F (4 * e + t) ∨ (F (4 * e + t) = F (4 * d + t) ∧ e < d) then 1 else 0) L
def q_fr (P : Nat → Prop) [DecidablePred P] : Nat → Nat → Int
  | 0, _ => -1
  | n + 1, d => if P d then d else q_fr P n (d + 1)
theorem T_rank {b L t dd : Nat} {d : q_Dt} {F : Nat → Int} (h : q_Ms b d L F) (ht : t < 4) (hd : dd < L) : X6_rankOf (A1 b) d (b + 36) (wI dd) (wI t) = some (wI (q_rnk F L t dd)) := by
  have hL := h.2.1
  have f0 := h.2.2.2 (4 * dd + t)
  have hl : ∀ n i k : Nat, i + n = L → n < k → X6_rankOf_b19 (A1 b) d (b + 36) (wI dd) (wI t) (wJ (F (4 * dd + t))) k (wI (q_sum (fun e => if F (4 * dd + t) < F (4 * e + t) ∨ (F (4 * e + t) = F (4 * dd + t) ∧ e < dd) then 1 else 0) i)) (wI i) = some (wI (q_rnk F L t dd)) := by
    intro n
    induction n with
    | zero =>
      intro i k z1 z2 
      obtain ⟨k, rfl⟩ : ∃ m, k = m + 1 := ⟨k - 1, by omega⟩
      have e : i = L := by omega
      rw [X6_rankOf_b19.eq_2, h.1]
      simp (disch := omega) only [wI_le]
      rw [if_pos (by omega), e]
      rfl
    | succ n ih =>
      intro i k z1 z2 
      obtain ⟨k, rfl⟩ : ∃ m, k = m + 1 := ⟨k - 1, by omega⟩
      have hi : i < L := by omega
      have hih := ih (i + 1) k (by omega) (by omega)
      rw [q_sum_s] at hih
      have f1 := h.2.2.2 (4 * i + t)
      have ei : wI i + 1 = wI (i + 1 : Nat) := wI_add i 1
      have e4 : 4 * wI i + wI t = wI (4 * i + t : Nat) := by
        rw [show (4 : Int32) = wI ((4 : Nat) : Int) from rfl, wI_mul, wI_add]
        rfl
      rw [X6_rankOf_b19.eq_2, h.1, e4, Ms_at h (by omega)]
      simp (disch := omega) only [wI_le, b1s, wJ_lt, wJ_eq, X6_rankOf_b65, X6_rankOf_b69, X6_rankOf_b70, ei]
      rw [if_neg (by omega), show (1 : Int32) = wI 1 from rfl, show (0 : Int32) = wI 0 from rfl, wI_add, wI_add]
      by_cases h1 : F (4 * dd + t) < F (4 * i + t)
      · rw [if_pos h1]
        rw [if_pos (Or.inl h1)] at hih
        exact hih
      · rw [if_neg h1]
        by_cases h2 : F (4 * i + t) = F (4 * dd + t)
        · rw [if_pos h2]
          by_cases h3 : i < dd
          · rw [if_neg (by omega)]
            rw [if_pos (Or.inr ⟨h2, h3⟩)] at hih
            exact hih
          · rw [if_pos (by omega)]
            rw [if_neg (fun q => q.elim h1 (fun q2 => h3 q2.2))] at hih
            exact hih
        · rw [if_neg h2]
          rw [if_neg (fun q => q.elim h1 (fun q2 => h2 q2.1))] at hih
          exact hih
  have h0 := hl L 0 q_FU (by omega) (by unfold q_FU; omega)
  have e4 : 4 * wI dd + wI t = wI (4 * dd + t : Nat) := by
    rw [show (4 : Int32) = wI ((4 : Nat) : Int) from rfl, wI_mul, wI_add]
    rfl
  unfold X6_rankOf
  rw [e4, Ms_at h (by omega), show (0 : Int32) = wI ((0 : Nat) : Int) from rfl]
  simp only [b1s]
  exact h0
theorem q_rk_b {F : Nat → Int} {L t d : Nat} : 0 ≤ q_rnk F L t d ∧ q_rnk F L t d ≤ L := q_sum01 _ (fun i _ => q_if01 _)
theorem T_peak {b L t r : Nat} {d : q_Dt} {F : Nat → Int} (h : q_Ms b d L F) (ht : t < 4) (hr : r < L) : X6_delayOfRank (A1 b) d (b + 36) (wI t) (wI r) = some (wI (q_fr (fun dd => q_rnk F L t dd = r) L 0)) := by
  have hL := h.2.1
  have hl : ∀ n i k : Nat, i + n = L → n < k → X6_delayOfRank_b2 (A1 b) d (b + 36) (wI t) (wI r) k (wI i) = some (wI (q_fr (fun dd => q_rnk F L t dd = r) n i)) := by
    intro n
    induction n with
    | zero =>
      intro i k z1 z2 
      obtain ⟨k, rfl⟩ : ∃ m, k = m + 1 := ⟨k - 1, by omega⟩
      have e : i = L := by omega
      rw [X6_delayOfRank_b2.eq_2, h.1]
      simp (disch := omega) only [wI_le]
      rw [if_pos (by omega)]
      rfl
    | succ n ih =>
      intro i k z1 z2 
      obtain ⟨k, rfl⟩ : ∃ m, k = m + 1 := ⟨k - 1, by omega⟩
      have hi : i < L := by omega
      have hih := ih (i + 1) k (by omega) (by omega)
      have hb := q_rk_b (F := F) (L := L) (t := t) (d := i)
      have ei : wI i + 1 = wI (i + 1 : Nat) := wI_add i 1
      rw [X6_delayOfRank_b2.eq_2, h.1, T_rank h ht hi, ei]
      simp (disch := omega) only [wI_le, b1s, wI_eq]
      rw [if_neg (by omega)]
      show _ = some (wI (if q_rnk F L t i = r then (i : Int) else q_fr (fun dd => q_rnk F L t dd = r) n (i + 1)))
      by_cases h1 : q_rnk F L t i = r
      · rw [if_pos h1, if_pos h1]
      · rw [if_neg h1, if_neg h1]
        exact hih
  have h0 := hl L 0 q_FU (by omega) (by unfold q_FU; omega)
  unfold X6_delayOfRank
  rw [show (0 : Int32) = wI ((0 : Nat) : Int) from rfl]
  exact h0
theorem M_rank {b L t r dd : Nat} {dt d : q_Dt} {c w m : Int32} {F : Nat → Int} (h : q_Mc b dt c w m L F) (q1 : q_e2 b dt d) (hp : ∀ i, i < L → d.2.1 (b + 46) i = wJ (F (4 * i + t))) (hd : dd < L) (hr : r < L) (kk : Int32 → q_Dt → Option (Int32 × q_Dt)) : X12_peak_b97 (A2 b) kk b c (wI r) (wI dd) q_FU 0 0 d = if q_rnk F L t dd = r then some (wI dd, d) else kk (wI (dd + 1 : Nat)) d := by
  obtain ⟨hL, hF, hlong, hmet⟩ := h
  have hL2 := hlong d q1
  have f0 := hF (4 * dd + t)
  have hb := q_rk_b (F := F) (L := L) (t := t) (d := dd)
  have hl : ∀ n i k : Nat, i + n = L → n < k → X12_peak_b97 (A2 b) kk b c (wI r) (wI dd) k (wI (q_sum (fun e => if F (4 * dd + t) < F (4 * e + t) ∨ (F (4 * e + t) = F (4 * dd + t) ∧ e < dd) then 1 else 0) i)) (wI i) d = if q_rnk F L t dd = r then some (wI dd, d) else kk (wI (dd + 1 : Nat)) d := by
    intro n
    induction n with
    | zero =>
      intro i k z1 z2 
      obtain ⟨k, rfl⟩ : ∃ m, k = m + 1 := ⟨k - 1, by omega⟩
      have e : i = L := by omega
      have e9 : q_sum (fun e => if F (4 * dd + t) < F (4 * e + t) ∨ (F (4 * e + t) = F (4 * dd + t) ∧ e < dd) then 1 else 0) i = q_rnk F L t dd := by rw [e]; rfl
      rw [X12_peak_b97.eq_2, hL2, e9, show wI dd + 1 = wI (dd + 1 : Nat) from wI_add dd 1]
      simp (disch := omega) only [b1s, wI_le, wI_eq]
      rw [if_pos (by omega)]
    | succ n ih =>
      intro i k z1 z2 
      obtain ⟨k, rfl⟩ : ∃ m, k = m + 1 := ⟨k - 1, by omega⟩
      have hi : i < L := by omega
      have hih := ih (i + 1) k (by omega) (by omega)
      rw [q_sum_s] at hih
      have f1 := hF (4 * i + t)
      have ei : wI i + 1 = wI (i + 1 : Nat) := wI_add i 1
      have kL : (wI L ≤ wI i) = False := by
        rw [wI_le (by omega) (by omega) (by omega) (by omega)]
        exact eq_false (by omega)
      have ki : (wI i < 0 ∨ 128 ≤ Int32.toNatClampNeg (wI i)) = False := by
        rw [show (0 : Int32) = wI 0 from rfl, wI_lt (by omega) (by omega) (by omega) (by omega), wI_nat (by omega) (by omega), Int.toNat_natCast]
        exact eq_false (by omega)
      have kd : (wI dd < 0 ∨ 128 ≤ Int32.toNatClampNeg (wI dd)) = False := by
        rw [show (0 : Int32) = wI 0 from rfl, wI_lt (by omega) (by omega) (by omega) (by omega), wI_nat (by omega) (by omega), Int.toNat_natCast]
        exact eq_false (by omega)
      have vi : d.2.1 (b + 46) (Int32.toNatClampNeg (wI i)) = wJ (F (4 * i + t)) := by
        rw [wI_nat (by omega) (by omega), Int.toNat_natCast]
        exact hp i hi
      have vd : d.2.1 (b + 46) (Int32.toNatClampNeg (wI dd)) = wJ (F (4 * dd + t)) := by
        rw [wI_nat (by omega) (by omega), Int.toNat_natCast]
        exact hp dd hd
      rw [X12_peak_b97.eq_2, hL2, m62, n62]
      simp only [b1s, kL, ki, kd, ↓reduceIte, vi, vd]
      simp (disch := omega) only [wJ_lt, wJ_eq, wI_le, X12_peak_b150, X12_peak_b153, ei]
      rw [show (1 : Int32) = wI 1 from rfl, wI_add]
      by_cases h1 : F (4 * dd + t) < F (4 * i + t)
      · rw [if_pos h1]
        rw [if_pos (Or.inl h1)] at hih
        exact hih
      · rw [if_neg h1]
        by_cases h2 : F (4 * i + t) = F (4 * dd + t)
        · rw [if_pos h2]
          by_cases h3 : i < dd
          · rw [if_neg (by omega)]
            rw [if_pos (Or.inr ⟨h2, h3⟩)] at hih
            exact hih
          · rw [if_pos (by omega)]
            rw [if_neg (fun q => q.elim h1 (fun q2 => h3 q2.2)), Int.add_zero] at hih
            exact hih
        · rw [if_neg h2]
          rw [if_neg (fun q => q.elim h1 (fun q2 => h2 q2.1)), Int.add_zero] at hih
          exact hih
  have h0 := hl L 0 q_FU (by omega) (by unfold q_FU; omega)
  rw [show (0 : Int32) = wI ((0 : Nat) : Int) from rfl]
  exact h0
theorem M_peak {b L t r : Nat} {dt : q_Dt} {c w m : Int32} {F : Nat → Int} (h : q_Mc b dt c w m L F) (ht : t < 4) (hr : r < L) : ∃ d', X12_peak_b41 (A2 b) b c (wI t) w m (wI r) q_FU 0 dt = some (wI (q_fr (fun dd => q_rnk F L t dd = r) L 0), d') ∧ q_e2 b dt d' := by
  have h' := h
  obtain ⟨hL, hF, hlong, hmet⟩ := h'
  have hA : ∀ n i k : Nat, i + n = L → n < k → ∀ d, q_e2 b dt d → (∀ i, i < L → d.2.1 (b + 46) i = wJ (F (4 * i + t))) → X12_peak_b81 (A2 b) b c (wI r) k (wI i) d = some (wI (q_fr (fun dd => q_rnk F L t dd = r) n i), d) := by
    intro n
    induction n with
    | zero =>
      intro i k z1 z2 
      obtain ⟨k, rfl⟩ : ∃ m, k = m + 1 := ⟨k - 1, by omega⟩
      have e : i = L := by omega
      intro d q1 q2
      rw [X12_peak_b81.eq_2, hlong d q1]
      simp (disch := omega) only [b1s, wI_le]
      rw [if_pos (by omega)]
      rfl
    | succ n ih =>
      intro i k z1 z2 
      obtain ⟨k, rfl⟩ : ∃ m, k = m + 1 := ⟨k - 1, by omega⟩
      have hi : i < L := by omega
      intro d q1 q2
      have hih := ih (i + 1) k (by omega) (by omega) d q1 q2
      rw [X12_peak_b81.eq_2, hlong d q1, M_rank h q1 q2 hi hr]
      simp (disch := omega) only [b1s, wI_le]
      rw [if_neg (by omega)]
      show _ = some (wI (if q_rnk F L t i = r then (i : Int) else q_fr (fun dd => q_rnk F L t dd = r) n (i + 1)), d)
      by_cases h1 : q_rnk F L t i = r
      · rw [if_pos h1, if_pos h1]
      · rw [if_neg h1, if_neg h1]
        exact hih
  have hl : ∀ n i k : Nat, i + n = L → n < k → ∀ d, q_e2 b dt d → (∀ j, j < i → d.2.1 (b + 46) j = wJ (F (4 * j + t))) → ∃ d', X12_peak_b41 (A2 b) b c (wI t) w m (wI r) k (wI i) d = some (wI (q_fr (fun dd => q_rnk F L t dd = r) L 0), d') ∧ q_e2 b dt d' := by
    intro n
    induction n with
    | zero =>
      intro i k z1 z2 
      obtain ⟨k, rfl⟩ : ∃ m, k = m + 1 := ⟨k - 1, by omega⟩
      have e : i = L := by omega
      intro d q1 q2
      rw [e] at q2
      refine ⟨d, ?_, q1⟩
      have h0 := hA L 0 q_FU (by omega) (by unfold q_FU; omega) d q1 q2
      rw [X12_peak_b41.eq_2, hlong d q1, show (0 : Int32) = wI ((0 : Nat) : Int) from rfl, h0]
      simp (disch := omega) only [b1s, wI_le]
      rw [if_pos (by omega)]
    | succ n ih =>
      intro i k z1 z2 
      obtain ⟨k, rfl⟩ : ∃ m, k = m + 1 := ⟨k - 1, by omega⟩
      have hi : i < L := by omega
      intro d q1 q2
      obtain ⟨d1, r1, r2, r3⟩ := hmet d (4 * i + t) q1 (by omega)
      obtain ⟨d', v1, v2⟩ := ih (i + 1) k (by omega) (by omega) (q_pJ d1 (b + 46) i (wJ (F (4 * i + t)))) (q_e2_J r2 (by omega)) (fun j hj => by
        by_cases e : j = i
        · rw [e, q_pJ_s]
        · rw [q_pJ_k e, r3]
          exact q2 j (by omega))
      refine ⟨d', ?_, v2⟩
      have ei : wI i + 1 = wI (i + 1 : Nat) := wI_add i 1
      have e4 : 4 * wI i + wI t = wI (4 * i + t : Nat) := by
        rw [show (4 : Int32) = wI ((4 : Nat) : Int) from rfl, wI_mul, wI_add]
        rfl
      rw [X12_peak_b41.eq_2, hlong d q1, e4, r1, m62, n62, ei, show (0 : Int32) = wI ((0 : Nat) : Int) from rfl]
      simp (disch := omega) only [b1s, b2s, o1s, wI_le, wI_lt, wI_nat, Int.toNat_natCast]
      rw [if_neg (by omega), if_neg (by omega)]
      exact v1
  exact hl L 0 q_FU (by omega) (by unfold q_FU; omega) dt q_e2_r (fun j hj => by omega)
theorem T_alarms {b L : Nat} {d : q_Dt} {F : Nat → Int} {th : Int} (h : q_Ms b d L F) (h1 : -9223372036854775808 ≤ th) (h2 : th < 9223372036854775808) : X6_cellsFrom (A1 b) d (b + 36) (wJ th) = some (wI (q_sum (fun i => if F i < th then 0 else 1) (4 * L))) := by
  have hL := h.2.1
  have hl : ∀ n i k : Nat, i + n = 4 * L → n < k → X6_cellsFrom_b5 (A1 b) d (b + 36) (wJ th) k (wI (q_sum (fun i => if F i < th then 0 else 1) i)) (wI i) = some (wI (q_sum (fun i => if F i < th then 0 else 1) (4 * L))) := by
    intro n
    induction n with
    | zero =>
      intro i k z1 z2 
      obtain ⟨k, rfl⟩ : ∃ m, k = m + 1 := ⟨k - 1, by omega⟩
      have e : i = 4 * L := by omega
      rw [X6_cellsFrom_b5.eq_2, Ms_4 h]
      simp (disch := omega) only [wI_le]
      rw [if_pos (by omega), e]
    | succ n ih =>
      intro i k z1 z2 
      obtain ⟨k, rfl⟩ : ∃ m, k = m + 1 := ⟨k - 1, by omega⟩
      have hi : i < 4 * L := by omega
      have hih := ih (i + 1) k (by omega) (by omega)
      rw [q_sum_s] at hih
      have f1 := h.2.2.2 i
      have ei : wI i + 1 = wI (i + 1 : Nat) := wI_add i 1
      rw [X6_cellsFrom_b5.eq_2, Ms_4 h, Ms_at h hi]
      simp (disch := omega) only [wI_le, b1s, wJ_lt, X6_cellsFrom_b36, ei]
      rw [if_neg (by omega), show (1 : Int32) = wI 1 from rfl, show (0 : Int32) = wI 0 from rfl, wI_add, wI_add]
      by_cases hw : F i < th
      · rw [if_pos hw]
        rw [if_pos hw] at hih
        exact hih
      · rw [if_neg hw]
        rw [if_neg hw] at hih
        exact hih
  have h0 := hl (4 * L) 0 q_FU (by omega) (by unfold q_FU; omega)
  unfold X6_cellsFrom
  rw [show (0 : Int32) = wI ((0 : Nat) : Int) from rfl]
  exact h0
theorem M_alarms {b L : Nat} {dt : q_Dt} {c w m : Int32} {F : Nat → Int} {th : Int} (h : q_Mc b dt c w m L F) (h1 : -9223372036854775808 ≤ th) (h2 : th < 9223372036854775808) : ∃ d', X12_alarms_b18 (A2 b) b c w m (wJ th) q_FU 0 0 dt = some (wI (q_sum (fun i => if F i < th then 0 else 1) (4 * L)), d') ∧ q_e2 b dt d' := by
  obtain ⟨hL, hF, hlong, hmet⟩ := h
  have hl : ∀ n i k : Nat, i + n = 4 * L → n < k → ∀ d, q_e2 b dt d → ∃ d', X12_alarms_b18 (A2 b) b c w m (wJ th) k (wI (q_sum (fun i => if F i < th then 0 else 1) i)) (wI i) d = some (wI (q_sum (fun i => if F i < th then 0 else 1) (4 * L)), d') ∧ q_e2 b dt d' := by
    intro n
    induction n with
    | zero =>
      intro i k z1 z2 
      obtain ⟨k, rfl⟩ : ∃ m, k = m + 1 := ⟨k - 1, by omega⟩
      have e : i = 4 * L := by omega
      intro d q1
      refine ⟨d, ?_, q1⟩
      rw [X12_alarms_b18.eq_2, hlong d q1, show (4 : Int32) = wI ((4 : Nat) : Int) from rfl]
      simp (disch := omega) only [b1s, wI_mul, ← Int.natCast_mul, wI_le]
      rw [if_pos (by omega), e]
    | succ n ih =>
      intro i k z1 z2 
      obtain ⟨k, rfl⟩ : ∃ m, k = m + 1 := ⟨k - 1, by omega⟩
      have hi : i < 4 * L := by omega
      intro d q1
      have f1 := hF i
      obtain ⟨d1, r1, r2, -⟩ := hmet d i q1 hi
      obtain ⟨d', v1, v2⟩ := ih (i + 1) k (by omega) (by omega) d1 r2
      rw [q_sum_s] at v1
      refine ⟨d', ?_, v2⟩
      have ei : wI i + 1 = wI (i + 1 : Nat) := wI_add i 1
      rw [X12_alarms_b18.eq_2, hlong d q1, r1, show (4 : Int32) = wI ((4 : Nat) : Int) from rfl]
      simp (disch := omega) only [b1s, b2s, wI_mul, ← Int.natCast_mul, wI_le, wJ_lt, X12_alarms_b48, ei]
      rw [if_neg (by omega), show (1 : Int32) = wI 1 from rfl, wI_add]
      by_cases hw : F i < th
      · rw [if_pos hw]
        rw [if_pos hw, Int.add_zero] at v1
        exact v1
      · rw [if_neg hw]
        rw [if_neg hw] at v1
        exact v1
  obtain ⟨d', v1, v2⟩ := hl (4 * L) 0 q_FU (by omega) (by unfold q_FU; omega) dt q_e2_r
  refine ⟨d', ?_, v2⟩
  rw [show (0 : Int32) = wI ((0 : Nat) : Int) from rfl]
  exact v1
def q_pl (F : Nat → Int) (th : Int) (L st : Nat) : Nat → Nat → Nat → Int
  | 0, _, _ => -2
  | n + 1, look, ce => if F ce < th then q_pl F th L st n (look + 1) ((ce + st) % (4 * L)) else look
theorem T_plan {b L st cell : Nat} {d : q_Dt} {F : Nat → Int} {th : Int} (h : q_Ms b d L F) (h1 : -9223372036854775808 ≤ th) (h2 : th < 9223372036854775808) (hc : cell < 4 * L) (hst : st ≤ 4 * L) : X6_looksTill (A1 b) d (b + 36) (wI cell) (wI st) (wJ th) = some (wI (q_pl F th L st (4 * L) 1 cell)) := by
  have hL := h.2.1
  have hl : ∀ n i k : Nat, i + n = 4 * L → n < k → ∀ cell : Nat, cell < 4 * L → X6_looksTill_b6 (A1 b) d (b + 36) (wI st) (wJ th) k (wI cell) (wI (i + 1 : Nat)) = some (wI (q_pl F th L st n (i + 1) cell)) := by
    intro n
    induction n with
    | zero =>
      intro i k z1 z2 
      obtain ⟨k, rfl⟩ : ∃ m, k = m + 1 := ⟨k - 1, by omega⟩
      have e : i = 4 * L := by omega
      intro cell hc
      rw [X6_looksTill_b6.eq_2, Ms_4 h]
      simp (disch := omega) only [wI_lt]
      rw [if_pos (by omega)]
      rfl
    | succ n ih =>
      intro i k z1 z2 
      obtain ⟨k, rfl⟩ : ∃ m, k = m + 1 := ⟨k - 1, by omega⟩
      have hi : i < 4 * L := by omega
      intro cell hc
      have f1 := h.2.2.2 cell
      have hj := Nat.mod_lt (cell + st) (show 0 < 4 * L by omega)
      have hih := ih (i + 1) k (by omega) (by omega) _ hj
      have ei : wI (i + 1 : Nat) + 1 = wI (i + 1 + 1 : Nat) := wI_add _ 1
      have ec : wI cell + wI st = wI (cell + st : Nat) := wI_add _ _
      rw [X6_looksTill_b6.eq_2, Ms_4 h, Ms_at h hc, ec, ei]
      simp (disch := omega) only [wI_lt, b1s, wJ_lt, wI_wJ, m_rest, ← Int.natCast_emod, wJ_wI]
      rw [if_neg (by omega)]
      show _ = some (wI (if F cell < th then q_pl F th L st n (i + 1 + 1) ((cell + st) % (4 * L)) else ((i + 1 : Nat) : Int)))
      by_cases hw : F cell < th
      · rw [if_pos hw, if_pos hw]
        exact hih
      · rw [if_neg hw, if_neg hw]
  have h0 := hl (4 * L) 0 q_FU (by omega) (by unfold q_FU; omega) cell hc
  unfold X6_looksTill
  rw [show (1 : Int32) = wI ((0 + 1 : Nat) : Int) from rfl]
  exact h0
theorem M_plan {b L st cell : Nat} {dt : q_Dt} {c w m : Int32} {F : Nat → Int} {th : Int} (h : q_Mc b dt c w m L F) (h1 : -9223372036854775808 ≤ th) (h2 : th < 9223372036854775808) (hc : cell < 4 * L) (hst : st ≤ 4 * L) : ∃ d', X12_plan_b45 (A2 b) b c w m (wI st) (wJ th) q_FU (wI cell) 1 dt = some (wI (q_pl F th L st (4 * L) 1 cell), d') ∧ q_e2 b dt d' := by
  obtain ⟨hL, hF, hlong, hmet⟩ := h
  have hl : ∀ n i k : Nat, i + n = 4 * L → n < k → ∀ (cell : Nat) d, cell < 4 * L → q_e2 b dt d → ∃ d', X12_plan_b45 (A2 b) b c w m (wI st) (wJ th) k (wI cell) (wI (i + 1 : Nat)) d = some (wI (q_pl F th L st n (i + 1) cell), d') ∧ q_e2 b dt d' := by
    intro n
    induction n with
    | zero =>
      intro i k z1 z2 
      obtain ⟨k, rfl⟩ : ∃ m, k = m + 1 := ⟨k - 1, by omega⟩
      have e : i = 4 * L := by omega
      intro cell d hc q1
      refine ⟨d, ?_, q1⟩
      rw [X12_plan_b45.eq_2, hlong d q1, show (4 : Int32) = wI ((4 : Nat) : Int) from rfl]
      simp (disch := omega) only [b1s, wI_mul, ← Int.natCast_mul, wI_lt]
      rw [if_pos (by omega)]
      rfl
    | succ n ih =>
      intro i k z1 z2 
      obtain ⟨k, rfl⟩ : ∃ m, k = m + 1 := ⟨k - 1, by omega⟩
      have hi : i < 4 * L := by omega
      intro cell d hc q1
      have f1 := hF cell
      have hj := Nat.mod_lt (cell + st) (show 0 < 4 * L by omega)
      obtain ⟨d1, r1, r2, -⟩ := hmet d cell q1 hc
      have hL1 := hlong d1 r2
      have ei : wI (i + 1 : Nat) + 1 = wI (i + 1 + 1 : Nat) := wI_add _ 1
      have ec : wI cell + wI st = wI (cell + st : Nat) := wI_add _ _
      have e1 : X12_plan_b45 (A2 b) b c w m (wI st) (wJ th) (k + 1) (wI cell) (wI (i + 1 : Nat)) d = if F cell < th then X12_plan_b45 (A2 b) b c w m (wI st) (wJ th) k (wI ((cell + st) % (4 * L) : Nat)) (wI (i + 1 + 1 : Nat)) d1 else some (wI (i + 1 : Nat), d1) := by
        rw [X12_plan_b45.eq_2, hlong d q1, r1, ec, ei, show (4 : Int32) = wI ((4 : Nat) : Int) from rfl, show (0 : Int32) = wI 0 from rfl]
        simp (disch := omega) only [b1s, b2s, hL1, wI_mul, ← Int.natCast_mul, wI_lt, wJ_lt, wI_eq, wI_mod, ← Int.natCast_emod]
        rw [if_neg (show ¬ ((4 * L : Nat) : Int) < (i + 1 : Nat) by omega), if_neg (show ¬ ((4 * L : Nat) : Int) = 0 by omega)]
      rw [e1]
      show ∃ d', _ = some (wI (if F cell < th then q_pl F th L st n (i + 1 + 1) ((cell + st) % (4 * L)) else ((i + 1 : Nat) : Int)), d') ∧ q_e2 b dt d'
      by_cases hw : F cell < th
      · rw [if_pos hw, if_pos hw]
        exact ih (i + 1) k (by omega) (by omega) _ d1 hj r2
      · rw [if_neg hw, if_neg hw]
        exact ⟨d1, rfl, r2⟩
  obtain ⟨d', v1, v2⟩ := hl (4 * L) 0 q_FU (by omega) (by unfold q_FU; omega) cell dt hc q_e2_r
  refine ⟨d', ?_, v2⟩
  rw [show (1 : Int32) = wI ((0 + 1 : Nat) : Int) from rfl]
  exact v1
