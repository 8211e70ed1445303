/-! level two: best, second, peak, alarms, plan -/
theorem q_sqn (x : Int) {B : Nat} (h : -(B : Int) ≤ x ∧ x ≤ B) : 0 ≤ x * x ∧ x * x ≤ (B * B : Nat) := by
  have h1 := q_mulb h h
  have h2 := Int.natAbs_mul_self (a := x)
  omega
theorem q_mc_b {T : q_Tl} {g : Nat → Nat → Int} {c w m cell : Nat} (hw : q_wf T) (hc : c < Tnc T) (hg : ∀ a i, -3300000 ≤ g a i ∧ g a i ≤ 3300000) (hm : m ≤ 9) : 0 ≤ q_mc T g c w m cell ∧ q_mc T g c w m cell < 4611686018427387904 := by
  have h : ∀ n, n ≤ 9 → 0 ≤ q_sum (fun j => q_sq2 T g c (cell / 4) (cell % 4) (w + j * Tlen T c)) n ∧ q_sum (fun j => q_sq2 T g c (cell / 4) (cell % 4) (w + j * Tlen T c)) n ≤ n * 351289620000000000 := by
    intro n
    induction n with
    | zero => exact fun _ => ⟨Int.le_refl 0, Int.le_refl 0⟩
    | succ n ih =>
      intro hn
      have h1 := ih (by omega)
      have b0 := q_sqn _ (B := 419100000) (q_cs_b (d := cell / 4) (t := cell % 4) (w := w + n * Tlen T c) (a := 0) hw hc hg)
      have b1 := q_sqn _ (B := 419100000) (q_cs_b (d := cell / 4) (t := cell % 4) (w := w + n * Tlen T c) (a := 1) hw hc hg)
      rw [q_sum_s]
      show 0 ≤ _ + (q_cs T g c (cell / 4) (cell % 4) (w + n * Tlen T c) 0 * q_cs T g c (cell / 4) (cell % 4) (w + n * Tlen T c) 0 + q_cs T g c (cell / 4) (cell % 4) (w + n * Tlen T c) 1 * q_cs T g c (cell / 4) (cell % 4) (w + n * Tlen T c) 1) ∧ _ + (q_cs T g c (cell / 4) (cell % 4) (w + n * Tlen T c) 0 * q_cs T g c (cell / 4) (cell % 4) (w + n * Tlen T c) 0 + q_cs T g c (cell / 4) (cell % 4) (w + n * Tlen T c) 1 * q_cs T g c (cell / 4) (cell % 4) (w + n * Tlen T c) 1) ≤ _
      omega
  have := h m hm
  show 0 ≤ q_sum (fun j => q_sq2 T g c (cell / 4) (cell % 4) (w + j * Tlen T c)) m ∧ q_sum (fun j => q_sq2 T g c (cell / 4) (cell % 4) (w + j * Tlen T c)) m < 4611686018427387904
  omega
def q_Ms (b : Nat) (d : q_Dt) (L : Nat) (F : Nat → Int) : Prop := d.1 (b + 36) 3 = wI L ∧ (1 ≤ L ∧ L ≤ 127) ∧ (∀ i, i < 4 * L → d.2.1 (b + 42) i = wJ (F i)) ∧ ∀ i, 0 ≤ F i ∧ F i < 4611686018427387904
def q_Mc (b : Nat) (dt : q_Dt) (c w m : Int32) (L : Nat) (F : Nat → Int) : Prop := (1 ≤ L ∧ L ≤ 127) ∧ (∀ i, 0 ≤ F i ∧ F i < 4611686018427387904) ∧ (∀ d, q_e2 b dt d → X12_long0 (A2 b) d b c = some (wI L)) ∧ ∀ d i, q_e2 b dt d → i < 4 * L → ∃ d', X12_metricOf (A2 b) d b c (wI i) w m = some (wJ (F i), d') ∧ q_e2 b dt d' ∧ d'.2 = d.2
theorem Ms_at {b L i : Nat} {d : q_Dt} {F : Nat → Int} (h : q_Ms b d L F) (hi : i < 4 * L) : X5_at (A1 b) d ((A1 b).2.2 (b + 36) 2) (wI i) = some (wJ (F i)) := by
  have hL := h.2.1
  rw [s36_2, r_at (s41_0 b) (l42 b) (by omega) (by omega), h.2.2.1 i hi]
theorem Ms_4 {b L : Nat} {d : q_Dt} {F : Nat → Int} (h : q_Ms b d L F) : 4 * d.1 (b + 36) 3 = wI (4 * L : Nat) := by
  rw [h.1, show (4 : Int32) = wI ((4 : Nat) : Int) from rfl, wI_mul]
  rfl
def q_gr (F : Nat → Int) : Nat → Nat
  | 0 => 0
  | n + 1 => if F (q_gr F n) < F (n + 1) then n + 1 else q_gr F n
theorem q_gr_le (F : Nat → Int) (n : Nat) : q_gr F n ≤ n := by
  induction n with
  | zero => exact Nat.le_refl 0
  | succ n ih =>
    show (if F (q_gr F n) < F (n + 1) then n + 1 else q_gr F n) ≤ n + 1
    by_cases h : F (q_gr F n) < F (n + 1)
    · rw [if_pos h]; omega
    · rw [if_neg h]; omega
theorem T_great {b L : Nat} {d : q_Dt} {F : Nat → Int} (h : q_Ms b d L F) : X6_greatestCell (A1 b) d (b + 36) = some (wI (q_gr F (4 * L - 1) : Nat)) := by
  have hL := h.2.1
  have hl : ∀ n i k : Nat, i + n = 4 * L - 1 → n < k → X6_greatestCell_b4 (A1 b) d (b + 36) k (wI (q_gr F i : Nat)) (wI (i + 1 : Nat)) = some (wI (q_gr F (4 * L - 1) : Nat)) := by
    intro n
    induction n with
    | zero =>
      intro i k z1 z2 
      obtain ⟨k, rfl⟩ : ∃ m, k = m + 1 := ⟨k - 1, by omega⟩
      have e : i = 4 * L - 1 := by omega
      rw [X6_greatestCell_b4.eq_2, Ms_4 h]
      simp (disch := omega) only [wI_le]
      rw [if_pos (by omega), e]
    | succ n ih =>
      intro i k z1 z2 
      obtain ⟨k, rfl⟩ : ∃ m, k = m + 1 := ⟨k - 1, by omega⟩
      have hi : i < 4 * L - 1 := by omega
      have hih := ih (i + 1) k (by omega) (by omega)
      have hg := q_gr_le F i
      have f1 := h.2.2.2 (i + 1)
      have f2 := h.2.2.2 (q_gr F i)
      have ei : wI (i + 1 : Nat) + 1 = wI (i + 1 + 1 : Nat) := wI_add _ 1
      rw [X6_greatestCell_b4.eq_2, Ms_4 h, Ms_at h (by omega), Ms_at h (by omega)]
      simp (disch := omega) only [wI_le, b1s, wJ_le, X6_greatestCell_b36, ei]
      rw [if_neg (by omega)]
      by_cases hw : F (q_gr F i) < F (i + 1)
      · rw [if_neg (by omega)]
        rw [show q_gr F (i + 1) = i + 1 from if_pos hw] at hih
        exact hih
      · rw [if_pos (by omega)]
        rw [show q_gr F (i + 1) = q_gr F i from if_neg hw] at hih
        exact hih
  have h0 := hl (4 * L - 1) 0 q_FU (by omega) (by unfold q_FU; omega)
  unfold X6_greatestCell
  rw [show (0 : Int32) = wI ((0 : Nat) : Int) from rfl, show (1 : Int32) = wI ((0 + 1 : Nat) : Int) from rfl]
  exact h0
theorem M_best {b L : Nat} {dt : q_Dt} {c w m : Int32} {F : Nat → Int} (h : q_Mc b dt c w m L F) : ∃ d', X12_bestOf (A2 b) dt b c w m = some (wI (q_gr F (4 * L - 1) : Nat), d') ∧ q_e2 b dt d' := by
  obtain ⟨hL, hF, hlong, hmet⟩ := h
  have hl : ∀ n i k : Nat, i + n = 4 * L - 1 → n < k → ∀ d, q_e2 b dt d → ∃ d', X12_bestOf_b11 (A2 b) b c w m k (wI (q_gr F i : Nat)) (wJ (F (q_gr F i))) (wI (i + 1 : Nat)) d = some (wI (q_gr F (4 * L - 1) : Nat), d') ∧ q_e2 b dt d' := by
    intro n
    induction n with
    | zero =>
      intro i k z1 z2 
      obtain ⟨k, rfl⟩ : ∃ m, k = m + 1 := ⟨k - 1, by omega⟩
      have e : i = 4 * L - 1 := by omega
      intro d q1
      refine ⟨d, ?_, q1⟩
      rw [X12_bestOf_b11.eq_2, hlong d q1, show (4 : Int32) = wI ((4 : Nat) : Int) from rfl]
      simp (disch := omega) only [b1s, wI_mul, ← Int.natCast_mul, wI_le]
      rw [if_pos (by omega), e]
    | succ n ih =>
      intro i k z1 z2 
      obtain ⟨k, rfl⟩ : ∃ m, k = m + 1 := ⟨k - 1, by omega⟩
      have hi : i < 4 * L - 1 := by omega
      intro d q1
      have f1 := hF (i + 1)
      have f2 := hF (q_gr F i)
      obtain ⟨d1, r1, r2, -⟩ := hmet d (i + 1) q1 (by omega)
      obtain ⟨d', v1, v2⟩ := ih (i + 1) k (by omega) (by omega) d1 r2
      refine ⟨d', ?_, v2⟩
      have ei : wI (i + 1 : Nat) + 1 = wI (i + 1 + 1 : Nat) := wI_add _ 1
      rw [X12_bestOf_b11.eq_2, hlong d q1, r1, show (4 : Int32) = wI ((4 : Nat) : Int) from rfl]
      simp (disch := omega) only [b1s, b2s, wI_mul, ← Int.natCast_mul, wI_le, wJ_lt, X12_bestOf_b53, ei]
      rw [if_neg (by omega)]
      by_cases hw : F (q_gr F i) < F (i + 1)
      · rw [if_pos hw]
        rw [show q_gr F (i + 1) = i + 1 from if_pos hw] at v1
        exact v1
      · rw [if_neg hw]
        rw [show q_gr F (i + 1) = q_gr F i from if_neg hw] at v1
        exact v1
  obtain ⟨d1, r1, r2, -⟩ := hmet dt 0 q_e2_r (by omega)
  have f0 := hF 0
  obtain ⟨d', v1, v2⟩ := hl (4 * L - 1) 0 (q_FU - 1) (by omega) (by unfold q_FU; omega) d1 r2
  refine ⟨d', ?_, v2⟩
  obtain ⟨k, hk⟩ : ∃ k, q_FU = k + 1 := ⟨q_FU - 1, by unfold q_FU; omega⟩
  rw [show q_FU - 1 = k by omega] at v1
  unfold X12_bestOf
  rw [hk, X12_bestOf_b11.eq_2, hlong dt q_e2_r, show (0 : Int32) = wI ((0 : Nat) : Int) from rfl, r1, show (4 : Int32) = wI ((4 : Nat) : Int) from rfl, show (-1 : Int64) = wJ (-1) from rfl]
  simp (disch := omega) only [b1s, b2s, wI_mul, ← Int.natCast_mul, wI_le, wJ_lt, X12_bestOf_b53]
  rw [if_neg (by omega), if_pos (by omega), show wI ((0 : Nat) : Int) + 1 = wI ((0 + 1 : Nat) : Int) from rfl]
  exact v1
/-- the best cell of those that count: -2 without one -/
def q_sc (P : Nat → Bool) (F : Nat → Int) : Nat → Int
  | 0 => -2
  | n + 1 => if P n = true ∧ (q_sc P F n < 0 ∨ F (q_sc P F n).toNat < F n) then n else q_sc P F n
theorem q_sc_b (P : Nat → Bool) (F : Nat → Int) (n : Nat) : q_sc P F n = -2 ∨ (0 ≤ q_sc P F n ∧ q_sc P F n < n) := by
  induction n with
  | zero => exact Or.inl rfl
  | succ n ih =>
    show (if P n = true ∧ (q_sc P F n < 0 ∨ F (q_sc P F n).toNat < F n) then (n : Int) else q_sc P F n) = -2 ∨ _
    by_cases h : P n = true ∧ (q_sc P F n < 0 ∨ F (q_sc P F n).toNat < F n)
    · have e : q_sc P F (n + 1) = n := if_pos h
      rw [e]; omega
    · have e : q_sc P F (n + 1) = q_sc P F n := if_neg h
      rw [e]
      rw [if_neg h]
      omega
def q_far (L f : Nat) (gap : Int) (n : Nat) : Bool := decide (gap < q_ap (n / 4 : Nat) (f / 4 : Nat) L ∨ n % 4 ≠ f % 4)
theorem T_beside2 {b L f : Nat} {d : q_Dt} {F : Nat → Int} {gap : Int} (h : q_Ms b d L F) (hf : f < 4 * L) (hg : 0 ≤ gap ∧ gap ≤ 60) : X6_cellBeside (A1 b) d (b + 36) (wI f) (wI gap) = some (wI (q_sc (q_far L f gap) F (4 * L))) := by
  have hL := h.2.1
  have hl : ∀ n i k : Nat, i + n = 4 * L → n < k → X6_cellBeside_b6 (A1 b) d (b + 36) (wI f) (wI gap) k (wI (q_sc (q_far L f gap) F i)) (wI i) = some (wI (q_sc (q_far L f gap) F (4 * L))) := by
    intro n
    induction n with
    | zero =>
      intro i k z1 z2 
      obtain ⟨k, rfl⟩ : ∃ m, k = m + 1 := ⟨k - 1, by omega⟩
      have e : i = 4 * L := by omega
      rw [X6_cellBeside_b6.eq_2, Ms_4 h]
      simp (disch := omega) only [wI_le]
      rw [if_pos (by omega), e]
    | succ n ih =>
      intro i k z1 z2 
      obtain ⟨k, rfl⟩ : ∃ m, k = m + 1 := ⟨k - 1, by omega⟩
      have hi : i < 4 * L := by omega
      have hih := ih (i + 1) k (by omega) (by omega)
      have hsc := q_sc_b (q_far L f gap) F i
      have f1 := h.2.2.2 i
      have ei : wI i + 1 = wI (i + 1 : Nat) := wI_add i 1
      have hap := q_ap_b (a := (i / 4 : Nat)) (d := (f / 4 : Nat)) (show 0 < L by omega)
      have c97 : ∀ z : Int, X6_cellBeside_b97 (A1 b) d (X6_cellBeside_b6 (A1 b) d (b + 36) (wI f) (wI gap) k) (b + 36) (wI f) (wI gap) (wI z) (wI i) = X6_cellBeside_b6 (A1 b) d (b + 36) (wI f) (wI gap) k (wI z) (wI (i + 1 : Nat)) := by
        intro z
        unfold X6_cellBeside_b97
        rw [ei]
      have c62 : q_far L f gap i = true → X6_cellBeside_b62 (A1 b) d (X6_cellBeside_b6 (A1 b) d (b + 36) (wI f) (wI gap) k) (b + 36) (wI f) (wI gap) (wI (q_sc (q_far L f gap) F i)) (wI i) 1 = some (wI (q_sc (q_far L f gap) F (4 * L))) := by
        intro hfar
        unfold X6_cellBeside_b62 X6_cellBeside_b94
        rw [if_neg (show ¬ (1 : Int32) = 0 by decide), c97, c97, show (0 : Int32) = wI 0 from rfl]
        simp (disch := omega) only [wI_lt]
        rcases hsc with hs | hs
        · rw [if_pos (by omega)]
          rw [show q_sc (q_far L f gap) F (i + 1) = i from if_pos ⟨hfar, Or.inl (by omega)⟩] at hih
          exact hih
        · rw [if_neg (by omega)]
          obtain ⟨r, hr⟩ := Int.eq_ofNat_of_zero_le hs.1
          rw [hr]
          have f2 := h.2.2.2 r
          rw [Ms_at h hi, Ms_at h (show r < 4 * L by omega)]
          simp (disch := omega) only [b1s, wJ_le]
          by_cases hw : F r < F i
          · rw [if_neg (by omega)]
            rw [show q_sc (q_far L f gap) F (i + 1) = i from if_pos ⟨hfar, Or.inr (by rw [hr, Int.toNat_natCast]; exact hw)⟩] at hih
            exact hih
          · rw [if_pos (by omega)]
            rw [show q_sc (q_far L f gap) F (i + 1) = q_sc (q_far L f gap) F i from if_neg (fun q => q.2.elim (fun q2 => by omega) (fun q2 => by rw [hr, Int.toNat_natCast] at q2; exact hw q2)), hr] at hih
            exact hih
      rw [X6_cellBeside_b6.eq_2, Ms_4 h, h.1, show (4 : Int32) = wI ((4 : Nat) : Int) from rfl]
      simp (disch := omega) only [wI_le, wI_div, ← Int.natCast_ediv, m_ap, b1s]
      rw [if_neg (by omega)]
      unfold X6_cellBeside_b40 X6_cellBeside_b57
      by_cases h1 : q_ap (i / 4 : Nat) (f / 4 : Nat) L ≤ gap
      · rw [if_pos h1, if_pos rfl, show (4 : Int32) = wI ((4 : Nat) : Int) from rfl]
        simp (disch := omega) only [wI_mod, ← Int.natCast_emod, wI_eq]
        by_cases h2 : i % 4 = f % 4
        · rw [if_pos (by omega)]
          have hnf : ¬ q_far L f gap i = true := by
            unfold q_far
            rw [decide_eq_true_iff]
            omega
          unfold X6_cellBeside_b62
          rw [if_pos rfl, c97]
          rw [show q_sc (q_far L f gap) F (i + 1) = q_sc (q_far L f gap) F i from if_neg (fun q => hnf q.1)] at hih
          exact hih
        · rw [if_neg (by omega)]
          exact c62 (decide_eq_true (Or.inr h2))
      · rw [if_neg h1, if_neg (show ¬ (1 : Int32) = 0 by decide)]
        exact c62 (decide_eq_true (Or.inl (by omega)))
  have h0 := hl (4 * L) 0 q_FU (by omega) (by unfold q_FU; omega)
  unfold X6_cellBeside
  rw [show (0 : Int32) = wI ((0 : Nat) : Int) from rfl, show (-2 : Int32) = wI (-2) from rfl]
  exact h0
theorem M_second {b L f : Nat} {dt : q_Dt} {c w m : Int32} {F : Nat → Int} {gap : Int} (h : q_Mc b dt c w m L F) (hf : f < 4 * L) (hg : 0 ≤ gap ∧ gap ≤ 60) : ∀ d, q_e2 b dt d → ∃ d', X12_second_b44 (A2 b) b c w m (wI gap) (wI f) q_FU (-2) (-1) 0 d = some (wI (q_sc (q_far L f gap) F (4 * L)), d') ∧ q_e2 b dt d' := by
  obtain ⟨hL, hF, hlong, hmet⟩ := h
  have hl : ∀ n i k : Nat, i + n = 4 * L → n < k → ∀ d, q_e2 b dt d → ∃ d', X12_second_b44 (A2 b) b c w m (wI gap) (wI f) k (wI (q_sc (q_far L f gap) F i)) (wJ (if q_sc (q_far L f gap) F i < 0 then -1 else F (q_sc (q_far L f gap) F i).toNat)) (wI i) d = some (wI (q_sc (q_far L f gap) F (4 * L)), d') ∧ q_e2 b dt d' := by
    intro n
    induction n with
    | zero =>
      intro i k z1 z2 
      obtain ⟨k, rfl⟩ : ∃ m, k = m + 1 := ⟨k - 1, by omega⟩
      have e : i = 4 * L := by omega
      intro d q1
      refine ⟨d, ?_, q1⟩
      rw [X12_second_b44.eq_2, hlong d q1, show (4 : Int32) = wI ((4 : Nat) : Int) from rfl]
      simp (disch := omega) only [b1s, wI_mul, ← Int.natCast_mul, wI_le]
      rw [if_pos (by omega), e]
    | succ n ih =>
      intro i k z1 z2 
      obtain ⟨k, rfl⟩ : ∃ m, k = m + 1 := ⟨k - 1, by omega⟩
      have hi : i < 4 * L := by omega
      intro d q1
      have hsc := q_sc_b (q_far L f gap) F i
      have f1 := hF i
      have f2 := hF (q_sc (q_far L f gap) F i).toNat
      have ei : wI i + 1 = wI (i + 1 : Nat) := wI_add i 1
      have hap := q_ap_b (a := (i / 4 : Nat)) (d := (f / 4 : Nat)) (show 0 < L by omega)
      have hmo : -1 ≤ (if q_sc (q_far L f gap) F i < 0 then -1 else F (q_sc (q_far L f gap) F i).toNat) ∧ (if q_sc (q_far L f gap) F i < 0 then -1 else F (q_sc (q_far L f gap) F i).toNat) < 4611686018427387904 := by
        by_cases q : q_sc (q_far L f gap) F i < 0
        · rw [if_pos q]; omega
        · rw [if_neg q]; omega
      have c91 : q_far L f gap i = true → ∃ d', X12_second_b91 (A2 b) (X12_second_b44 (A2 b) b c w m (wI gap) (wI f) k) b c w m (wI gap) (wI f) (wI (q_sc (q_far L f gap) F i)) (wJ (if q_sc (q_far L f gap) F i < 0 then -1 else F (q_sc (q_far L f gap) F i).toNat)) (wI i) d = some (wI (q_sc (q_far L f gap) F (4 * L)), d') ∧ q_e2 b dt d' := by
        intro hfar
        obtain ⟨d1, r1, r2, -⟩ := hmet d i q1 hi
        obtain ⟨d', v1, v2⟩ := ih (i + 1) k (by omega) (by omega) d1 r2
        refine ⟨d', ?_, v2⟩
        unfold X12_second_b91 X12_second_b121
        rw [r1]
        simp (disch := omega) only [b2s, wJ_lt, ei]
        by_cases hw : (if q_sc (q_far L f gap) F i < 0 then -1 else F (q_sc (q_far L f gap) F i).toNat) < F i
        · rw [if_pos hw]
          have e1 : q_sc (q_far L f gap) F (i + 1) = i := if_pos ⟨hfar, by
            by_cases q : q_sc (q_far L f gap) F i < 0
            · exact Or.inl q
            · rw [if_neg q] at hw
              exact Or.inr hw⟩
          rw [e1, if_neg (show ¬ (i : Int) < 0 by omega), Int.toNat_natCast] at v1
          exact v1
        · rw [if_neg hw]
          have e1 : q_sc (q_far L f gap) F (i + 1) = q_sc (q_far L f gap) F i := if_neg (fun q => q.2.elim (fun q2 => hw (by rw [if_pos q2]; omega)) (fun q2 => by
            by_cases q3 : q_sc (q_far L f gap) F i < 0
            · exact hw (by rw [if_pos q3]; omega)
            · exact hw (by rw [if_neg q3]; exact q2)))
          rw [e1] at v1
          exact v1
      rw [X12_second_b44.eq_2, hlong d q1, show (4 : Int32) = wI ((4 : Nat) : Int) from rfl]
      simp (disch := omega) only [b1s, wI_mul, ← Int.natCast_mul, wI_le, wI_mod, ← Int.natCast_emod, wI_div, ← Int.natCast_ediv, wI_eq, n_ap, wI_lt]
      rw [if_neg (show ¬ ((4 * L : Nat) : Int) ≤ (i : Int) by omega)]
      by_cases h2 : i % 4 = f % 4
      · rw [if_pos (show ((i % 4 : Nat) : Int) = (f % 4 : Nat) by omega)]
        by_cases h1 : gap < q_ap (i / 4 : Nat) (f / 4 : Nat) L
        · rw [if_pos h1]
          exact c91 (decide_eq_true (Or.inl h1))
        · rw [if_neg h1]
          have hnf : ¬ q_far L f gap i = true := by
            unfold q_far
            rw [decide_eq_true_iff]
            omega
          obtain ⟨d', v1, v2⟩ := ih (i + 1) k (by omega) (by omega) d q1
          refine ⟨d', ?_, v2⟩
          unfold X12_second_b121
          rw [ei]
          rw [show q_sc (q_far L f gap) F (i + 1) = q_sc (q_far L f gap) F i from if_neg (fun q => hnf q.1)] at v1
          exact v1
      · rw [if_neg (show ¬ ((i % 4 : Nat) : Int) = (f % 4 : Nat) by omega)]
        exact c91 (decide_eq_true (Or.inr h2))
  intro d q1
  obtain ⟨d', v1, v2⟩ := hl (4 * L) 0 q_FU (by omega) (by unfold q_FU; omega) d q1
  refine ⟨d', ?_, v2⟩
  rw [show (0 : Int32) = wI ((0 : Nat) : Int) from rfl, show (-2 : Int32) = wI (-2) from rfl, show (-1 : Int64) = wJ (-1) from rfl]
  exact v1
