/-! level two: the search: turned back, the sums -/
def q_tn (g : Nat → Nat → Int) (t i a : Nat) : Int := if a = 0 then (if t * (i / 8) % 4 = 0 then g 0 i else if t * (i / 8) % 4 = 1 then g 1 i else if t * (i / 8) % 4 = 2 then - g 0 i else - g 1 i) else (if t * (i / 8) % 4 = 0 then g 1 i else if t * (i / 8) % 4 = 1 then - g 0 i else if t * (i / 8) % 4 = 2 then - g 1 i else g 0 i)
def q_row2 (dt : q_Dt) (A B n : Nat) (f h : Nat → Int64) : q_Dt := (dt.1, fun x j => if x = A ∧ j < n then f j else if x = B ∧ j < n then h j else dt.2.1 x j, dt.2.2)
theorem q_row2_0 (dt : q_Dt) (A B : Nat) (f h : Nat → Int64) : q_row2 dt A B 0 f h = dt := by
  unfold q_row2
  refine Prod.ext rfl (Prod.ext ?_ rfl)
  funext x j
  show (if x = A ∧ j < 0 then f j else if x = B ∧ j < 0 then h j else dt.2.1 x j) = dt.2.1 x j
  rw [if_neg (fun q => by omega), if_neg (fun q => by omega)]
theorem q_row2_s (dt : q_Dt) (A B n : Nat) (f h : Nat → Int64) (hAB : A ≠ B) : q_pJ (q_pJ (q_row2 dt A B n f h) A n (f n)) B n (h n) = q_row2 dt A B (n + 1) f h := by
  unfold q_row2 q_pJ
  refine Prod.ext rfl (Prod.ext ?_ rfl)
  funext x j
  show (if x = B ∧ j = n then h n else if x = A ∧ j = n then f n else if x = A ∧ j < n then f j else if x = B ∧ j < n then h j else dt.2.1 x j) = if x = A ∧ j < n + 1 then f j else if x = B ∧ j < n + 1 then h j else dt.2.1 x j
  by_cases hA : x = A
  · have hB : ¬ x = B := fun q => hAB (hA.symm.trans q)
    simp only [eq_true hA, eq_false hB, false_and, if_false, true_and]
    by_cases hj : j = n
    · rw [if_pos hj, if_pos (by omega), hj]
    · rw [if_neg hj]
      by_cases hj2 : j < n
      · rw [if_pos hj2, if_pos (by omega)]
      · rw [if_neg hj2, if_neg (by omega)]
  · by_cases hB : x = B
    · simp only [eq_false hA, eq_true hB, false_and, if_false, true_and]
      by_cases hj : j = n
      · rw [if_pos hj, if_pos (by omega), hj]
      · rw [if_neg hj]
        by_cases hj2 : j < n
        · rw [if_pos hj2, if_pos (by omega)]
        · rw [if_neg hj2, if_neg (by omega)]
    · simp only [eq_false hA, eq_false hB, false_and, if_false]
theorem q_row2_A {dt : q_Dt} {A B n j : Nat} {f h : Nat → Int64} (hj : j < n) : (q_row2 dt A B n f h).2.1 A j = f j := if_pos ⟨rfl, hj⟩
theorem q_row2_B {dt : q_Dt} {A B n j : Nat} {f h : Nat → Int64} (hAB : A ≠ B) (hj : j < n) : (q_row2 dt A B n f h).2.1 B j = h j := (if_neg (fun q => hAB q.1.symm)).trans (if_pos ⟨rfl, hj⟩)
theorem q_row2_o {dt : q_Dt} {A B n x : Nat} {f h : Nat → Int64} (hA : x ≠ A) (hB : x ≠ B) : (q_row2 dt A B n f h).2.1 x = dt.2.1 x := by
  funext j
  exact (if_neg (fun q => hA q.1)).trans (if_neg (fun q => hB q.1))
theorem T_turn {b N L t w : Nat} {dt : q_Dt} {g : Nat → Nat → Int} (hg : q_sig (b + 21) N dt g) (hN : N ≤ 512) (hz : ∀ a i, N ≤ i → g a i = 0) (hL : L ≤ 127) (ht : t < 4) (hw : w < 100000) : X6_turnBack (A1 b) dt (b + 36) (wI L) (wI t) (b + 21) (wI w) = some (q_row2 dt (b + 38) (b + 40) L (fun k => wJ (q_tn g t (w + k) 0)) (fun k => wJ (q_tn g t (w + k) 1))) := by
  have hl : ∀ n i k : Nat, i + n = L → n < k → X6_turnBack_b3 (A1 b) (b + 36) (wI L) (wI t) (b + 21) (wI w) k (wI i) (q_row2 dt (b + 38) (b + 40) i (fun k => wJ (q_tn g t (w + k) 0)) (fun k => wJ (q_tn g t (w + k) 1))) = some (q_row2 dt (b + 38) (b + 40) L (fun k => wJ (q_tn g t (w + k) 0)) (fun k => wJ (q_tn g t (w + k) 1))) := by
    intro n
    induction n with
    | zero =>
      intro i k z1 z2 
      obtain ⟨k, rfl⟩ : ∃ m, k = m + 1 := ⟨k - 1, by omega⟩
      have e : i = L := by omega
      rw [X6_turnBack_b3.eq_2]
      simp (disch := omega) only [wI_le]
      rw [if_pos (by omega), e]
    | succ n ih =>
      intro i k z1 z2 
      obtain ⟨k, rfl⟩ : ∃ m, k = m + 1 := ⟨k - 1, by omega⟩
      have hi : i < L := by omega
      have hih := ih (i + 1) k (by omega) (by omega)
      rw [← q_row2_s dt (b + 38) (b + 40) i _ _ (by omega)] at hih
      have hs2 : q_sig (b + 21) N (q_row2 dt (b + 38) (b + 40) i (fun k => wJ (q_tn g t (w + k) 0)) (fun k => wJ (q_tn g t (w + k) 1))) g := by
        unfold q_sig
        rw [q_row2_o (by omega) (by omega), q_row2_o (by omega) (by omega)]
        exact hg
      have ei : wI i + 1 = wI (i + 1 : Nat) := wI_add i 1
      have ew : wI w + wI i = wI (w + i : Nat) := wI_add w i
      have v0 : X8_value (A1 b) _ (b + 21) (wI (w + i : Nat)) 0 = _ := T_value (So_in b) hs2 hN hz (show w + i < 1000000 by omega) (show 0 < 2 by omega)
      have v1 : X8_value (A1 b) _ (b + 21) (wI (w + i : Nat)) 1 = _ := T_value (So_in b) hs2 hN hz (show w + i < 1000000 by omega) (show 1 < 2 by omega)
      have p0 := fun (d : q_Dt) (v : Int64) => r_put (dt := d) (v := v) (s37_0 b) (l38 b) (by omega) (show i < 127 by omega)
      have p1 := fun (d : q_Dt) (v : Int64) => r_put (dt := d) (v := v) (s39_0 b) (l40 b) (by omega) (show i < 127 by omega)
      have htr : t * ((w + i) / 8) % 4 < 4 := Nat.mod_lt _ (by omega)
      have kL : (wI L ≤ wI i) = False := by
        rw [wI_le (by omega) (by omega) (by omega) (by omega)]
        exact eq_false (by omega)
      rw [X6_turnBack_b3.eq_2, ew, m_turn ht (by omega)]
      rcases (show t * ((w + i) / 8) % 4 = 0 ∨ t * ((w + i) / 8) % 4 = 1 ∨ t * ((w + i) / 8) % 4 = 2 ∨ t * ((w + i) / 8) % 4 = 3 by omega) with h | h | h | h
      · have a0 : q_tn g t (w + i) 0 = g 0 (w + i) := by unfold q_tn; rw [if_pos rfl, if_pos h]
        have a1 : q_tn g t (w + i) 1 = g 1 (w + i) := by unfold q_tn; rw [if_neg (by omega), if_pos h]
        have kA : (wI ((0 : Nat) : Int) &&& (1 : Int32) = 0) = True := eq_true (by decide)
        have kB : (wI ((0 : Nat) : Int) ≤ (1 : Int32)) = True := eq_true (by decide)
        rw [a0, a1] at hih
        rw [h]
        simp only [kL, ↓reduceIte, b1s, v0, v1, kA, kB, X6_turnBack_b58, X6_turnBack_b75, X6_turnBack_b97, X6_turnBack_b120, s36_0, s36_1, p0, p1, wJ_neg, ei]
        exact hih
      · have a0 : q_tn g t (w + i) 0 = g 1 (w + i) := by unfold q_tn; rw [if_pos rfl, if_neg (by omega), if_pos h]
        have a1 : q_tn g t (w + i) 1 = - g 0 (w + i) := by unfold q_tn; rw [if_neg (by omega), if_neg (by omega), if_pos h]
        have kA : (wI ((1 : Nat) : Int) &&& (1 : Int32) = 0) = False := eq_false (by decide)
        have kB : (wI ((1 : Nat) : Int) ≤ (1 : Int32)) = True := eq_true (by decide)
        rw [a0, a1] at hih
        rw [h]
        simp only [kL, ↓reduceIte, b1s, v0, v1, kA, kB, X6_turnBack_b58, X6_turnBack_b75, X6_turnBack_b97, X6_turnBack_b120, s36_0, s36_1, p0, p1, wJ_neg, ei]
        exact hih
      · have a0 : q_tn g t (w + i) 0 = - g 0 (w + i) := by unfold q_tn; rw [if_pos rfl, if_neg (by omega), if_neg (by omega), if_pos h]
        have a1 : q_tn g t (w + i) 1 = - g 1 (w + i) := by unfold q_tn; rw [if_neg (by omega), if_neg (by omega), if_neg (by omega), if_pos h]
        have kA : (wI ((2 : Nat) : Int) &&& (1 : Int32) = 0) = True := eq_true (by decide)
        have kB : (wI ((2 : Nat) : Int) ≤ (1 : Int32)) = False := eq_false (by decide)
        rw [a0, a1] at hih
        rw [h]
        simp only [kL, ↓reduceIte, b1s, v0, v1, kA, kB, X6_turnBack_b58, X6_turnBack_b75, X6_turnBack_b97, X6_turnBack_b120, s36_0, s36_1, p0, p1, wJ_neg, ei]
        exact hih
      · have a0 : q_tn g t (w + i) 0 = - g 1 (w + i) := by unfold q_tn; rw [if_pos rfl, if_neg (by omega), if_neg (by omega), if_neg (by omega)]
        have a1 : q_tn g t (w + i) 1 = g 0 (w + i) := by unfold q_tn; rw [if_neg (by omega), if_neg (by omega), if_neg (by omega), if_neg (by omega)]
        have kA : (wI ((3 : Nat) : Int) &&& (1 : Int32) = 0) = False := eq_false (by decide)
        have kB : (wI ((3 : Nat) : Int) ≤ (1 : Int32)) = False := eq_false (by decide)
        rw [a0, a1] at hih
        rw [h]
        simp only [kL, ↓reduceIte, b1s, v0, v1, kA, kB, X6_turnBack_b58, X6_turnBack_b75, X6_turnBack_b97, X6_turnBack_b120, s36_0, s36_1, p0, p1, wJ_neg, ei, Int.neg_neg]
        exact hih
  have h0 := hl L 0 q_FU (by omega) (by unfold q_FU; omega)
  rw [q_row2_0] at h0
  unfold X6_turnBack
  rw [show (0 : Int32) = wI ((0 : Nat) : Int) from rfl]
  exact h0
/-- a sum of the search -/
def q_cs (T : q_Tl) (g : Nat → Nat → Int) (c d t w a : Nat) : Int := q_sum (fun k => q_tn g t (w + k) a * Tch T c ((k + Tlen T c - d) % Tlen T c)) (Tlen T c)
theorem T_corr {b tt c d R A : Nat} {dt : q_Dt} {T : q_Tl} {F : Nat → Int} (hT : q_TT b tt dt T) (hc : c < Tnc T) (hd : d < Tlen T c) (hR : (A1 b).2.2 R 0 = A) (hA : (A1 b).2.1 A = 127) (hF : ∀ k, k < Tlen T c → dt.2.1 A k = wJ (F k)) : X0_along (A1 b) dt (tt + 12 + 3 * c) R (wI (Tlen T c) - wI d) = some (wJ (q_sum (fun k => F k * Tch T c ((k + Tlen T c - d) % Tlen T c)) (Tlen T c))) := by
  have hcd := T_code hT hc
  rw [wI_sub, ← Int.ofNat_sub (by omega), c_along hcd hR hA (show Tlen T c - d ≤ Tlen T c by omega) hF]
  refine congrArg (fun z => some (wJ z)) (q_sum_congr _ (fun i hi => ?_))
  show F i * Tch T c ((i + (Tlen T c - d)) % Tlen T c) = F i * Tch T c ((i + Tlen T c - d) % Tlen T c)
  rw [show i + (Tlen T c - d) = i + Tlen T c - d by omega]
