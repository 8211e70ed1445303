/-! level two: two rows laid on one another, ALIKE in the class -/
def q_alk (L : Nat) (f g : Nat → Int) (s : Nat) : Int := q_sum (fun i => f i * g ((i + s) % L)) L
theorem r_round {al : q_Al} {dt : q_Dt} {a o A B n s : Nat} {F G : Nat → Int} (hR : al.2.2 a 0 = A) (hA : al.2.1 A = 127) (hR2 : al.2.2 o 0 = B) (hB : al.2.1 B = 127) (hn : 1 ≤ n ∧ n ≤ 127) (hs : s ≤ n) (hF : ∀ i, i < n → dt.2.1 A i = wJ (F i)) (hG : ∀ i, i < n → dt.2.1 B i = wJ (G i)) : X5_timesRound al dt a o (wI s) (wI n) = some (wJ (q_sum (fun i => F i * G ((i + s) % n)) n)) := by
  have hl : ∀ c i z k, i + c = n → c < k → z ≤ n → z % n = (i + s) % n → X5_timesRound_b36 al dt A B (wI n) k (wJ (q_sum (fun i => F i * G ((i + s) % n)) i)) (wI z) (wI i) = some (wJ (q_sum (fun i => F i * G ((i + s) % n)) n)) := by
    intro c
    induction c with
    | zero =>
      intro i z k h1 h2 h3 h4
      obtain ⟨k, rfl⟩ : ∃ m, k = m + 1 := ⟨k - 1, by omega⟩
      have e : i = n := by omega
      rw [X5_timesRound_b36.eq_2]
      simp (disch := omega) only [wI_le]
      rw [if_pos (by omega), e]
    | succ c ih =>
      intro i z k h1 h2 h3 h4
      obtain ⟨k, rfl⟩ : ∃ m, k = m + 1 := ⟨k - 1, by omega⟩
      have hi : i < n := by omega
      have ei : wI i + 1 = wI ((i + 1 : Nat) : Int) := wI_add i 1
      have zi : (wI i < 0) = False := by
        rw [show (0 : Int32) = wI 0 from rfl, wI_lt (by omega) (by omega) (by omega) (by omega)]
        exact eq_false (by omega)
      have ni : Int32.toNatClampNeg (wI i) = i := by
        rw [wI_nat (by omega) (by omega)]
        rfl
      have e5 : q_sum (fun i => F i * G ((i + s) % n)) (i + 1) = q_sum (fun i => F i * G ((i + s) % n)) i + F i * G ((i + s) % n) := rfl
      have hb : ∀ y : Nat, y < n → y = (i + s) % n → X5_timesRound_b58 al dt (X5_timesRound_b36 al dt A B (wI n) k) A B (wI n) (wJ (q_sum (fun i => F i * G ((i + s) % n)) i)) (wI y) (wI i) = some (wJ (q_sum (fun i => F i * G ((i + s) % n)) n)) := by
        intro y hy ey
        have hih := ih (i + 1) (y + 1) k (by omega) (by omega) (by omega) (by rw [ey, Nat.mod_add_mod, show i + 1 + s = i + s + 1 by omega])
        rw [e5, ← ey] at hih
        have ey2 : wI y + 1 = wI ((y + 1 : Nat) : Int) := wI_add y 1
        have zy : (wI y < 0) = False := by
          rw [show (0 : Int32) = wI 0 from rfl, wI_lt (by omega) (by omega) (by omega) (by omega)]
          exact eq_false (by omega)
        have ny : Int32.toNatClampNeg (wI y) = y := by
          rw [wI_nat (by omega) (by omega)]
          rfl
        simp only [X5_timesRound_b58, zi, zy, ni, ny, hA, hB, false_or, q_o, ei, ey2]
        rw [if_neg (by omega), if_neg (by omega), hF i hi, hG y hy, wJ_mul, wJ_add]
        exact hih
      rw [X5_timesRound_b36.eq_2]
      have kL : (wI n ≤ wI i) = False := by
        rw [wI_le (by omega) (by omega) (by omega) (by omega)]
        exact eq_false (by omega)
      have zz : (wI z < 0) = False := by
        rw [show (0 : Int32) = wI 0 from rfl, wI_lt (by omega) (by omega) (by omega) (by omega)]
        exact eq_false (by omega)
      have kz : (wI z < wI n) = (z < n) := by
        rw [wI_lt (by omega) (by omega) (by omega) (by omega)]
        exact propext ⟨fun q => by omega, fun q => by omega⟩
      simp only [kL, zz, kz, if_false]
      by_cases hw : z < n
      · rw [if_pos hw]
        exact hb z hw (by rw [← h4, Nat.mod_eq_of_lt hw])
      · rw [if_neg hw]
        unfold X5_timesRound_b55
        exact hb 0 (by omega) (by rw [← h4, show z = n by omega, Nat.mod_self])
  have h0 := hl n 0 s q_FU (by omega) (by unfold q_FU; omega) hs (by rw [Nat.zero_add])
  have hm : q_min (wI n) (q_min (Int32.ofNat 127) (Int32.ofNat 127)) = wI n := by
    rw [show q_min (Int32.ofNat 127) (Int32.ofNat 127) = wI 127 by decide]
    unfold q_min
    simp (disch := omega) only [wI_lt]
    rw [if_neg (by omega)]
  unfold X5_timesRound
  rw [hR, hR2, hA, hB, hm, show (0 : Int32) = wI ((0 : Nat) : Int) from rfl, show (0 : Int64) = wJ 0 from rfl]
  exact h0
theorem c_along {al : q_Al} {dt : q_Dt} {c L R A s : Nat} {f F : Nat → Int} (h : q_Code al dt c L f) (hR : al.2.2 R 0 = A) (hA : al.2.1 A = 127) (hs : s ≤ L) (hF : ∀ i, i < L → dt.2.1 A i = wJ (F i)) : X0_along al dt c R (wI s) = some (wJ (q_sum (fun i => F i * f ((i + s) % L)) L)) := by
  unfold X0_along
  rw [h.2.1, r_round hR hA rfl h.1 h.2.2.1 hs hF h.2.2.2.1]
  rfl
theorem c_alike {al : q_Al} {dt : q_Dt} {c o L : Nat} {f g : Nat → Int} (h : q_Code al dt c L f) (h' : q_Code al dt o L g) {s : Nat} (hs : s < L) : X0_alikeness al dt c (some o) (wI s) = some (wI (q_alk L f g s)) := by
  have h1 := c_along h' (R := al.2.2 c 0) (s := s) rfl h.1 (by omega) h.2.2.2.1
  unfold X0_alikeness
  show q_b1 (X0_along al dt o (al.2.2 c 0) (wI s)) (fun v => some (Int64.toInt32 v)) = _
  rw [h1]
  show some (Int64.toInt32 (wJ _)) = _
  rw [wJ_wI]
  rfl
