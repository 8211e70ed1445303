/-! level two: who is stronger; taken, rest -/
theorem q_gd {n L : Nat} (h : n < L) (h2 : L < 2147483648) : (wI n < 0 ∨ L ≤ Int32.toNatClampNeg (wI n)) = False := by
  rw [show (0 : Int32) = wI 0 from rfl, wI_lt (by omega) (by omega) (by omega) (by omega), wI_nat (by omega) (by omega), Int.toNat_natCast]
  exact eq_false (by omega)
theorem q_ge {n L : Nat} (h : n < L) (h2 : L < 2147483648) : (wI n < 0 ∨ L ≤ n) = False := by
  rw [show (0 : Int32) = wI 0 from rfl, wI_lt (by omega) (by omega) (by omega) (by omega)]
  exact eq_false (by omega)
theorem q_nn {n : Nat} (h : n < 2147483648) : Int32.toNatClampNeg (wI n) = n := by
  rw [wI_nat (by omega) (by omega), Int.toNat_natCast]
theorem q_leF {a b : Nat} (h : b < a) (h2 : a < 2147483648) : (wI a ≤ wI b) = False := by
  rw [wI_le (by omega) (by omega) (by omega) (by omega)]
  exact eq_false (by omega)
theorem q_leT {a b : Nat} (h : a ≤ b) (h2 : b < 2147483648) : (wI a ≤ wI b) = True := by
  rw [wI_le (by omega) (by omega) (by omega) (by omega)]
  exact eq_true (by omega)
theorem q_i1 (z : Int) : wI z + 1 = wI (z + 1) := wI_add z 1
theorem q_n1 (n : Nat) : wI n + 1 = wI (n + 1 : Nat) := wI_add n 1
theorem q_i0 (z : Int) : wI z + 0 = wI z := by
  have := wI_add z 0
  rw [Int.add_zero] at this
  exact this
theorem q_sum_mono {f g : Nat → Int} (n : Nat) (h : ∀ i, i < n → f i ≤ g i) : q_sum f n ≤ q_sum g n := by
  induction n with
  | zero => exact Int.le_refl 0
  | succ n ih =>
    have h1 := ih (fun i hi => h i (by omega))
    have h2 := h n (by omega)
    rw [q_sum_s, q_sum_s]
    omega
theorem q_sum_mono1 {f g : Nat → Int} (n j : Nat) (hj : j < n) (h : ∀ i, i < n → f i ≤ g i) (h1 : f j + 1 ≤ g j) : q_sum f n + 1 ≤ q_sum g n := by
  induction n with
  | zero => exact absurd hj (by omega)
  | succ n ih =>
    rw [q_sum_s, q_sum_s]
    have hn := h n (by omega)
    by_cases e : j = n
    · rw [e] at h1
      have h2 := q_sum_mono n (fun i hi => h i (by omega))
      omega
    · have h2 := ih (by omega) (fun i hi => h i (by omega))
      omega
theorem q_sum_1n (n : Nat) : q_sum (fun _ => (1 : Int)) n = n := by
  induction n with
  | zero => rfl
  | succ n ih =>
    rw [q_sum_s, ih]
    omega
def q_ah (T : q_Tl) (s o : Nat) : Int := if Tsa T s < Tsa T o ∨ (Tsa T o = Tsa T s ∧ o < s) then 1 else 0
def q_rkn (T : q_Tl) (n s : Nat) : Int := q_sum (fun o => q_ah T s o) n
theorem q_ah_01 {T : q_Tl} {s o : Nat} : 0 ≤ q_ah T s o ∧ q_ah T s o ≤ 1 := q_if01 _
theorem q_ah_1 {T : q_Tl} {s o : Nat} : q_ah T s o = 1 ↔ (Tsa T s < Tsa T o ∨ (Tsa T o = Tsa T s ∧ o < s)) := by
  unfold q_ah
  by_cases h : Tsa T s < Tsa T o ∨ (Tsa T o = Tsa T s ∧ o < s)
  · rw [if_pos h]; exact ⟨fun _ => h, fun _ => rfl⟩
  · rw [if_neg h]; exact ⟨fun q => absurd q (by decide), fun q => absurd q h⟩
theorem q_ah_0 {T : q_Tl} {s o : Nat} (h : ¬ (Tsa T s < Tsa T o ∨ (Tsa T o = Tsa T s ∧ o < s))) : q_ah T s o = 0 := if_neg h
theorem q_ah_self {T : q_Tl} {s : Nat} : q_ah T s s = 0 := q_ah_0 (by omega)
theorem q_ah_tr {T : q_Tl} {s n o : Nat} (h : q_ah T s n = 1) : q_ah T n o ≤ q_ah T s o := by
  have h0 := q_ah_01 (T := T) (s := s) (o := o)
  have h1 := q_ah_01 (T := T) (s := n) (o := o)
  have h2 := q_ah_1.mp h
  by_cases h3 : q_ah T n o = 1
  · have h4 := q_ah_1.mp h3
    have h5 : q_ah T s o = 1 := q_ah_1.mpr (by omega)
    omega
  · omega
theorem q_ah_tot {T : q_Tl} {s n : Nat} (hne : s ≠ n) (h : ¬ q_ah T s n = 1) : q_ah T n s = 1 := by
  have h1 : ¬ (Tsa T s < Tsa T n ∨ (Tsa T n = Tsa T s ∧ n < s)) := fun q => h (q_ah_1.mpr q)
  exact q_ah_1.mpr (by omega)
theorem q_rk_sur (T : q_Tl) : ∀ n r : Nat, r < n → ∃ s, s < n ∧ q_rkn T n s = r := by
  intro n
  induction n with
  | zero => intro r hr; omega
  | succ n ih =>
    intro r hr
    have hro : 0 ≤ q_rkn T n n ∧ q_rkn T n n ≤ n := q_sum01 n (fun i _ => q_ah_01)
    have es : ∀ s, q_rkn T (n + 1) s = q_rkn T n s + q_ah T s n := fun _ => rfl
    by_cases h1 : (r : Int) < q_rkn T n n
    · obtain ⟨s, hs, e⟩ := ih r (by omega)
      refine ⟨s, by omega, ?_⟩
      rw [es, e]
      have h01 := q_ah_01 (T := T) (s := s) (o := n)
      by_cases h2 : q_ah T s n = 1
      · have h3 : q_rkn T n n ≤ q_rkn T n s := q_sum_mono n (fun o _ => q_ah_tr h2)
        omega
      · omega
    · by_cases h2 : (r : Int) = q_rkn T n n
      · exact ⟨n, by omega, by rw [es, q_ah_self, ← h2]; omega⟩
      · obtain ⟨s, hs, e⟩ := ih (r - 1) (by omega)
        refine ⟨s, by omega, ?_⟩
        rw [es, e]
        by_cases h3 : q_ah T s n = 1
        · rw [h3]; omega
        · have h5 := q_ah_tot (by omega) h3
          have h6 : q_rkn T n s + 1 ≤ q_rkn T n n := q_sum_mono1 n s hs (fun o _ => q_ah_tr h5) (by rw [q_ah_self, h5]; omega)
          omega
def q_fst (T : q_Tl) (r : Int) : Nat → Nat → Int
  | 0, _ => -1
  | c + 1, s => if q_rkn T (Tns T) s = r then (s : Int) else q_fst T r c (s + 1)
def q_byA (T : q_Tl) (r : Int) : Int := q_fst T r (Tns T) 0
theorem q_fst_b (T : q_Tl) (r : Int) : ∀ c i : Nat, (q_fst T r c i = -1 ∧ ∀ j, i ≤ j → j < i + c → q_rkn T (Tns T) j ≠ r) ∨ ∃ j : Nat, (i ≤ j ∧ j < i + c) ∧ q_fst T r c i = j ∧ q_rkn T (Tns T) j = r := by
  intro c
  induction c with
  | zero => intro i; exact Or.inl ⟨rfl, fun j h1 h2 => by omega⟩
  | succ c ih =>
    intro i
    by_cases h : q_rkn T (Tns T) i = r
    · exact Or.inr ⟨i, by omega, if_pos h, h⟩
    · have e : q_fst T r (c + 1) i = q_fst T r c (i + 1) := if_neg h
      rw [e]
      rcases ih (i + 1) with h1 | ⟨j, h2, h3, h4⟩
      · refine Or.inl ⟨h1.1, fun j q1 q2 => ?_⟩
        by_cases hj : j = i
        · rw [hj]; exact h
        · exact h1.2 j (by omega) (by omega)
      · exact Or.inr ⟨j, by omega, h3, h4⟩
theorem q_byA_in {T : q_Tl} {r : Nat} (h : r < Tns T) : ∃ j, j < Tns T ∧ q_byA T r = (j : Nat) := by
  obtain ⟨s, h1, h2⟩ := q_rk_sur T (Tns T) r h
  rcases q_fst_b T (r : Int) (Tns T) 0 with h3 | ⟨j, h4, h5, -⟩
  · exact absurd h2 (h3.2 s (by omega) (by omega))
  · exact ⟨j, by omega, h5⟩
theorem q_byA_out {T : q_Tl} {r : Int} (h : ¬ (0 ≤ r ∧ r < Tns T)) : q_byA T r = -1 := by
  rcases q_fst_b T r (Tns T) 0 with h3 | ⟨j, h4, -, h6⟩
  · exact h3.1
  · exfalso
    have h7 : 0 ≤ q_rkn T (Tns T) j ∧ q_rkn T (Tns T) j ≤ Tns T := q_sum01 (Tns T) (fun i _ => q_ah_01)
    have h8 : q_rkn T (Tns T) j + 1 ≤ q_sum (fun _ => (1 : Int)) (Tns T) := q_sum_mono1 (Tns T) j (by omega) (fun o _ => q_ah_01.2) (by rw [q_ah_self]; omega)
    rw [q_sum_1n] at h8
    omega
theorem q_byA_b (T : q_Tl) (r : Int) : -1 ≤ q_byA T r ∧ q_byA T r ≤ Tns T := by
  rcases q_fst_b T r (Tns T) 0 with h3 | ⟨j, h4, h5, -⟩
  · unfold q_byA; omega
  · unfold q_byA; omega
theorem T_strThan {b t s : Nat} {dt : q_Dt} {T : q_Tl} (hT : q_TT b t dt T) (hs : s < Tns T) : X4_strongerThan (A1 b) dt t (wI s) = some (wI (q_rkn T (Tns T) s)) := by
  have hN := hT.1.1
  have hS := hT.1.2.2.2.1
  have hc := hT.2.2.1.2.2.1
  have hl : ∀ n i k : Nat, i + n = Tns T → n < k → X4_strongerThan_b11 (A1 b) dt t (wI s) (some (t + 42 + 5 * s)) k (wI (q_rkn T i s)) (wI i) = some (wI (q_rkn T (Tns T) s)) := by
    intro n
    induction n with
    | zero =>
      intro i k z1 z2 
      obtain ⟨k, rfl⟩ : ∃ m, k = m + 1 := ⟨k - 1, by omega⟩
      have e : i = Tns T := by omega
      rw [X4_strongerThan_b11.eq_2, hc]
      simp (disch := omega) only [wI_le]
      rw [if_pos (by omega), e]
    | succ n ih =>
      intro i k z1 z2 
      obtain ⟨k, rfl⟩ : ∃ m, k = m + 1 := ⟨k - 1, by omega⟩
      have hi : i < Tns T := by omega
      have hih := ih (i + 1) k (by omega) (by omega)
      have a1 := (hT.2.2.2.2.2.1 s hs).2.1
      have a2 := (hT.2.2.2.2.2.1 i hi).2.1
      have b1 := (hS s hs).2.1
      have b2 := (hS i hi).2.1
      have es : q_rkn T (i + 1) s = q_rkn T i s + q_ah T s i := rfl
      rw [es] at hih
      have kE : (wI (Tsa T i) = wI (Tsa T s)) = (Tsa T i = Tsa T s) := by
        rw [wI_eq (by omega) (by omega) (by omega) (by omega)]
        exact propext ⟨fun q => by omega, fun q => by omega⟩
      have kL : (wI (Tsa T s) < wI (Tsa T i)) = (Tsa T s < Tsa T i) := by
        rw [wI_lt (by omega) (by omega) (by omega) (by omega)]
        exact propext ⟨fun q => by omega, fun q => by omega⟩
      have kS : (wI s ≤ wI i) = (s ≤ i) := by
        rw [wI_le (by omega) (by omega) (by omega) (by omega)]
        exact propext ⟨fun q => by omega, fun q => by omega⟩
      rw [X4_strongerThan_b11.eq_2, hc, T_senderAt hT hi]
      simp only [q_leF hi (show Tns T < 2147483648 by omega), ↓reduceIte, b1s, m1s, X4_strongerThan_b59, X4_strongerThan_b60, X4_strongerThan_b80, X4_strongerThan_b85, X4_strongerThan_b87, a1, a2, kE, kL, kS, q_n1, q_i1, q_i0, q_10]
      by_cases c3 : Tsa T s < Tsa T i
      · rw [q_ah_1.mpr (Or.inl c3)] at hih
        rw [if_neg (show ¬ Tsa T i = Tsa T s by omega), if_pos c3]
        exact hih
      · by_cases c1 : Tsa T i = Tsa T s
        · rw [if_pos c1]
          by_cases c2 : s ≤ i
          · rw [q_ah_0 (by omega), Int.add_zero] at hih
            rw [if_pos c2, if_neg c3]
            exact hih
          · rw [q_ah_1.mpr (Or.inr ⟨c1, by omega⟩)] at hih
            rw [if_neg c2, if_neg c3]
            exact hih
        · rw [q_ah_0 (by omega), Int.add_zero] at hih
          rw [if_neg c1, if_neg c3]
          exact hih
  have h0 := hl (Tns T) 0 q_FU (by omega) (by unfold q_FU; omega)
  unfold X4_strongerThan
  rw [T_senderAt hT hs, b1s]
  exact h0
theorem q_rkn_b (T : q_Tl) (n s : Nat) : 0 ≤ q_rkn T n s ∧ q_rkn T n s ≤ n := q_sum01 n (fun i _ => q_ah_01)
theorem T_strFirst {b t : Nat} {dt : q_Dt} {T : q_Tl} {r : Int} (hT : q_TT b t dt T) (h1 : -2147483648 ≤ r) (h2 : r < 2147483648) : X4_strongerFirst (A1 b) dt (b + 43) (some t) (wI r) = some (wI (q_byA T r)) := by
  have hN := hT.1.1
  have hc := hT.2.2.1.2.2.1
  have hl : ∀ n i k : Nat, i + n = Tns T → n < k → X4_strongerFirst_b2 (A1 b) dt (some t) (wI r) k (wI i) = some (wI (q_fst T r n i)) := by
    intro n
    induction n with
    | zero =>
      intro i k z1 z2 
      obtain ⟨k, rfl⟩ : ∃ m, k = m + 1 := ⟨k - 1, by omega⟩
      have e : i = Tns T := by omega
      rw [X4_strongerFirst_b2.eq_2, m1s, hc]
      simp (disch := omega) only [wI_le]
      rw [if_pos (by omega)]
      rfl
    | succ n ih =>
      intro i k z1 z2 
      obtain ⟨k, rfl⟩ : ∃ m, k = m + 1 := ⟨k - 1, by omega⟩
      have hi : i < Tns T := by omega
      have hih := ih (i + 1) k (by omega) (by omega)
      have hb := q_rkn_b T (Tns T) i
      have kE : (wI (q_rkn T (Tns T) i) = wI r) = (q_rkn T (Tns T) i = r) := wI_eq (by omega) (by omega) (by omega) (by omega)
      rw [X4_strongerFirst_b2.eq_2, m1s, hc, T_strThan hT hi, b1s]
      simp only [q_leF hi (show Tns T < 2147483648 by omega), ↓reduceIte, kE, q_n1]
      by_cases h : q_rkn T (Tns T) i = r
      · rw [if_pos h, show q_fst T r (n + 1) i = i from if_pos h]
      · rw [if_neg h, show q_fst T r (n + 1) i = q_fst T r n (i + 1) from if_neg h]
        exact hih
  exact hl (Tns T) 0 q_FU (by omega) (by unfold q_FU; omega)
theorem M_byAmp {b sd : Nat} {dt : q_Dt} {T : q_Tl} {r : Int} (hM : q_M b sd dt T) (h1 : -2147483648 ≤ r) (h2 : r < 2147483648) : X12_byAmplitude (A2 b) dt b (wI r) = some (wI (q_byA T r)) := by
  have hN := hM.1.1
  have hS := hM.1.2.2.2.1
  obtain ⟨u1, u2, -, -, u3, -⟩ := hM.2.1
  have hin : ∀ s, s < Tns T → ∀ kk : Int32 → Option Int32, X12_byAmplitude_b20 (A2 b) dt kk b (wI r) (wI s) q_FU 0 0 = if q_rkn T (Tns T) s = r then some (wI s) else kk (wI (s + 1 : Nat)) := by
    intro s hs kk
    have A1' := M_amp hM hs
    have hb := q_rkn_b T (Tns T) s
    have kR : (wI (q_rkn T (Tns T) s) = wI r) = (q_rkn T (Tns T) s = r) := wI_eq (by omega) (by omega) (by omega) (by omega)
    have hl : ∀ n i k : Nat, i + n = Tns T → n < k → X12_byAmplitude_b20 (A2 b) dt kk b (wI r) (wI s) k (wI (q_rkn T i s)) (wI i) = if q_rkn T (Tns T) s = r then some (wI s) else kk (wI (s + 1 : Nat)) := by
      intro n
      induction n with
      | zero =>
        intro i k z1 z2 
        obtain ⟨k, rfl⟩ : ∃ m, k = m + 1 := ⟨k - 1, by omega⟩
        have e : i = Tns T := by omega
        rw [X12_byAmplitude_b20.eq_2, m31, n31, u2, q_nn (by omega), u3, e]
        simp only [q_ge u1 (show 2 < 2147483648 by omega), q_leT (Nat.le_refl (Tns T)) (show Tns T < 2147483648 by omega), ↓reduceIte, kR, q_n1]
      | succ n ih =>
        intro i k z1 z2 
        obtain ⟨k, rfl⟩ : ∃ m, k = m + 1 := ⟨k - 1, by omega⟩
        have hi : i < Tns T := by omega
        have hih := ih (i + 1) k (by omega) (by omega)
        have A2' := M_amp hM hi
        have b1 := (hS s hs).2.1
        have b2 := (hS i hi).2.1
        have es : q_rkn T (i + 1) s = q_rkn T i s + q_ah T s i := rfl
        rw [es] at hih
        have kE : (wI (Tsa T i) = wI (Tsa T s)) = (Tsa T i = Tsa T s) := by
          rw [wI_eq (by omega) (by omega) (by omega) (by omega)]
          exact propext ⟨fun q => by omega, fun q => by omega⟩
        have kL : (wI (Tsa T s) < wI (Tsa T i)) = (Tsa T s < Tsa T i) := by
          rw [wI_lt (by omega) (by omega) (by omega) (by omega)]
          exact propext ⟨fun q => by omega, fun q => by omega⟩
        have kS : (wI s ≤ wI i) = (s ≤ i) := by
          rw [wI_le (by omega) (by omega) (by omega) (by omega)]
          exact propext ⟨fun q => by omega, fun q => by omega⟩
        rw [X12_byAmplitude_b20.eq_2, A1'.1, A2'.1, A1'.2.1, q_nn (show 6 * sd + s < 2147483648 by omega), q_nn (show 6 * sd + i < 2147483648 by omega), A1'.2.2.1, A2'.2.2.1, m31, n31, u2, q_nn (show sd < 2147483648 by omega), u3]
        simp only [q_ge u1 (show 2 < 2147483648 by omega), q_ge A1'.2.2.2 (show 12 < 2147483648 by omega), q_ge A2'.2.2.2 (show 12 < 2147483648 by omega), q_leF hi (show Tns T < 2147483648 by omega), ↓reduceIte, o1s, X12_byAmplitude_b87, X12_byAmplitude_b90, kE, kL, kS, q_n1, q_i1]
        by_cases c3 : Tsa T s < Tsa T i
        · rw [q_ah_1.mpr (Or.inl c3)] at hih
          rw [if_pos c3]
          exact hih
        · rw [if_neg c3]
          by_cases c1 : Tsa T i = Tsa T s
          · rw [if_pos c1]
            by_cases c2 : s ≤ i
            · rw [q_ah_0 (by omega), Int.add_zero] at hih
              rw [if_pos c2]
              exact hih
            · rw [q_ah_1.mpr (Or.inr ⟨c1, by omega⟩)] at hih
              rw [if_neg c2]
              exact hih
          · rw [q_ah_0 (by omega), Int.add_zero] at hih
            rw [if_neg c1]
            exact hih
    exact hl (Tns T) 0 q_FU (by omega) (by unfold q_FU; omega)
  have kG := q_ge u1 (show 2 < 2147483648 by omega)
  have hl : ∀ n i k : Nat, i + n = Tns T → n < k → X12_byAmplitude_b2 (A2 b) dt b (wI r) k (wI i) = some (wI (q_fst T r n i)) := by
    intro n
    induction n with
    | zero =>
      intro i k z1 z2 
      obtain ⟨k, rfl⟩ : ∃ m, k = m + 1 := ⟨k - 1, by omega⟩
      have e : i = Tns T := by omega
      rw [X12_byAmplitude_b2.eq_2, m31, n31, u2, q_nn (show sd < 2147483648 by omega), u3, e]
      simp only [kG, q_leT (Nat.le_refl (Tns T)) (show Tns T < 2147483648 by omega), ↓reduceIte]
      rfl
    | succ n ih =>
      intro i k z1 z2 
      obtain ⟨k, rfl⟩ : ∃ m, k = m + 1 := ⟨k - 1, by omega⟩
      have hi : i < Tns T := by omega
      have hih := ih (i + 1) k (by omega) (by omega)
      rw [X12_byAmplitude_b2.eq_2, m31, n31, u2, q_nn (show sd < 2147483648 by omega), u3, hin i hi]
      simp only [kG, q_leF hi (show Tns T < 2147483648 by omega), ↓reduceIte]
      by_cases h : q_rkn T (Tns T) i = r
      · rw [if_pos h, show q_fst T r (n + 1) i = i from if_pos h]
      · rw [if_neg h, show q_fst T r (n + 1) i = q_fst T r n (i + 1) from if_neg h]
        exact hih
  exact hl (Tns T) 0 q_FU (by omega) (by unfold q_FU; omega)
