/-! level two: family, the answers -/
noncomputable def q_fbs (T : q_Tl) (t : Int) : Nat → Nat
  | 0 => 0
  | n + 1 => if q_dP (q_bc (q_fbs T t n) < q_bc n ∧ q_isfam T t n) = true then n else q_fbs T t n
theorem q_fbs_s (T : q_Tl) (t : Int) (n : Nat) : q_fbs T t (n + 1) = if q_dP (q_bc (q_fbs T t n) < q_bc n ∧ q_isfam T t n) = true then n else q_fbs T t n := rfl
theorem q_fbs_lt (T : q_Tl) (t : Int) (n : Nat) : q_fbs T t n < n + 1 ∧ (1 ≤ n → q_fbs T t n < n) := by
  induction n with
  | zero => exact ⟨Nat.lt_succ_self 0, fun h => absurd h (by omega)⟩
  | succ n ih =>
    rw [q_fbs_s]
    by_cases h : q_dP (q_bc (q_fbs T t n) < q_bc n ∧ q_isfam T t n) = true
    · rw [if_pos h]; omega
    · rw [if_neg h]; omega
theorem q_fbs_1 (T : q_Tl) (t : Int) : q_fbs T t 1 = 0 := by
  rw [q_fbs_s, if_neg]
  · rfl
  · rw [q_dP_0 (fun q => by
      have h : q_bc 0 < q_bc 0 := q.1
      omega)]
    exact Bool.false_ne_true
theorem T_famL {b tt : Nat} {d : q_Dt} {T : q_Tl} {t : Int} (hT : q_TT b tt d T) (hF : ∀ a, a < Tnc T → d.2.1 (b + 29) a = wJ (q_frs T t a (Tnc T))) : X2_familyOf_b52 (A1 b) (b + 27) tt q_FU 0 1 d = some (wI (q_fbs T t (2 ^ Tnc T)), d) := by
  have hN := hT.1.1
  have hc := hT.2.2.1.1
  have hp0 := Nat.two_pow_pos (Tnc T)
  have hp8 : 2 ^ Tnc T ≤ 256 := Nat.pow_le_pow_right (n := 2) (j := 8) (by omega) hN.1
  have e1 : q_min (wI (Tnc T)) 8 = wI (Tnc T) := by
    rw [show (8 : Int32) = wI 8 from rfl, m_min (by omega) (by omega) (by omega) (by omega), if_neg (by omega)]
  have e2 : (1 : Int32) <<< (q_min (d.1 tt 7) 8 &&& 31) = wI (2 ^ Tnc T : Nat) := by
    rw [hc, e1]
    exact wI_shl (by omega)
  have hl : ∀ n i k : Nat, i + n = 2 ^ Tnc T → n < k → 1 ≤ i → X2_familyOf_b52 (A1 b) (b + 27) tt k (wI (q_fbs T t i)) (wI i) d = some (wI (q_fbs T t (2 ^ Tnc T)), d) := by
    intro n
    induction n with
    | zero =>
      intro i k z1 z2 
      obtain ⟨k, rfl⟩ : ∃ m, k = m + 1 := ⟨k - 1, by omega⟩
      have e : i = 2 ^ Tnc T := by omega
      intro _
      rw [X2_familyOf_b52.eq_2, e2, e]
      simp only [q_leT (Nat.le_refl (2 ^ Tnc T)) (show 2 ^ Tnc T < 2147483648 by omega), ↓reduceIte]
    | succ n ih =>
      intro i k z1 z2 
      obtain ⟨k, rfl⟩ : ∃ m, k = m + 1 := ⟨k - 1, by omega⟩
      have hi : i < 2 ^ Tnc T := by omega
      intro g0
      have hih := ih (i + 1) k (by omega) (by omega) (by omega)
      have hf := (q_fbs_lt T t i).2 g0
      have b1 := q_bc_b i
      have b2 := q_bc_b (q_fbs T t i)
      have kB : (wI (q_bc i) ≤ wI (q_bc (q_fbs T t i))) = (q_bc i ≤ q_bc (q_fbs T t i)) := wI_le (by omega) (by omega) (by omega) (by omega)
      rw [X2_familyOf_b52.eq_2, e2, J_bc (show i < 256 by omega), J_bc (show q_fbs T t i < 256 by omega), b1s, b1s, T_areF hT hF hi, b1s]
      simp only [q_leF hi (show 2 ^ Tnc T < 2147483648 by omega), ↓reduceIte, kB, X2_familyOf_b92, q_n1]
      by_cases h1 : q_bc i ≤ q_bc (q_fbs T t i)
      · rw [if_pos h1]
        rw [q_fbs_s, if_neg (by rw [q_dP_0 (fun q => by have := q.1; omega)]; exact Bool.false_ne_true)] at hih
        exact hih
      · rw [if_neg h1]
        by_cases h2 : q_isfam T t i
        · rw [q_dP_1 h2, if_neg (show ¬ q_ib true = 0 by decide)]
          rw [q_fbs_s, if_pos (q_dP_1 ⟨by omega, h2⟩)] at hih
          exact hih
        · rw [q_dP_0 h2, if_pos (show q_ib false = 0 by rfl)]
          rw [q_fbs_s, if_neg (by rw [q_dP_0 (fun q => h2 q.2)]; exact Bool.false_ne_true)] at hih
          exact hih
  have h0 := hl (2 ^ Tnc T - 1) 1 q_FU (by omega) (by unfold q_FU; omega) (Nat.le_refl 1)
  rw [q_fbs_1] at h0
  exact h0
theorem T_famI {b tt x : Nat} {dt d : q_Dt} {T : q_Tl} {t : Int} (k9 : Int32 → q_Dt → Option (Int32 × q_Dt)) (hT : q_TT b tt dt T) (hx : x < Tnc T) (ht : 0 ≤ t) (ht2 : t < 2147483648) (q1 : q_e1 b dt d) (q2 : ∀ a, a < Tnc T → d.2.1 (b + 29) a = wJ (q_pst (q_fpr T t x 0 a) (Tnc T))) : ∃ d', X2_familyOf_b20 (A1 b) k9 (b + 27) (some tt) (wI t) (wI x) q_FU (wI (0 : Nat)) d = k9 (wI (x + 1 : Nat)) d' ∧ q_e1 b dt d' ∧ ∀ a, a < Tnc T → d'.2.1 (b + 29) a = wJ (q_pst (q_fpr T t (x + 1) 0 a) (Tnc T)) := by
  have hN := hT.1.1
  have hl : ∀ n i k : Nat, i + n = x + 1 → n < k → ∀ d, q_e1 b dt d → (∀ a, a < Tnc T → d.2.1 (b + 29) a = wJ (q_pst (q_fpr T t x i a) (Tnc T))) → ∃ d', X2_familyOf_b20 (A1 b) k9 (b + 27) (some tt) (wI t) (wI x) k (wI i) d = k9 (wI (x + 1 : Nat)) d' ∧ q_e1 b dt d' ∧ ∀ a, a < Tnc T → d'.2.1 (b + 29) a = wJ (q_pst (q_fpr T t (x + 1) 0 a) (Tnc T)) := by
    intro n
    induction n with
    | zero =>
      intro i k z1 z2 
      obtain ⟨k, rfl⟩ : ∃ m, k = m + 1 := ⟨k - 1, by omega⟩
      have e : i = x + 1 := by omega
      intro d q1 q2
      refine ⟨d, ?_, q1, fun a ha => ?_⟩
      · rw [X2_familyOf_b20.eq_2, q_n1 x]
        simp (disch := omega) only [wI_lt]
        rw [if_pos (by omega)]
      · rw [q2 a ha, e]
        refine congrArg (fun z : Nat => wJ z) (q_pst_c (fun o _ => ?_))
        unfold q_fpr
        exact ⟨fun q => ⟨q.1, by have := q.2; omega⟩, fun q => ⟨q.1, by have := q.2; omega⟩⟩
    | succ n ih =>
      intro i k z1 z2 
      obtain ⟨k, rfl⟩ : ∃ m, k = m + 1 := ⟨k - 1, by omega⟩
      have hi : i < x + 1 := by omega
      intro d q1 q2
      obtain ⟨d1, r1, r2, r3⟩ := T_befriend (T_e1 hT q1) hx (show i ≤ x by omega) ht ht2 q2
      obtain ⟨d', v1, v2⟩ := ih (i + 1) k (by omega) (by omega) d1 (q_e1_t q1 r2) r3
      refine ⟨d', ?_, v2⟩
      rw [X2_familyOf_b20.eq_2, r1, q_n1 i]
      simp (disch := omega) only [wI_lt, b1s]
      rw [if_neg (by omega)]
      exact v1
  exact hl (x + 1) 0 q_FU (by omega) (by unfold q_FU; omega) d q1 q2
theorem T_familyOf {b tt : Nat} {dt : q_Dt} {T : q_Tl} {t : Int} (hT : q_TT b tt dt T) (ht : 0 ≤ t) (ht2 : t < 2147483648) : ∃ d', X2_familyOf (A1 b) dt (b + 27) (some tt) (wI t) = some (wI (q_fbs T t (2 ^ Tnc T)), d') ∧ q_e1 b dt d' := by
  have hN := hT.1.1
  have hl : ∀ n i k : Nat, i + n = Tnc T → n < k → ∀ d, q_e1 b dt d → (∀ a, a < Tnc T → d.2.1 (b + 29) a = wJ (q_pst (q_fpr T t i 0 a) (Tnc T))) → ∃ d', X2_familyOf_b9 (A1 b) (b + 27) (some tt) (wI t) k (wI i) d = some (wI (q_fbs T t (2 ^ Tnc T)), d') ∧ q_e1 b dt d' := by
    intro n
    induction n with
    | zero =>
      intro i k z1 z2 
      obtain ⟨k, rfl⟩ : ∃ m, k = m + 1 := ⟨k - 1, by omega⟩
      have e : i = Tnc T := by omega
      intro d q1 q2
      refine ⟨d, ?_, q1⟩
      have hT1 := T_e1 hT q1
      rw [X2_familyOf_b9.eq_2, m1s, hT1.2.2.1.1, e]
      simp only [q_leT (Nat.le_refl (Tnc T)) (show Tnc T < 2147483648 by omega), ↓reduceIte]
      refine T_famL hT1 (fun a ha => ?_)
      rw [q2 a ha, q_frs_pst, e]
      refine congrArg (fun z : Nat => wJ z) (q_pst_c (fun o ho => ?_))
      unfold q_fpr
      exact ⟨fun q => q.1, fun q => ⟨q, by omega⟩⟩
    | succ n ih =>
      intro i k z1 z2 
      obtain ⟨k, rfl⟩ : ∃ m, k = m + 1 := ⟨k - 1, by omega⟩
      have hi : i < Tnc T := by omega
      intro d q1 q2
      have hT1 := T_e1 hT q1
      obtain ⟨d1, r1, r2, r3⟩ := T_famI (X2_familyOf_b9 (A1 b) (b + 27) (some tt) (wI t) k) hT hi ht ht2 q1 q2
      obtain ⟨d', v1, v2⟩ := ih (i + 1) k (by omega) (by omega) d1 r2 r3
      refine ⟨d', ?_, v2⟩
      rw [X2_familyOf_b9.eq_2, m1s, hT1.2.2.1.1]
      simp only [q_leF hi (show Tnc T < 2147483648 by omega), ↓reduceIte]
      exact r1.trans v1
  unfold X2_familyOf
  rw [s27_0, r_clear (s28_0 b) (l29 b) (by omega), b1s]
  exact hl (Tnc T) 0 q_FU (by omega) (by unfold q_FU; omega) _ (q_e1_row q_e1_r (by omega) (by omega)) (fun a ha => by
    rw [q_row_i (by omega)]
    have e0 : q_pst (q_fpr T t 0 0 a) (Tnc T) = q_pst (fun _ => False) (Tnc T) := q_pst_c (fun o _ => ⟨fun q => by have := q.2; omega, fun q => q.elim⟩)
    have e1 : q_pst (fun _ => False) (Tnc T) = 0 := q_bt_ext (fun j => by
      rw [q_pst_bt, q_bt_0]
      exact ⟨fun q => q.2.elim, fun q => absurd q (by omega)⟩)
    rw [e0, e1]
    rfl)
theorem M_famL {b sd : Nat} {d : q_Dt} {T : q_Tl} {t : Int} {u : Int32} (hM : q_M b sd d T) (ht : 0 ≤ t) (hF : ∀ a o, a ≤ o → o < Tnc T → d.1 (b + 45) (8 * a + o) = if q_dP (q_frd T t a o) = true then 1 else 0) : X12_family_b106 (A2 b) b u q_FU 0 1 d = some (if u = 0 then wI (q_bc (q_fbs T t (2 ^ Tnc T))) else wI (q_fbs T t (2 ^ Tnc T)), d) := by
  have hN := hM.1.1
  obtain ⟨u1, u2, u3, -⟩ := hM.2.1
  have hp0 := Nat.two_pow_pos (Tnc T)
  have hp8 : 2 ^ Tnc T ≤ 256 := Nat.pow_le_pow_right (n := 2) (j := 8) (by omega) hN.1
  have e2 : (1 : Int32) <<< (wI (Tnc T) &&& 31) = wI (2 ^ Tnc T : Nat) := wI_shl (by omega)
  have hl : ∀ n i k : Nat, i + n = 2 ^ Tnc T → n < k → 1 ≤ i → X12_family_b106 (A2 b) b u k (wI (q_fbs T t i)) (wI i) d = some (if u = 0 then wI (q_bc (q_fbs T t (2 ^ Tnc T))) else wI (q_fbs T t (2 ^ Tnc T)), d) := by
    intro n
    induction n with
    | zero =>
      intro i k z1 z2 
      obtain ⟨k, rfl⟩ : ∃ m, k = m + 1 := ⟨k - 1, by omega⟩
      have e : i = 2 ^ Tnc T := by omega
      intro g0
      have hf := (q_fbs_lt T t i).2 g0
      rw [X12_family_b106.eq_2, m24, n24, u2, q_nn (show sd < 2147483648 by omega), u3, e2, M_bits (show q_fbs T t i < 256 by omega), b1s, e]
      simp only [q_ge u1 (show 2 < 2147483648 by omega), q_leT (Nat.le_refl (2 ^ Tnc T)) (show 2 ^ Tnc T < 2147483648 by omega), ↓reduceIte]
      by_cases hu : u = 0
      · rw [if_pos hu, if_pos hu]
      · rw [if_neg hu, if_neg hu]
    | succ n ih =>
      intro i k z1 z2 
      obtain ⟨k, rfl⟩ : ∃ m, k = m + 1 := ⟨k - 1, by omega⟩
      have hi : i < 2 ^ Tnc T := by omega
      intro g0
      have hih := ih (i + 1) k (by omega) (by omega) (by omega)
      have hf := (q_fbs_lt T t i).2 g0
      have b1 := q_bc_b i
      have b2 := q_bc_b (q_fbs T t i)
      have kB : (wI (q_bc i) ≤ wI (q_bc (q_fbs T t i))) = (q_bc i ≤ q_bc (q_fbs T t i)) := wI_le (by omega) (by omega) (by omega) (by omega)
      rw [X12_family_b106.eq_2, m24, n24, u2, q_nn (show sd < 2147483648 by omega), u3, e2, M_bits (show i < 256 by omega), M_bits (show q_fbs T t i < 256 by omega), b1s, b1s, M_isFam hM ht hF hi]
      simp only [q_ge u1 (show 2 < 2147483648 by omega), q_leF hi (show 2 ^ Tnc T < 2147483648 by omega), ↓reduceIte, kB, X12_family_b146, q_n1, b1s]
      by_cases h1 : q_bc i ≤ q_bc (q_fbs T t i)
      · rw [if_pos h1]
        rw [q_fbs_s, if_neg (by rw [q_dP_0 (fun q => by have := q.1; omega)]; exact Bool.false_ne_true)] at hih
        exact hih
      · rw [if_neg h1]
        by_cases h2 : q_isfam T t i
        · rw [q_dP_1 h2, if_neg (show ¬ q_ib true = 0 by decide)]
          rw [q_fbs_s, if_pos (q_dP_1 ⟨by omega, h2⟩)] at hih
          exact hih
        · rw [q_dP_0 h2, if_pos (show q_ib false = 0 by rfl)]
          rw [q_fbs_s, if_neg (by rw [q_dP_0 (fun q => h2 q.2)]; exact Bool.false_ne_true)] at hih
          exact hih
  have h0 := hl (2 ^ Tnc T - 1) 1 q_FU (by omega) (by unfold q_FU; omega) (Nat.le_refl 1)
  rw [q_fbs_1] at h0
  exact h0
theorem M_famF {b sd a : Nat} {dt : q_Dt} {T : q_Tl} {t : Int} {u : Int32} (kA : Int32 → q_Dt → Option (Int32 × q_Dt)) (hM : q_M b sd dt T) (ha : a < Tnc T) (ht : 0 ≤ t) (ht2 : t < 2147483648) : ∃ d', X12_family_b33 (A2 b) kA b (wI t) u (wI a) q_FU (wI a) dt = kA (wI (a + 1 : Nat)) d' ∧ q_fx (b + 45) dt d' ∧ (∀ o, a ≤ o → o < Tnc T → d'.1 (b + 45) (8 * a + o) = if q_dP (q_frd T t a o) = true then 1 else 0) ∧ ∀ j, j < 8 * a → d'.1 (b + 45) j = dt.1 (b + 45) j := by
  have hN := hM.1.1
  have hCa := hM.1.2.1 a ha
  have hl : ∀ n i k : Nat, i + n = Tnc T → n < k → ∀ d, a ≤ i → q_fx (b + 45) dt d → (∀ o, a ≤ o → o < i → d.1 (b + 45) (8 * a + o) = if q_dP (q_frd T t a o) = true then 1 else 0) → (∀ j, j < 8 * a → d.1 (b + 45) j = dt.1 (b + 45) j) → ∃ d', X12_family_b33 (A2 b) kA b (wI t) u (wI a) k (wI i) d = kA (wI (a + 1 : Nat)) d' ∧ q_fx (b + 45) dt d' ∧ (∀ o, a ≤ o → o < Tnc T → d'.1 (b + 45) (8 * a + o) = if q_dP (q_frd T t a o) = true then 1 else 0) ∧ ∀ j, j < 8 * a → d'.1 (b + 45) j = dt.1 (b + 45) j := by
    intro n
    induction n with
    | zero =>
      intro i k z1 z2 
      obtain ⟨k, rfl⟩ : ∃ m, k = m + 1 := ⟨k - 1, by omega⟩
      have e : i = Tnc T := by omega
      intro d g0 q1 q2 q3
      have hM1 := M_fx hM q1 (by omega)
      obtain ⟨u1, u2, u3, -⟩ := hM1.2.1
      refine ⟨d, ?_, q1, fun o h1 h2 => q2 o h1 (by omega), q3⟩
      rw [X12_family_b33.eq_2, m24, n24, u2, q_nn (show sd < 2147483648 by omega), u3, e]
      simp only [q_ge u1 (show 2 < 2147483648 by omega), q_leT (Nat.le_refl (Tnc T)) (show Tnc T < 2147483648 by omega), ↓reduceIte, q_n1]
    | succ n ih =>
      intro i k z1 z2 
      obtain ⟨k, rfl⟩ : ∃ m, k = m + 1 := ⟨k - 1, by omega⟩
      have hi : i < Tnc T := by omega
      intro d g0 q1 q2 q3
      have hM1 := M_fx hM q1 (by omega)
      have hM1' := hM1
      obtain ⟨u1, u2, u3, -⟩ := hM1'.2.1
      have e8 : (8 : Int32) * wI a + wI i = wI (8 * a + i : Nat) := by
        rw [show (8 : Int32) = wI (8 : Nat) from rfl, wI_mul, wI_add]
        rfl
      have hCi := hM.1.2.1 i hi
      have hfin : ∀ v : Int32, (vp_nar .boolean v = if q_dP (q_frd T t a i) = true then 1 else 0) → ∃ d', X12_family_b88 (A2 b) kA (X12_family_b33 (A2 b) kA b (wI t) u (wI a) k) b (wI t) u (wI a) (wI i) (b + 45) (wI (8 * a + i : Nat)) v d = kA (wI (a + 1 : Nat)) d' ∧ q_fx (b + 45) dt d' ∧ (∀ o, a ≤ o → o < Tnc T → d'.1 (b + 45) (8 * a + o) = if q_dP (q_frd T t a o) = true then 1 else 0) ∧ ∀ j, j < 8 * a → d'.1 (b + 45) j = dt.1 (b + 45) j := by
        intro v hv
        unfold X12_family_b88
        rw [n59, q_nn (show 8 * a + i < 2147483648 by omega), hv, q_n1]
        simp only [q_ge (show 8 * a + i < 64 by omega) (show 64 < 2147483648 by omega), ↓reduceIte, o1s]
        refine ih (i + 1) k (by omega) (by omega) _ (by omega) (q_fx_I q1) (fun o h1 h2 => ?_) (fun j hj => ?_)
        · by_cases eo : o = i
          · rw [eo, q_pI_s]
          · rw [q_pI_k (by omega)]
            exact q2 o h1 (by omega)
        · rw [q_pI_k (by omega)]
          exact q3 j hj
      rw [X12_family_b33.eq_2, m24, n24, u2, q_nn (show sd < 2147483648 by omega), u3, M_long hM1 ha, b1s, M_long hM1 hi, b1s, e8, m59]
      simp only [q_ge u1 (show 2 < 2147483648 by omega), q_leF hi (show Tnc T < 2147483648 by omega), ↓reduceIte, X12_family_b87]
      by_cases hl0 : Tlen T a = Tlen T i
      · rw [if_pos (by rw [hl0]), M_worst hM1 ha hi hl0, b1s]
        have hCi2 := hCi.2
        rw [← hl0] at hCi2
        have hw := q_wrst_b (st := if a = i then 1 else 0) hCa.1 hCa.2 hCi2
        have kw : (wI t < wI (q_wrst (Tlen T a) (Tch T a) (Tch T i) (if a = i then 1 else 0))) = (t < q_wrst (Tlen T a) (Tch T a) (Tch T i) (if a = i then 1 else 0)) := wI_lt (by omega) (by omega) (by omega) (by omega)
        simp only [kw]
        by_cases g : t < q_wrst (Tlen T a) (Tch T a) (Tch T i) (if a = i then 1 else 0)
        · rw [if_pos g]
          refine hfin 0 ?_
          rw [q_dP_0 (fun q => by have := q.2; omega), if_neg Bool.false_ne_true]
          rfl
        · rw [if_neg g]
          refine hfin 1 ?_
          rw [q_dP_1 ⟨hl0, by omega⟩, if_pos rfl]
          rfl
      · rw [if_neg (by rw [wI_eq (by omega) (by omega) (by omega) (by omega)]; omega)]
        refine hfin 0 ?_
        rw [q_dP_0 (fun q => hl0 q.1), if_neg Bool.false_ne_true]
        rfl
  exact hl (Tnc T - a) a q_FU (by omega) (by unfold q_FU; omega) dt (Nat.le_refl a) q_fx_r (fun o h1 h2 => absurd h1 (by omega)) (fun j _ => rfl)
theorem M_family {b sd : Nat} {dt : q_Dt} {T : q_Tl} {t : Int} {u : Int32} (hM : q_M b sd dt T) (ht : 0 ≤ t) (ht2 : t < 2147483648) : ∃ d', X12_family_b17 (A2 b) b (wI t) u q_FU 0 dt = some (if u = 0 then wI (q_bc (q_fbs T t (2 ^ Tnc T))) else wI (q_fbs T t (2 ^ Tnc T)), d') ∧ q_fx (b + 45) dt d' := by
  have hN := hM.1.1
  have hl : ∀ n i k : Nat, i + n = Tnc T → n < k → ∀ d, q_fx (b + 45) dt d → (∀ a o, a < i → a ≤ o → o < Tnc T → d.1 (b + 45) (8 * a + o) = if q_dP (q_frd T t a o) = true then 1 else 0) → ∃ d', X12_family_b17 (A2 b) b (wI t) u k (wI i) d = some (if u = 0 then wI (q_bc (q_fbs T t (2 ^ Tnc T))) else wI (q_fbs T t (2 ^ Tnc T)), d') ∧ q_fx (b + 45) dt d' := by
    intro n
    induction n with
    | zero =>
      intro i k z1 z2 
      obtain ⟨k, rfl⟩ : ∃ m, k = m + 1 := ⟨k - 1, by omega⟩
      have e : i = Tnc T := by omega
      intro d q1 q2
      have hM1 := M_fx hM q1 (by omega)
      have hM1' := hM1
      obtain ⟨u1, u2, u3, -⟩ := hM1'.2.1
      refine ⟨d, ?_, q1⟩
      rw [X12_family_b17.eq_2, m24, n24, u2, q_nn (show sd < 2147483648 by omega), u3, e]
      simp only [q_ge u1 (show 2 < 2147483648 by omega), q_leT (Nat.le_refl (Tnc T)) (show Tnc T < 2147483648 by omega), ↓reduceIte]
      exact M_famL hM1 ht (fun a o h1 h2 => q2 a o (by omega) h1 h2)
    | succ n ih =>
      intro i k z1 z2 
      obtain ⟨k, rfl⟩ : ∃ m, k = m + 1 := ⟨k - 1, by omega⟩
      have hi : i < Tnc T := by omega
      intro d q1 q2
      have hM1 := M_fx hM q1 (by omega)
      have hM1' := hM1
      obtain ⟨u1, u2, u3, -⟩ := hM1'.2.1
      obtain ⟨d1, p1, p2, p3, p4⟩ := M_famF (u := u) (X12_family_b17 (A2 b) b (wI t) u k) hM1 hi ht ht2
      obtain ⟨d', v1, v2⟩ := ih (i + 1) k (by omega) (by omega) d1 (q_fx_t q1 p2) (fun a o h1 h2 h3 => by
        by_cases ea : a = i
        · rw [ea]
          exact p3 o (by omega) h3
        · rw [p4 _ (by omega)]
          exact q2 a o (by omega) h2 h3)
      refine ⟨d', ?_, v2⟩
      rw [X12_family_b17.eq_2, m24, n24, u2, q_nn (show sd < 2147483648 by omega), u3, p1]
      simp only [q_ge u1 (show 2 < 2147483648 by omega), q_leF hi (show Tnc T < 2147483648 by omega), ↓reduceIte]
      exact v1
  exact hl (Tnc T) 0 q_FU (by omega) (by unfold q_FU; omega) dt q_fx_r (fun a o h1 => absurd h1 (by omega))
theorem q_fx_e2 {b x : Nat} {dt d : q_Dt} (h : q_fx x dt d) (hx : b + 40 ≤ x ∧ x < b + 49) : q_e2 b dt d := ⟨fun y h1 h2 h3 h4 => h.1 y (by omega), fun j _ => congrFun (h.1 b (by omega)) j, fun y _ => by rw [h.2]⟩
theorem R_family : q_c_family q_Rel := by
  intro k b1 b2 dt1 dt2 a0 a1 hk hR
  obtain ⟨t, rfl, ht1, ht2⟩ := q_arg a0
  obtain ⟨u, rfl, hu1, hu2⟩ := q_arg a1
  have hR' := hR
  obtain ⟨T, tt, sd, g, hT, hM, ho, -⟩ := hR'
  have hN := hT.1.1
  have n10 : ¬ (1 : Int32) = 0 := by decide
  have z0 : (wI t < 0) = (t < 0) := by
    rw [show (0 : Int32) = wI 0 from rfl, wI_lt ht1 ht2 (by omega) (by omega)]
  have zu0 : (wI u < 0) = (u < 0) := by
    rw [show (0 : Int32) = wI 0 from rfl, wI_lt hu1 hu2 (by omega) (by omega)]
  have zu1 : (wI u ≤ 1) = (u ≤ 1) := by
    rw [show (1 : Int32) = wI 1 from rfl, wI_le hu1 hu2 (by omega) (by omega)]
  have iu : X12_in (wI u) 0 1 = some (if 0 ≤ u ∧ u ≤ 1 then 1 else 0) := M_in (a := 0) (b := 1) hu1 hu2 (by omega) (by omega) (by omega) (by omega)
  have hp0 := Nat.two_pow_pos (Tnc T)
  have hp8 : 2 ^ Tnc T ≤ 256 := Nat.pow_le_pow_right (n := 2) (j := 8) (by omega) hN.1
  have hf := (q_fbs_lt T t (2 ^ Tnc T)).2 (by omega)
  show ∃ r d1 d2, X11_family (A1 b1) dt1 b1 (wI t) (wI u) = some (r, d1) ∧ X12_family (A2 b2) dt2 b2 (wI t) (wI u) = some (r, d2) ∧ _
  unfold X11_family X12_family
  rw [iu, b1s]
  simp only [z0, zu0, zu1]
  by_cases h0 : t < 0
  · rw [if_pos h0, if_pos h0]
    exact ⟨_, _, _, rfl, rfl, R_up hR⟩
  · rw [if_neg h0, if_neg h0]
    by_cases hu : 0 ≤ u ∧ u ≤ 1
    · obtain ⟨d1, p1, p2⟩ := T_familyOf hT (show 0 ≤ t by omega) ht2
      obtain ⟨d2, r1, r2⟩ := M_family (u := wI u) hM (show 0 ≤ t by omega) ht2
      refine ⟨if wI u = 0 then wI (q_bc (q_fbs T t (2 ^ Tnc T))) else wI (q_fbs T t (2 ^ Tnc T)), d1, d2, ?_, ?_, R_keep hR p2 (q_fx_e2 r2 (by omega))⟩
      rotate_left
      · rw [if_pos hu, if_neg n10]
        exact r1
      · rw [if_neg (by omega), if_pos hu.2, ho.1, o1s, s0_3, p1, b2s]
        by_cases h1 : wI u = 0
        · rw [if_pos h1, if_pos h1, J_bc (by omega), b1s]
        · rw [if_neg h1, if_neg h1]
    · rw [if_neg hu, if_pos rfl]
      refine ⟨-1, dt1, dt2, ?_, rfl, R_up hR⟩
      by_cases h1 : u < 0
      · rw [if_pos h1]
      · rw [if_neg h1, if_neg (by omega)]
