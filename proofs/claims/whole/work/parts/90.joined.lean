/-! level two: joined -/
def q_jv (T : q_Tl) (g : Nat → Nat → Int) (s i : Nat) : Int := g (q_trn T s i % 2) i * (Tsa T s : Int) + q_sum (fun e => if Teo T e = s then g (q_trn T s i % 2) (i + Tel T e) * Tea T e else 0) (Tne T)
theorem q_jv_b {T : q_Tl} {g : Nat → Nat → Int} {s i : Nat} (hw : q_wf T) (hs : s < Tns T) (hb : ∀ a i, -4000000 ≤ g a i ∧ g a i ≤ 4000000) : -3000000000 ≤ q_jv T g s i ∧ q_jv T g s i ≤ 3000000000 := by
  have hN := hw.1
  have hS := hw.2.2.2.1 s hs
  have h0 := q_mulb (B := 4000000) (C := 99) (u := g (q_trn T s i % 2) i) (c := (Tsa T s : Int)) (by have := hb (q_trn T s i % 2) i; omega) (by omega)
  have h := q_sum_abs (f := fun e => if Teo T e = s then g (q_trn T s i % 2) (i + Tel T e) * Tea T e else 0) (B := 396000000) (Tne T) (fun e he => by
    have hE := hw.2.2.2.2.1 e he
    have h1 := q_mulb (B := 4000000) (C := 99) (u := g (q_trn T s i % 2) (i + Tel T e)) (c := Tea T e) (by have := hb (q_trn T s i % 2) (i + Tel T e); omega) (by omega)
    show -396000000 ≤ (if Teo T e = s then g (q_trn T s i % 2) (i + Tel T e) * Tea T e else 0) ∧ (if Teo T e = s then g (q_trn T s i % 2) (i + Tel T e) * Tea T e else 0) ≤ 396000000
    by_cases e : Teo T e = s
    · rw [if_pos e]; omega
    · rw [if_neg e]; omega)
  unfold q_jv
  omega
theorem q_rsv_b {T : q_Tl} {vv : Nat → Int} {s p : Nat} (hw : q_wf T) (hs : s < Tns T) (hb : ∀ i, -3000000000 ≤ vv i ∧ vv i ≤ 3000000000) (n : Nat) (hn : n ≤ 512) : -2000000000000 ≤ q_rsv T s vv n p ∧ q_rsv T s vv n p ≤ 2000000000000 := by
  have h := q_sum_abs (f := fun i => if q_per T s i = (p : Int) then q_sgn T s i * vv i else 0) (B := 3000000000) n (fun i _ => by
    have h1 := q_sgn_b hw (i := i) hs
    have h2 := hb i
    have h3 := q_mulb (B := 1) (C := 3000000000) (u := q_sgn T s i) (c := vv i) (by omega) (by omega)
    show -3000000000 ≤ (if q_per T s i = (p : Int) then q_sgn T s i * vv i else 0) ∧ (if q_per T s i = (p : Int) then q_sgn T s i * vv i else 0) ≤ 3000000000
    by_cases e : q_per T s i = (p : Int)
    · rw [if_pos e]; omega
    · rw [if_neg e]; omega)
  unfold q_rsv
  omega
theorem T_jv {b t o s i0 : Nat} {dt : q_Dt} {T : q_Tl} {g : Nat → Nat → Int} (hT : q_TT b t dt T) (hso : q_So b o) (hg : q_sig o (TN T) dt g) (hz : ∀ a i, TN T ≤ i → g a i = 0) (hs : s < Tns T) (hi : i0 < TN T) : X4_joinedValue (A1 b) dt o (t + 42 + 5 * s) (wI i0) = some (wJ (q_jv T g s i0)) := by
  have hN := hT.1.1
  have ht := hT.2.1
  have hS := hT.1.2.2.2.1 s hs
  have hE := hT.1.2.2.2.2.1
  have hsa := (hT.2.2.2.2.2.1 s hs).2.1
  have hax : q_trn T s i0 % 2 < 2 := Nat.mod_lt _ (by omega)
  obtain ⟨m, ix, hm1, hm2, hm3, hm4⟩ := hT.2.2.2.2.2.2.1 s hs
  have hl : ∀ n i k : Nat, i + n = m → n < k → X4_joinedValue_b23 (A1 b) dt o (t + 42 + 5 * s) (wI i0) (wI (q_trn T s i0 % 2 : Nat)) k (wJ (g (q_trn T s i0 % 2) i0 * (Tsa T s : Int) + q_sum (fun e => g (q_trn T s i0 % 2) (i0 + Tel T (ix e)) * Tea T (ix e)) i)) (wI i) = some (wJ (q_jv T g s i0)) := by
    intro n
    induction n with
    | zero =>
      intro i k z1 z2 
      obtain ⟨k, rfl⟩ : ∃ m, k = m + 1 := ⟨k - 1, by omega⟩
      have e : i = m := by omega
      rw [X4_joinedValue_b23.eq_2, hm1]
      simp (disch := omega) only [wI_le]
      rw [if_pos (by omega), e, hm4 (fun e => g (q_trn T s i0 % 2) (i0 + Tel T e) * Tea T e)]
      rfl
    | succ n ih =>
      intro i k z1 z2 
      obtain ⟨k, rfl⟩ : ∃ m, k = m + 1 := ⟨k - 1, by omega⟩
      have hi : i < m := by omega
      have hih := ih (i + 1) k (by omega) (by omega)
      rw [q_sum_s, ← Int.add_assoc] at hih
      have hx := hm3 i hi
      have he := hE (ix i) hx.1
      have ei : wI i + 1 = wI (i + 1 : Nat) := wI_add i 1
      have el : wI i0 + wI (Tel T (ix i)) = wI (i0 + Tel T (ix i) : Nat) := wI_add _ _
      have hv := T_value hso hg (show TN T ≤ 512 by omega) hz (show i0 + Tel T (ix i) < 1000000 by omega) hax
      rw [X4_joinedValue_b23.eq_2, hm1, ts_1 ht (by omega), ts_2 ht (by omega), r_small (ts_3 ht (by omega)) (ts_l0 ht (by omega)) (by omega) (by omega), r_at (ts_4 ht (by omega)) (ts_l1 ht (by omega)) (by omega) (by omega), hx.2.2.1, hx.2.2.2, wJ_wI, ei]
      simp (disch := omega) only [wI_le, b1s, el, hv, wJ_mul, wJ_add]
      rw [if_neg (by omega)]
      exact hih
  have h0 := hl m 0 q_FU (by omega) (by unfold q_FU; omega)
  rw [show q_sum (fun e => g (q_trn T s i0 % 2) (i0 + Tel T (ix e)) * Tea T (ix e)) 0 = 0 from rfl, Int.add_zero] at h0
  have hv := T_value hso hg (show TN T ≤ 512 by omega) hz (show i0 < 1000000 by omega) hax
  unfold X4_joinedValue
  rw [T_axis hT hs (by omega), b1s, hv, b1s, hsa, wI_wJ (by omega) (by omega), wJ_mul, show (0 : Int32) = wI ((0 : Nat) : Int) from rfl]
  exact h0
theorem T_joined {b t o s p : Nat} {dt : q_Dt} {T : q_Tl} {g : Nat → Nat → Int} (hT : q_TT b t dt T) (hso : q_So b o) (hg : q_sig o (TN T) dt g) (hz : ∀ a i, TN T ≤ i → g a i = 0) (hs : s < Tns T) (hp : p < 512) (hb : ∀ a i, -4000000 ≤ g a i ∧ g a i ≤ 4000000) : X4_bitJoined (A1 b) dt (b + 43) o (t + 42 + 5 * s) (wI p) = some (wI (q_sgb1 (q_rsv T s (q_jv T g s) (TN T) p))) := by
  have hN := hT.1.1
  have hl : ∀ n i k : Nat, i + n = TN T → n < k → X4_bitJoined_b6 (A1 b) dt o (t + 42 + 5 * s) (wI p) k (wJ (q_rsv T s (q_jv T g s) i p)) (wI i) = some (wI (q_sgb1 (q_rsv T s (q_jv T g s) (TN T) p))) := by
    intro n
    induction n with
    | zero =>
      intro i k z1 z2 
      obtain ⟨k, rfl⟩ : ∃ m, k = m + 1 := ⟨k - 1, by omega⟩
      have e : i = TN T := by omega
      have hr := q_rsv_b (vv := q_jv T g s) (p := p) hT.1 hs (fun i => q_jv_b hT.1 hs hb) (TN T) (by omega)
      rw [X4_bitJoined_b6.eq_2, hg.1, e, show (0 : Int64) = wJ 0 from rfl]
      simp (disch := omega) only [wI_le, wJ_le]
      rw [if_pos (by omega)]
      unfold q_sgb1
      by_cases h : q_rsv T s (q_jv T g s) (TN T) p < 0
      · rw [if_neg (by omega), if_pos h]; rfl
      · rw [if_pos (by omega), if_neg h]; rfl
    | succ n ih =>
      intro i k z1 z2 
      obtain ⟨k, rfl⟩ : ∃ m, k = m + 1 := ⟨k - 1, by omega⟩
      have hi : i < TN T := by omega
      have hih := ih (i + 1) k (by omega) (by omega)
      have es : q_rsv T s (q_jv T g s) (i + 1) p = q_rsv T s (q_jv T g s) i p + if q_per T s i = (p : Int) then q_sgn T s i * q_jv T g s i else 0 := rfl
      rw [es] at hih
      have ei : wI i + 1 = wI (i + 1 : Nat) := wI_add i 1
      have hpb := q_per_b hT.1 (i := i) hs
      have hsb := q_sgn_b hT.1 (i := i) hs
      rw [X4_bitJoined_b6.eq_2, hg.1, T_period hT hs (by omega), T_sign hT hs (by omega), T_jv hT hso hg hz hs hi]
      simp (disch := omega) only [wI_le, b1s, wI_eq, X4_bitJoined_b45, ei, wI_wJ, wJ_mul, wJ_add]
      rw [if_neg (by omega)]
      by_cases h : q_per T s i = (p : Int)
      · rw [if_pos h]
        rw [if_pos h] at hih
        exact hih
      · rw [if_neg h]
        rw [if_neg h, Int.add_zero] at hih
        exact hih
  have h0 := hl (TN T) 0 q_FU (by omega) (by unfold q_FU; omega)
  unfold X4_bitJoined
  rw [show (0 : Int64) = wJ (q_rsv T s (q_jv T g s) 0 p) from rfl, show (0 : Int32) = wI ((0 : Nat) : Int) from rfl]
  exact h0
theorem M_87_1 {b sd s : Nat} {dt : q_Dt} {T : q_Tl} {g : Nat → Nat → Int} (hM : q_M b sd dt T) (hs : s < Tns T) (hg : q_now (b + 39) dt g) (hz : ∀ a i, TN T ≤ i → g a i = 0) (hb : ∀ a i, -4000000 ≤ g a i ∧ g a i ≤ 4000000) : q_87 b (b + 39) s 1 dt T (q_jv T g s) := by
  intro kk d i0 p q1 hi0 hp hp5
  have hN := hM.1.1
  have hM2 := M_fs hM q1
  have hpb := q_per_b hM.1 (i := i0) hs
  have hsb := q_sgn_b hM.1 (i := i0) hs
  have hS := hM.1.2.2.2.1 s hs
  have hE := hM.1.2.2.2.2.1
  have hax : q_trn T s i0 % 2 < 2 := Nat.mod_lt _ (by omega)
  have eI : wI i0 + 1 = wI (i0 + 1 : Nat) := wI_add i0 1
  have kG : (wI p < 0 ∨ 512 ≤ p) = False := by
    rw [show (0 : Int32) = wI 0 from rfl, wI_lt (by omega) (by omega) (by omega) (by omega)]
    exact eq_false (by omega)
  have eP : Int32.toNatClampNeg (wI p) = p := by
    rw [wI_nat (by omega) (by omega), Int.toNat_natCast]
  have hrow : ∀ j, j < 512 → d.1 (b + 39) (512 * (q_trn T s i0 % 2) + j) = wI (g (q_trn T s i0 % 2) j) := by
    intro j hj
    rw [q1.1 (b + 39) (by omega)]
    have h7 := hg j hj
    rcases (show q_trn T s i0 % 2 = 0 ∨ q_trn T s i0 % 2 = 1 by omega) with h | h
    · rw [h, show 512 * 0 + j = j by omega]; exact h7.1
    · rw [h, show 512 * 1 + j = 512 + j by omega]; exact h7.2
  have hM3 := hM2
  have hn2 := M_n hM2
  obtain ⟨-, ⟨u1, u2, -, -, -, u3, -⟩, -, -, uS, u4, -⟩ := hM3
  have hl : ∀ n i k : Nat, i + n = Tne T → n < k → X12_sumsUp_b156 (A2 b) kk b (b + 39) (wI s) 1 (wI i0) (wI p) (wI (512 * (q_trn T s i0 % 2) : Nat)) (wI (q_sgn T s i0)) k (wJ (g (q_trn T s i0 % 2) i0 * (Tsa T s : Int) + q_sum (fun e => if Teo T e = s then g (q_trn T s i0 % 2) (i0 + Tel T e) * Tea T e else 0) i)) (wI i) d = kk (wI (i0 + 1 : Nat)) (q_pJ d (b + 47) p (d.2.1 (b + 47) p + wJ (q_sgn T s i0 * q_jv T g s i0))) := by
    intro n
    induction n with
    | zero =>
      intro i k z1 z2 
      obtain ⟨k, rfl⟩ : ∃ m, k = m + 1 := ⟨k - 1, by omega⟩
      have e : i = Tne T := by omega
      rw [X12_sumsUp_b156.eq_2, m38, n38, m63, n63, u2, eP, e]
      have kS : (wI sd < 0 ∨ 2 ≤ Int32.toNatClampNeg (wI sd)) = False := by
        rw [show (0 : Int32) = wI 0 from rfl, wI_lt (by omega) (by omega) (by omega) (by omega), wI_nat (by omega) (by omega), Int.toNat_natCast]
        exact eq_false (by omega)
      have eS : d.1 (b + 25) (Int32.toNatClampNeg (wI sd)) = wI (Tne T) := by
        rw [wI_nat (by omega) (by omega), Int.toNat_natCast]
        exact u3
      have kE : (wI (Tne T) ≤ wI (Tne T)) = True := by
        rw [wI_le (by omega) (by omega) (by omega) (by omega)]
        exact eq_true (by omega)
      simp only [kS, kG, ↓reduceIte, eS, kE, o1s, X12_sumsUp_b262, eI]
      rw [wI_wJ (by omega) (by omega), wJ_mul]
      rfl
    | succ n ih =>
      intro i k z1 z2 
      obtain ⟨k, rfl⟩ : ∃ m, k = m + 1 := ⟨k - 1, by omega⟩
      have hi : i < Tne T := by omega
      have hih := ih (i + 1) k (by omega) (by omega)
      rw [q_sum_s, ← Int.add_assoc] at hih
      have he := hE i hi
      have u5 := u4 i hi
      have e6 : 6 * wI sd + wI i = wI (6 * sd + i : Nat) := by
        rw [show (6 : Int32) = wI (6 : Nat) from rfl, wI_mul, wI_add]
        rfl
      have ei : wI i + 1 = wI (i + 1 : Nat) := wI_add i 1
      have el : wI i0 + wI (Tel T i) = wI (i0 + Tel T i : Nat) := wI_add _ _
      have er : wI (512 * (q_trn T s i0 % 2) : Nat) + wI i0 + wI (Tel T i) = wI (512 * (q_trn T s i0 % 2) + (i0 + Tel T i) : Nat) := by
        rw [wI_add, wI_add, ← Int.natCast_add, ← Int.natCast_add, Nat.add_assoc]
      have kS : (wI sd < 0 ∨ 2 ≤ Int32.toNatClampNeg (wI sd)) = False := by
        rw [show (0 : Int32) = wI 0 from rfl, wI_lt (by omega) (by omega) (by omega) (by omega), wI_nat (by omega) (by omega), Int.toNat_natCast]
        exact eq_false (by omega)
      have eS : d.1 (b + 25) (Int32.toNatClampNeg (wI sd)) = wI (Tne T) := by
        rw [wI_nat (by omega) (by omega), Int.toNat_natCast]
        exact u3
      have kE : (wI (Tne T) ≤ wI i) = False := by
        rw [wI_le (by omega) (by omega) (by omega) (by omega)]
        exact eq_false (by omega)
      have k6 : (wI (6 * sd + i : Nat) < 0 ∨ 12 ≤ 6 * sd + i) = False := by
        rw [show (0 : Int32) = wI 0 from rfl, wI_lt (by omega) (by omega) (by omega) (by omega)]
        exact eq_false (by omega)
      have e6n : Int32.toNatClampNeg (wI (6 * sd + i : Nat)) = 6 * sd + i := by
        rw [wI_nat (by omega) (by omega), Int.toNat_natCast]
      have kO : (wI (Teo T i) = wI s) = (Teo T i = s) := by
        rw [wI_eq (by omega) (by omega) (by omega) (by omega)]
        exact propext ⟨fun q => by omega, fun q => by omega⟩
      have kN : (wI (TN T) ≤ wI (i0 + Tel T i : Nat)) = (TN T ≤ i0 + Tel T i) := by
        rw [wI_le (by omega) (by omega) (by omega) (by omega)]
        exact propext ⟨fun q => by omega, fun q => by omega⟩
      rw [X12_sumsUp_b156.eq_2, m38, n38, m39, n39, m40, n40, m41, n41, n53, u2, e6, e6n, u5.1, u5.2.1, u5.2.2, el, er, hn2]
      simp only [kS, ↓reduceIte, eS, kE, k6, kO, b1s, kN, X12_sumsUp_b240, ei, o1s]
      by_cases ho : Teo T i = s
      · rw [if_pos ho]
        rw [if_pos ho] at hih
        by_cases hl2 : TN T ≤ i0 + Tel T i
        · rw [if_pos hl2]
          rw [hz _ _ hl2, Int.zero_mul, Int.add_zero] at hih
          exact hih
        · rw [if_neg hl2]
          have hgb := hb (q_trn T s i0 % 2) (i0 + Tel T i)
          have kR : (wI (512 * (q_trn T s i0 % 2) + (i0 + Tel T i) : Nat) < 0 ∨ 1024 ≤ Int32.toNatClampNeg (wI (512 * (q_trn T s i0 % 2) + (i0 + Tel T i) : Nat))) = False := by
            rw [show (0 : Int32) = wI 0 from rfl, wI_lt (by omega) (by omega) (by omega) (by omega), wI_nat (by omega) (by omega), Int.toNat_natCast]
            exact eq_false (by omega)
          have vR : d.1 (b + 39) (Int32.toNatClampNeg (wI (512 * (q_trn T s i0 % 2) + (i0 + Tel T i) : Nat))) = wI (g (q_trn T s i0 % 2) (i0 + Tel T i)) := by
            rw [wI_nat (by omega) (by omega), Int.toNat_natCast]
            exact hrow _ (by omega)
          simp only [kR, ↓reduceIte, vR]
          rw [wI_wJ (by omega) (by omega), wI_wJ (by omega) (by omega), wJ_mul, wJ_add]
          exact hih
      · rw [if_neg ho]
        rw [if_neg ho, Int.add_zero] at hih
        exact hih
  have h0 := hl (Tne T) 0 q_FU (by omega) (by unfold q_FU; omega)
  rw [show q_sum (fun e => if Teo T e = s then g (q_trn T s i0 % 2) (i0 + Tel T e) * Tea T e else 0) 0 = 0 from rfl, Int.add_zero] at h0
  have hgb := hb (q_trn T s i0 % 2) i0
  have e5 : wI (512 * (q_trn T s i0 % 2) : Nat) + wI i0 = wI (512 * (q_trn T s i0 % 2) + i0 : Nat) := wI_add _ _
  have e6 : 6 * wI sd + wI s = wI (6 * sd + s : Nat) := by
    rw [show (6 : Int32) = wI (6 : Nat) from rfl, wI_mul, wI_add]
    rfl
  have k6 : (wI (6 * sd + s : Nat) < 0 ∨ 12 ≤ 6 * sd + s) = False := by
    rw [show (0 : Int32) = wI 0 from rfl, wI_lt (by omega) (by omega) (by omega) (by omega)]
    exact eq_false (by omega)
  have e6n : Int32.toNatClampNeg (wI (6 * sd + s : Nat)) = 6 * sd + s := by
    rw [wI_nat (by omega) (by omega), Int.toNat_natCast]
  have kH : (wI (512 * (q_trn T s i0 % 2) + i0 : Nat) < 0 ∨ 1024 ≤ Int32.toNatClampNeg (wI (512 * (q_trn T s i0 % 2) + i0 : Nat))) = False := by
    rw [show (0 : Int32) = wI 0 from rfl, wI_lt (by omega) (by omega) (by omega) (by omega), wI_nat (by omega) (by omega), Int.toNat_natCast]
    exact eq_false (by omega)
  have vH : d.1 (b + 39) (Int32.toNatClampNeg (wI (512 * (q_trn T s i0 % 2) + i0 : Nat))) = wI (g (q_trn T s i0 % 2) i0) := by
    rw [wI_nat (by omega) (by omega), Int.toNat_natCast]
    exact hrow _ (by omega)
  unfold X12_sumsUp_b87
  rw [M_sign hM2 hs (by omega) (hpb.2.2.mpr (by omega)), m33, n33, n53, u2, e5, e6, e6n, vH, (uS s hs).2.1]
  simp only [b1s, q_10, if_false, k6, kH, ↓reduceIte, o1s]
  rw [wI_wJ (by omega) (by omega), wI_wJ (by omega) (by omega), wJ_mul, show (0 : Int32) = wI ((0 : Nat) : Int) from rfl]
  exact h0
theorem R_joined : q_c_joined q_Rel := by
  intro k b1 b2 dt1 dt2 a0 a1 hk hR
  obtain ⟨x, rfl, hx1, hx2⟩ := q_arg a0
  obtain ⟨y, rfl, hy1, hy2⟩ := q_arg a1
  have hR' := hR
  obtain ⟨T, tt, sd, g, hT, hM, ho, hs, hn, hg, -⟩ := hR'
  have hb := q_gb_4 hg (by omega)
  have hN := hT.1.1
  have e2 := M_isSender hM hx1 hx2
  have n10 : ¬ (1 : Int32) = 0 := by decide
  have z0 : (0 ≤ wI y) = (0 ≤ y) := by
    rw [show (0 : Int32) = wI 0 from rfl, wI_le (by omega) (by omega) hy1 hy2]
  have z1 : (wI y ≤ 511) = (y ≤ 511) := by
    rw [show (511 : Int32) = wI 511 from rfl, wI_le hy1 hy2 (by omega) (by omega)]
  show ∃ r d2, X11_joined (A1 b1) dt1 b1 (wI x) (wI y) = some r ∧ X12_joined (A2 b2) dt2 b2 (wI x) (wI y) = some (r, d2) ∧ _
  by_cases hc : 0 ≤ x ∧ x < Tns T
  · rw [if_pos hc] at e2
    obtain ⟨s, rfl⟩ := Int.eq_ofNat_of_zero_le hc.1
    have hsn : s < Tns T := by omega
    have hnp := (q_np_e hT.1 hsn).2
    by_cases hy : 0 ≤ y
    · obtain ⟨p, rfl⟩ := Int.eq_ofNat_of_zero_le hy
      have z2 : (wI p < wI (q_np T s)) = ((p : Int) < (q_np T s : Int)) := by
        rw [wI_lt (by omega) (by omega) (by omega) (by omega)]
      by_cases hp5 : p ≤ 511
      · obtain ⟨d2, r1, r2, r3, r4⟩ := M_sumsUp hM hsn (M_87_1 hM hsn hn hg.2 hb)
        have hrb := q_rsv_b (vv := q_jv T g s) (p := p) hT.1 hsn (fun i => q_jv_b hT.1 hsn hb) (TN T) (by omega)
        have hbo := M_bitOf (T := T) (s := s) (rs := q_rsv T s (q_jv T g s) (TN T)) (p := p) ⟨r3, r4⟩ (by omega) (by omega) (by omega)
        have eB : X12_joined (A2 b2) dt2 b2 (wI s) (wI p) = some (if p < q_np T s then wI (q_sgb1 (q_rsv T s (q_jv T g s) (TN T) p)) else -2, d2) := by
          unfold X12_joined X12_bitBy
          rw [e2, b1s, if_neg n10]
          simp only [z0, z1]
          rw [if_pos (by omega), if_pos (by omega), m53, r1, b1s, hbo, b1s, b2s]
        by_cases hq : p < q_np T s
        · rw [if_pos hq] at eB
          refine ⟨wI (q_sgb1 (q_rsv T s (q_jv T g s) (TN T) p)), d2, ?_, eB, R_keep hR q_e1_r (q_fs_e2 r2)⟩
          unfold X11_joined
          rw [ho.1, o1s, m1s, T_senderAt hT hsn, b1s, m1s]
          simp only [z0]
          rw [if_pos (by omega), o1s, m1s, hT.2.2.1.2.2.2.2.2.1, T_periods hT hsn, b1s]
          simp only [z2]
          rw [if_pos (by omega), s0_5, s0_1, T_joined hT (So_in b1) hs hg.2 hsn (by omega) hb, b1s]
        · rw [if_neg hq] at eB
          refine ⟨-2, d2, ?_, eB, R_keep hR q_e1_r (q_fs_e2 r2)⟩
          unfold X11_joined
          rw [ho.1, o1s, m1s, T_senderAt hT hsn, b1s, m1s]
          simp only [z0]
          rw [if_pos (by omega), o1s, m1s, hT.2.2.1.2.2.2.2.2.1, T_periods hT hsn, b1s]
          simp only [z2]
          rw [if_neg (by omega)]
      · refine ⟨-2, dt2, ?_, ?_, R_up hR⟩
        · unfold X11_joined
          rw [ho.1, o1s, m1s, T_senderAt hT hsn, b1s, m1s]
          simp only [z0]
          rw [if_pos (by omega), o1s, m1s, hT.2.2.1.2.2.2.2.2.1, T_periods hT hsn, b1s]
          simp only [z2]
          rw [if_neg (by omega)]
        · unfold X12_joined X12_bitBy
          rw [e2, b1s, if_neg n10]
          simp only [z0, z1]
          rw [if_pos (by omega), if_neg (by omega), b2s]
    · refine ⟨-1, dt2, ?_, ?_, R_up hR⟩
      · unfold X11_joined
        rw [ho.1, o1s, m1s, T_senderAt hT hsn, b1s, m1s]
        simp only [z0]
        rw [if_neg (by omega)]
      · unfold X12_joined X12_bitBy
        rw [e2, b1s, if_neg n10]
        simp only [z0]
        rw [if_neg (by omega), b2s]
  · rw [if_neg hc] at e2
    refine ⟨-1, dt2, ?_, ?_, R_up hR⟩
    · unfold X11_joined
      rw [ho.1, o1s, m1s, T_senderNo hT hx1 hx2 hc, b1s, m1n]
    · unfold X12_joined X12_bitBy
      rw [e2, b1s, if_pos rfl, b2s]
