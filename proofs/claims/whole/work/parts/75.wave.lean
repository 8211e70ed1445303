/-! level two: waves -/
theorem q_mulb {u c : Int} {B C : Nat} (hu : -(B : Int) ≤ u ∧ u ≤ B) (hc : -(C : Int) ≤ c ∧ c ≤ C) : -((B * C : Nat) : Int) ≤ u * c ∧ u * c ≤ ((B * C : Nat) : Int) := by
  have h1 : (u * c).natAbs ≤ B * C := by
    rw [Int.natAbs_mul]
    exact Nat.mul_le_mul (by omega) (by omega)
  omega
def q_gu (g : Nat → Nat → Int) (ax : Nat) (u : Int) (h : Nat → Int) : Nat → Nat → Int := fun a j => g a j + if a = ax then u * h j else 0
theorem q_gu_0 (g : Nat → Nat → Int) (ax : Nat) (u : Int) : q_gu g ax u (fun _ => 0) = g := by
  funext a j
  show g a j + (if a = ax then u * 0 else 0) = g a j
  rw [Int.mul_zero, ite_self, Int.add_zero]
theorem q_gu_s (g : Nat → Nat → Int) (ax : Nat) (u c : Int) (h : Nat → Int) (N l : Nat) : q_inc N (q_gu g ax u h) ax l (u * c) = q_gu g ax u (fun j => h j + if j = l ∧ j < N then c else 0) := by
  funext a j
  show (if a = ax ∧ j = l ∧ l < N then (g a j + if a = ax then u * h j else 0) + u * c else (g a j + if a = ax then u * h j else 0)) = g a j + if a = ax then u * (h j + if j = l ∧ j < N then c else 0) else 0
  by_cases e1 : a = ax
  · by_cases e2 : j = l ∧ j < N
    · rw [if_pos ⟨e1, e2.1, by omega⟩, if_pos e1, if_pos e1, if_pos e2, Int.mul_add, Int.add_assoc]
    · rw [if_neg (fun q => e2 ⟨q.2.1, by omega⟩), if_pos e1, if_pos e1, if_neg e2, Int.add_zero]
  · rw [if_neg (fun q => e1 q.1), if_neg e1, if_neg e1]
def q_pt (T : q_Tl) (s j i : Nat) : Int := (if j = i ∧ j < TN T then (Tsa T s : Int) else 0) + q_sum (fun e => if Teo T e = s then (if j = i + Tel T e ∧ j < TN T then Tea T e else 0) else 0) (Tne T)
def q_un (T : q_Tl) (s : Nat) (tb : Nat → Bool) (f : Int) (i : Nat) : Int := q_sgn T s i * (if tb (q_per T s i).toNat = true then -f else f)
def q_ct (T : q_Tl) (s : Nat) (tb : Nat → Bool) (f : Int) (a j i : Nat) : Int := if q_dl T s i ≤ i ∧ a = q_trn T s i % 2 then q_un T s tb f i * q_pt T s j i else 0
def q_wv (T : q_Tl) (s : Nat) (tb : Nat → Bool) (f : Int) (g : Nat → Nat → Int) (n : Nat) : Nat → Nat → Int := fun a j => g a j + q_sum (fun i => q_ct T s tb f a j i) n
theorem q_wv_0 (T : q_Tl) (s : Nat) (tb : Nat → Bool) (f : Int) (g : Nat → Nat → Int) : q_wv T s tb f g 0 = g := by
  funext a j
  exact Int.add_zero _
theorem q_wv_on {T : q_Tl} {s : Nat} {tb : Nat → Bool} {f : Int} {g : Nat → Nat → Int} {i : Nat} (h : q_dl T s i ≤ i) : q_gu (q_wv T s tb f g i) (q_trn T s i % 2) (q_un T s tb f i) (fun j => q_pt T s j i) = q_wv T s tb f g (i + 1) := by
  funext a j
  show (g a j + q_sum (fun i => q_ct T s tb f a j i) i) + (if a = q_trn T s i % 2 then q_un T s tb f i * q_pt T s j i else 0) = g a j + q_sum (fun i => q_ct T s tb f a j i) (i + 1)
  rw [q_sum_s, ← Int.add_assoc]
  congr 1
  unfold q_ct
  by_cases e : a = q_trn T s i % 2
  · rw [if_pos e, if_pos ⟨h, e⟩]
  · rw [if_neg e, if_neg (fun q => e q.2)]
theorem q_wv_off {T : q_Tl} {s : Nat} {tb : Nat → Bool} {f : Int} {g : Nat → Nat → Int} {i : Nat} (h : ¬ q_dl T s i ≤ i) : q_wv T s tb f g (i + 1) = q_wv T s tb f g i := by
  funext a j
  show g a j + q_sum (fun i => q_ct T s tb f a j i) (i + 1) = g a j + q_sum (fun i => q_ct T s tb f a j i) i
  rw [q_sum_s]
  unfold q_ct
  rw [if_neg (fun q => h q.1), Int.add_zero]
theorem q_un_b {T : q_Tl} (hw : q_wf T) {s : Nat} {tb : Nat → Bool} {f : Int} {i : Nat} (hs : s < Tns T) (hf : -9 ≤ f ∧ f ≤ 9) : -9 ≤ q_un T s tb f i ∧ q_un T s tb f i ≤ 9 := by
  have h1 := q_sgn_b hw (i := i) hs
  unfold q_un
  by_cases e : tb (q_per T s i).toNat = true
  · rw [if_pos e]
    have := q_mulb (B := 1) (C := 9) (u := q_sgn T s i) (c := -f) (by omega) (by omega)
    omega
  · rw [if_neg e]
    have := q_mulb (B := 1) (C := 9) (u := q_sgn T s i) (c := f) (by omega) (by omega)
    omega
theorem T_fob {b t o : Nat} {dt d : q_Dt} {T : q_Tl} (h : q_TT b t dt T) (hf : q_fob o dt d) (ho : o + 5 ≤ b + 77) : q_TT b t d T := T_keep h (fun x h1 h2 => hf x (by have := h.2.1; omega))
theorem T_unit {b t o s i0 : Nat} {dt : q_Dt} {T : q_Tl} {g : Nat → Nat → Int} {u : Int} (hT : q_TT b t dt T) (hs : q_So b o) (ho : o + 5 ≤ b + 77) (hg : q_sig o (TN T) dt g) (hsn : s < Tns T) (hi0 : i0 < TN T) (hu : -9 ≤ u ∧ u ≤ 9) : ∃ d, X8_layUnit (A1 b) dt o (t + 42 + 5 * s) (wI i0) (wI u) = some d ∧ q_sig o (TN T) d (q_gu g (q_trn T s i0 % 2) u (fun j => q_pt T s j i0)) ∧ q_fob o dt d := by
  have hN := hT.1.1
  have ht := hT.2.1
  have hS := hT.1.2.2.2.1 s hsn
  have hE := hT.1.2.2.2.2.1
  have hax : q_trn T s i0 % 2 < 2 := Nat.mod_lt _ (by omega)
  have hsa := (hT.2.2.2.2.2.1 s hsn).2.1
  obtain ⟨m, ix, hm1, hm2, hm3, hm4⟩ := hT.2.2.2.2.2.2.1 s hsn
  have bA := q_mulb (B := 9) (C := 99) (u := u) (c := (Tsa T s : Int)) (by omega) (by omega)
  obtain ⟨d0, p1, p2, p3⟩ := T_inc (v := u * (Tsa T s : Int)) hs hg (show TN T ≤ 512 by omega) (i := i0) (show i0 < 1000000 by omega) hax (by omega) (by omega)
  have e0 := q_gu_s g (q_trn T s i0 % 2) u (Tsa T s : Int) (fun _ => 0) (TN T) i0
  rw [q_gu_0] at e0
  rw [e0] at p2
  have hl : ∀ n i k : Nat, i + n = m → n < k → ∀ d, q_fob o dt d → q_sig o (TN T) d (q_gu g (q_trn T s i0 % 2) u (fun j => (0 + if j = i0 ∧ j < TN T then (Tsa T s : Int) else 0) + q_sum (fun e => if j = i0 + Tel T (ix e) ∧ j < TN T then Tea T (ix e) else 0) i)) → ∃ d', X8_layUnit_b23 (A1 b) o (t + 42 + 5 * s) (wI i0) (wI u) (wI (q_trn T s i0 % 2 : Nat)) k (wI i) d = some d' ∧ q_sig o (TN T) d' (q_gu g (q_trn T s i0 % 2) u (fun j => (0 + if j = i0 ∧ j < TN T then (Tsa T s : Int) else 0) + q_sum (fun e => if j = i0 + Tel T (ix e) ∧ j < TN T then Tea T (ix e) else 0) m)) ∧ q_fob o dt d' := by
    intro n
    induction n with
    | zero =>
      intro i k z1 z2 
      obtain ⟨k, rfl⟩ : ∃ m, k = m + 1 := ⟨k - 1, by omega⟩
      have e : i = m := by omega
      intro d q1 q2
      refine ⟨d, ?_, e ▸ q2, q1⟩
      rw [X8_layUnit_b23.eq_2, (q1 (t + 42 + 5 * s) (by omega)).1, hm1]
      simp (disch := omega) only [wI_le]
      rw [if_pos (by omega)]
    | succ n ih =>
      intro i k z1 z2 
      obtain ⟨k, rfl⟩ : ∃ m, k = m + 1 := ⟨k - 1, by omega⟩
      have hi : i < m := by omega
      intro d q1 q2
      have hx := hm3 i hi
      have he := hE (ix i) hx.1
      have bE := q_mulb (B := 9) (C := 99) (u := u) (c := Tea T (ix i)) (by omega) (by omega)
      obtain ⟨d1, r1, r2, r3⟩ := T_inc (i := i0 + Tel T (ix i)) (v := u * Tea T (ix i)) hs q2 (show TN T ≤ 512 by omega) (by omega) hax (by omega) (by omega)
      rw [q_gu_s] at r2
      have e3 : (fun j => ((0 + if j = i0 ∧ j < TN T then (Tsa T s : Int) else 0) + q_sum (fun e => if j = i0 + Tel T (ix e) ∧ j < TN T then Tea T (ix e) else 0) i) + if j = i0 + Tel T (ix i) ∧ j < TN T then Tea T (ix i) else 0) = (fun j => (0 + if j = i0 ∧ j < TN T then (Tsa T s : Int) else 0) + q_sum (fun e => if j = i0 + Tel T (ix e) ∧ j < TN T then Tea T (ix e) else 0) (i + 1)) := by
        funext j
        rw [q_sum_s, Int.add_assoc]
      rw [e3] at r2
      obtain ⟨d', v1, v2, v3⟩ := ih (i + 1) k (by omega) (by omega) d1 (q_fob_t q1 r3) r2
      refine ⟨d', ?_, v2, v3⟩
      have ei : wI i + 1 = wI (i + 1 : Nat) := wI_add i 1
      have el : wI i0 + wI (Tel T (ix i)) = wI (i0 + Tel T (ix i) : Nat) := wI_add _ _
      rw [X8_layUnit_b23.eq_2, (q1 (t + 42 + 5 * s) (by omega)).1, hm1, ts_1 ht (by omega), ts_2 ht (by omega), r_small (ts_3 ht (by omega)) (ts_l0 ht (by omega)) (by omega) (by omega), r_small (ts_4 ht (by omega)) (ts_l1 ht (by omega)) (by omega) (by omega), (q1 (t + 44 + 5 * s) (by omega)).2.1, (q1 (t + 46 + 5 * s) (by omega)).2.1, hx.2.2.1, hx.2.2.2, wJ_wI, wJ_wI, ei]
      simp (disch := omega) only [wI_le, b1s, el, wI_mul]
      rw [if_neg (by omega), r1]
      simp only [b1s]
      exact v1
  obtain ⟨d', v1, v2, v3⟩ := hl m 0 q_FU (by omega) (by unfold q_FU; omega) d0 p3 (by
    have : (fun j => (0 + if j = i0 ∧ j < TN T then (Tsa T s : Int) else 0) + q_sum (fun e => if j = i0 + Tel T (ix e) ∧ j < TN T then Tea T (ix e) else 0) 0) = (fun j => 0 + if j = i0 ∧ j < TN T then (Tsa T s : Int) else 0) := by
      funext j
      exact Int.add_zero _
    rw [this]
    exact p2)
  refine ⟨d', ?_, ?_, v3⟩
  · unfold X8_layUnit
    rw [T_axis hT hsn (by omega), hsa]
    simp only [b1s, wI_mul]
    rw [p1]
    simp only [b1s]
    rw [show (0 : Int32) = wI ((0 : Nat) : Int) from rfl]
    exact v1
  · have : (fun j => (0 + if j = i0 ∧ j < TN T then (Tsa T s : Int) else 0) + q_sum (fun e => if j = i0 + Tel T (ix e) ∧ j < TN T then Tea T (ix e) else 0) m) = (fun j => q_pt T s j i0) := by
      funext j
      unfold q_pt
      rw [Int.zero_add, hm4 (fun e => if j = i0 + Tel T e ∧ j < TN T then Tea T e else 0)]
    rw [← this]
    exact v2
theorem T_waveD {b t o s : Nat} {dt : q_Dt} {T : q_Tl} {g : Nat → Nat → Int} {tb : Nat → Bool} {f : Int} (hT : q_TT b t dt T) (hs : q_So b o) (ho : o + 5 ≤ b + 77) (hg : q_sig o (TN T) dt g) (hsn : s < Tns T) (hf : -9 ≤ f ∧ f ≤ 9) (htb : ∀ p : Nat, p < 512 → tb p = decide (q_bit T s p = 1)) : ∃ d, X8_layWave (A1 b) dt o (t + 42 + 5 * s) none (wI f) = some d ∧ q_sig o (TN T) d (q_wv T s tb f g (TN T)) ∧ q_fob o dt d := by
  have hN := hT.1.1
  have hl : ∀ n i k : Nat, i + n = TN T → n < k → ∀ d, q_fob o dt d → q_sig o (TN T) d (q_wv T s tb f g i) → ∃ d', X8_layWave_b3 (A1 b) o (t + 42 + 5 * s) none (wI f) k (wI i) d = some d' ∧ q_sig o (TN T) d' (q_wv T s tb f g (TN T)) ∧ q_fob o dt d' := by
    intro n
    induction n with
    | zero =>
      intro i k z1 z2 
      obtain ⟨k, rfl⟩ : ∃ m, k = m + 1 := ⟨k - 1, by omega⟩
      have e : i = TN T := by omega
      intro d q1 q2
      refine ⟨d, ?_, e ▸ q2, q1⟩
      rw [X8_layWave_b3.eq_2, q2.1]
      simp (disch := omega) only [wI_le]
      rw [if_pos (by omega)]
    | succ n ih =>
      intro i k z1 z2 
      obtain ⟨k, rfl⟩ : ∃ m, k = m + 1 := ⟨k - 1, by omega⟩
      have hi : i < TN T := by omega
      intro d q1 q2
      have hT2 := T_fob hT q1 ho
      have hpb := q_per_b hT.1 (i := i) hsn
      have hub := q_un_b (tb := tb) hT.1 (i := i) hsn hf
      have ei : wI i + 1 = wI (i + 1 : Nat) := wI_add i 1
      rw [X8_layWave_b3.eq_2, q2.1, T_period hT2 hsn (show i < 1000000 by omega), show (0 : Int32) = wI 0 from rfl]
      simp (disch := omega) only [wI_le, b1s, wI_lt, m1n]
      rw [if_neg (by omega)]
      by_cases hon : q_dl T s i ≤ i
      · rw [if_neg (by omega)]
        obtain ⟨p, hp⟩ := Int.eq_ofNat_of_zero_le (hpb.2.2.mp hon)
        have hp5 : p < 512 := by omega
        obtain ⟨d1, r1, r2, r3⟩ := T_unit (i0 := i) (u := q_un T s tb f i) hT2 hs ho q2 hsn hi hub
        rw [q_wv_on hon] at r2
        obtain ⟨d', v1, v2, v3⟩ := ih (i + 1) k (by omega) (by omega) d1 (q_fob_t q1 r3) r2
        refine ⟨d', ?_, v2, v3⟩
        have e82 : ∀ tt : Int32, (tt = if tb p = true then 1 else 0) → X8_layWave_b63 (A1 b) (X8_layWave_b3 (A1 b) o (t + 42 + 5 * s) none (wI f) k) o (t + 42 + 5 * s) none (wI f) (wI i) tt d = some d' := by
          intro tt htt
          have hun : q_un T s tb f i = q_sgn T s i * (if tb p = true then -f else f) := by
            unfold q_un
            rw [hp, Int.toNat_natCast]
          rw [hun] at r1
          unfold X8_layWave_b63
          rw [T_sign hT2 hsn (show i < 1000000 by omega)]
          simp only [b1s, X8_layWave_b82, X8_layWave_b94, wI_mul, wI_neg, ei]
          by_cases ht : tb p = true
          · rw [if_pos ht] at r1 htt
            rw [htt, if_neg (by decide), r1]
            simp only [b1s]
            exact v1
          · rw [if_neg ht] at r1 htt
            rw [htt, if_pos rfl, r1]
            simp only [b1s]
            exact v1
        rw [hp]
        have hbl := q_bit_lt (T := T) (s := s) (p := (p : Int))
        rw [T_bit hT2 hsn (show -1000000 < (p : Int) by omega) (by omega), show (1 : Int32) = wI 1 from rfl]
        simp (disch := omega) only [b1s, wI_eq]
        by_cases hq : q_bit T s p = 1
        · rw [if_pos (by omega)]
          exact e82 1 (by rw [htb p hp5, if_pos (decide_eq_true hq)])
        · rw [if_neg (by omega)]
          exact e82 0 (by rw [htb p hp5, if_neg (by rw [decide_eq_false hq]; exact Bool.false_ne_true)])
      · rw [if_pos (show q_per T s i < 0 by omega)]
        have q3 := q2
        rw [← q_wv_off (tb := tb) (f := f) (g := g) hon] at q3
        obtain ⟨d', v1, v2, v3⟩ := ih (i + 1) k (by omega) (by omega) d q1 q3
        refine ⟨d', ?_, v2, v3⟩
        simp only [X8_layWave_b94, ei]
        exact v1
  exact hl (TN T) 0 q_FU (by omega) (by unfold q_FU; omega) dt q_fob_r (by rw [q_wv_0]; exact hg)
theorem T_waveS {b t o s : Nat} {dt : q_Dt} {T : q_Tl} {g : Nat → Nat → Int} {tb : Nat → Bool} {f : Int} (hT : q_TT b t dt T) (hs : q_So b o) (ho : o + 5 ≤ b + 77) (hg : q_sig o (TN T) dt g) (hsn : s < Tns T) (hf : -9 ≤ f ∧ f ≤ 9) {r arr : Nat} {sm : Nat → Int} (hr : (A1 b).2.2 r 0 = arr) (hrl : (A1 b).2.1 arr = 512) (hro : arr < o ∨ o + 5 ≤ arr) (hsm : ∀ p, p < 512 → dt.2.1 arr p = wJ (sm p)) (hsb : ∀ p, p < 512 → -9223372036854775808 ≤ sm p ∧ sm p < 9223372036854775808) (htb : ∀ p : Nat, p < 512 → tb p = decide (sm p < 0)) : ∃ d, X8_layWave (A1 b) dt o (t + 42 + 5 * s) (some r) (wI f) = some d ∧ q_sig o (TN T) d (q_wv T s tb f g (TN T)) ∧ q_fob o dt d := by
  have hN := hT.1.1
  have hl : ∀ n i k : Nat, i + n = TN T → n < k → ∀ d, q_fob o dt d → q_sig o (TN T) d (q_wv T s tb f g i) → ∃ d', X8_layWave_b3 (A1 b) o (t + 42 + 5 * s) (some r) (wI f) k (wI i) d = some d' ∧ q_sig o (TN T) d' (q_wv T s tb f g (TN T)) ∧ q_fob o dt d' := by
    intro n
    induction n with
    | zero =>
      intro i k z1 z2 
      obtain ⟨k, rfl⟩ : ∃ m, k = m + 1 := ⟨k - 1, by omega⟩
      have e : i = TN T := by omega
      intro d q1 q2
      refine ⟨d, ?_, e ▸ q2, q1⟩
      rw [X8_layWave_b3.eq_2, q2.1]
      simp (disch := omega) only [wI_le]
      rw [if_pos (by omega)]
    | succ n ih =>
      intro i k z1 z2 
      obtain ⟨k, rfl⟩ : ∃ m, k = m + 1 := ⟨k - 1, by omega⟩
      have hi : i < TN T := by omega
      intro d q1 q2
      have hT2 := T_fob hT q1 ho
      have hpb := q_per_b hT.1 (i := i) hsn
      have hub := q_un_b (tb := tb) hT.1 (i := i) hsn hf
      have ei : wI i + 1 = wI (i + 1 : Nat) := wI_add i 1
      rw [X8_layWave_b3.eq_2, q2.1, T_period hT2 hsn (show i < 1000000 by omega), show (0 : Int32) = wI 0 from rfl]
      simp (disch := omega) only [wI_le, b1s, wI_lt, m1s]
      rw [if_neg (by omega)]
      by_cases hon : q_dl T s i ≤ i
      · rw [if_neg (by omega)]
        obtain ⟨p, hp⟩ := Int.eq_ofNat_of_zero_le (hpb.2.2.mp hon)
        have hp5 : p < 512 := by omega
        obtain ⟨d1, r1, r2, r3⟩ := T_unit (i0 := i) (u := q_un T s tb f i) hT2 hs ho q2 hsn hi hub
        rw [q_wv_on hon] at r2
        obtain ⟨d', v1, v2, v3⟩ := ih (i + 1) k (by omega) (by omega) d1 (q_fob_t q1 r3) r2
        refine ⟨d', ?_, v2, v3⟩
        have e82 : ∀ tt : Int32, (tt = if tb p = true then 1 else 0) → X8_layWave_b63 (A1 b) (X8_layWave_b3 (A1 b) o (t + 42 + 5 * s) (some r) (wI f) k) o (t + 42 + 5 * s) (some r) (wI f) (wI i) tt d = some d' := by
          intro tt htt
          have hun : q_un T s tb f i = q_sgn T s i * (if tb p = true then -f else f) := by
            unfold q_un
            rw [hp, Int.toNat_natCast]
          rw [hun] at r1
          unfold X8_layWave_b63
          rw [T_sign hT2 hsn (show i < 1000000 by omega)]
          simp only [b1s, X8_layWave_b82, X8_layWave_b94, wI_mul, wI_neg, ei]
          by_cases ht : tb p = true
          · rw [if_pos ht] at r1 htt
            rw [htt, if_neg (by decide), r1]
            simp only [b1s]
            exact v1
          · rw [if_neg ht] at r1 htt
            rw [htt, if_pos rfl, r1]
            simp only [b1s]
            exact v1
        rw [hp]
        have hb := hsb p hp5
        rw [r_at hr hrl (by omega) hp5, (q1 arr (by omega)).2.1, hsm p hp5]
        simp (disch := omega) only [b1s, show (0 : Int64) = wJ 0 from rfl, wJ_le]
        by_cases hq : sm p < 0
        · rw [if_neg (by omega)]
          exact e82 1 (by rw [htb p hp5, if_pos (decide_eq_true hq)])
        · rw [if_pos (by omega)]
          exact e82 0 (by rw [htb p hp5, if_neg (by rw [decide_eq_false hq]; exact Bool.false_ne_true)])
      · rw [if_pos (show q_per T s i < 0 by omega)]
        have q3 := q2
        rw [← q_wv_off (tb := tb) (f := f) (g := g) hon] at q3
        obtain ⟨d', v1, v2, v3⟩ := ih (i + 1) k (by omega) (by omega) d q1 q3
        refine ⟨d', ?_, v2, v3⟩
        simp only [X8_layWave_b94, ei]
        exact v1
  exact hl (TN T) 0 q_FU (by omega) (by unfold q_FU; omega) dt q_fob_r (by rw [q_wv_0]; exact hg)
