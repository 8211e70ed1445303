/-! level two: waves, the check; how far they reach -/
theorem M_adds {b x i a : Nat} {dt : q_Dt} {v : Int} (hx : (A2 b).2.1 x = 1024) (hi : i < 512) (ha : a < 2) : X12_adds (A2 b) dt b x (wI i) (wI a) (wI v) = some (q_pI dt x (512 * a + i) (dt.1 x (512 * a + i) + wI v)) := by
  have e5 : 512 + wI i = wI (512 + i : Nat) := wI_add 512 i
  unfold X12_adds X12_adds_b14
  rw [hx, e5, show (0 : Int32) = wI 0 from rfl]
  simp (disch := omega) only [wI_lt, wI_eq, wI_nat, Int.toNat_natCast, o1s]
  rcases (show a = 0 ∨ a = 1 by omega) with rfl | rfl
  · rw [if_pos (by omega), if_neg (by omega), if_neg (by omega), show 512 * 0 + i = i by omega]
  · rw [if_neg (by omega), if_neg (by omega), if_neg (by omega), show 512 * 1 + i = 512 + i by omega]
theorem M_laysData {b sd s : Nat} {dt : q_Dt} {T : q_Tl} (hM : q_M b sd dt T) (hs : s < Tns T) : X12_laysData (A2 b) dt b (wI s) = some (q_irow dt (b + 37) (512 * s) 512 (fun p => wI (q_bit T s p))) := by
  have hn := hM.1.1
  have hl : ∀ n i k : Nat, i + n = 512 → n < k → X12_laysData_b2 (A2 b) b (wI s) k (wI i) (q_irow dt (b + 37) (512 * s) i (fun p => wI (q_bit T s p))) = some (q_irow dt (b + 37) (512 * s) 512 (fun p => wI (q_bit T s p))) := by
    intro n
    induction n with
    | zero =>
      intro i k z1 z2 
      obtain ⟨k, rfl⟩ : ∃ m, k = m + 1 := ⟨k - 1, by omega⟩
      have e : i = 512 := by omega
      rw [X12_laysData_b2.eq_2, show (512 : Int32) = wI 512 from rfl]
      simp (disch := omega) only [wI_le]
      rw [if_pos (by omega), e]
    | succ n ih =>
      intro i k z1 z2 
      obtain ⟨k, rfl⟩ : ∃ m, k = m + 1 := ⟨k - 1, by omega⟩
      have hi : i < 512 := by omega
      have hih := ih (i + 1) k (by omega) (by omega)
      have hM2 : q_M b sd (q_irow dt (b + 37) (512 * s) i (fun p => wI (q_bit T s p))) T := M_keep hM (congrFun (q_irow_o (by omega)) 18) (fun y h1 h2 => q_irow_o (by omega))
      have ei : wI i + 1 = wI (i + 1 : Nat) := wI_add i 1
      have e4 : 512 * wI s + wI i = wI (512 * s + i : Nat) := by
        rw [show (512 : Int32) = wI (512 : Nat) from rfl, wI_mul, wI_add]
        rfl
      have hb := q_bit_lt (T := T) (s := s) (p := (i : Int))
      have e8 : Int8.toInt32 (Int32.toInt8 (Int8.toInt32 (Int32.toInt8 (wI (q_bit T s (i : Int)))))) = wI (q_bit T s (i : Int)) := by
        rcases (show q_bit T s (i : Int) = 0 ∨ q_bit T s (i : Int) = 1 by omega) with h | h
        · rw [h]; rfl
        · rw [h]; rfl
      rw [X12_laysData_b2.eq_2, m51, n51, M_data hM2 hs (show 0 ≤ (i : Int) by omega) (by omega), e4, ei, show (512 : Int32) = wI 512 from rfl, show (0 : Int32) = wI 0 from rfl]
      simp (disch := omega) only [wI_le, wI_lt, b1s, wI_nat, Int.toNat_natCast, e8, o1s]
      rw [if_neg (by omega), if_neg (by omega), q_irow_s]
      exact hih
  have h0 := hl 512 0 q_FU (by omega) (by unfold q_FU; omega)
  rw [q_irow_0] at h0
  exact h0
theorem M_unit {b sd x s i0 : Nat} {dt : q_Dt} {T : q_Tl} {g : Nat → Nat → Int} {u : Int} (hM : q_M b sd dt T) (hx : (A2 b).2.1 x = 1024) (hx2 : b + 37 ≤ x) (hg : q_now x dt g) (hsn : s < Tns T) (hi0 : i0 < TN T) (hu : -9 ≤ u ∧ u ≤ 9) (kk : Int32 → q_Dt → Option q_Dt) (f : Int32) : ∃ d, X12_addsWave_b62 (A2 b) kk b x (wI s) f (wI i0) (wI u) dt = kk (wI (i0 + 1 : Nat)) d ∧ q_now x d (q_gu g (q_trn T s i0 % 2) u (fun j => q_pt T s j i0)) ∧ q_fx x dt d := by
  have hN := hM.1.1
  have hE := hM.1.2.2.2.2.1
  have hA := M_amp hM hsn
  have hax : q_trn T s i0 % 2 < 2 := Nat.mod_lt _ (by omega)
  have p2 := M_inc (v := u * (Tsa T s : Int)) hg (show TN T ≤ 512 by omega) hi0 hax
  have e0 := q_gu_s g (q_trn T s i0 % 2) u (Tsa T s : Int) (fun _ => 0) (TN T) i0
  rw [q_gu_0] at e0
  rw [e0] at p2
  have hl : ∀ n i k : Nat, i + n = Tne T → n < k → ∀ d, q_fx x dt d → q_now x d (q_gu g (q_trn T s i0 % 2) u (fun j => (0 + if j = i0 ∧ j < TN T then (Tsa T s : Int) else 0) + q_sum (fun e => if Teo T e = s then (if j = i0 + Tel T e ∧ j < TN T then Tea T e else 0) else 0) i)) → ∃ d', X12_addsWave_b100 (A2 b) kk b x (wI s) f (wI i0) (wI u) (wI (q_trn T s i0 % 2 : Nat)) k (wI i) d = kk (wI (i0 + 1 : Nat)) d' ∧ q_now x d' (q_gu g (q_trn T s i0 % 2) u (fun j => (0 + if j = i0 ∧ j < TN T then (Tsa T s : Int) else 0) + q_sum (fun e => if Teo T e = s then (if j = i0 + Tel T e ∧ j < TN T then Tea T e else 0) else 0) (Tne T))) ∧ q_fx x dt d' := by
    intro n
    induction n with
    | zero =>
      intro i k z1 z2 
      obtain ⟨k, rfl⟩ : ∃ m, k = m + 1 := ⟨k - 1, by omega⟩
      have e : i = Tne T := by omega
      intro d q1 q2
      have hM2 := M_fx hM q1 hx2
      obtain ⟨-, ⟨u1, u2, -, -, -, u3, -⟩, -⟩ := hM2
      refine ⟨d, ?_, e ▸ q2, q1⟩
      have ei : wI i0 + 1 = wI (i0 + 1 : Nat) := wI_add i0 1
      rw [X12_addsWave_b100.eq_2, m38, n38, u2, show (0 : Int32) = wI 0 from rfl]
      simp (disch := omega) only [wI_lt, wI_le, wI_nat, Int.toNat_natCast, u3, X12_addsWave_b187, ei]
      rw [if_neg (by omega), if_pos (by omega)]
    | succ n ih =>
      intro i k z1 z2 
      obtain ⟨k, rfl⟩ : ∃ m, k = m + 1 := ⟨k - 1, by omega⟩
      have hi : i < Tne T := by omega
      intro d q1 q2
      have hM2 := M_fx hM q1 hx2
      have hn2 := M_n hM2
      have he := hE i hi
      obtain ⟨-, ⟨u1, u2, -, -, -, u3, -⟩, -, -, -, u4, -⟩ := hM2
      have u5 := u4 i hi
      have e6 : 6 * wI sd + wI i = wI (6 * sd + i : Nat) := by
        rw [show (6 : Int32) = wI (6 : Nat) from rfl, wI_mul, wI_add]
        rfl
      have ei : wI i + 1 = wI (i + 1 : Nat) := wI_add i 1
      have el : wI i0 + wI (Tel T i) = wI (i0 + Tel T i : Nat) := wI_add _ _
      have e3 : ∀ c : Int, (∀ j, (if Teo T i = s then (if j = i0 + Tel T i ∧ j < TN T then Tea T i else 0) else 0) = (if j = i0 + Tel T i ∧ j < TN T then c else 0)) → (fun j => ((0 + if j = i0 ∧ j < TN T then (Tsa T s : Int) else 0) + q_sum (fun e => if Teo T e = s then (if j = i0 + Tel T e ∧ j < TN T then Tea T e else 0) else 0) i) + if j = i0 + Tel T i ∧ j < TN T then c else 0) = (fun j => (0 + if j = i0 ∧ j < TN T then (Tsa T s : Int) else 0) + q_sum (fun e => if Teo T e = s then (if j = i0 + Tel T e ∧ j < TN T then Tea T e else 0) else 0) (i + 1)) := by
        intro c hc
        funext j
        rw [q_sum_s, Int.add_assoc, hc j]
      have e30 : (∀ j, (if Teo T i = s then (if j = i0 + Tel T i ∧ j < TN T then Tea T i else 0) else 0) = 0) → (fun j => ((0 + if j = i0 ∧ j < TN T then (Tsa T s : Int) else 0) + q_sum (fun e => if Teo T e = s then (if j = i0 + Tel T e ∧ j < TN T then Tea T e else 0) else 0) i)) = (fun j => (0 + if j = i0 ∧ j < TN T then (Tsa T s : Int) else 0) + q_sum (fun e => if Teo T e = s then (if j = i0 + Tel T e ∧ j < TN T then Tea T e else 0) else 0) (i + 1)) := by
        intro hc
        funext j
        rw [q_sum_s, hc j, Int.add_zero]
      rw [X12_addsWave_b100.eq_2, m38, n38, m39, n39, m40, n40, m41, n41, u2, e6, show (0 : Int32) = wI 0 from rfl]
      simp (disch := omega) only [wI_lt, wI_le, wI_nat, Int.toNat_natCast, u3, u5.1, u5.2.1, u5.2.2, wI_eq, hn2, b1s, el, X12_addsWave_b181, ei, wI_mul]
      rw [if_neg (show ¬ ((sd : Int) < 0 ∨ 2 ≤ sd) by omega), if_neg (show ¬ ((Tne T : Int) ≤ i) by omega), if_neg (show ¬ (((6 * sd + i : Nat) : Int) < 0 ∨ 12 ≤ 6 * sd + i) by omega)]
      by_cases ho : Teo T i = s
      · rw [if_pos (show (Teo T i : Int) = s by omega), if_neg (show ¬ (((6 * sd + i : Nat) : Int) < 0 ∨ 12 ≤ 6 * sd + i) by omega)]
        by_cases hl2 : TN T ≤ i0 + Tel T i
        · rw [if_pos (show (TN T : Int) ≤ (i0 + Tel T i : Nat) by omega)]
          have q3 := q2
          rw [e30 (fun j => by
            rw [if_pos ho, if_neg (fun q => by omega)])] at q3
          exact ih (i + 1) k (by omega) (by omega) d q1 q3
        · rw [if_neg (show ¬ (TN T : Int) ≤ (i0 + Tel T i : Nat) by omega), if_neg (show ¬ (((6 * sd + i : Nat) : Int) < 0 ∨ 12 ≤ 6 * sd + i) by omega), if_neg (show ¬ (((6 * sd + i : Nat) : Int) < 0 ∨ 12 ≤ 6 * sd + i) by omega), M_adds hx (by omega) hax]
          have r2 := M_inc (v := u * Tea T i) q2 (show TN T ≤ 512 by omega) (show i0 + Tel T i < TN T by omega) hax
          rw [q_gu_s, e3 (Tea T i) (fun j => if_pos ho)] at r2
          simp only [b1s]
          exact ih (i + 1) k (by omega) (by omega) _ (q_fx_I q1) r2
      · rw [if_neg (show ¬ (Teo T i : Int) = s by omega)]
        have q3 := q2
        rw [e30 (fun j => if_neg ho)] at q3
        exact ih (i + 1) k (by omega) (by omega) d q1 q3
  obtain ⟨d', v1, v2, v3⟩ := hl (Tne T) 0 q_FU (by omega) (by unfold q_FU; omega) _ (q_fx_I q_fx_r) (by
    have : (fun j => (0 + if j = i0 ∧ j < TN T then (Tsa T s : Int) else 0) + q_sum (fun e => if Teo T e = s then (if j = i0 + Tel T e ∧ j < TN T then Tea T e else 0) else 0) 0) = (fun j => 0 + if j = i0 ∧ j < TN T then (Tsa T s : Int) else 0) := by
      funext j
      exact Int.add_zero _
    rw [this]
    exact p2)
  refine ⟨d', ?_, ?_, v3⟩
  · unfold X12_addsWave_b62
    rw [M_turn hM hsn (by omega), hA.1, hA.2.1]
    simp (disch := omega) only [b1s, show (0 : Int32) = wI ((0 : Nat) : Int) from rfl, wI_lt, wI_nat, Int.toNat_natCast, hA.2.2.1, wI_mul]
    rw [if_neg (by have := hA.2.2.2; omega), M_adds hx (by omega) hax]
    simp only [b1s]
    exact v1
  · have : (fun j => (0 + if j = i0 ∧ j < TN T then (Tsa T s : Int) else 0) + q_sum (fun e => if Teo T e = s then (if j = i0 + Tel T e ∧ j < TN T then Tea T e else 0) else 0) (Tne T)) = (fun j => q_pt T s j i0) := by
      funext j
      unfold q_pt
      rw [Int.zero_add]
    rw [← this]
    exact v2
theorem M_wave {b sd x s : Nat} {dt : q_Dt} {T : q_Tl} {g : Nat → Nat → Int} {tb : Nat → Bool} {f : Int} (hM : q_M b sd dt T) (hx : (A2 b).2.1 x = 1024) (hx2 : b + 38 ≤ x) (hg : q_now x dt g) (hsn : s < Tns T) (hf : -9 ≤ f ∧ f ≤ 9) (htb : ∀ p : Nat, p < 512 → dt.1 (b + 37) (512 * s + p) = wI (if tb p = true then 1 else 0)) : ∃ d, X12_addsWave (A2 b) dt b x (wI s) (wI f) = some d ∧ q_now x d (q_wv T s tb f g (TN T)) ∧ q_fx x dt d := by
  have hN := hM.1.1
  have hl : ∀ n i k : Nat, i + n = TN T → n < k → ∀ d, q_fx x dt d → q_now x d (q_wv T s tb f g i) → ∃ d', X12_addsWave_b3 (A2 b) b x (wI s) (wI f) k (wI i) d = some d' ∧ q_now x d' (q_wv T s tb f g (TN T)) ∧ q_fx x dt d' := by
    intro n
    induction n with
    | zero =>
      intro i k z1 z2 
      obtain ⟨k, rfl⟩ : ∃ m, k = m + 1 := ⟨k - 1, by omega⟩
      have e : i = TN T := by omega
      intro d q1 q2
      have hM2 := M_fx hM q1 (by omega)
      refine ⟨d, ?_, e ▸ q2, q1⟩
      rw [X12_addsWave_b3.eq_2, M_n hM2]
      simp (disch := omega) only [b1s, wI_le]
      rw [if_pos (by omega)]
    | succ n ih =>
      intro i k z1 z2 
      obtain ⟨k, rfl⟩ : ∃ m, k = m + 1 := ⟨k - 1, by omega⟩
      have hi : i < TN T := by omega
      intro d q1 q2
      have hM2 := M_fx hM q1 (by omega)
      have hpb := q_per_b hM.1 (i := i) hsn
      have hub := q_un_b (tb := tb) hM.1 (i := i) hsn hf
      have ei : wI i + 1 = wI (i + 1 : Nat) := wI_add i 1
      rw [X12_addsWave_b3.eq_2, M_n hM2, M_period hM2 hsn (show i < 1000000 by omega), show (0 : Int32) = wI 0 from rfl]
      simp (disch := omega) only [b1s, wI_le]
      rw [if_neg (show ¬ (TN T : Int) ≤ i by omega)]
      by_cases hon : q_dl T s i ≤ i
      · rw [if_pos (show 0 ≤ q_per T s i by omega), M_sign hM2 hsn (show i < 1000000 by omega) hon]
        obtain ⟨p, hp⟩ := Int.eq_ofNat_of_zero_le (hpb.2.2.mp hon)
        have hp5 : p < 512 := by omega
        have e4 : 512 * wI s + wI p = wI (512 * s + p : Nat) := by
          rw [show (512 : Int32) = wI (512 : Nat) from rfl, wI_mul, wI_add]
          rfl
        have hlaid := htb p hp5
        rw [← q1.1 (b + 37) (by omega)] at hlaid
        obtain ⟨d1, r1, r2, r3⟩ := M_unit (u := q_un T s tb f i) hM2 hx (by omega) q2 hsn hi hub (X12_addsWave_b3 (A2 b) b x (wI s) (wI f) k) (wI f)
        rw [q_wv_on hon] at r2
        obtain ⟨d', v1, v2, v3⟩ := ih (i + 1) k (by omega) (by omega) d1 (q_fx_t q1 r3) r2
        refine ⟨d', ?_, v2, v3⟩
        have hun : q_un T s tb f i = q_sgn T s i * (if tb p = true then -f else f) := by
          unfold q_un
          rw [hp, Int.toNat_natCast]
        rw [hun] at r1
        rw [hp, e4, m51, n51]
        simp (disch := omega) only [b1s, wI_lt, wI_nat, Int.toNat_natCast, hlaid, wI_mul, wI_neg]
        rw [if_neg (show ¬ (((512 * s + p : Nat) : Int) < 0 ∨ 3072 ≤ 512 * s + p) by omega)]
        by_cases ht : tb p = true
        · rw [if_pos ht, if_pos (show wI 1 = (1 : Int32) from rfl)]
          rw [if_pos ht, Int.mul_neg] at r1
          exact r1.trans v1
        · rw [if_neg ht, if_neg (show ¬ wI 0 = (1 : Int32) by decide)]
          rw [if_neg ht] at r1
          exact r1.trans v1
      · rw [if_neg (show ¬ 0 ≤ q_per T s i by omega)]
        have q3 := q2
        rw [← q_wv_off (tb := tb) (f := f) (g := g) hon] at q3
        obtain ⟨d', v1, v2, v3⟩ := ih (i + 1) k (by omega) (by omega) d q1 q3
        refine ⟨d', ?_, v2, v3⟩
        simp only [X12_addsWave_b187, ei]
        exact v1
  exact hl (TN T) 0 q_FU (by omega) (by unfold q_FU; omega) dt q_fx_r (by rw [q_wv_0]; exact hg)
theorem q_sum_add (f h : Nat → Int) (n : Nat) : q_sum (fun i => f i + h i) n = q_sum f n + q_sum h n := by
  induction n with
  | zero => rfl
  | succ n ih =>
    rw [q_sum_s, q_sum_s, q_sum_s, ih]
    omega
theorem q_sum_swap (F : Nat → Nat → Int) (n m : Nat) : q_sum (fun i => q_sum (fun e => F i e) m) n = q_sum (fun e => q_sum (fun i => F i e) n) m := by
  induction n with
  | zero =>
    have : ∀ m, q_sum (fun e => q_sum (fun i => F i e) 0) m = 0 := by
      intro m
      induction m with
      | zero => rfl
      | succ m ih =>
        rw [q_sum_s, ih]
        rfl
    exact (this m).symm
  | succ n ih =>
    rw [q_sum_s, ih, ← q_sum_add]
    rfl
theorem q_sum_spk (j c : Nat) (B : Int) (n : Nat) : q_sum (fun i => if j = i + c then B else 0) n = if c ≤ j ∧ j - c < n then B else 0 := by
  induction n with
  | zero => exact (if_neg (by omega)).symm
  | succ n ih =>
    rw [q_sum_s, ih]
    by_cases h : j = n + c
    · rw [if_pos h, if_neg (by omega), if_pos (by omega)]
      omega
    · rw [if_neg h]
      by_cases h2 : c ≤ j ∧ j - c < n
      · rw [if_pos h2, if_pos (by omega)]
        omega
      · rw [if_neg h2, if_neg (by omega)]
        rfl
theorem q_sum_le {f h : Nat → Int} (n : Nat) (H : ∀ i, i < n → -(h i) ≤ f i ∧ f i ≤ h i) : -(q_sum h n) ≤ q_sum f n ∧ q_sum f n ≤ q_sum h n := by
  induction n with
  | zero => exact ⟨Int.le_refl 0, Int.le_refl 0⟩
  | succ n ih =>
    have h1 := ih (fun i hi => H i (by omega))
    have h2 := H n (by omega)
    rw [q_sum_s, q_sum_s]
    omega
theorem q_sum_mul (c : Int) (f : Nat → Int) (n : Nat) : q_sum (fun i => c * f i) n = c * q_sum f n := by
  induction n with
  | zero => exact (Int.mul_zero c).symm
  | succ n ih =>
    rw [q_sum_s, q_sum_s, ih, Int.mul_add]
/-- how much a sample can bring to another -/
def q_wt (T : q_Tl) (j i : Nat) : Int := (if j = i + 0 then 99 else 0) + q_sum (fun e => if j = i + Tel T e then 99 else 0) (Tne T)
theorem q_pt_b {T : q_Tl} (hw : q_wf T) {s j i : Nat} (hs : s < Tns T) : -(q_wt T j i) ≤ q_pt T s j i ∧ q_pt T s j i ≤ q_wt T j i := by
  have hS := hw.2.2.2.1 s hs
  have h1 := q_sum_le (f := fun e => if Teo T e = s then (if j = i + Tel T e ∧ j < TN T then Tea T e else 0) else 0) (h := fun e => if j = i + Tel T e then 99 else 0) (Tne T) (fun e he => by
    have hE := hw.2.2.2.2.1 e he
    show -(if j = i + Tel T e then (99 : Int) else 0) ≤ (if Teo T e = s then (if j = i + Tel T e ∧ j < TN T then Tea T e else 0) else 0) ∧ (if Teo T e = s then (if j = i + Tel T e ∧ j < TN T then Tea T e else 0) else 0) ≤ (if j = i + Tel T e then (99 : Int) else 0)
    by_cases h1 : j = i + Tel T e
    · rw [if_pos h1]
      by_cases h2 : Teo T e = s
      · rw [if_pos h2]
        by_cases h3 : j = i + Tel T e ∧ j < TN T
        · rw [if_pos h3]; omega
        · rw [if_neg h3]; omega
      · rw [if_neg h2]; omega
    · rw [if_neg h1, if_neg (show ¬ (j = i + Tel T e ∧ j < TN T) from fun q => h1 q.1), ite_self]
      omega)
  have h2 : -(if j = i + 0 then (99 : Int) else 0) ≤ (if j = i ∧ j < TN T then (Tsa T s : Int) else 0) ∧ (if j = i ∧ j < TN T then (Tsa T s : Int) else 0) ≤ (if j = i + 0 then (99 : Int) else 0) := by
    by_cases h1 : j = i
    · rw [if_pos (show j = i + 0 by omega)]
      by_cases h2 : j = i ∧ j < TN T
      · rw [if_pos h2]; omega
      · rw [if_neg h2]; omega
    · rw [if_neg (show ¬ j = i + 0 by omega), if_neg (fun q => h1 q.1)]
      omega
  unfold q_pt q_wt
  omega
theorem q_wt_0 (T : q_Tl) (j i : Nat) : 0 ≤ q_wt T j i := by
  have h1 := q_sum_le (f := fun _ => (0 : Int)) (h := fun e => if j = i + Tel T e then (99 : Int) else 0) (Tne T) (fun e _ => by
    show -(if j = i + Tel T e then (99 : Int) else 0) ≤ 0 ∧ 0 ≤ (if j = i + Tel T e then (99 : Int) else 0)
    by_cases h : j = i + Tel T e
    · rw [if_pos h]; omega
    · rw [if_neg h]; omega)
  have h2 : (0 : Int) ≤ if j = i + 0 then (99 : Int) else 0 := by
    by_cases h : j = i + 0
    · rw [if_pos h]; omega
    · rw [if_neg h]; omega
  unfold q_wt
  omega
theorem q_ct_b {T : q_Tl} (hw : q_wf T) {s a j i : Nat} {tb : Nat → Bool} {f : Int} (hs : s < Tns T) {B : Nat} (hB : B ≤ 9) (hf : -(B : Int) ≤ f ∧ f ≤ B) : -(B * q_wt T j i) ≤ q_ct T s tb f a j i ∧ q_ct T s tb f a j i ≤ B * q_wt T j i := by
  have h1 := q_pt_b hw (j := j) (i := i) hs
  have h0 := q_wt_0 T j i
  have h2 := q_sgn_b hw (i := i) hs
  obtain ⟨W, hW⟩ := Int.eq_ofNat_of_zero_le h0
  have hu : -(B : Int) ≤ q_un T s tb f i ∧ q_un T s tb f i ≤ B := by
    unfold q_un
    by_cases e : tb (q_per T s i).toNat = true
    · rw [if_pos e]
      have := q_mulb (B := 1) (C := B) (u := q_sgn T s i) (c := -f) (by omega) (by omega)
      omega
    · rw [if_neg e]
      have := q_mulb (B := 1) (C := B) (u := q_sgn T s i) (c := f) (by omega) (by omega)
      omega
  rw [hW] at h1 ⊢
  have h3 := q_mulb (B := B) (C := W) hu h1
  rw [← Int.natCast_mul]
  unfold q_ct
  by_cases e : q_dl T s i ≤ i ∧ a = q_trn T s i % 2
  · rw [if_pos e]; exact h3
  · rw [if_neg e]; omega
theorem q_wts (T : q_Tl) (hne : Tne T ≤ 6) (j n : Nat) : q_sum (fun i => q_wt T j i) n ≤ 693 := by
  have e1 : q_sum (fun i => q_wt T j i) n = q_sum (fun i => if j = i + 0 then (99 : Int) else 0) n + q_sum (fun e => q_sum (fun i => if j = i + Tel T e then (99 : Int) else 0) n) (Tne T) := by
    rw [← q_sum_swap, ← q_sum_add]
    rfl
  have e2 : q_sum (fun i => if j = i + 0 then (99 : Int) else 0) n ≤ 99 := by
    rw [q_sum_spk]
    by_cases h : 0 ≤ j ∧ j - 0 < n
    · rw [if_pos h]; omega
    · rw [if_neg h]; omega
  have e3 := q_sum_abs (f := fun e => q_sum (fun i => if j = i + Tel T e then (99 : Int) else 0) n) (B := 99) (Tne T) (fun e _ => by
    show -99 ≤ q_sum (fun i => if j = i + Tel T e then (99 : Int) else 0) n ∧ q_sum (fun i => if j = i + Tel T e then (99 : Int) else 0) n ≤ 99
    rw [q_sum_spk]
    by_cases h : Tel T e ≤ j ∧ j - Tel T e < n
    · rw [if_pos h]; omega
    · rw [if_neg h]; omega)
  omega
theorem q_wv_b {T : q_Tl} (hw : q_wf T) {s a j n : Nat} {tb : Nat → Bool} {f : Int} {g : Nat → Nat → Int} (hs : s < Tns T) {B : Nat} (hB : B ≤ 9) (hf : -(B : Int) ≤ f ∧ f ≤ B) : g a j - 693 * B ≤ q_wv T s tb f g n a j ∧ q_wv T s tb f g n a j ≤ g a j + 693 * B := by
  have h1 := q_sum_le (f := fun i => q_ct T s tb f a j i) (h := fun i => B * q_wt T j i) n (fun i _ => q_ct_b hw hs hB hf)
  rw [q_sum_mul] at h1
  have h2 : q_sum (q_wt T j) n ≤ 693 := q_wts T hw.1.2.2.2.1 j n
  have h3 : (B : Int) * q_sum (q_wt T j) n ≤ B * 693 := Int.mul_le_mul_of_nonneg_left h2 (by omega)
  show g a j - 693 * B ≤ g a j + q_sum (fun i => q_ct T s tb f a j i) n ∧ g a j + q_sum (fun i => q_ct T s tb f a j i) n ≤ g a j + 693 * B
  omega
theorem q_wv_z {T : q_Tl} {s a j n : Nat} {tb : Nat → Bool} {f : Int} {g : Nat → Nat → Int} (hn : n ≤ TN T) (hj : TN T ≤ j) : q_wv T s tb f g n a j = g a j := by
  have h1 : ∀ i, i < n → q_ct T s tb f a j i = 0 := by
    intro i hi
    have h2 : q_pt T s j i = 0 := by
      unfold q_pt
      rw [if_neg (by omega), q_sum_congr (g := fun _ => 0) (Tne T) (fun e _ => by
        rw [if_neg (show ¬ (j = i + Tel T e ∧ j < TN T) by omega), ite_self])]
      have : ∀ m, q_sum (fun _ => (0 : Int)) m = 0 := by
        intro m
        induction m with
        | zero => rfl
        | succ m ih =>
          rw [q_sum_s, ih]
          rfl
      rw [this]
      rfl
    unfold q_ct
    rw [h2, Int.mul_zero, ite_self]
  show g a j + q_sum (fun i => q_ct T s tb f a j i) n = g a j
  rw [q_sum_congr (g := fun _ => 0) n h1]
  have : ∀ m, q_sum (fun _ => (0 : Int)) m = 0 := by
    intro m
    induction m with
    | zero => rfl
    | succ m ih =>
      rw [q_sum_s, ih]
      rfl
  rw [this, Int.add_zero]
theorem R_add : q_c_add q_Rel := by
  intro k b1 b2 dt1 dt2 a0 a1 hk hR
  obtain ⟨x, rfl, hx1, hx2⟩ := q_arg a0
  obtain ⟨f, rfl, hf1, hf2⟩ := q_arg a1
  have hR' := hR
  obtain ⟨T, t, sd, g, hT, hM, ho, hs, hn, hg, hrt, hrh, hk2, hp⟩ := hR'
  have hN := hT.1.1
  have e2 := M_isSender hM hx1 hx2
  show ∃ r d1 d2, X11_add (A1 b1) dt1 b1 (wI x) (wI f) = some (r, d1) ∧ X12_add (A2 b2) dt2 b2 (wI x) (wI f) = some (r, d2) ∧ _
  have e9 : (-9 : Int32) = wI (-9) := rfl
  by_cases hc : 0 ≤ x ∧ x < Tns T
  · rw [if_pos hc] at e2
    obtain ⟨s, rfl⟩ := Int.eq_ofNat_of_zero_le hc.1
    have hsn : s < Tns T := by omega
    by_cases hf : -9 ≤ f ∧ f ≤ 9
    · obtain ⟨d1, p1, p2, p3⟩ := T_waveD (tb := fun p => decide (q_bit T s p = 1)) hT (So_in b1) (by omega) hs hsn hf (fun p _ => rfl)
      have eL := M_laysData hM hsn
      have hM2 : q_M b2 sd (q_irow dt2 (b2 + 37) (512 * s) 512 (fun p => wI (q_bit T s p))) T := M_keep hM (congrFun (q_irow_o (by omega)) 18) (fun y h1 h2 => q_irow_o (by omega))
      have hn2 : q_now (b2 + 39) (q_irow dt2 (b2 + 37) (512 * s) 512 (fun p => wI (q_bit T s p))) g := by
        unfold q_now
        rw [q_irow_o (by omega)]
        exact hn
      obtain ⟨d2, r1, r2, r3⟩ := M_wave (tb := fun p => decide (q_bit T s p = 1)) hM2 (n53 b2) (by omega) hn2 hsn hf (fun p hp => by
        rw [q_irow_i hp]
        have hb := q_bit_lt (T := T) (s := s) (p := (p : Int))
        show wI (q_bit T s p : Int) = wI (if decide (q_bit T s (p : Int) = 1) = true then 1 else 0)
        by_cases h : q_bit T s (p : Int) = 1
        · rw [if_pos (decide_eq_true h), h]; rfl
        · rw [if_neg (by rw [decide_eq_false h]; exact Bool.false_ne_true), show q_bit T s (p : Int) = 0 by omega]; rfl)
      refine ⟨1, d1, d2, ?_, ?_, R_sig ⟨hT, hM, ho, hs, hn, hg, hrt, hrh, hk2, hp⟩ (fun x hx => p3 x (by omega)) (fun x h1 h2 h3 h4 => (r3.1 x (by omega)).trans (q_irow_o (by omega))) (fun j _ => congrFun ((r3.1 b2 (by omega)).trans (q_irow_o (by omega))) j) (fun x _ => by rw [r3.2]; rfl) p2 r2 ⟨fun a i => ?_, fun a i hi => ?_⟩⟩
      · simp only [X11_add, o1s, ho.1, m1s, T_senderAt hT hsn, b1s, s0_1]
        rw [e9, show (9 : Int32) = wI 9 from rfl]
        simp (disch := omega) only [wI_lt, wI_le]
        rw [if_neg (by omega), if_pos (by omega), p1]
        rfl
      · simp only [X12_add, e2, b1s, q_10, if_false]
        rw [e9, show (9 : Int32) = wI 9 from rfl, M_in1 (by omega) (by omega) (by omega) (by omega) (by omega) (by omega) (by omega)]
        simp only [b1s, q_10, if_false, eL, m53]
        rw [r1]
        rfl
      · have h1 := hg.1 a i
        have h2 := q_wv_b hT.1 (a := a) (j := i) (n := TN T) (tb := fun p => decide (q_bit T s p = 1)) (g := g) hsn (B := 9) (by omega) (f := f) (by omega)
        omega
      · rw [q_wv_z (Nat.le_refl _) hi]
        exact hg.2 a i hi
    · refine ⟨0, dt1, dt2, ?_, ?_, R_up hR⟩
      · simp only [X11_add, o1s, ho.1, m1s, T_senderAt hT hsn, b1s, s0_1]
        rw [e9, show (9 : Int32) = wI 9 from rfl]
        simp (disch := omega) only [wI_lt, wI_le]
        by_cases h : f < -9
        · rw [if_pos h]
        · rw [if_neg h, if_neg (by omega)]
      · simp only [X12_add, e2, b1s, q_10, if_false]
        rw [e9, show (9 : Int32) = wI 9 from rfl, M_in0 (by omega) (by omega) (by omega) (by omega) (by omega) (by omega) (by omega)]
        simp only [b1s, q_00, if_true]
  · rw [if_neg hc] at e2
    refine ⟨0, dt1, dt2, ?_, ?_, R_up hR⟩
    · simp only [X11_add, o1s, ho.1, m1s, m1n, T_senderNo hT hx1 hx2 hc, b1s]
    · simp only [X12_add, e2, b1s, q_00, if_true]
