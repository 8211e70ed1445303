/-! level two: what is read: the sums of READ -/
theorem q_dl_s {T : q_Tl} {s i : Nat} : q_dl T s (i + 1) = q_dl T s i ∨ q_dl T s (i + 1) = q_dl T s i + 1 := by
  unfold q_dl
  rw [Nat.succ_div]
  by_cases h : Tsf T s * Tlen T (Tsc T s) ∣ i + 1
  · rw [if_pos h]; omega
  · rw [if_neg h]; omega
theorem q_per_0 {T : q_Tl} {s : Nat} : q_per T s 0 = -1 ∨ q_per T s 0 = 0 := by
  unfold q_per
  by_cases h : q_dl T s 0 ≤ 0
  · rw [if_pos h, Nat.zero_sub, Nat.zero_div]
    exact Or.inr rfl
  · rw [if_neg h]
    exact Or.inl rfl
theorem q_per_s {T : q_Tl} (hw : q_wf T) {s i : Nat} (hs : s < Tns T) : q_per T s (i + 1) = q_per T s i ∨ q_per T s (i + 1) = q_per T s i + 1 := by
  have hS := hw.2.2.2.1 s hs
  have hC := (hw.2.1 _ hS.1).1
  have hd := q_dl_s (T := T) (s := s) (i := i)
  have h1 := Nat.succ_div (a := i - q_dl T s i) (b := Tlen T (Tsc T s))
  unfold q_per
  by_cases h : q_dl T s i ≤ i
  · rw [if_pos h, if_pos (show q_dl T s (i + 1) ≤ i + 1 by omega)]
    rcases hd with hd | hd
    · rw [hd, show i + 1 - q_dl T s i = i - q_dl T s i + 1 by omega, h1]
      by_cases h2 : Tlen T (Tsc T s) ∣ i - q_dl T s i + 1
      · rw [if_pos h2]
        exact Or.inr rfl
      · rw [if_neg h2, Nat.add_zero]
        exact Or.inl rfl
    · rw [hd, show i + 1 - (q_dl T s i + 1) = i - q_dl T s i by omega]
      exact Or.inl rfl
  · rw [if_neg h]
    by_cases h2 : q_dl T s (i + 1) ≤ i + 1
    · rw [if_pos h2, show i + 1 - q_dl T s (i + 1) = 0 by omega, Nat.zero_div]
      exact Or.inr rfl
    · rw [if_neg h2]
      exact Or.inl rfl
/-- the last period till a sample -/
def q_pla (T : q_Tl) (s : Nat) : Nat → Int
  | 0 => -1
  | i + 1 => q_per T s i
theorem q_pla_s {T : q_Tl} (hw : q_wf T) {s : Nat} (hs : s < Tns T) (i : Nat) : q_per T s i = q_pla T s i ∨ q_per T s i = q_pla T s i + 1 := by
  cases i with
  | zero => exact q_per_0
  | succ i => exact q_per_s hw hs
/-- how many periods -/
def q_np (T : q_Tl) (s : Nat) : Nat := (q_pla T s (TN T) + 1).toNat
theorem q_np_e {T : q_Tl} (hw : q_wf T) {s : Nat} (hs : s < Tns T) : q_pla T s (TN T) = (q_np T s : Int) - 1 ∧ q_np T s ≤ 512 := by
  have hN := hw.1
  have h1 : ∀ i, -1 ≤ q_pla T s i ∧ q_pla T s i ≤ (i : Int) - 1 := by
    intro i
    cases i with
    | zero => exact ⟨Int.le_refl _, by show (-1 : Int) ≤ ((0 : Nat) : Int) - 1; omega⟩
    | succ i =>
      have := q_per_b hw (i := i) hs
      show -1 ≤ q_per T s i ∧ q_per T s i ≤ ((i + 1 : Nat) : Int) - 1
      omega
  have h2 := h1 (TN T)
  unfold q_np
  omega
theorem T_periods {b t : Nat} {dt : q_Dt} {T : q_Tl} (h : q_TT b t dt T) {s : Nat} (hs : s < Tns T) : X7_periods (A1 b) dt (t + 42 + 5 * s) (wI (TN T)) = some (wI (q_np T s)) := by
  have hN := h.1.1
  have h1 := q_np_e h.1 hs
  have h2 : q_pla T s (TN T) = q_per T s (TN T - 1) := by
    obtain ⟨m, hm⟩ : ∃ m, TN T = m + 1 := ⟨TN T - 1, by omega⟩
    rw [hm]
    rfl
  unfold X7_periods
  rw [show (1 : Int32) = wI 1 from rfl, wI_sub, show (TN T : Int) - 1 = (TN T - 1 : Nat) by omega, T_period h hs (by omega), b1s, wI_add, ← h2, h1.1, show (q_np T s : Int) - 1 + 1 = q_np T s by omega]
def q_rsv (T : q_Tl) (s : Nat) (vv : Nat → Int) (n p : Nat) : Int := q_sum (fun i => if q_per T s i = (p : Int) then q_sgn T s i * vv i else 0) n
def q_fJ (arr : Nat) (dt d : q_Dt) : Prop := d.1 = dt.1 ∧ d.2.2 = dt.2.2 ∧ ∀ x, x ≠ arr → d.2.1 x = dt.2.1 x
theorem r_inc_no {al : q_Al} {dt : q_Dt} {a : Nat} {v : Int64} : X5_increase al dt a (wI (-1)) v = some dt := by
  unfold X5_increase
  rw [if_pos (by decide)]
theorem T_gather {b t o s : Nat} {dt : q_Dt} {T : q_Tl} {g : Nat → Nat → Int} (hT : q_TT b t dt T) (hso : q_So b o) (hg : q_sig o (TN T) dt g) (hz : ∀ a i, TN T ≤ i → g a i = 0) (ho : o = b + 21 ∨ o = b + 46) (hs : s < Tns T) : ∃ d', X4_gather (A1 b) dt (b + 43) o (t + 42 + 5 * s) = some d' ∧ q_fJ (b + 45) dt d' ∧ ∀ p, p < 512 → d'.2.1 (b + 45) p = wJ (q_rsv T s (fun i => g (q_trn T s i % 2) i) (TN T) p) := by
  have hN := hT.1.1
  have ht := hT.2.1
  have hTk : ∀ d, q_fJ (b + 45) dt d → q_TT b t d T := fun d h => T_keep hT (fun x h1 h2 => ⟨by rw [h.1], h.2.2 x (by omega), by rw [h.2.1]⟩)
  have hgk : ∀ d, q_fJ (b + 45) dt d → q_sig o (TN T) d g := by
    intro d h
    unfold q_sig
    rw [h.1, h.2.2 (o + 2) (by omega), h.2.2 (o + 4) (by omega)]
    exact hg
  have hl : ∀ n i k : Nat, i + n = TN T → n < k → ∀ d, q_fJ (b + 45) dt d → (∀ p, p < 512 → d.2.1 (b + 45) p = wJ (q_rsv T s (fun i => g (q_trn T s i % 2) i) i p)) → ∃ d', X4_gather_b9 (A1 b) (b + 43) o (t + 42 + 5 * s) k (wI i) d = some d' ∧ q_fJ (b + 45) dt d' ∧ ∀ p, p < 512 → d'.2.1 (b + 45) p = wJ (q_rsv T s (fun i => g (q_trn T s i % 2) i) (TN T) p) := by
    intro n
    induction n with
    | zero =>
      intro i k z1 z2 
      obtain ⟨k, rfl⟩ : ∃ m, k = m + 1 := ⟨k - 1, by omega⟩
      have e : i = TN T := by omega
      intro d q1 q2
      rw [e] at q2
      refine ⟨d, ?_, q1, q2⟩
      rw [X4_gather_b9.eq_2, (hgk d q1).1]
      simp (disch := omega) only [wI_le]
      rw [if_pos (by omega)]
    | succ n ih =>
      intro i k z1 z2 
      obtain ⟨k, rfl⟩ : ∃ m, k = m + 1 := ⟨k - 1, by omega⟩
      have hi : i < TN T := by omega
      intro d q1 q2
      have hT2 := hTk d q1
      have hg2 := hgk d q1
      have hpb := q_per_b hT.1 (i := i) hs
      have hsb := q_sgn_b hT.1 (i := i) hs
      have ei : wI i + 1 = wI (i + 1 : Nat) := wI_add i 1
      have hv := T_value hso hg2 (show TN T ≤ 512 by omega) hz (show i < 1000000 by omega) (show q_trn T s i % 2 < 2 from Nat.mod_lt _ (by omega))
      rw [X4_gather_b9.eq_2, (hgk d q1).1, T_period hT2 hs (by omega), T_axis hT2 hs (by omega), T_sign hT2 hs (by omega), ei, s43_0]
      simp (disch := omega) only [wI_le, b1s, hv, wI_wJ, wJ_mul]
      rw [if_neg (show ¬ (TN T : Int) ≤ i by omega)]
      by_cases hp0 : 0 ≤ q_per T s i
      · obtain ⟨p, hp⟩ := Int.eq_ofNat_of_zero_le hp0
        rw [hp, r_inc (s44_0 b) (l45 b) (by omega) (show p < 512 by omega), q2 p (by omega)]
        simp only [b1s, wJ_add]
        refine ih (i + 1) k (by omega) (by omega) _ ⟨q1.1, q1.2.1, fun x hx => (q_pJ_o hx).trans (q1.2.2 x hx)⟩ (fun p' hp' => ?_)
        have es : q_rsv T s (fun i => g (q_trn T s i % 2) i) (i + 1) p' = q_rsv T s (fun i => g (q_trn T s i % 2) i) i p' + if q_per T s i = (p' : Int) then q_sgn T s i * g (q_trn T s i % 2) i else 0 := rfl
        rw [es]
        by_cases e : p' = p
        · rw [e, q_pJ_s, if_pos hp, Int.mul_comm]
        · rw [q_pJ_k e, if_neg (by omega), Int.add_zero]
          exact q2 p' hp'
      · rw [show q_per T s i = -1 by omega, r_inc_no]
        simp only [b1s]
        refine ih (i + 1) k (by omega) (by omega) d q1 (fun p' hp' => ?_)
        have es : q_rsv T s (fun i => g (q_trn T s i % 2) i) (i + 1) p' = q_rsv T s (fun i => g (q_trn T s i % 2) i) i p' + if q_per T s i = (p' : Int) then q_sgn T s i * g (q_trn T s i % 2) i else 0 := rfl
        rw [es, if_neg (by omega), Int.add_zero]
        exact q2 p' hp'
  obtain ⟨d', v1, v2⟩ := hl (TN T) 0 q_FU (by omega) (by unfold q_FU; omega) (q_row dt (b + 45) 512 (fun _ => 0)) ⟨rfl, rfl, fun x hx => q_row_o hx⟩ (fun p hp => by
    rw [q_row_i hp]
    rfl)
  refine ⟨d', ?_, v2⟩
  unfold X4_gather
  rw [s43_0, r_clear (s44_0 b) (l45 b) (by omega), b1s, show (0 : Int32) = wI ((0 : Nat) : Int) from rfl]
  exact v1
def q_fs (b : Nat) (dt d : q_Dt) : Prop := (∀ x, x ≠ b + 48 → d.1 x = dt.1 x) ∧ (∀ x, x ≠ b + 47 → d.2.1 x = dt.2.1 x) ∧ d.2.2 = dt.2.2
theorem q_fs_e2 {b : Nat} {dt d : q_Dt} (h : q_fs b dt d) : q_e2 b dt d := ⟨fun x h1 h2 h3 h4 => h.1 x (by omega), fun j _ => congrFun (h.1 b (by omega)) j, fun x hx => h.2.1 x (by omega)⟩
theorem M_fs {b sd : Nat} {dt d : q_Dt} {T : q_Tl} (h : q_M b sd dt T) (hf : q_fs b dt d) : q_M b sd d T := M_e2 h (q_fs_e2 hf)
def q_87 (b x s : Nat) (mode : Int32) (dt : q_Dt) (T : q_Tl) (vv : Nat → Int) : Prop := ∀ (kk : Int32 → q_Dt → Option q_Dt) d i p, q_fs b dt d → i < TN T → q_per T s i = (p : Nat) → p < 512 → X12_sumsUp_b87 (A2 b) kk b x (wI s) mode (wI i) (wI p) (wI (512 * (q_trn T s i % 2) : Nat)) d = kk (wI (i + 1 : Nat)) (q_pJ d (b + 47) p (d.2.1 (b + 47) p + wJ (q_sgn T s i * vv i)))
theorem M_sumsUp {b sd x s : Nat} {dt : q_Dt} {T : q_Tl} {mode : Int32} {vv : Nat → Int} (hM : q_M b sd dt T) (hs : s < Tns T) (h87 : q_87 b x s mode dt T vv) : ∃ d', X12_sumsUp (A2 b) dt b x (wI s) mode = some d' ∧ q_fs b dt d' ∧ (∀ p, p < 512 → d'.2.1 (b + 47) p = wJ (q_rsv T s vv (TN T) p)) ∧ ∀ p, p < 512 → d'.1 (b + 48) p = if p < q_np T s then 1 else 0 := by
  have hN := hM.1.1
  have hnp := q_np_e hM.1 hs
  have hl : ∀ n i k : Nat, i + n = TN T → n < k → ∀ d, q_fs b dt d → (∀ p, p < 512 → d.2.1 (b + 47) p = wJ (q_rsv T s vv i p)) → (∀ p, p < 512 → d.1 (b + 48) p = if (p : Int) ≤ q_pla T s i then 1 else 0) → ∃ d', X12_sumsUp_b36 (A2 b) b x (wI s) mode k (wI i) d = some d' ∧ q_fs b dt d' ∧ (∀ p, p < 512 → d'.2.1 (b + 47) p = wJ (q_rsv T s vv (TN T) p)) ∧ ∀ p, p < 512 → d'.1 (b + 48) p = if p < q_np T s then 1 else 0 := by
    intro n
    induction n with
    | zero =>
      intro i k z1 z2 
      obtain ⟨k, rfl⟩ : ∃ m, k = m + 1 := ⟨k - 1, by omega⟩
      have e : i = TN T := by omega
      intro d q1 q2 q3
      rw [e] at q2 q3
      refine ⟨d, ?_, q1, q2, fun p hp => ?_⟩
      · rw [X12_sumsUp_b36.eq_2, M_n (M_fs hM q1)]
        simp (disch := omega) only [b1s, wI_le]
        rw [if_pos (by omega)]
      · rw [q3 p hp]
        by_cases h : p < q_np T s
        · rw [if_pos h, if_pos (by omega)]
        · rw [if_neg h, if_neg (by omega)]
    | succ n ih =>
      intro i k z1 z2 
      obtain ⟨k, rfl⟩ : ∃ m, k = m + 1 := ⟨k - 1, by omega⟩
      have hi : i < TN T := by omega
      intro d q1 q2 q3
      have hM2 := M_fs hM q1
      have hpb := q_per_b hM.1 (i := i) hs
      have hpl := q_pla_s hM.1 hs i
      have ei : wI i + 1 = wI (i + 1 : Nat) := wI_add i 1
      have es : ∀ p', q_rsv T s vv (i + 1) p' = q_rsv T s vv i p' + if q_per T s i = (p' : Int) then q_sgn T s i * vv i else 0 := fun _ => rfl
      have epl : q_pla T s (i + 1) = q_per T s i := rfl
      have kL : (wI (TN T) ≤ wI i) = False := by
        rw [wI_le (by omega) (by omega) (by omega) (by omega)]
        exact eq_false (by omega)
      rw [X12_sumsUp_b36.eq_2, M_n hM2, M_period hM2 hs (by omega), m64, n64]
      by_cases hp0 : 0 ≤ q_per T s i
      · obtain ⟨p, hp⟩ := Int.eq_ofNat_of_zero_le hp0
        have hp5 : p < 512 := by omega
        have kG : (wI p < 0 ∨ 512 ≤ p) = False := by
          rw [show (0 : Int32) = wI 0 from rfl, wI_lt (by omega) (by omega) (by omega) (by omega)]
          exact eq_false (by omega)
        have kP : (0 ≤ wI p) = True := by
          rw [show (0 : Int32) = wI 0 from rfl, wI_le (by omega) (by omega) (by omega) (by omega)]
          exact eq_true (by omega)
        have eP : Int32.toNatClampNeg (wI p) = p := by
          rw [wI_nat (by omega) (by omega), Int.toNat_natCast]
        have f1 : q_fs b dt (q_pI d (b + 48) p 1) := ⟨fun y hy => (q_pI_o hy).trans (q1.1 y hy), q1.2⟩
        have hM3 := M_fs hM f1
        have h8 := fun kk => h87 kk (q_pI d (b + 48) p 1) i p f1 hi hp hp5
        have hst := ih (i + 1) k (by omega) (by omega) (q_pJ (q_pI d (b + 48) p 1) (b + 47) p (wJ (q_rsv T s vv i p) + wJ (q_sgn T s i * vv i))) ⟨fun y hy => f1.1 y hy, fun y hy => (q_pJ_o hy).trans (f1.2.1 y hy), f1.2.2⟩ (fun p' hp' => by
          rw [es]
          by_cases e : p' = p
          · rw [e, q_pJ_s, if_pos hp, wJ_add]
          · rw [q_pJ_k e, if_neg (by omega), Int.add_zero]
            exact q2 p' hp') (fun p' hp' => by
          rw [epl, q_pJ_1]
          by_cases e : p' = p
          · rw [e, q_pI_s, if_pos (by omega)]
          · rw [q_pI_k e, q3 p' hp']
            by_cases h : (p' : Int) ≤ q_pla T s i
            · rw [if_pos h, if_pos (by omega)]
            · rw [if_neg h, if_neg (by omega)])
        rw [hp]
        simp only [b1s, o1s, kL, kG, kP, ↓reduceIte, eP, show vp_nar .boolean 1 = 1 from rfl, M_turn hM3 hs (show i < 1000000 by omega)]
        have h9 := h8 (X12_sumsUp_b36 (A2 b) b x (wI s) mode k)
        rw [show (q_pI d (b + 48) p 1).2.1 (b + 47) p = wJ (q_rsv T s vv i p) from q2 p hp5] at h9
        have hax : q_trn T s i % 2 < 2 := Nat.mod_lt _ (by omega)
        rcases (show q_trn T s i % 2 = 0 ∨ q_trn T s i % 2 = 1 by omega) with h | h
        · rw [h] at h9 ⊢
          rw [if_pos (show wI ((0 : Nat) : Int) = 0 from rfl)]
          rw [show wI ((512 * 0 : Nat) : Int) = (0 : Int32) from rfl] at h9
          rw [h9]
          exact hst
        · rw [h] at h9 ⊢
          rw [if_neg (show ¬ wI ((1 : Nat) : Int) = 0 by decide)]
          rw [show wI ((512 * 1 : Nat) : Int) = (512 : Int32) from rfl] at h9
          rw [h9]
          exact hst
      · have kP : (0 ≤ wI (q_per T s i)) = False := by
          rw [show (0 : Int32) = wI 0 from rfl, wI_le (by omega) (by omega) (by omega) (by omega)]
          exact eq_false (by omega)
        simp only [b1s, kL, kP, ↓reduceIte, X12_sumsUp_b262, ei]
        refine ih (i + 1) k (by omega) (by omega) d q1 (fun p' hp' => ?_) (fun p' hp' => ?_)
        · rw [es, if_neg (by omega), Int.add_zero]
          exact q2 p' hp'
        · rw [epl, q3 p' hp', if_neg (by omega), if_neg (by omega)]
  have hz : ∀ n i k : Nat, i + n = 512 → n < k → ∀ d, q_fs b dt d → (∀ p, p < i → d.2.1 (b + 47) p = wJ 0) → (∀ p, p < i → d.1 (b + 48) p = 0) → ∃ d', X12_sumsUp_b3 (A2 b) b x (wI s) mode k (wI i) d = some d' ∧ q_fs b dt d' ∧ (∀ p, p < 512 → d'.2.1 (b + 47) p = wJ (q_rsv T s vv (TN T) p)) ∧ ∀ p, p < 512 → d'.1 (b + 48) p = if p < q_np T s then 1 else 0 := by
    intro n
    induction n with
    | zero =>
      intro i k z1 z2 
      obtain ⟨k, rfl⟩ : ∃ m, k = m + 1 := ⟨k - 1, by omega⟩
      have e : i = 512 := by omega
      intro d q1 q2 q3
      rw [e] at q2 q3
      obtain ⟨d', v1, v2⟩ := hl (TN T) 0 q_FU (by omega) (by unfold q_FU; omega) d q1 q2 (fun p hp => by
        rw [q3 p hp]
        show (0 : Int32) = if (p : Int) ≤ -1 then 1 else 0
        rw [if_neg (show ¬ (p : Int) ≤ -1 by omega)])
      refine ⟨d', ?_, v2⟩
      rw [X12_sumsUp_b3.eq_2, show (512 : Int32) = wI 512 from rfl]
      simp (disch := omega) only [wI_le]
      rw [if_pos (by omega), show (0 : Int32) = wI ((0 : Nat) : Int) from rfl]
      exact v1
    | succ n ih =>
      intro i k z1 z2 
      obtain ⟨k, rfl⟩ : ∃ m, k = m + 1 := ⟨k - 1, by omega⟩
      have hi : i < 512 := by omega
      intro d q1 q2 q3
      have ei : wI i + 1 = wI (i + 1 : Nat) := wI_add i 1
      have kL : ((512 : Int32) ≤ wI i) = False := by
        rw [show (512 : Int32) = wI 512 from rfl, wI_le (by omega) (by omega) (by omega) (by omega)]
        exact eq_false (by omega)
      have kG : (wI i < 0 ∨ 512 ≤ i) = False := by
        rw [show (0 : Int32) = wI 0 from rfl, wI_lt (by omega) (by omega) (by omega) (by omega)]
        exact eq_false (by omega)
      have eP : Int32.toNatClampNeg (wI i) = i := by
        rw [wI_nat (by omega) (by omega), Int.toNat_natCast]
      have hst := ih (i + 1) k (by omega) (by omega) (q_pI (q_pJ d (b + 47) i 0) (b + 48) i 0) ⟨fun y hy => (q_pI_o hy).trans (q1.1 y hy), fun y hy => (q_pJ_o hy).trans (q1.2.1 y hy), q1.2.2⟩ (fun p hp => by
        by_cases e : p = i
        · rw [e]
          exact q_pJ_s
        · exact (q_pJ_k e).trans (q2 p (by omega))) (fun p hp => by
        by_cases e : p = i
        · rw [e]
          exact q_pI_s
        · exact (q_pI_k e).trans (q3 p (by omega)))
      rw [X12_sumsUp_b3.eq_2, m63, m64, n63, n64]
      simp only [kL, kG, ↓reduceIte, o1s, eP, show vp_nar .boolean 0 = 0 from rfl, ei]
      exact hst
  obtain ⟨d', v1, v2⟩ := hz 512 0 q_FU (by omega) (by unfold q_FU; omega) dt ⟨fun _ _ => rfl, fun _ _ => rfl, rfl⟩ (fun p hp => by omega) (fun p hp => by omega)
  refine ⟨d', ?_, v2⟩
  unfold X12_sumsUp
  rw [show (0 : Int32) = wI ((0 : Nat) : Int) from rfl]
  exact v1
theorem M_87_0 {b sd x s : Nat} {dt : q_Dt} {T : q_Tl} {g : Nat → Nat → Int} (hM : q_M b sd dt T) (hs : s < Tns T) (hx : (A2 b).2.1 x = 1024) (hx2 : x ≠ b + 48) (hg : q_now x dt g) (hb : ∀ a i, -4000000 ≤ g a i ∧ g a i ≤ 4000000) : q_87 b x s 0 dt T (fun i => g (q_trn T s i % 2) i) := by
  intro kk d i p q1 hi hp hp5
  have hN := hM.1.1
  have hM2 := M_fs hM q1
  have hpb := q_per_b hM.1 (i := i) hs
  have hsb := q_sgn_b hM.1 (i := i) hs
  have hax : q_trn T s i % 2 < 2 := Nat.mod_lt _ (by omega)
  have hgb := hb (q_trn T s i % 2) i
  have ei : wI i + 1 = wI (i + 1 : Nat) := wI_add i 1
  have kG : (wI p < 0 ∨ 512 ≤ p) = False := by
    rw [show (0 : Int32) = wI 0 from rfl, wI_lt (by omega) (by omega) (by omega) (by omega)]
    exact eq_false (by omega)
  have eP : Int32.toNatClampNeg (wI p) = p := by
    rw [wI_nat (by omega) (by omega), Int.toNat_natCast]
  have e5 : wI (512 * (q_trn T s i % 2) : Nat) + wI i = wI (512 * (q_trn T s i % 2) + i : Nat) := wI_add _ _
  have kH : (wI (512 * (q_trn T s i % 2) + i : Nat) < 0 ∨ 1024 ≤ Int32.toNatClampNeg (wI (512 * (q_trn T s i % 2) + i : Nat))) = False := by
    rw [show (0 : Int32) = wI 0 from rfl, wI_lt (by omega) (by omega) (by omega) (by omega), wI_nat (by omega) (by omega), Int.toNat_natCast]
    exact eq_false (by omega)
  have vH : d.1 x (Int32.toNatClampNeg (wI (512 * (q_trn T s i % 2) + i : Nat))) = wI (g (q_trn T s i % 2) i) := by
    rw [wI_nat (by omega) (by omega), Int.toNat_natCast, q1.1 x hx2]
    have h7 := hg i (by omega)
    rcases (show q_trn T s i % 2 = 0 ∨ q_trn T s i % 2 = 1 by omega) with h | h
    · rw [h, show 512 * 0 + i = i by omega]; exact h7.1
    · rw [h, show 512 * 1 + i = 512 + i by omega]; exact h7.2
  unfold X12_sumsUp_b87
  rw [M_sign hM2 hs (by omega) (hpb.2.2.mpr (by omega)), m63, n63, hx, e5, vH]
  simp only [b1s, if_true, kG, kH, ↓reduceIte, o1s, eP, X12_sumsUp_b262, ei]
  rw [wI_wJ (by omega) (by omega), wI_wJ (by omega) (by omega), wJ_mul]
