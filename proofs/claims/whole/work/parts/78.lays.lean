/-! level two: laid anew, the check; anew -/
def q_fl (b : Nat) (dt d : q_Dt) : Prop := (∀ y, y ≠ b + 37 → y ≠ b + 39 → d.1 y = dt.1 y) ∧ d.2 = dt.2
theorem q_fl_r {b : Nat} {dt : q_Dt} : q_fl b dt dt := ⟨fun _ _ _ => rfl, rfl⟩
theorem q_fl_t {b : Nat} {dt d e : q_Dt} (h : q_fl b dt d) (h' : q_fl b d e) : q_fl b dt e := ⟨fun y h1 h2 => (h'.1 y h1 h2).trans (h.1 y h1 h2), h'.2.trans h.2⟩
theorem q_fl_x {b : Nat} {dt d : q_Dt} (h : q_fx (b + 39) dt d) : q_fl b dt d := ⟨fun y _ h2 => h.1 y h2, h.2⟩
theorem M_fl {b sd : Nat} {dt d : q_Dt} {T : q_Tl} (h : q_M b sd dt T) (hf : q_fl b dt d) : q_M b sd d T := M_keep h (congrFun (hf.1 b (by omega) (by omega)) 18) (fun y h1 h2 => hf.1 y (by omega) (by omega))
theorem M_jamL {b sd j : Nat} {dt : q_Dt} {T : q_Tl} {g : Nat → Nat → Int} (hM : q_M b sd dt T) (hg : q_now (b + 39) dt g) (hj : j < Tnj T) (kk : Int32 → q_Dt → Option q_Dt) : ∃ d, X12_lays_b89 (A2 b) kk b (wI j) (wI (4 * sd + j : Nat)) q_FU (wI (Tjf T j)) dt = kk (wI (j + 1 : Nat)) d ∧ q_now (b + 39) d (q_jl T j 600 (Tjf T j) g) ∧ q_fx (b + 39) dt d := by
  have hN := hM.1.1
  have hJ := hM.1.2.2.2.2.2 j hj
  have e134 : ∀ d, X12_lays_b134 (A2 b) kk b (wI j) d = kk (wI (j + 1 : Nat)) d := by
    intro d
    unfold X12_lays_b134
    rw [show wI j + 1 = wI (j + 1 : Nat) from wI_add j 1]
  have hl : ∀ n i k d (g : Nat → Nat → Int), TN T - i ≤ n → n < k → i < 2000 → q_fx (b + 39) dt d → q_now (b + 39) d g → ∃ d', X12_lays_b89 (A2 b) kk b (wI j) (wI (4 * sd + j : Nat)) k (wI i) d = kk (wI (j + 1 : Nat)) d' ∧ q_now (b + 39) d' (q_jl T j n i g) ∧ q_fx (b + 39) dt d' := by
    intro n
    induction n with
    | zero =>
      intro i k d g h1 h2 h3 q1 q2
      obtain ⟨k, rfl⟩ : ∃ m, k = m + 1 := ⟨k - 1, by omega⟩
      have hM2 := M_fx hM q1 (by omega)
      have hn2 := M_n hM2
      obtain ⟨-, ⟨u1, -⟩, -, -, -, -, u4⟩ := hM2
      have u5 := u4 j hj
      refine ⟨d, ?_, q2, q1⟩
      rw [X12_lays_b89.eq_2, m44, n44, show (0 : Int32) = wI 0 from rfl, hn2]
      simp (disch := omega) only [wI_lt, wI_le, wI_nat, Int.toNat_natCast, u5.2.1, b1s, e134]
      rw [if_neg (show ¬ (((4 * sd + j : Nat) : Int) < 0 ∨ 8 ≤ 4 * sd + j) by omega)]
      by_cases hc : Tjt T j < i
      · rw [if_pos (show (Tjt T j : Int) < i by omega)]
      · rw [if_neg (show ¬ (Tjt T j : Int) < i by omega), if_pos (show (TN T : Int) ≤ i by omega)]
    | succ n ih =>
      intro i k d g h1 h2 h3 q1 q2
      obtain ⟨k, rfl⟩ : ∃ m, k = m + 1 := ⟨k - 1, by omega⟩
      have hM2 := M_fx hM q1 (by omega)
      have hn2 := M_n hM2
      obtain ⟨-, ⟨u1, -⟩, -, -, -, -, u4⟩ := hM2
      have u5 := u4 j hj
      rw [X12_lays_b89.eq_2, m44, n44, m45, n45, m46, n46, m53, n53, show (0 : Int32) = wI 0 from rfl, hn2]
      simp (disch := omega) only [wI_lt, wI_le, wI_nat, Int.toNat_natCast, u5.2.1, u5.2.2.1, b1s, e134, o1s]
      rw [if_neg (show ¬ (((4 * sd + j : Nat) : Int) < 0 ∨ 8 ≤ 4 * sd + j) by omega)]
      by_cases hc : i ≤ Tjt T j ∧ i < TN T
      · rw [if_neg (show ¬ (Tjt T j : Int) < i by omega), if_neg (show ¬ (TN T : Int) ≤ i by omega), if_neg (show ¬ ((i : Int) < 0 ∨ 1024 ≤ i) by omega), if_neg (show ¬ (((4 * sd + j : Nat) : Int) < 0 ∨ 8 ≤ 4 * sd + j) by omega), if_neg (show ¬ ((i : Int) < 0 ∨ 1024 ≤ i) by omega), if_neg (show ¬ (((4 * sd + j : Nat) : Int) < 0 ∨ 8 ≤ 4 * sd + j) by omega)]
        have r2 := M_inc (v := (Tja T j : Int)) q2 (show TN T ≤ 512 by omega) hc.2 (show 0 < 2 by omega)
        rw [show 512 * 0 + i = i by omega] at r2
        obtain ⟨d', v1, v2, v3⟩ := ih (i + Tje T j) k _ _ (by omega) (by omega) (by omega) (q_fx_I q1) r2
        have e1 : q_jl T j (n + 1) i g = q_jl T j n (i + Tje T j) (q_inc (TN T) g 0 i (Tja T j)) := if_pos hc
        rw [e1]
        refine ⟨d', ?_, v2, v3⟩
        rw [q_pI_o (show b + 33 ≠ b + 39 by omega), u5.2.2.2, show wI i + wI (Tje T j) = wI (i + Tje T j : Nat) from wI_add _ _]
        exact v1
      · have e1 : q_jl T j (n + 1) i g = g := if_neg hc
        rw [e1]
        refine ⟨d, ?_, q2, q1⟩
        by_cases hc2 : Tjt T j < i
        · rw [if_pos (show (Tjt T j : Int) < i by omega)]
        · rw [if_neg (show ¬ (Tjt T j : Int) < i by omega), if_pos (show (TN T : Int) ≤ i by omega)]
  exact hl 600 (Tjf T j) q_FU dt g (by omega) (by unfold q_FU; omega) (by omega) q_fx_r hg
theorem M_lay {b sd : Nat} {dt : q_Dt} {T : q_Tl} (hM : q_M b sd dt T) : ∃ d, X12_lays (A2 b) dt b = some d ∧ q_now (b + 39) d (q_lay T) ∧ q_fl b dt d := by
  have hN := hM.1.1
  have hsd := hM.2.1.1
  have hj : ∀ n i k : Nat, i + n = Tnj T → n < k → ∀ d, q_fl b dt d → q_now (b + 39) d (q_lj T i) → ∃ d', X12_lays_b60 (A2 b) b k (wI i) d = some d' ∧ q_now (b + 39) d' (q_lay T) ∧ q_fl b dt d' := by
    intro n
    induction n with
    | zero =>
      intro i k z1 z2 
      obtain ⟨k, rfl⟩ : ∃ m, k = m + 1 := ⟨k - 1, by omega⟩
      have e : i = Tnj T := by omega
      intro d q1 q2
      have hM2 := M_fl hM q1
      have hM3 := hM2
      obtain ⟨-, ⟨-, u2, -, -, -, -, u3, u4, u5, -⟩, -⟩ := hM3
      rw [e] at q2
      obtain ⟨d', v1, v2, v3⟩ := M_noise (s := wI (Tnd T)) hM2 q2 (show Tnm T ≤ 50 by omega)
      by_cases hm : Tnm T = 0
      · have e0 : q_lay T = q_lj T (Tnj T) := by
          funext a j
          show q_lj T (Tnj T) a j + (if j < TN T then q_nz (wI (Tnd T)) (Tnm T) a j else 0) = q_lj T (Tnj T) a j
          have := q_nz_b (wI (Tnd T)) (Tnm T) a j
          rw [show q_nz (wI (Tnd T)) (Tnm T) a j = 0 by omega, ite_self, Int.add_zero]
        rw [e0]
        refine ⟨d, ?_, q2, q1⟩
        rw [X12_lays_b60.eq_2, m42, n42, m47, n47, u2, show (0 : Int32) = wI 0 from rfl]
        simp (disch := omega) only [wI_lt, wI_le, wI_nat, Int.toNat_natCast, u3, u4]
        rw [if_neg (show ¬ ((sd : Int) < 0 ∨ 2 ≤ sd) by omega), if_pos (show (Tnj T : Int) ≤ i by omega), if_neg (show ¬ ((sd : Int) < 0 ∨ 2 ≤ sd) by omega), if_pos (show (Tnm T : Int) ≤ 0 by omega)]
      · refine ⟨d', ?_, v2, q_fl_t q1 (q_fl_x v3)⟩
        rw [X12_lays_b60.eq_2, m42, n42, m47, n47, m48, n48, u2, show (0 : Int32) = wI 0 from rfl]
        simp (disch := omega) only [wI_lt, wI_le, wI_nat, Int.toNat_natCast, u3, u4, u5]
        rw [if_neg (show ¬ ((sd : Int) < 0 ∨ 2 ≤ sd) by omega), if_pos (show (Tnj T : Int) ≤ i by omega), if_neg (show ¬ ((sd : Int) < 0 ∨ 2 ≤ sd) by omega), if_neg (show ¬ (Tnm T : Int) ≤ 0 by omega), if_neg (show ¬ ((sd : Int) < 0 ∨ 2 ≤ sd) by omega), if_neg (show ¬ ((sd : Int) < 0 ∨ 2 ≤ sd) by omega), v1]
        rfl
    | succ n ih =>
      intro i k z1 z2 
      obtain ⟨k, rfl⟩ : ∃ m, k = m + 1 := ⟨k - 1, by omega⟩
      have hi : i < Tnj T := by omega
      intro d q1 q2
      have hM2 := M_fl hM q1
      obtain ⟨d1, r1, r2, r3⟩ := M_jamL hM2 q2 hi (X12_lays_b60 (A2 b) b k)
      obtain ⟨d', v1, v2, v3⟩ := ih (i + 1) k (by omega) (by omega) d1 (q_fl_t q1 (q_fl_x r3)) r2
      refine ⟨d', ?_, v2, v3⟩
      obtain ⟨-, ⟨-, u2, -, -, -, -, u3, -⟩, -, -, -, -, u4⟩ := hM2
      have e4 : 4 * wI sd + wI i = wI (4 * sd + i : Nat) := by
        rw [show (4 : Int32) = wI (4 : Nat) from rfl, wI_mul, wI_add]
        rfl
      rw [X12_lays_b60.eq_2, m42, n42, m43, n43, u2, e4, show (0 : Int32) = wI 0 from rfl]
      simp (disch := omega) only [wI_lt, wI_le, wI_nat, Int.toNat_natCast, u3, (u4 i hi).1, o1s]
      rw [if_neg (show ¬ ((sd : Int) < 0 ∨ 2 ≤ sd) by omega), if_neg (show ¬ (Tnj T : Int) ≤ i by omega), if_neg (show ¬ (((4 * sd + i : Nat) : Int) < 0 ∨ 8 ≤ 4 * sd + i) by omega)]
      exact r1.trans v1
  have hl : ∀ n i k : Nat, i + n = Tns T → n < k → ∀ d, q_fl b dt d → q_now (b + 39) d (q_ls T i) → ∃ d', X12_lays_b24 (A2 b) b k (wI i) d = some d' ∧ q_now (b + 39) d' (q_lay T) ∧ q_fl b dt d' := by
    intro n
    induction n with
    | zero =>
      intro i k z1 z2 
      obtain ⟨k, rfl⟩ : ∃ m, k = m + 1 := ⟨k - 1, by omega⟩
      have e : i = Tns T := by omega
      intro d q1 q2
      have hM2 := M_fl hM q1
      obtain ⟨-, ⟨-, u2, -, -, u3, -⟩, -⟩ := hM2
      rw [e] at q2
      obtain ⟨d', v1, v2, v3⟩ := hj (Tnj T) 0 q_FU (by omega) (by unfold q_FU; omega) d q1 q2
      refine ⟨d', ?_, v2, v3⟩
      rw [X12_lays_b24.eq_2, m31, n31, u2, show (0 : Int32) = wI ((0 : Nat) : Int) from rfl, v1]
      simp (disch := omega) only [wI_lt, wI_le, wI_nat, Int.toNat_natCast, u3]
      rw [if_neg (by omega), if_pos (by omega)]
    | succ n ih =>
      intro i k z1 z2 
      obtain ⟨k, rfl⟩ : ∃ m, k = m + 1 := ⟨k - 1, by omega⟩
      have hi : i < Tns T := by omega
      intro d q1 q2
      have hM2 := M_fl hM q1
      have eL := M_laysData hM2 hi
      have hM3 : q_M b sd (q_irow d (b + 37) (512 * i) 512 (fun p => wI (q_bit T i p))) T := M_keep hM2 (congrFun (q_irow_o (by omega)) 18) (fun y h1 h2 => q_irow_o (by omega))
      have hn2 : q_now (b + 39) (q_irow d (b + 37) (512 * i) 512 (fun p => wI (q_bit T i p))) (q_ls T i) := by
        unfold q_now
        rw [q_irow_o (by omega)]
        exact q2
      obtain ⟨d1, r1, r2, r3⟩ := M_wave (tb := q_db T i) (f := 1) hM3 (n53 b) (by omega) hn2 hi (by omega) (fun p hp => by
        rw [q_irow_i hp]
        have hb := q_bit_lt (T := T) (s := i) (p := (p : Int))
        show wI (q_bit T i p : Int) = wI (if decide (q_bit T i (p : Int) = 1) = true then 1 else 0)
        by_cases h : q_bit T i (p : Int) = 1
        · rw [if_pos (decide_eq_true h), h]; rfl
        · rw [if_neg (by rw [decide_eq_false h]; exact Bool.false_ne_true), show q_bit T i (p : Int) = 0 by omega]; rfl)
      have f1 : q_fl b d d1 := ⟨fun y h1 h2 => (r3.1 y h2).trans (q_irow_o h1), r3.2.trans rfl⟩
      obtain ⟨d', v1, v2, v3⟩ := ih (i + 1) k (by omega) (by omega) d1 (q_fl_t q1 f1) r2
      refine ⟨d', ?_, v2, v3⟩
      have ei : wI i + 1 = wI (i + 1 : Nat) := wI_add i 1
      obtain ⟨-, ⟨-, u2, -, -, u3, -⟩, -⟩ := hM2
      rw [X12_lays_b24.eq_2, m31, n31, m53, u2, ei, eL, show (0 : Int32) = wI 0 from rfl]
      simp (disch := omega) only [wI_lt, wI_le, wI_nat, Int.toNat_natCast, u3, b1s]
      rw [if_neg (by omega), if_neg (by omega), show X12_addsWave (A2 b) (q_irow d (b + 37) (512 * i) 512 (fun p => wI (q_bit T i p))) b (b + 39) (wI i) 1 = some d1 from r1]
      simp only [b1s]
      exact v1
  have hz : ∀ n i k : Nat, i + n = 1024 → n < k → X12_lays_b2 (A2 b) b k (wI i) (q_irow dt (b + 39) 0 i (fun _ => 0)) = X12_lays_b24 (A2 b) b q_FU 0 (q_irow dt (b + 39) 0 1024 (fun _ => 0)) := by
    intro n
    induction n with
    | zero =>
      intro i k z1 z2 
      obtain ⟨k, rfl⟩ : ∃ m, k = m + 1 := ⟨k - 1, by omega⟩
      have e : i = 1024 := by omega
      rw [X12_lays_b2.eq_2, show (1024 : Int32) = wI 1024 from rfl]
      simp (disch := omega) only [wI_le]
      rw [if_pos (by omega), e]
    | succ n ih =>
      intro i k z1 z2 
      obtain ⟨k, rfl⟩ : ∃ m, k = m + 1 := ⟨k - 1, by omega⟩
      have hi : i < 1024 := by omega
      have hih := ih (i + 1) k (by omega) (by omega)
      have ei : wI i + 1 = wI (i + 1 : Nat) := wI_add i 1
      have es := q_irow_s dt (b + 39) 0 i (fun _ => 0)
      rw [Nat.zero_add] at es
      have e0 : ∀ d : q_Dt, q_pI d (b + 39) i 0 = q_pI d (b + 39) i ((fun _ => (0 : Int32)) i) := fun _ => rfl
      rw [X12_lays_b2.eq_2, m53, n53, ei, show (1024 : Int32) = wI 1024 from rfl]
      simp (disch := omega) only [wI_le, wI_nat, Int.toNat_natCast, o1s]
      rw [if_neg (by omega), if_neg (show ¬ (wI (i : Int) < 0 ∨ 1024 ≤ i) by
        rw [show (0 : Int32) = wI 0 from rfl, wI_lt (by omega) (by omega) (by omega) (by omega)]
        omega), e0, es]
      exact hih
  have h0 := hz 1024 0 q_FU (by omega) (by unfold q_FU; omega)
  rw [q_irow_0] at h0
  have c1 : q_fl b dt (q_irow dt (b + 39) 0 1024 (fun _ => 0)) := ⟨fun y h1 h2 => q_irow_o h2, rfl⟩
  have c2 : q_now (b + 39) (q_irow dt (b + 39) 0 1024 (fun _ => 0)) (q_ls T 0) := by
    intro j hj
    have e1 := q_irow_i (dt := dt) (arr := b + 39) (off := 0) (n := 1024) (f := fun _ => 0) (show j < 1024 by omega)
    have e2 := q_irow_i (dt := dt) (arr := b + 39) (off := 0) (n := 1024) (f := fun _ => 0) (show 512 + j < 1024 by omega)
    rw [Nat.zero_add] at e1 e2
    rw [e1, e2]
    exact ⟨rfl, rfl⟩
  obtain ⟨d', v1, v2, v3⟩ := hl (Tns T) 0 q_FU (by omega) (by unfold q_FU; omega) _ c1 c2
  refine ⟨d', ?_, v2, v3⟩
  unfold X12_lays
  rw [show (0 : Int32) = wI ((0 : Nat) : Int) from rfl, h0, show (0 : Int32) = wI ((0 : Nat) : Int) from rfl]
  exact v1
theorem R_anew : q_c_anew q_Rel := by
  intro k b1 b2 dt1 dt2 hk hR
  obtain ⟨T, t, sd, g, hT, hM, ho, hs, hn, hg, hrt, hrh, hk2, hp⟩ := hR
  show ∃ r d1 d2, X11_anew (A1 b1) dt1 b1 = some (r, d1) ∧ X12_anew (A2 b2) dt2 b2 = some (r, d2) ∧ _
  obtain ⟨d1, p1, p2, p3⟩ := T_lay hT (So_in b1) (by omega)
  obtain ⟨d2, r1, r2, r3⟩ := M_lay hM
  refine ⟨1, d1, d2, ?_, ?_, R_sig ⟨hT, hM, ho, hs, hn, hg, hrt, hrh, hk2, hp⟩ (fun x hx => p3 x (by omega)) (fun x h1 h2 h3 h4 => r3.1 x (by omega) (by omega)) (fun j _ => congrFun (r3.1 b2 (by omega) (by omega)) j) (fun x _ => by rw [r3.2]) p2 r2 (q_lay_b hT.1 (by omega))⟩
  · unfold X11_anew
    simp only [o1s, ho.1, s0_1, p1, b1s]
  · unfold X12_anew
    simp only [r1, b1s]
