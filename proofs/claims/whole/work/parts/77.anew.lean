/-! level two: what comes in, laid anew -/
def q_jl (T : q_Tl) (j : Nat) : Nat → Nat → (Nat → Nat → Int) → (Nat → Nat → Int)
  | 0, _, g => g
  | n + 1, i, g => if i ≤ Tjt T j ∧ i < TN T then q_jl T j n (i + Tje T j) (q_inc (TN T) g 0 i (Tja T j)) else g
def q_db (T : q_Tl) (s : Nat) : Nat → Bool := fun p => decide (q_bit T s p = 1)
def q_ls (T : q_Tl) : Nat → (Nat → Nat → Int)
  | 0 => fun _ _ => 0
  | n + 1 => q_wv T n (q_db T n) 1 (q_ls T n) (TN T)
def q_lj (T : q_Tl) : Nat → (Nat → Nat → Int)
  | 0 => q_ls T (Tns T)
  | n + 1 => q_jl T n 600 (Tjf T n) (q_lj T n)
def q_lay (T : q_Tl) : Nat → Nat → Int := q_gn (q_lj T (Tnj T)) (wI (Tnd T)) (Tnm T) (TN T)
theorem T_jamL {b t o j : Nat} {dt : q_Dt} {T : q_Tl} {g : Nat → Nat → Int} (hT : q_TT b t dt T) (hs : q_So b o) (ho : o + 5 ≤ b + 77) (hg : q_sig o (TN T) dt g) (hj : j < Tnj T) : ∃ d, X8_layJam (A1 b) dt o t (wI j) = some d ∧ q_sig o (TN T) d (q_jl T j 600 (Tjf T j) g) ∧ q_fob o dt d := by
  have hN := hT.1.1
  have ht := hT.2.1
  have hJ := hT.1.2.2.2.2.2 j hj
  have hjj := hT.2.2.2.2.2.2.2 j hj
  have hl : ∀ n i k d (g : Nat → Nat → Int), TN T - i ≤ n → n < k → i < 2000 → q_fob o dt d → q_sig o (TN T) d g → ∃ d', X8_layJam_b44 (A1 b) o t (wI j) (wI (Tje T j)) (wI (if (TN T : Int) - 1 < Tjt T j then (TN T : Int) - 1 else Tjt T j)) k (wI i) d = some d' ∧ q_sig o (TN T) d' (q_jl T j n i g) ∧ q_fob o dt d' := by
    have hti : ∀ i : Nat, ((if (TN T : Int) - 1 < Tjt T j then (TN T : Int) - 1 else Tjt T j) < (i : Int)) ↔ ¬ (i ≤ Tjt T j ∧ i < TN T) := by
      intro i
      by_cases h : (TN T : Int) - 1 < Tjt T j
      · rw [if_pos h]; omega
      · rw [if_neg h]; omega
    have htb : -1 ≤ (if (TN T : Int) - 1 < Tjt T j then (TN T : Int) - 1 else Tjt T j) ∧ (if (TN T : Int) - 1 < Tjt T j then (TN T : Int) - 1 else Tjt T j) ≤ 511 := by
      by_cases h : (TN T : Int) - 1 < Tjt T j
      · rw [if_pos h]; omega
      · rw [if_neg h]; omega
    intro n
    induction n with
    | zero =>
      intro i k d g h1 h2 h3 q1 q2
      obtain ⟨k, rfl⟩ : ∃ m, k = m + 1 := ⟨k - 1, by omega⟩
      refine ⟨d, ?_, q2, q1⟩
      rw [X8_layJam_b44.eq_2]
      simp (disch := omega) only [wI_lt]
      rw [if_pos ((hti i).mpr (by omega))]
    | succ n ih =>
      intro i k d g h1 h2 h3 q1 q2
      obtain ⟨k, rfl⟩ : ∃ m, k = m + 1 := ⟨k - 1, by omega⟩
      have hT2 := T_fob hT q1 ho
      rw [X8_layJam_b44.eq_2]
      simp (disch := omega) only [wI_lt]
      by_cases hc : i ≤ Tjt T j ∧ i < TN T
      · rw [if_neg (fun q => (hti i).mp q hc)]
        obtain ⟨d1, r1, r2, r3⟩ := T_inc (v := (Tja T j : Int)) hs q2 (show TN T ≤ 512 by omega) (show i < 1000000 by omega) (show 0 < 2 by omega) (by omega) (by omega)
        obtain ⟨d', v1, v2, v3⟩ := ih (i + Tje T j) k d1 _ (by omega) (by omega) (by omega) (q_fob_t q1 r3) r2
        have e1 : q_jl T j (n + 1) i g = q_jl T j n (i + Tje T j) (q_inc (TN T) g 0 i (Tja T j)) := if_pos hc
        rw [e1]
        refine ⟨d', ?_, v2, v3⟩
        have ei : wI i + wI (Tje T j) = wI (i + Tje T j : Nat) := wI_add _ _
        rw [t1_5 ht, r_small (t1_9 ht) (t1_l5 ht) (by omega) (by omega), (hT2.2.2.2.2.2.2.2 j hj).2.2.1, wJ_wI, ei, show (0 : Int32) = wI ((0 : Nat) : Int) from rfl]
        simp only [b1s]
        rw [r1]
        simp only [b1s]
        exact v1
      · rw [if_pos ((hti i).mpr hc)]
        have e1 : q_jl T j (n + 1) i g = g := if_neg hc
        rw [e1]
        exact ⟨d, rfl, q2, q1⟩
  obtain ⟨d', v1, v2, v3⟩ := hl 600 (Tjf T j) q_FU dt g (by omega) (by unfold q_FU; omega) (by omega) q_fob_r hg
  refine ⟨d', ?_, v2, v3⟩
  unfold X8_layJam
  rw [t1_6 ht, t1_4 ht, t1_3 ht, r_small (t1_10 ht) (t1_l6 ht) (by omega) (by omega), r_small (t1_8 ht) (t1_l4 ht) (by omega) (by omega), r_small (t1_7 ht) (t1_l3 ht) (by omega) (by omega), hjj.1, hjj.2.1, hjj.2.2.2, wJ_wI, wJ_wI, wJ_wI, hg.1, show (1 : Int32) = wI 1 from rfl]
  simp (disch := omega) only [b1s, wI_le, wI_sub, m_min]
  rw [if_pos (by omega)]
  exact v1
theorem T_lay {b t o : Nat} {dt : q_Dt} {T : q_Tl} (hT : q_TT b t dt T) (hs : q_So b o) (ho : o + 5 ≤ b + 77) : ∃ d, X8_layAnew (A1 b) dt o (some t) = some d ∧ q_sig o (TN T) d (q_lay T) ∧ q_fob o dt d := by
  have hN := hT.1.1
  have ht := hT.2.1
  have hj : ∀ n i k : Nat, i + n = Tnj T → n < k → ∀ d, q_fob o dt d → q_sig o (TN T) d (q_lj T i) → ∃ d', X8_layAnew_b57 (A1 b) o t k (wI i) d = some d' ∧ q_sig o (TN T) d' (q_lay T) ∧ q_fob o dt d' := by
    intro n
    induction n with
    | zero =>
      intro i k z1 z2 
      obtain ⟨k, rfl⟩ : ∃ m, k = m + 1 := ⟨k - 1, by omega⟩
      have e : i = Tnj T := by omega
      intro d q1 q2
      have hT2 := T_fob hT q1 ho
      obtain ⟨-, -, ⟨-, -, -, -, u1, -, u2, u3⟩, -⟩ := hT2
      obtain ⟨d', v1, v2, v3⟩ := T_noise (s := wI (Tnd T)) hs q2 (show TN T ≤ 512 by omega) (show Tnm T ≤ 50 by omega)
      refine ⟨d', ?_, ?_, q_fob_t q1 v3⟩
      · rw [X8_layAnew_b57.eq_2, u1, u2, u3, v1]
        simp (disch := omega) only [wI_le, b1s]
        rw [if_pos (by omega)]
      · rw [e] at v2
        exact v2
    | succ n ih =>
      intro i k z1 z2 
      obtain ⟨k, rfl⟩ : ∃ m, k = m + 1 := ⟨k - 1, by omega⟩
      have hi : i < Tnj T := by omega
      intro d q1 q2
      have hT2 := T_fob hT q1 ho
      obtain ⟨d1, r1, r2, r3⟩ := T_jamL hT2 hs ho q2 hi
      obtain ⟨d', v1, v2, v3⟩ := ih (i + 1) k (by omega) (by omega) d1 (q_fob_t q1 r3) r2
      refine ⟨d', ?_, v2, v3⟩
      have ei : wI i + 1 = wI (i + 1 : Nat) := wI_add i 1
      obtain ⟨-, -, ⟨-, -, -, -, u1, -⟩, -⟩ := hT2
      rw [X8_layAnew_b57.eq_2, u1, r1, ei]
      simp (disch := omega) only [wI_le, b1s]
      rw [if_neg (by omega)]
      exact v1
  have hl : ∀ n i k : Nat, i + n = Tns T → n < k → ∀ d, q_fob o dt d → q_sig o (TN T) d (q_ls T i) → ∃ d', X8_layAnew_b24 (A1 b) o t k (wI i) d = some d' ∧ q_sig o (TN T) d' (q_lay T) ∧ q_fob o dt d' := by
    intro n
    induction n with
    | zero =>
      intro i k z1 z2 
      obtain ⟨k, rfl⟩ : ∃ m, k = m + 1 := ⟨k - 1, by omega⟩
      have e : i = Tns T := by omega
      intro d q1 q2
      have hT2 := T_fob hT q1 ho
      obtain ⟨-, -, ⟨-, -, u1, -⟩, -⟩ := hT2
      rw [e] at q2
      obtain ⟨d', v1, v2, v3⟩ := hj (Tnj T) 0 q_FU (by omega) (by unfold q_FU; omega) d q1 q2
      refine ⟨d', ?_, v2, v3⟩
      rw [X8_layAnew_b24.eq_2, u1, show (0 : Int32) = wI ((0 : Nat) : Int) from rfl, v1]
      simp (disch := omega) only [wI_le]
      rw [if_pos (by omega)]
    | succ n ih =>
      intro i k z1 z2 
      obtain ⟨k, rfl⟩ : ∃ m, k = m + 1 := ⟨k - 1, by omega⟩
      have hi : i < Tns T := by omega
      intro d q1 q2
      have hT2 := T_fob hT q1 ho
      obtain ⟨d1, r1, r2, r3⟩ := T_waveD (tb := q_db T i) (f := 1) hT2 hs ho q2 hi (by omega) (fun p _ => rfl)
      obtain ⟨d', v1, v2, v3⟩ := ih (i + 1) k (by omega) (by omega) d1 (q_fob_t q1 r3) r2
      refine ⟨d', ?_, v2, v3⟩
      have ei : wI i + 1 = wI (i + 1 : Nat) := wI_add i 1
      have hsa := T_senderAt hT2 hi
      obtain ⟨-, -, ⟨-, -, u1, -⟩, -⟩ := hT2
      rw [X8_layAnew_b24.eq_2, u1, hsa]
      simp (disch := omega) only [wI_le, b1s, m1s]
      rw [if_neg (by omega), show X8_layWave (A1 b) d o (t + 42 + 5 * i) none 1 = some d1 from r1]
      simp only [b1s, X8_layAnew_b49, ei]
      exact v1
  obtain ⟨s1, s2, s3, s4, s5, s6⟩ := hs
  have hd := hT.2.2.1.2.2.2.2.2.1
  have c1 : q_fob o dt (q_row (q_row (q_pI dt o 2 (wI (TN T))) (o + 2) 512 (fun _ => 0)) (o + 4) 512 (fun _ => 0)) := fun x hx => ⟨q_pI_o (by omega), by rw [q_row_o (by omega), q_row_o (by omega), q_pI_2], rfl⟩
  have c2 : q_sig o (TN T) (q_row (q_row (q_pI dt o 2 (wI (TN T))) (o + 2) 512 (fun _ => 0)) (o + 4) 512 (fun _ => 0)) (q_ls T 0) := by
    refine ⟨q_pI_s, fun j hj => ⟨?_, ?_⟩⟩
    · rw [q_row_o (by omega), q_row_i hj]
      rfl
    · rw [q_row_i hj]
      rfl
  obtain ⟨d', v1, v2, v3⟩ := hl (Tns T) 0 q_FU (by omega) (by unfold q_FU; omega) _ c1 c2
  refine ⟨d', ?_, v2, v3⟩
  unfold X8_layAnew
  simp only [m1s, o1s]
  rw [hd, s1, s2, r_clear s3 s5 (by omega)]
  simp only [b1s]
  rw [r_clear s4 s6 (by omega)]
  simp only [b1s]
  rw [show (0 : Int32) = wI ((0 : Nat) : Int) from rfl]
  exact v1
theorem q_jl_b {T : q_Tl} {j : Nat} (hja : 1 ≤ Tja T j ∧ Tja T j ≤ 99) (hje : 1 ≤ Tje T j) (n : Nat) : ∀ i (g : Nat → Nat → Int) a i', (i' < i → q_jl T j n i g a i' = g a i') ∧ (TN T ≤ i' → q_jl T j n i g a i' = g a i') ∧ g a i' ≤ q_jl T j n i g a i' ∧ q_jl T j n i g a i' ≤ g a i' + 99 := by
  induction n with
  | zero =>
    intro i g a i'
    show (i' < i → g a i' = g a i') ∧ (TN T ≤ i' → g a i' = g a i') ∧ g a i' ≤ g a i' ∧ g a i' ≤ g a i' + 99
    refine ⟨fun _ => rfl, fun _ => rfl, by omega, by omega⟩
  | succ n ih =>
    intro i g a i'
    by_cases hc : i ≤ Tjt T j ∧ i < TN T
    · have e1 : q_jl T j (n + 1) i g = q_jl T j n (i + Tje T j) (q_inc (TN T) g 0 i (Tja T j)) := if_pos hc
      rw [e1]
      have h := ih (i + Tje T j) (q_inc (TN T) g 0 i (Tja T j)) a i'
      by_cases e : a = 0 ∧ i' = i ∧ i < TN T
      · have e2 : q_inc (TN T) g 0 i (Tja T j) a i' = g a i' + Tja T j := if_pos e
        rw [e2] at h
        have h2 := h.1 (by omega)
        refine ⟨fun _ => by omega, fun _ => by omega, by omega, by omega⟩
      · have e2 : q_inc (TN T) g 0 i (Tja T j) a i' = g a i' := if_neg e
        rw [e2] at h
        exact ⟨fun q => h.1 (by omega), h.2.1, h.2.2⟩
    · have e1 : q_jl T j (n + 1) i g = g := if_neg hc
      rw [e1]
      refine ⟨fun _ => rfl, fun _ => rfl, by omega, by omega⟩
theorem q_ls_b {T : q_Tl} (hw : q_wf T) (n : Nat) (hn : n ≤ Tns T) : (∀ a j, -(693 * (n : Int)) ≤ q_ls T n a j ∧ q_ls T n a j ≤ 693 * (n : Int)) ∧ ∀ a j, TN T ≤ j → q_ls T n a j = 0 := by
  induction n with
  | zero => exact ⟨fun a j => ⟨by show -(693 * ((0 : Nat) : Int)) ≤ 0; omega, by show (0 : Int) ≤ 693 * ((0 : Nat) : Int); omega⟩, fun a j _ => rfl⟩
  | succ n ih =>
    have h := ih (by omega)
    refine ⟨fun a j => ?_, fun a j hj => ?_⟩
    · have h1 := h.1 a j
      have h2 := q_wv_b hw (a := a) (j := j) (n := TN T) (tb := q_db T n) (g := q_ls T n) (show n < Tns T by omega) (B := 1) (by omega) (f := 1) (by omega)
      show -(693 * ((n + 1 : Nat) : Int)) ≤ q_wv T n (q_db T n) 1 (q_ls T n) (TN T) a j ∧ q_wv T n (q_db T n) 1 (q_ls T n) (TN T) a j ≤ 693 * ((n + 1 : Nat) : Int)
      omega
    · show q_wv T n (q_db T n) 1 (q_ls T n) (TN T) a j = 0
      rw [q_wv_z (Nat.le_refl _) hj]
      exact h.2 a j hj
theorem q_lj_b {T : q_Tl} (hw : q_wf T) (n : Nat) (hn : n ≤ Tnj T) : (∀ a j, -4158 ≤ q_lj T n a j ∧ q_lj T n a j ≤ 4158 + 99 * (n : Int)) ∧ ∀ a j, TN T ≤ j → q_lj T n a j = 0 := by
  have hN := hw.1
  induction n with
  | zero =>
    have h := q_ls_b hw (Tns T) (Nat.le_refl _)
    refine ⟨fun a j => ?_, fun a j hj => h.2 a j hj⟩
    have h1 := h.1 a j
    show -4158 ≤ q_ls T (Tns T) a j ∧ q_ls T (Tns T) a j ≤ 4158 + 99 * ((0 : Nat) : Int)
    omega
  | succ n ih =>
    have h := ih (by omega)
    have hJ := hw.2.2.2.2.2 n (by omega)
    refine ⟨fun a j => ?_, fun a j hj => ?_⟩
    · have h1 := h.1 a j
      have h2 := (q_jl_b (T := T) (j := n) (by omega) (by omega) 600 (Tjf T n) (q_lj T n) a j).2.2
      show -4158 ≤ q_jl T n 600 (Tjf T n) (q_lj T n) a j ∧ q_jl T n 600 (Tjf T n) (q_lj T n) a j ≤ 4158 + 99 * ((n + 1 : Nat) : Int)
      omega
    · show q_jl T n 600 (Tjf T n) (q_lj T n) a j = 0
      rw [(q_jl_b (T := T) (j := n) (by omega) (by omega) 600 (Tjf T n) (q_lj T n) a j).2.1 hj]
      exact h.2 a j hj
theorem q_lay_b {T : q_Tl} (hw : q_wf T) {k : Nat} (hk : 1 ≤ k) : q_gb k T (q_lay T) := by
  have hN := hw.1
  have h := q_lj_b hw (Tnj T) (Nat.le_refl _)
  refine ⟨fun a j => ?_, fun a j hj => ?_⟩
  · have h1 := h.1 a j
    have h2 := q_nz_b (wI (Tnd T)) (Tnm T) a j
    show -(2000 + 6240 * (k : Int)) ≤ q_lj T (Tnj T) a j + (if j < TN T then q_nz (wI (Tnd T)) (Tnm T) a j else 0) ∧ q_lj T (Tnj T) a j + (if j < TN T then q_nz (wI (Tnd T)) (Tnm T) a j else 0) ≤ 2000 + 6240 * (k : Int)
    by_cases e : j < TN T
    · rw [if_pos e]; omega
    · rw [if_neg e]; omega
  · show q_lj T (Tnj T) a j + (if j < TN T then q_nz (wI (Tnd T)) (Tnm T) a j else 0) = 0
    rw [if_neg (by omega), h.2 a j hj]
    rfl
