/-! level two: squares, metrics -/
theorem T_e1 {b t : Nat} {dt d : q_Dt} {T : q_Tl} (h : q_TT b t dt T) (he : q_e1 b dt d) : q_TT b t d T := T_keep h (fun x h1 h2 => he x (by have := h.2.1; omega))
theorem S_e1 {b N : Nat} {dt d : q_Dt} {g : Nat → Nat → Int} (h : q_sig (b + 21) N dt g) (he : q_e1 b dt d) : q_sig (b + 21) N d g := by
  unfold q_sig
  rw [(he (b + 21) (by omega)).1, (he (b + 21 + 2) (by omega)).2.1, (he (b + 21 + 4) (by omega)).2.1]
  exact h
theorem M_e2 {b sd : Nat} {dt d : q_Dt} {T : q_Tl} (h : q_M b sd dt T) (he : q_e2 b dt d) : q_M b sd d T := M_keep h (he.2.1 18 (by omega)) (fun y h1 h2 => he.1 y (by omega) (by omega) (by omega) (by omega))
theorem N_e2 {b : Nat} {dt d : q_Dt} {g : Nat → Nat → Int} (h : q_now (b + 39) dt g) (he : q_e2 b dt d) : q_now (b + 39) d g := by
  unfold q_now
  rw [he.1 (b + 39) (by omega) (by omega) (by omega) (by omega)]
  exact h
theorem q_e1_row2 {b : Nat} {dt d : q_Dt} {n : Nat} {f h : Nat → Int64} (he : q_e1 b dt d) : q_e1 b dt (q_row2 d (b + 38) (b + 40) n f h) := fun x hx => ⟨(he x hx).1, (q_row2_o (by omega) (by omega)).trans (he x hx).2.1, (he x hx).2.2⟩
def q_e3 (b : Nat) (dt d : q_Dt) : Prop := q_e2 b dt d ∧ d.2 = dt.2
theorem q_e3_r {b : Nat} {dt : q_Dt} : q_e3 b dt dt := ⟨q_e2_r, rfl⟩
theorem q_e3_t {b : Nat} {dt d e : q_Dt} (h : q_e3 b dt d) (h' : q_e3 b d e) : q_e3 b dt e := ⟨q_e2_t h.1 h'.1, h'.2.trans h.2⟩
theorem q_e3_I {b : Nat} {dt d : q_Dt} {a k : Nat} {v : Int32} (h : q_e3 b dt d) (h1 : a = b + 37 ∨ a = b + 38 ∨ (b + 40 ≤ a ∧ a < b + 49) ∨ (a = b ∧ 60 ≤ k)) : q_e3 b dt (q_pI d a k v) := ⟨q_e2_I h.1 h1, h.2⟩
def q_sq2 (T : q_Tl) (g : Nat → Nat → Int) (c d t w : Nat) : Int := q_cs T g c d t w 0 * q_cs T g c d t w 0 + q_cs T g c d t w 1 * q_cs T g c d t w 1
def q_met (T : q_Tl) (g : Nat → Nat → Int) (c d t w m : Nat) : Int := q_sum (fun j => q_sq2 T g c d t (w + j * Tlen T c)) m
def q_mc (T : q_Tl) (g : Nat → Nat → Int) (c w m cell : Nat) : Int := q_met T g c (cell / 4) (cell % 4) w m
theorem T_sumOf {b tt c d t w a : Nat} {dt : q_Dt} {T : q_Tl} {g : Nat → Nat → Int} (hT : q_TT b tt dt T) (hg : q_sig (b + 21) (TN T) dt g) (hz : ∀ a i, TN T ≤ i → g a i = 0) (hc : c < Tnc T) (hd : d < Tlen T c) (ht : t < 4) (hw : w < 100000) (ha : a < 2) : ∃ d', X6_sumOf (A1 b) dt (b + 36) (some (tt + 12 + 3 * c)) (wI d) (wI t) (b + 21) (wI w) (wI a) = some (wJ (q_cs T g c d t w a), d') ∧ q_e1 b dt d' := by
  have hC := hT.1.2.1 c hc
  have hN := hT.1.1
  have hcd := T_code hT hc
  have e1 := T_turn hg (show TN T ≤ 512 by omega) hz (show Tlen T c ≤ 127 by omega) ht hw
  have he : q_e1 b dt (q_row2 dt (b + 38) (b + 40) (Tlen T c) (fun k => wJ (q_tn g t (w + k) 0)) (fun k => wJ (q_tn g t (w + k) 1))) := q_e1_row2 q_e1_r
  have hT2 := T_e1 hT he
  have c0 := T_corr (F := fun k => q_tn g t (w + k) 0) hT2 hc hd (s37_0 b) (l38 b) (fun k hk => q_row2_A hk)
  have c1 := T_corr (F := fun k => q_tn g t (w + k) 1) hT2 hc hd (s39_0 b) (l40 b) (fun k hk => q_row2_B (by omega) hk)
  refine ⟨_, ?_, he⟩
  unfold X6_sumOf
  simp only [m1s]
  rw [hcd.2.1, e1, s36_0, s36_1]
  simp only [b1s, X6_sumOf_b30]
  rw [(T_code hT2 hc).2.1]
  rcases (show a = 0 ∨ a = 1 by omega) with rfl | rfl
  · rw [if_pos (show wI ((0 : Nat) : Int) = 0 from rfl), c0]
    rfl
  · rw [if_neg (show ¬ wI ((1 : Nat) : Int) = 0 by decide), c1]
    rfl
theorem T_s2 {b tt c d t w : Nat} {dt : q_Dt} {T : q_Tl} {g : Nat → Nat → Int} (hT : q_TT b tt dt T) (hc : c < Tnc T) (hd : d < Tlen T c) (h0 : ∀ k, k < Tlen T c → dt.2.1 (b + 38) k = wJ (q_tn g t (w + k) 0)) (h1 : ∀ k, k < Tlen T c → dt.2.1 (b + 40) k = wJ (q_tn g t (w + k) 1)) : X6_squares (A1 b) dt (b + 36) (tt + 12 + 3 * c) (wI d) = some (wJ (q_sq2 T g c d t w)) := by
  have c0 := T_corr (F := fun k => q_tn g t (w + k) 0) hT hc hd (s37_0 b) (l38 b) h0
  have c1 := T_corr (F := fun k => q_tn g t (w + k) 1) hT hc hd (s39_0 b) (l40 b) h1
  unfold X6_squares
  rw [(T_code hT hc).2.1, s36_0, s36_1, c0, c1]
  simp only [b1s, wJ_mul, wJ_add]
  rfl
theorem T_metric {b tt c w m cell : Nat} {dt : q_Dt} {T : q_Tl} {g : Nat → Nat → Int} (hT : q_TT b tt dt T) (hg : q_sig (b + 21) (TN T) dt g) (hz : ∀ a i, TN T ≤ i → g a i = 0) (hc : c < Tnc T) (hcell : cell < 4 * Tlen T c) (hw : w < 10000) (hm : m < 100) : ∃ d', X6_metricOf (A1 b) dt (b + 36) (tt + 12 + 3 * c) (wI cell) (b + 21) (wI w) (wI m) = some (wJ (q_mc T g c w m cell), d') ∧ q_e1 b dt d' := by
  have hC := hT.1.2.1 c hc
  have hN := hT.1.1
  have hl : ∀ n i k : Nat, i + n = m → n < k → ∀ d, q_e1 b dt d → ∃ d', X6_metricOf_b6 (A1 b) (b + 36) (tt + 12 + 3 * c) (wI cell) (b + 21) (wI w) (wI m) k (wJ (q_sum (fun j => q_sq2 T g c (cell / 4) (cell % 4) (w + j * Tlen T c)) i)) (wI i) d = some (wJ (q_mc T g c w m cell), d') ∧ q_e1 b dt d' := by
    intro n
    induction n with
    | zero =>
      intro i k z1 z2 
      obtain ⟨k, rfl⟩ : ∃ m, k = m + 1 := ⟨k - 1, by omega⟩
      have e : i = m := by omega
      intro d q1
      refine ⟨d, ?_, q1⟩
      rw [X6_metricOf_b6.eq_2]
      simp (disch := omega) only [wI_le]
      rw [if_pos (by omega), e]
      rfl
    | succ n ih =>
      intro i k z1 z2 
      obtain ⟨k, rfl⟩ : ∃ m, k = m + 1 := ⟨k - 1, by omega⟩
      have hi : i < m := by omega
      intro d q1
      have hT2 := T_e1 hT q1
      have hcd := T_code hT2 hc
      have hml : i * Tlen T c ≤ 100 * 127 := Nat.mul_le_mul (by omega) (by omega)
      have e1 := T_turn (S_e1 hg q1) (show TN T ≤ 512 by omega) hz (show Tlen T c ≤ 127 by omega) (show cell % 4 < 4 by omega) (show w + i * Tlen T c < 100000 by omega)
      have he := q_e1_row2 (n := Tlen T c) (f := fun k => wJ (q_tn g (cell % 4) (w + i * Tlen T c + k) 0)) (h := fun k => wJ (q_tn g (cell % 4) (w + i * Tlen T c + k) 1)) q1
      have hs := T_s2 (d := cell / 4) (T_e1 hT he) hc (show cell / 4 < Tlen T c by omega) (fun k hk => q_row2_A hk) (fun k hk => q_row2_B (by omega) hk)
      obtain ⟨d', v1, v2⟩ := ih (i + 1) k (by omega) (by omega) _ he
      rw [q_sum_s] at v1
      refine ⟨d', ?_, v2⟩
      have ei : wI i + 1 = wI (i + 1 : Nat) := wI_add i 1
      rw [X6_metricOf_b6.eq_2, hcd.2.1, show (4 : Int32) = wI ((4 : Nat) : Int) from rfl, ei]
      simp (disch := omega) only [wI_le, wI_mod, wI_div, ← Int.natCast_emod, ← Int.natCast_ediv, wI_mul, wI_add, ← Int.natCast_mul, ← Int.natCast_add, e1, b1s, hs, wJ_add]
      rw [if_neg (by omega)]
      exact v1
  obtain ⟨d', v1, v2⟩ := hl m 0 q_FU (by omega) (by unfold q_FU; omega) dt q_e1_r
  refine ⟨d', ?_, v2⟩
  unfold X6_metricOf
  rw [show (0 : Int64) = wJ 0 from rfl, show (0 : Int32) = wI ((0 : Nat) : Int) from rfl]
  exact v1
theorem q_sum_cut {f : Nat → Int} {m n : Nat} (hmn : m ≤ n) (h : ∀ i, m ≤ i → i < n → f i = 0) : q_sum f n = q_sum f m := by
  induction n with
  | zero => rw [show m = 0 by omega]
  | succ n ih =>
    by_cases e : m = n + 1
    · rw [e]
    · rw [q_sum_s, h n (by omega) (by omega), Int.add_zero]
      exact ih (by omega) (fun i h1 h2 => h i h1 (by omega))
theorem q_tn_z {g : Nat → Nat → Int} {t i a : Nat} (h : ∀ a, g a i = 0) : q_tn g t i a = 0 := by
  unfold q_tn
  simp only [h, Int.neg_zero, ite_self]
theorem q_tn_b {g : Nat → Nat → Int} {t i a : Nat} {B : Int} (h : ∀ a, -B ≤ g a i ∧ g a i ≤ B) : -B ≤ q_tn g t i a ∧ q_tn g t i a ≤ B := by
  have h0 := h 0
  have h1 := h 1
  unfold q_tn
  by_cases e : a = 0
  · rw [if_pos e]
    by_cases e1 : t * (i / 8) % 4 = 0
    · rw [if_pos e1]; exact h0
    · rw [if_neg e1]
      by_cases e2 : t * (i / 8) % 4 = 1
      · rw [if_pos e2]; exact h1
      · rw [if_neg e2]
        by_cases e3 : t * (i / 8) % 4 = 2
        · rw [if_pos e3]; omega
        · rw [if_neg e3]; omega
  · rw [if_neg e]
    by_cases e1 : t * (i / 8) % 4 = 0
    · rw [if_pos e1]; exact h1
    · rw [if_neg e1]
      by_cases e2 : t * (i / 8) % 4 = 1
      · rw [if_pos e2]; omega
      · rw [if_neg e2]
        by_cases e3 : t * (i / 8) % 4 = 2
        · rw [if_pos e3]; omega
        · rw [if_neg e3]; exact h0
theorem q_cs_b {T : q_Tl} {g : Nat → Nat → Int} {c d t w a : Nat} (hw : q_wf T) (hc : c < Tnc T) (hg : ∀ a i, -3300000 ≤ g a i ∧ g a i ≤ 3300000) : -419100000 ≤ q_cs T g c d t w a ∧ q_cs T g c d t w a ≤ 419100000 := by
  have hC := hw.2.1 c hc
  have h := q_sum_abs (f := fun k => q_tn g t (w + k) a * Tch T c ((k + Tlen T c - d) % Tlen T c)) (B := 3300000) (Tlen T c) (fun k hk => by
    have h1 := q_tn_b (g := g) (t := t) (i := w + k) (a := a) (B := 3300000) (fun a => hg a _)
    have h2 := hC.2 _ (Nat.mod_lt (k + Tlen T c - d) (show 0 < Tlen T c by omega))
    have h3 := q_mulb (B := 3300000) (C := 1) (u := q_tn g t (w + k) a) (c := Tch T c ((k + Tlen T c - d) % Tlen T c)) (by omega) (by omega)
    omega)
  unfold q_cs
  omega
theorem M_sums {b sd c d t w : Nat} {dt : q_Dt} {T : q_Tl} {g : Nat → Nat → Int} (hM : q_M b sd dt T) (hg : q_now (b + 39) dt g) (hz : ∀ a i, TN T ≤ i → g a i = 0) (hc : c < Tnc T) (hd : d < Tlen T c) (ht : t < 4) (hw : w < 100000) : ∃ d', X12_sums (A2 b) dt b (wI c) (wI d) (wI t) (wI w) = some d' ∧ d'.1 b 60 = wI (q_cs T g c d t w 0) ∧ d'.1 b 61 = wI (q_cs T g c d t w 1) ∧ q_e3 b dt d' := by
  have hC := hM.1.2.1 c hc
  have hN := hM.1.1
  have hl : ∀ n i k : Nat, i + n = Tlen T c → n < k → ∀ dd, q_e3 b dt dd → dd.1 b 60 = wI (q_sum (fun k => q_tn g t (w + k) 0 * Tch T c ((k + Tlen T c - d) % Tlen T c)) i) → dd.1 b 61 = wI (q_sum (fun k => q_tn g t (w + k) 1 * Tch T c ((k + Tlen T c - d) % Tlen T c)) i) → ∃ d', X12_sums_b20 (A2 b) b (wI c) (wI d) (wI t) (wI w) (wI (Tlen T c)) k (wI i) dd = some d' ∧ d'.1 b 60 = wI (q_cs T g c d t w 0) ∧ d'.1 b 61 = wI (q_cs T g c d t w 1) ∧ q_e3 b dt d' := by
    intro n
    induction n with
    | zero =>
      intro i k z1 z2 
      obtain ⟨k, rfl⟩ : ∃ m, k = m + 1 := ⟨k - 1, by omega⟩
      have e : i = Tlen T c := by omega
      intro dd q1 q2 q3
      rw [e] at q2 q3
      refine ⟨dd, ?_, q2, q3, q1⟩
      rw [X12_sums_b20.eq_2]
      simp (disch := omega) only [wI_le]
      rw [if_pos (by omega)]
    | succ n ih =>
      intro i k z1 z2 
      obtain ⟨k, rfl⟩ : ∃ m, k = m + 1 := ⟨k - 1, by omega⟩
      have hi : i < Tlen T c := by omega
      intro dd q1 q2 q3
      have hM2 := M_e2 hM q1.1
      have hn2 := N_e2 hg q1.1
      have ei : wI i + 1 = wI (i + 1 : Nat) := wI_add i 1
      have ew : wI w + wI i = wI (w + i : Nat) := wI_add w i
      have e5 : 512 + wI w + wI i = wI (512 + (w + i) : Nat) := by
        rw [show (512 : Int32) = wI ((512 : Nat) : Int) from rfl, wI_add, wI_add, ← Int.natCast_add, ← Int.natCast_add, Nat.add_assoc]
      have kL : (wI (Tlen T c) ≤ wI i) = False := by
        rw [wI_le (by omega) (by omega) (by omega) (by omega)]
        exact eq_false (by omega)
      by_cases hwi : TN T ≤ w + i
      · have z : ∀ a, q_sum (fun k => q_tn g t (w + k) a * Tch T c ((k + Tlen T c - d) % Tlen T c)) i = q_cs T g c d t w a := by
          intro a
          unfold q_cs
          exact (q_sum_cut (show i ≤ Tlen T c by omega) (fun j h1 h2 => by rw [q_tn_z (fun a => hz a _ (by omega)), Int.zero_mul])).symm
        rw [z 0] at q2
        rw [z 1] at q3
        refine ⟨dd, ?_, q2, q3, q1⟩
        have kN : (wI (TN T) ≤ wI (w + i : Nat)) = True := by
          rw [wI_le (by omega) (by omega) (by omega) (by omega)]
          exact eq_true (by omega)
        rw [X12_sums_b20.eq_2]
        simp only [kL, ↓reduceIte, M_n hM2, b1s, ew, kN]
      · have kN : (wI (TN T) ≤ wI (w + i : Nat)) = False := by
          rw [wI_le (by omega) (by omega) (by omega) (by omega)]
          exact eq_false (by omega)
        have k1 : (wI (w + i : Nat) < 0 ∨ 1024 ≤ Int32.toNatClampNeg (wI (w + i : Nat))) = False := by
          rw [show (0 : Int32) = wI 0 from rfl, wI_lt (by omega) (by omega) (by omega) (by omega), wI_nat (by omega) (by omega), Int.toNat_natCast]
          exact eq_false (by omega)
        have k2 : (wI (512 + (w + i) : Nat) < 0 ∨ 1024 ≤ Int32.toNatClampNeg (wI (512 + (w + i) : Nat))) = False := by
          rw [show (0 : Int32) = wI 0 from rfl, wI_lt (by omega) (by omega) (by omega) (by omega), wI_nat (by omega) (by omega), Int.toNat_natCast]
          exact eq_false (by omega)
        have k3 : (wI (Tlen T c) = 0) = False := by
          rw [show (0 : Int32) = wI 0 from rfl, wI_eq (by omega) (by omega) (by omega) (by omega)]
          exact eq_false (by omega)
        have g0 : dd.1 (b + 39) (Int32.toNatClampNeg (wI (w + i : Nat))) = wI (g 0 (w + i)) := by
          rw [wI_nat (by omega) (by omega), Int.toNat_natCast]
          exact (hn2 (w + i) (by omega)).1
        have g1 : dd.1 (b + 39) (Int32.toNatClampNeg (wI (512 + (w + i) : Nat))) = wI (g 1 (w + i)) := by
          rw [wI_nat (by omega) (by omega), Int.toNat_natCast]
          exact (hn2 (w + i) (by omega)).2
        have ech : q_ir (wI i + wI (Tlen T c) - wI d) (wI (Tlen T c)) = wI ((i + Tlen T c - d) % Tlen T c : Nat) := by
          rw [wI_add, wI_sub, ← Int.natCast_add, ← Int.ofNat_sub (by omega), wI_mod (by omega) (by omega) (by omega) (by omega), ← Int.natCast_emod]
        have hch := M_chip hM2 hc (Nat.mod_lt (i + Tlen T c - d) (show 0 < Tlen T c by omega))
        have htu := n_turn (t := t) (i := w + i) ht (by omega)
        rw [X12_sums_b20.eq_2, ech, hch]
        rcases (show t * ((w + i) / 8) % 4 = 0 ∨ t * ((w + i) / 8) % 4 = 1 ∨ t * ((w + i) / 8) % 4 = 2 ∨ t * ((w + i) / 8) % 4 = 3 by omega) with h | h | h | h
        · have a0 : q_tn g t (w + i) 0 = g 0 (w + i) := by unfold q_tn; rw [if_pos rfl, if_pos h]
          have a1 : q_tn g t (w + i) 1 = g 1 (w + i) := by unfold q_tn; rw [if_neg (by omega), if_pos h]
          have t0 : (wI ((0 : Nat) : Int) = (0 : Int32)) = True := eq_true (by decide)
          obtain ⟨d', v1, v2⟩ := ih (i + 1) k (by omega) (by omega) (q_pI (q_pI dd b 60 (wI (q_sum (fun k => q_tn g t (w + k) 0 * Tch T c ((k + Tlen T c - d) % Tlen T c)) (i + 1)))) b 61 (wI (q_sum (fun k => q_tn g t (w + k) 1 * Tch T c ((k + Tlen T c - d) % Tlen T c)) (i + 1)))) (q_e3_I (q_e3_I q1 (by omega)) (by omega)) (by rw [q_pI_k (by omega), q_pI_s]) q_pI_s
          refine ⟨d', ?_, v2⟩
          have w0 : q_sum (fun k => q_tn g t (w + k) 0 * Tch T c ((k + Tlen T c - d) % Tlen T c)) i + Tch T c ((i + Tlen T c - d) % Tlen T c) * (g 0 (w + i)) = q_sum (fun k => q_tn g t (w + k) 0 * Tch T c ((k + Tlen T c - d) % Tlen T c)) (i + 1) := by
            rw [q_sum_s, a0, Int.mul_comm (g 0 (w + i))]
          have w1 : q_sum (fun k => q_tn g t (w + k) 1 * Tch T c ((k + Tlen T c - d) % Tlen T c)) i + Tch T c ((i + Tlen T c - d) % Tlen T c) * (g 1 (w + i)) = q_sum (fun k => q_tn g t (w + k) 1 * Tch T c ((k + Tlen T c - d) % Tlen T c)) (i + 1) := by
            rw [q_sum_s, a1, Int.mul_comm (g 1 (w + i))]
          rw [h] at htu
          have q61 : ∀ v : Int32, (q_pI dd b 60 v).1 b 61 = dd.1 b 61 := fun v => q_pI_k (by omega)
          simp only [kL, ↓reduceIte, M_n hM2, b1s, o1s, ew, kN, m53, n53, k1, e5, k2, k3, g0, g1, ech, hch, htu, t0, X12_sums_b138, X12_sums_b186, q2, q61, q3, wI_neg, wI_mul, wI_add, w0, w1]
          rw [show (wI (i : Nat) + 1 : Int32) = wI (i + 1 : Nat) from ei]
          exact v1
        · have a0 : q_tn g t (w + i) 0 = g 1 (w + i) := by unfold q_tn; rw [if_pos rfl, if_neg (by omega), if_pos h]
          have a1 : q_tn g t (w + i) 1 = - g 0 (w + i) := by unfold q_tn; rw [if_neg (by omega), if_neg (by omega), if_pos h]
          have t0 : (wI ((1 : Nat) : Int) = (0 : Int32)) = False := eq_false (by decide)
          have t1 : (wI ((1 : Nat) : Int) = (1 : Int32)) = True := eq_true (by decide)
          obtain ⟨d', v1, v2⟩ := ih (i + 1) k (by omega) (by omega) (q_pI (q_pI dd b 60 (wI (q_sum (fun k => q_tn g t (w + k) 0 * Tch T c ((k + Tlen T c - d) % Tlen T c)) (i + 1)))) b 61 (wI (q_sum (fun k => q_tn g t (w + k) 1 * Tch T c ((k + Tlen T c - d) % Tlen T c)) (i + 1)))) (q_e3_I (q_e3_I q1 (by omega)) (by omega)) (by rw [q_pI_k (by omega), q_pI_s]) q_pI_s
          refine ⟨d', ?_, v2⟩
          have w0 : q_sum (fun k => q_tn g t (w + k) 0 * Tch T c ((k + Tlen T c - d) % Tlen T c)) i + Tch T c ((i + Tlen T c - d) % Tlen T c) * (g 1 (w + i)) = q_sum (fun k => q_tn g t (w + k) 0 * Tch T c ((k + Tlen T c - d) % Tlen T c)) (i + 1) := by
            rw [q_sum_s, a0, Int.mul_comm (g 1 (w + i))]
          have w1 : q_sum (fun k => q_tn g t (w + k) 1 * Tch T c ((k + Tlen T c - d) % Tlen T c)) i + Tch T c ((i + Tlen T c - d) % Tlen T c) * (- g 0 (w + i)) = q_sum (fun k => q_tn g t (w + k) 1 * Tch T c ((k + Tlen T c - d) % Tlen T c)) (i + 1) := by
            rw [q_sum_s, a1, Int.mul_comm (- g 0 (w + i))]
          rw [h] at htu
          have q61 : ∀ v : Int32, (q_pI dd b 60 v).1 b 61 = dd.1 b 61 := fun v => q_pI_k (by omega)
          simp only [kL, ↓reduceIte, M_n hM2, b1s, o1s, ew, kN, m53, n53, k1, e5, k2, k3, g0, g1, ech, hch, htu, t0, t1, X12_sums_b138, X12_sums_b186, q2, q61, q3, wI_neg, wI_mul, wI_add, w0, w1]
          rw [show (wI (i : Nat) + 1 : Int32) = wI (i + 1 : Nat) from ei]
          exact v1
        · have a0 : q_tn g t (w + i) 0 = - g 0 (w + i) := by unfold q_tn; rw [if_pos rfl, if_neg (by omega), if_neg (by omega), if_pos h]
          have a1 : q_tn g t (w + i) 1 = - g 1 (w + i) := by unfold q_tn; rw [if_neg (by omega), if_neg (by omega), if_neg (by omega), if_pos h]
          have t0 : (wI ((2 : Nat) : Int) = (0 : Int32)) = False := eq_false (by decide)
          have t1 : (wI ((2 : Nat) : Int) = (1 : Int32)) = False := eq_false (by decide)
          have t2 : (wI ((2 : Nat) : Int) = (2 : Int32)) = True := eq_true (by decide)
          obtain ⟨d', v1, v2⟩ := ih (i + 1) k (by omega) (by omega) (q_pI (q_pI dd b 60 (wI (q_sum (fun k => q_tn g t (w + k) 0 * Tch T c ((k + Tlen T c - d) % Tlen T c)) (i + 1)))) b 61 (wI (q_sum (fun k => q_tn g t (w + k) 1 * Tch T c ((k + Tlen T c - d) % Tlen T c)) (i + 1)))) (q_e3_I (q_e3_I q1 (by omega)) (by omega)) (by rw [q_pI_k (by omega), q_pI_s]) q_pI_s
          refine ⟨d', ?_, v2⟩
          have w0 : q_sum (fun k => q_tn g t (w + k) 0 * Tch T c ((k + Tlen T c - d) % Tlen T c)) i + Tch T c ((i + Tlen T c - d) % Tlen T c) * (- g 0 (w + i)) = q_sum (fun k => q_tn g t (w + k) 0 * Tch T c ((k + Tlen T c - d) % Tlen T c)) (i + 1) := by
            rw [q_sum_s, a0, Int.mul_comm (- g 0 (w + i))]
          have w1 : q_sum (fun k => q_tn g t (w + k) 1 * Tch T c ((k + Tlen T c - d) % Tlen T c)) i + Tch T c ((i + Tlen T c - d) % Tlen T c) * (- g 1 (w + i)) = q_sum (fun k => q_tn g t (w + k) 1 * Tch T c ((k + Tlen T c - d) % Tlen T c)) (i + 1) := by
            rw [q_sum_s, a1, Int.mul_comm (- g 1 (w + i))]
          rw [h] at htu
          have q61 : ∀ v : Int32, (q_pI dd b 60 v).1 b 61 = dd.1 b 61 := fun v => q_pI_k (by omega)
          simp only [kL, ↓reduceIte, M_n hM2, b1s, o1s, ew, kN, m53, n53, k1, e5, k2, k3, g0, g1, ech, hch, htu, t0, t1, t2, X12_sums_b138, X12_sums_b186, q2, q61, q3, wI_neg, wI_mul, wI_add, w0, w1]
          rw [show (wI (i : Nat) + 1 : Int32) = wI (i + 1 : Nat) from ei]
          exact v1
        · have a0 : q_tn g t (w + i) 0 = - g 1 (w + i) := by unfold q_tn; rw [if_pos rfl, if_neg (by omega), if_neg (by omega), if_neg (by omega)]
          have a1 : q_tn g t (w + i) 1 = g 0 (w + i) := by unfold q_tn; rw [if_neg (by omega), if_neg (by omega), if_neg (by omega), if_neg (by omega)]
          have t0 : (wI ((3 : Nat) : Int) = (0 : Int32)) = False := eq_false (by decide)
          have t1 : (wI ((3 : Nat) : Int) = (1 : Int32)) = False := eq_false (by decide)
          have t2 : (wI ((3 : Nat) : Int) = (2 : Int32)) = False := eq_false (by decide)
          obtain ⟨d', v1, v2⟩ := ih (i + 1) k (by omega) (by omega) (q_pI (q_pI dd b 60 (wI (q_sum (fun k => q_tn g t (w + k) 0 * Tch T c ((k + Tlen T c - d) % Tlen T c)) (i + 1)))) b 61 (wI (q_sum (fun k => q_tn g t (w + k) 1 * Tch T c ((k + Tlen T c - d) % Tlen T c)) (i + 1)))) (q_e3_I (q_e3_I q1 (by omega)) (by omega)) (by rw [q_pI_k (by omega), q_pI_s]) q_pI_s
          refine ⟨d', ?_, v2⟩
          have w0 : q_sum (fun k => q_tn g t (w + k) 0 * Tch T c ((k + Tlen T c - d) % Tlen T c)) i + Tch T c ((i + Tlen T c - d) % Tlen T c) * (- g 1 (w + i)) = q_sum (fun k => q_tn g t (w + k) 0 * Tch T c ((k + Tlen T c - d) % Tlen T c)) (i + 1) := by
            rw [q_sum_s, a0, Int.mul_comm (- g 1 (w + i))]
          have w1 : q_sum (fun k => q_tn g t (w + k) 1 * Tch T c ((k + Tlen T c - d) % Tlen T c)) i + Tch T c ((i + Tlen T c - d) % Tlen T c) * (g 0 (w + i)) = q_sum (fun k => q_tn g t (w + k) 1 * Tch T c ((k + Tlen T c - d) % Tlen T c)) (i + 1) := by
            rw [q_sum_s, a1, Int.mul_comm (g 0 (w + i))]
          rw [h] at htu
          have q61 : ∀ v : Int32, (q_pI dd b 60 v).1 b 61 = dd.1 b 61 := fun v => q_pI_k (by omega)
          simp only [kL, ↓reduceIte, M_n hM2, b1s, o1s, ew, kN, m53, n53, k1, e5, k2, k3, g0, g1, ech, hch, htu, t0, t1, t2, X12_sums_b138, X12_sums_b186, q2, q61, q3, wI_neg, wI_mul, wI_add, w0, w1]
          rw [show (wI (i : Nat) + 1 : Int32) = wI (i + 1 : Nat) from ei]
          exact v1
  obtain ⟨d', v1, v2, v3, v4⟩ := hl (Tlen T c) 0 q_FU (by omega) (by unfold q_FU; omega) (q_pI (q_pI dt b 60 0) b 61 0) (q_e3_I (q_e3_I q_e3_r (by omega)) (by omega)) (by rw [q_pI_k (by omega), q_pI_s]; rfl) (by rw [q_pI_s]; rfl)
  refine ⟨d', ?_, v2, v3, v4⟩
  have hM3 : q_M b sd (q_pI (q_pI dt b 60 0) b 61 0) T := M_e2 hM (q_e2_I (q_e2_I q_e2_r (by omega)) (by omega))
  unfold X12_sums
  simp only [o1s, M_long hM3 hc, b1s]
  rw [show X12_sums_b20 (A2 b) b (wI c) (wI d) (wI t) (wI w) (wI (Tlen T c)) q_FU 0 = X12_sums_b20 (A2 b) b (wI c) (wI d) (wI t) (wI w) (wI (Tlen T c)) q_FU (wI ((0 : Nat) : Int)) from by rw [show (0 : Int32) = wI ((0 : Nat) : Int) from rfl]]
  exact v1
theorem M_metric {b sd c w m cell : Nat} {dt : q_Dt} {T : q_Tl} {g : Nat → Nat → Int} (hM : q_M b sd dt T) (hg : q_now (b + 39) dt g) (hz : ∀ a i, TN T ≤ i → g a i = 0) (hb : ∀ a i, -3300000 ≤ g a i ∧ g a i ≤ 3300000) (hc : c < Tnc T) (hcell : cell < 4 * Tlen T c) (hw : w < 10000) (hm : m < 100) : ∃ d', X12_metricOf (A2 b) dt b (wI c) (wI cell) (wI w) (wI m) = some (wJ (q_mc T g c w m cell), d') ∧ q_e3 b dt d' := by
  have hC := hM.1.2.1 c hc
  have hN := hM.1.1
  have hl : ∀ n i k : Nat, i + n = m → n < k → ∀ d, q_e3 b dt d → ∃ d', X12_metricOf_b6 (A2 b) b (wI c) (wI cell) (wI w) (wI m) k (wJ (q_sum (fun j => q_sq2 T g c (cell / 4) (cell % 4) (w + j * Tlen T c)) i)) (wI i) d = some (wJ (q_mc T g c w m cell), d') ∧ q_e3 b dt d' := by
    intro n
    induction n with
    | zero =>
      intro i k z1 z2 
      obtain ⟨k, rfl⟩ : ∃ m, k = m + 1 := ⟨k - 1, by omega⟩
      have e : i = m := by omega
      intro d q1
      refine ⟨d, ?_, q1⟩
      rw [X12_metricOf_b6.eq_2]
      simp (disch := omega) only [wI_le]
      rw [if_pos (by omega), e]
      rfl
    | succ n ih =>
      intro i k z1 z2 
      obtain ⟨k, rfl⟩ : ∃ m, k = m + 1 := ⟨k - 1, by omega⟩
      have hi : i < m := by omega
      intro d q1
      have hM2 := M_e2 hM q1.1
      have hml : i * Tlen T c ≤ 100 * 127 := Nat.mul_le_mul (by omega) (by omega)
      have b0 := q_cs_b (d := cell / 4) (t := cell % 4) (w := w + i * Tlen T c) (a := 0) hM.1 hc hb
      have b1 := q_cs_b (d := cell / 4) (t := cell % 4) (w := w + i * Tlen T c) (a := 1) hM.1 hc hb
      obtain ⟨d1, r1, r2, r3, r4⟩ := M_sums hM2 (N_e2 hg q1.1) hz hc (show cell / 4 < Tlen T c by omega) (show cell % 4 < 4 by omega) (show w + i * Tlen T c < 100000 by omega)
      obtain ⟨d', v1, v2⟩ := ih (i + 1) k (by omega) (by omega) d1 (q_e3_t q1 r4)
      rw [q_sum_s] at v1
      refine ⟨d', ?_, v2⟩
      have ei : wI i + 1 = wI (i + 1 : Nat) := wI_add i 1
      rw [X12_metricOf_b6.eq_2, M_long hM2 hc, show (4 : Int32) = wI ((4 : Nat) : Int) from rfl, ei]
      simp (disch := omega) only [wI_le, b1s, wI_mod, wI_div, ← Int.natCast_emod, ← Int.natCast_ediv, wI_mul, wI_add, ← Int.natCast_mul, ← Int.natCast_add, r1, r2, r3, wI_wJ, X12_square, wJ_mul, wJ_add]
      rw [if_neg (by omega)]
      exact v1
  obtain ⟨d', v1, v2⟩ := hl m 0 q_FU (by omega) (by unfold q_FU; omega) dt q_e3_r
  refine ⟨d', ?_, v2⟩
  unfold X12_metricOf
  rw [show (0 : Int64) = wJ 0 from rfl, show (0 : Int32) = wI ((0 : Nat) : Int) from rfl]
  exact v1
