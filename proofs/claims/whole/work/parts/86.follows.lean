/-! level two: follows -/
theorem M_loop1 {b sd c t w d : Nat} {dt : q_Dt} {T : q_Tl} {g : Nat → Nat → Int} (hM : q_M b sd dt T) (hg : q_now (b + 39) dt g) (hz : ∀ a i, TN T ≤ i → g a i = 0) (hb : ∀ a i, -3300000 ≤ g a i ∧ g a i ≤ 3300000) (hc : c < Tnc T) (ht : t < 4) (hd : d < Tlen T c) (hw : w < 9000) : ∃ d', X12_loopOf (A2 b) dt b (wI c) (wI d) (wI t) (wI w) 1 = some (wI (q_lp T g c t w d), d') ∧ q_e2 b dt d' := by
  obtain ⟨k, hk⟩ : ∃ k, q_FU = k + 2 := ⟨q_FU - 2, by unfold q_FU; omega⟩
  obtain ⟨d', p1, p2⟩ := M_step hM hg hz hb hc ht hd hw 1 0 (by omega) (by omega) (k + 1)
  refine ⟨d', ?_, p2⟩
  unfold X12_loopOf
  rw [M_long hM hc, b1s, hk, show (0 : Int32) = wI ((0 : Nat) : Int) from rfl, show (1 : Int32) = wI ((1 : Nat) : Int) from rfl, p1, X12_loopOf_b17.eq_2]
  simp (disch := omega) only [wI_le]
  rw [if_pos (by omega)]
def q_flw (T : q_Tl) (g : Nat → Nat → Int) (s : Nat) : Nat → Nat → Nat → Int
  | 0, _, _ => 1
  | n + 1, i, d => if q_ap (q_lp T g (Tsc T s) (Tst T s) (i * Tlen T (Tsc T s)) d) (q_dl T s ((i + 1) * Tlen T (Tsc T s))) (Tlen T (Tsc T s)) ≤ 1 then q_flw T g s n (i + 1) (q_lp T g (Tsc T s) (Tst T s) (i * Tlen T (Tsc T s)) d) else 0
theorem R_follows : q_c_follows q_Rel := by
  intro k b1 b2 dt1 dt2 a0 a1 hk hR
  obtain ⟨x, rfl, hx1, hx2⟩ := q_arg a0
  obtain ⟨m, rfl, hm1, hm2⟩ := q_arg a1
  have hR' := hR
  obtain ⟨T, tt, sd, g, hT, hM, ho, hs, hn, hg, -⟩ := hR'
  have hb := q_gb_i hg (by omega)
  have hN := hT.1.1
  have e2 := M_isSender hM hx1 hx2
  have z0 : (wI m < 0) = (m < 0) := by
    rw [show (0 : Int32) = wI 0 from rfl, wI_lt hm1 hm2 (by omega) (by omega)]
  have z40 : (wI m ≤ 40) = (m ≤ 40) := by
    rw [show (40 : Int32) = wI 40 from rfl, wI_le hm1 hm2 (by omega) (by omega)]
  have n10 : ¬ (1 : Int32) = 0 := by decide
  have i3 : X12_in (wI m) 0 40 = some (if 0 ≤ m ∧ m ≤ 40 then 1 else 0) := M_in (a := 0) (b := 40) hm1 hm2 (by omega) (by omega) (by omega) (by omega)
  show ∃ r d1 d2, X11_follows (A1 b1) dt1 b1 (wI x) (wI m) = some (r, d1) ∧ X12_follows (A2 b2) dt2 b2 (wI x) (wI m) = some (r, d2) ∧ _
  by_cases hc : 0 ≤ x ∧ x < Tns T
  · rw [if_pos hc] at e2
    obtain ⟨s, rfl⟩ := Int.eq_ofNat_of_zero_le hc.1
    have hsn : s < Tns T := by omega
    have hS := hT.1.2.2.2.1 s hsn
    have hC := (hM.1.2.1 _ hS.1).1
    have hsS := hT.2.2.2.2.2.1 s hsn
    by_cases hm : 0 ≤ m ∧ m ≤ 40
    · rw [if_pos hm] at i3
      obtain ⟨m, rfl⟩ := Int.eq_ofNat_of_zero_le hm.1
      have hA : ∀ n i k : Nat, i + n = m → n < k → ∀ (dd : Nat) D, dd < Tlen T (Tsc T s) → q_e1 b1 dt1 D → ∃ D', X11_follows_b49 (A1 b1) b1 (wI m) (some (tt + 42 + 5 * s)) (some (tt + 12 + 3 * Tsc T s)) k (wI dd) (wI i) D = some (wI (q_flw T g s n i dd), D') ∧ q_e1 b1 dt1 D' := by
        intro n
        induction n with
        | zero =>
          intro i k z1 z2 
          obtain ⟨k, rfl⟩ : ∃ m, k = m + 1 := ⟨k - 1, by omega⟩
          have e : i = m := by omega
          intro dd D hdd q1
          refine ⟨D, ?_, q1⟩
          rw [X11_follows_b49.eq_2]
          simp (disch := omega) only [wI_le]
          rw [if_pos (by omega)]
          rfl
        | succ n ih =>
          intro i k z1 z2 
          obtain ⟨k, rfl⟩ : ∃ m, k = m + 1 := ⟨k - 1, by omega⟩
          have hi : i < m := by omega
          intro dd D hdd q1
          have hT2 := T_e1 hT q1
          have hcd := T_code hT2 hS.1
          have hsS2 := hT2.2.2.2.2.2.1 s hsn
          have hml : i * Tlen T (Tsc T s) ≤ 40 * 127 := Nat.mul_le_mul (by omega) (by omega)
          have hml2 : (i + 1) * Tlen T (Tsc T s) ≤ 41 * 127 := Nat.mul_le_mul (by omega) (by omega)
          obtain ⟨D1, p1, p2⟩ := T_step hT2 (S_e1 hs q1) hg.2 hb hS.1 (show Tst T s < 4 by omega) hdd (show i * Tlen T (Tsc T s) < 100000 by omega)
          have hT3 := T_e1 hT2 p2
          have hcd3 := T_code hT3 hS.1
          have hlp := q_lp_lt (T := T) (g := g) (t := Tst T s) (w := i * Tlen T (Tsc T s)) hdd
          have hdl := T_delay hT3 hsn (i := (i + 1) * Tlen T (Tsc T s)) (by omega)
          have hdb := q_dl_b hT.1 (i := (i + 1) * Tlen T (Tsc T s)) hsn (by omega)
          have hap := q_ap_b (a := (q_lp T g (Tsc T s) (Tst T s) (i * Tlen T (Tsc T s)) dd : Nat)) (d := (q_dl T s ((i + 1) * Tlen T (Tsc T s)) : Nat)) (show 0 < Tlen T (Tsc T s) by omega)
          have ei : wI i + 1 = wI (i + 1 : Nat) := wI_add i 1
          have e5 : wI i * wI (Tlen T (Tsc T s)) = wI (i * Tlen T (Tsc T s) : Nat) := wI_mul _ _
          have e6 : wI (i + 1 : Nat) * wI (Tlen T (Tsc T s)) = wI ((i + 1) * Tlen T (Tsc T s) : Nat) := wI_mul _ _
          have e49 : X11_follows_b49 (A1 b1) b1 (wI m) (some (tt + 42 + 5 * s)) (some (tt + 12 + 3 * Tsc T s)) (k + 1) (wI dd) (wI i) D = if q_ap (q_lp T g (Tsc T s) (Tst T s) (i * Tlen T (Tsc T s)) dd) (q_dl T s ((i + 1) * Tlen T (Tsc T s))) (Tlen T (Tsc T s)) ≤ 1 then X11_follows_b49 (A1 b1) b1 (wI m) (some (tt + 42 + 5 * s)) (some (tt + 12 + 3 * Tsc T s)) k (wI (q_lp T g (Tsc T s) (Tst T s) (i * Tlen T (Tsc T s)) dd : Nat)) (wI (i + 1 : Nat)) D1 else some (0, D1) := by
            rw [X11_follows_b49.eq_2, m1s, m1s, hcd.2.1, hsS2.2.2.2.1, e5, s0_4, s0_1, p1, b2s, ei, hcd3.2.1, e6, hdl, b1s, m_ap (by omega) (by omega) (by omega) (by omega) (by omega) (by omega), b1s, show (1 : Int32) = wI 1 from rfl]
            simp (disch := omega) only [wI_le]
            rw [if_neg (show ¬ (m : Int) ≤ i by omega)]
          rw [e49]
          show ∃ D', _ = some (wI (if q_ap (q_lp T g (Tsc T s) (Tst T s) (i * Tlen T (Tsc T s)) dd) (q_dl T s ((i + 1) * Tlen T (Tsc T s))) (Tlen T (Tsc T s)) ≤ 1 then q_flw T g s n (i + 1) (q_lp T g (Tsc T s) (Tst T s) (i * Tlen T (Tsc T s)) dd) else 0), D') ∧ q_e1 b1 dt1 D'
          by_cases h1 : q_ap (q_lp T g (Tsc T s) (Tst T s) (i * Tlen T (Tsc T s)) dd) (q_dl T s ((i + 1) * Tlen T (Tsc T s))) (Tlen T (Tsc T s)) ≤ 1
          · rw [if_pos h1, if_pos h1]
            exact ih (i + 1) k (by omega) (by omega) _ D1 hlp (q_e1_t q1 p2)
          · rw [if_neg h1, if_neg h1]
            exact ⟨D1, rfl, q_e1_t q1 p2⟩
      have hB : ∀ n i k : Nat, i + n = m → n < k → ∀ (dd : Nat) D, dd < Tlen T (Tsc T s) → q_e2 b2 dt2 D → ∃ D', X12_follows_b52 (A2 b2) b2 (wI s) (wI m) (wI (Tsc T s)) (wI (Tlen T (Tsc T s))) k (wI dd) (wI (i + 1 : Nat)) D = some (wI (q_flw T g s n i dd), D') ∧ q_e2 b2 dt2 D' := by
        intro n
        induction n with
        | zero =>
          intro i k z1 z2 
          obtain ⟨k, rfl⟩ : ∃ m, k = m + 1 := ⟨k - 1, by omega⟩
          have e : i = m := by omega
          intro dd D hdd q1
          refine ⟨D, ?_, q1⟩
          rw [X12_follows_b52.eq_2]
          simp (disch := omega) only [wI_lt]
          rw [if_pos (by omega)]
          rfl
        | succ n ih =>
          intro i k z1 z2 
          obtain ⟨k, rfl⟩ : ∃ m, k = m + 1 := ⟨k - 1, by omega⟩
          have hi : i < m := by omega
          intro dd D hdd q1
          have hM2 := M_e2 hM q1
          have hml : i * Tlen T (Tsc T s) ≤ 40 * 127 := Nat.mul_le_mul (by omega) (by omega)
          have hml2 : (i + 1) * Tlen T (Tsc T s) ≤ 41 * 127 := Nat.mul_le_mul (by omega) (by omega)
          obtain ⟨D1, p1, p2⟩ := M_loop1 hM2 (N_e2 hn q1) hg.2 hb hS.1 (show Tst T s < 4 by omega) hdd (show i * Tlen T (Tsc T s) < 9000 by omega)
          have hM3 := M_e2 hM2 p2
          have hlp := q_lp_lt (T := T) (g := g) (t := Tst T s) (w := i * Tlen T (Tsc T s)) hdd
          have hdl := M_delay hM3 hsn (i := (i + 1) * Tlen T (Tsc T s)) (by omega)
          have hdb := q_dl_b hT.1 (i := (i + 1) * Tlen T (Tsc T s)) hsn (by omega)
          have hap := q_ap_b (a := (q_lp T g (Tsc T s) (Tst T s) (i * Tlen T (Tsc T s)) dd : Nat)) (d := (q_dl T s ((i + 1) * Tlen T (Tsc T s)) : Nat)) (show 0 < Tlen T (Tsc T s) by omega)
          obtain ⟨-, ⟨u1, u2, -⟩, -, -, u3, -⟩ := hM2
          have u4 := (u3 s hsn).2.2.2.1
          have ei : wI (i + 1 : Nat) + 1 = wI (i + 1 + 1 : Nat) := wI_add _ 1
          have e6 : 6 * wI sd + wI s = wI (6 * sd + s : Nat) := by
            rw [show (6 : Int32) = wI (6 : Nat) from rfl, wI_mul, wI_add]
            rfl
          have e5 : (wI (i + 1 : Nat) - 1) * wI (Tlen T (Tsc T s)) = wI (i * Tlen T (Tsc T s) : Nat) := by
            rw [show (1 : Int32) = wI 1 from rfl, wI_sub, show ((i + 1 : Nat) : Int) - 1 = i by omega, wI_mul]
            rfl
          have e7 : wI (i + 1 : Nat) * wI (Tlen T (Tsc T s)) = wI ((i + 1) * Tlen T (Tsc T s) : Nat) := wI_mul _ _
          have kL : (wI m < wI (i + 1 : Nat)) = False := by
            rw [wI_lt (by omega) (by omega) (by omega) (by omega)]
            exact eq_false (by omega)
          have kG : (wI (6 * sd + s : Nat) < 0 ∨ 12 ≤ Int32.toNatClampNeg (wI (6 * sd + s : Nat))) = False := by
            rw [show (0 : Int32) = wI 0 from rfl, wI_lt (by omega) (by omega) (by omega) (by omega), wI_nat (by omega) (by omega), Int.toNat_natCast]
            exact eq_false (by omega)
          have vG : D.1 (b2 + 22) (Int32.toNatClampNeg (wI (6 * sd + s : Nat))) = wI (Tst T s) := by
            rw [wI_nat (by omega) (by omega), Int.toNat_natCast]
            exact u4
          have e49 : X12_follows_b52 (A2 b2) b2 (wI s) (wI m) (wI (Tsc T s)) (wI (Tlen T (Tsc T s))) (k + 1) (wI dd) (wI (i + 1 : Nat)) D = if q_ap (q_lp T g (Tsc T s) (Tst T s) (i * Tlen T (Tsc T s)) dd) (q_dl T s ((i + 1) * Tlen T (Tsc T s))) (Tlen T (Tsc T s)) ≤ 1 then X12_follows_b52 (A2 b2) b2 (wI s) (wI m) (wI (Tsc T s)) (wI (Tlen T (Tsc T s))) k (wI (q_lp T g (Tsc T s) (Tst T s) (i * Tlen T (Tsc T s)) dd : Nat)) (wI (i + 1 + 1 : Nat)) D1 else some (0, D1) := by
            rw [X12_follows_b52.eq_2, m35, n35, u2, e6, e5, vG, p1, ei, e7]
            simp only [kL, kG, ↓reduceIte, b2s]
            rw [hdl, b1s, n_ap (by omega) (by omega) (by omega) (by omega), b1s, show (1 : Int32) = wI 1 from rfl]
            simp (disch := omega) only [wI_le]
          rw [e49]
          show ∃ D', _ = some (wI (if q_ap (q_lp T g (Tsc T s) (Tst T s) (i * Tlen T (Tsc T s)) dd) (q_dl T s ((i + 1) * Tlen T (Tsc T s))) (Tlen T (Tsc T s)) ≤ 1 then q_flw T g s n (i + 1) (q_lp T g (Tsc T s) (Tst T s) (i * Tlen T (Tsc T s)) dd) else 0), D') ∧ q_e2 b2 dt2 D'
          by_cases h1 : q_ap (q_lp T g (Tsc T s) (Tst T s) (i * Tlen T (Tsc T s)) dd) (q_dl T s ((i + 1) * Tlen T (Tsc T s))) (Tlen T (Tsc T s)) ≤ 1
          · rw [if_pos h1, if_pos h1]
            exact ih (i + 1) k (by omega) (by omega) _ D1 hlp (q_e2_t q1 p2)
          · rw [if_neg h1, if_neg h1]
            exact ⟨D1, rfl, q_e2_t q1 p2⟩
      obtain ⟨D1, p1, p2⟩ := hA m 0 q_FU (by omega) (by unfold q_FU; omega) (Tsd T s) dt1 (by omega) q_e1_r
      obtain ⟨D2, r1, r2⟩ := hB m 0 q_FU (by omega) (by unfold q_FU; omega) (Tsd T s) dt2 (by omega) q_e2_r
      refine ⟨wI (q_flw T g s m 0 (Tsd T s)), D1, D2, ?_, ?_, R_keep hR p2 r2⟩
      · unfold X11_follows X11_follows_b21
        rw [ho.1, o1s, m1s, T_senderAt hT hsn, b1s, m1s, hsS.1, o1s, m1s, m1s, hsS.2.2.1]
        simp only [z0, z40]
        rw [if_neg (by omega), if_pos (by omega), show (0 : Int32) = wI ((0 : Nat) : Int) from rfl]
        exact p1
      · have hM2 := hM
        obtain ⟨-, ⟨u1, u2, -⟩, -, -, u3, -⟩ := hM2
        have u4 := (u3 s hsn).2.2.1
        have e6 : 6 * wI sd + wI s = wI (6 * sd + s : Nat) := by
          rw [show (6 : Int32) = wI (6 : Nat) from rfl, wI_mul, wI_add]
          rfl
        have kG : (wI (6 * sd + s : Nat) < 0 ∨ 12 ≤ Int32.toNatClampNeg (wI (6 * sd + s : Nat))) = False := by
          rw [show (0 : Int32) = wI 0 from rfl, wI_lt (by omega) (by omega) (by omega) (by omega), wI_nat (by omega) (by omega), Int.toNat_natCast]
          exact eq_false (by omega)
        have vG : dt2.1 (b2 + 21) (Int32.toNatClampNeg (wI (6 * sd + s : Nat))) = wI (Tsd T s) := by
          rw [wI_nat (by omega) (by omega), Int.toNat_natCast]
          exact u4
        unfold X12_follows
        rw [e2, b1s, if_neg n10, i3, b1s, if_neg n10, M_codeOf hM hsn, b1s, M_long hM hS.1, b1s, m34, n34, u2, e6, vG]
        simp only [kG, ↓reduceIte, o1s]
        rw [show (1 : Int32) = wI ((0 + 1 : Nat) : Int) from rfl]
        exact r1
    · rw [if_neg hm] at i3
      refine ⟨-1, dt1, dt2, ?_, ?_, R_up hR⟩
      · unfold X11_follows X11_follows_b21
        rw [ho.1, o1s, m1s, T_senderAt hT hsn, b1s, m1s, hsS.1, o1s, m1s]
        simp only [z0, z40]
        by_cases h0 : m < 0
        · rw [if_pos h0]
        · rw [if_neg h0, if_neg (by omega)]
      · unfold X12_follows
        rw [e2, b1s, if_neg n10, i3, b1s, if_pos rfl]
  · rw [if_neg hc] at e2
    refine ⟨-1, dt1, dt2, ?_, ?_, R_up hR⟩
    · unfold X11_follows X11_follows_b21
      rw [ho.1, o1s, m1s, T_senderNo hT hx1 hx2 hc, b1s, m1n, m1n]
    · unfold X12_follows
      rw [e2, b1s, if_pos rfl]
