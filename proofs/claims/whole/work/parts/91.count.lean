/-! level two: count -/
theorem M_perL {b s : Nat} {d : q_Dt} {T : q_Tl} {rs : Nat → Int} (h : q_hs b d T s rs) (hn : q_np T s ≤ 512) : X12_periodsOf_b14 (A2 b) b q_FU 0 0 d = some (wI (q_np T s), d) := by
  have hl : ∀ n i k : Nat, i + n = 512 → n < k → X12_periodsOf_b14 (A2 b) b k (wI (if i < q_np T s then i else q_np T s : Nat)) (wI i) d = some (wI (q_np T s), d) := by
    intro n
    induction n with
    | zero =>
      intro i k z1 z2 
      obtain ⟨k, rfl⟩ : ∃ m, k = m + 1 := ⟨k - 1, by omega⟩
      have e : i = 512 := by omega
      rw [X12_periodsOf_b14.eq_2, if_neg (show ¬ i < q_np T s by omega), show (512 : Int32) = wI 512 from rfl]
      simp (disch := omega) only [wI_le]
      rw [if_pos (by omega)]
    | succ n ih =>
      intro i k z1 z2 
      obtain ⟨k, rfl⟩ : ∃ m, k = m + 1 := ⟨k - 1, by omega⟩
      have hi : i < 512 := by omega
      have hih := ih (i + 1) k (by omega) (by omega)
      have ei : wI i + 1 = wI (i + 1 : Nat) := wI_add i 1
      have kL : ((512 : Int32) ≤ wI i) = False := by
        rw [show (512 : Int32) = wI 512 from rfl, wI_le (by omega) (by omega) (by omega) (by omega)]
        exact eq_false (by omega)
      have kG : (wI i < 0 ∨ 512 ≤ i) = False := by
        rw [show (0 : Int32) = wI 0 from rfl, wI_lt (by omega) (by omega) (by omega) (by omega)]
        exact eq_false (by omega)
      have eP : Int32.toNatClampNeg (wI i) = i := by
        rw [wI_nat (by omega) (by omega), Int.toNat_natCast]
      rw [X12_periodsOf_b14.eq_2, m64, n64, eP]
      simp only [kL, kG, ↓reduceIte, h.2 i hi, X12_periodsOf_b33, ei]
      by_cases hq : i < q_np T s
      · rw [if_pos hq, if_pos hq, if_neg (show ¬ (1 : Int32) = 0 by decide), ei]
        rw [show (if i + 1 < q_np T s then i + 1 else q_np T s) = i + 1 by
          by_cases h9 : i + 1 < q_np T s
          · rw [if_pos h9]
          · rw [if_neg h9]; omega] at hih
        exact hih
      · rw [if_neg hq, if_neg hq, if_pos rfl]
        rw [if_neg (show ¬ i + 1 < q_np T s by omega)] at hih
        exact hih
  have h0 := hl 512 0 q_FU (by omega) (by unfold q_FU; omega)
  have e0 : (if 0 < q_np T s then 0 else q_np T s) = 0 := by
    by_cases h9 : 0 < q_np T s
    · rw [if_pos h9]
    · rw [if_neg h9]; omega
  rw [e0] at h0
  exact h0
theorem M_perOf {b sd s : Nat} {dt : q_Dt} {T : q_Tl} {g : Nat → Nat → Int} (hM : q_M b sd dt T) (hs : s < Tns T) (hg : q_now (b + 39) dt g) (hb : ∀ a i, -4000000 ≤ g a i ∧ g a i ≤ 4000000) : ∃ d', X12_periodsOf (A2 b) dt b (wI s) = some (wI (q_np T s), d') ∧ q_fs b dt d' := by
  obtain ⟨d', h1, h2, h3, h4⟩ := M_sumsUp hM hs (M_87_0 hM hs (n53 b) (by omega) hg hb)
  refine ⟨d', ?_, h2⟩
  unfold X12_periodsOf
  rw [m53, h1, b1s]
  exact M_perL (rs := q_rs T g s) ⟨h3, h4⟩ (q_np_e hM.1 hs).2
theorem q_bc8 : ∀ M : Nat, M < 8 → J6_bitCount_0f7a4 (wI M) = some (wI (M % 2 + M / 2 % 2 + M / 4 % 2 : Nat)) := by decide +kernel
theorem M_cnt7 {b M : Nat} {dt : q_Dt} (hM : M < 8) (h : ∀ s, s < 3 → dt.1 (b + 49) s = wI (M / 2 ^ s % 2 : Nat)) : X12_count (A2 b) dt b 7 = some (wI (M % 2 + M / 2 % 2 + M / 4 % 2 : Nat), dt) := by
  have h0 := h 0 (by omega)
  have h1 := h 1 (by omega)
  have h2 := h 2 (by omega)
  have c0 : Int32.toNatClampNeg 0 = 0 := rfl
  have c1 : Int32.toNatClampNeg 1 = 1 := rfl
  have c2 : Int32.toNatClampNeg 2 = 2 := rfl
  have g0 : ((0 : Int32) < 0 ∨ 3 ≤ 0) = False := eq_false (by decide)
  have g1 : ((1 : Int32) < 0 ∨ 3 ≤ 1) = False := eq_false (by decide)
  have g2 : ((2 : Int32) < 0 ∨ 3 ≤ 2) = False := eq_false (by decide)
  unfold X12_count
  rw [if_neg (show ¬ (7 : Int32) = 0 by decide), if_neg (show ¬ (7 : Int32) = 1 by decide), if_neg (show ¬ (7 : Int32) = 2 by decide), if_neg (show ¬ (7 : Int32) = 3 by decide), if_neg (show ¬ (7 : Int32) = 4 by decide), if_neg (show ¬ (7 : Int32) = 5 by decide), if_neg (show ¬ (7 : Int32) = 6 by decide), if_pos rfl]
  unfold X12_count_b131 X12_count_b145 X12_count_b160
  rw [m65, n65, c0, c1, c2, h0, h1, h2]
  simp only [g0, g1, g2, ↓reduceIte]
  rcases (show M = 0 ∨ M = 1 ∨ M = 2 ∨ M = 3 ∨ M = 4 ∨ M = 5 ∨ M = 6 ∨ M = 7 by omega) with rfl | rfl | rfl | rfl | rfl | rfl | rfl | rfl <;> rfl
theorem R_count : q_c_count q_Rel := by
  intro k b1 b2 dt1 dt2 a0 hk hR
  obtain ⟨x, rfl, hx1, hx2⟩ := q_arg a0
  have hR' := hR
  obtain ⟨T, tt, sd, g, hT, hM, ho, hs, hn, hg, ⟨L, by', hL, hL1, hL2, -⟩, ⟨M, hM8, hM9, hM3⟩, -⟩ := hR'
  have hb := q_gb_4 hg (by omega)
  have hN := hT.1.1
  have z : ∀ n : Nat, n < 30 → (wI x = wI n) = (x = n) := fun n hn => wI_eq hx1 hx2 (by omega) (by omega)
  have z0 : (wI x = 0) = (x = 0) := z 0 (by omega)
  have z1 : (wI x = 1) = (x = 1) := z 1 (by omega)
  have z2 : (wI x = 2) = (x = 2) := z 2 (by omega)
  have z3 : (wI x = 3) = (x = 3) := z 3 (by omega)
  have z4 : (wI x = 4) = (x = 4) := z 4 (by omega)
  have z5 : (wI x = 5) = (x = 5) := z 5 (by omega)
  have z6 : (wI x = 6) = (x = 6) := z 6 (by omega)
  have z7 : (wI x = 7) = (x = 7) := z 7 (by omega)
  have z8 : (wI x = 8) = (x = 8) := z 8 (by omega)
  have u := hT.2.2.1
  have w := hM.2.1
  have hsd := w.1
  have kS : (wI sd < 0 ∨ 2 ≤ Int32.toNatClampNeg (wI sd)) = False := by
    rw [show (0 : Int32) = wI 0 from rfl, wI_lt (by omega) (by omega) (by omega) (by omega), wI_nat (by omega) (by omega), Int.toNat_natCast]
    exact eq_false (by omega)
  have eS : Int32.toNatClampNeg (wI sd) = sd := by
    rw [wI_nat (by omega) (by omega), Int.toNat_natCast]
  rw [eS] at kS
  show ∃ r d2, X11_count (A1 b1) dt1 b1 (wI x) = some r ∧ X12_count (A2 b2) dt2 b2 (wI x) = some (r, d2) ∧ _
  by_cases h7 : x = 7
  · subst h7
    refine ⟨wI (M % 2 + M / 2 % 2 + M / 4 % 2 : Nat), dt2, ?_, M_cnt7 hM8 (fun s hs => (hM3 s hs).1), R_up hR⟩
    unfold X11_count
    simp only [z0, z1, z2, z3, z4, z5, z6, z7]
    rw [if_neg (by omega), if_neg (by omega), if_neg (by omega), if_neg (by omega), if_neg (by omega), if_neg (by omega), if_neg (by omega), if_pos trivial, hM9, q_bc8 M hM8, b1s]
  by_cases h6 : x = 6
  · subst h6
    refine ⟨wI L, dt2, ?_, ?_, R_up hR⟩
    · unfold X11_count
      simp only [z0, z1, z2, z3, z4, z5, z6]
      rw [if_neg (by omega), if_neg (by omega), if_neg (by omega), if_neg (by omega), if_neg (by omega), if_neg (by omega), if_pos trivial, s0_0, s1_0, hL1]
    · unfold X12_count
      simp only [z0, z1, z2, z3, z4, z5, z6]
      rw [if_neg (by omega), if_neg (by omega), if_neg (by omega), if_neg (by omega), if_neg (by omega), if_neg (by omega), if_pos trivial, hL2]
  by_cases h9 : 0 ≤ x ∧ x ≤ 8
  · have : ∃ v : Int, X11_count (A1 b1) dt1 b1 (wI x) = some (wI v) ∧ X12_count (A2 b2) dt2 b2 (wI x) = some (wI v, dt2) := by
      unfold X11_count X12_count
      simp only [z0, z1, z2, z3, z4, z5, z6, z7, z8]
      rw [m24, n24, m27, n27, m31, n31, m38, n38, m42, n42, m49, n49, m47, n47, w.2.1, ho.1]
      simp only [o1s, m1s, kS, ↓reduceIte, eS, w.2.2.1, w.2.2.2.1, w.2.2.2.2.1, w.2.2.2.2.2.1, w.2.2.2.2.2.2.1, w.2.2.2.2.2.2.2.1, w.2.2.2.2.2.2.2.2.2, u.1, u.2.1, u.2.2.1, u.2.2.2.1, u.2.2.2.2.1, u.2.2.2.2.2.1, u.2.2.2.2.2.2.1]
      rcases (show x = 0 ∨ x = 1 ∨ x = 2 ∨ x = 3 ∨ x = 4 ∨ x = 5 ∨ x = 8 by omega) with rfl | rfl | rfl | rfl | rfl | rfl | rfl
      · exact ⟨_, rfl, rfl⟩
      · exact ⟨_, rfl, rfl⟩
      · exact ⟨_, rfl, rfl⟩
      · exact ⟨_, rfl, rfl⟩
      · exact ⟨_, rfl, rfl⟩
      · exact ⟨_, rfl, rfl⟩
      · exact ⟨_, rfl, rfl⟩
    obtain ⟨v, v1, v2⟩ := this
    exact ⟨_, _, v1, v2, R_up hR⟩
  have eA : X11_count (A1 b1) dt1 b1 (wI x) = q_b1 (X11_countOfOne (A1 b1) dt1 b1 (wI x)) (fun v => some v) := by
    unfold X11_count
    simp only [z0, z1, z2, z3, z4, z5, z6, z7, z8]
    rw [if_neg (by omega), if_neg (by omega), if_neg (by omega), if_neg (by omega), if_neg (by omega), if_neg (by omega), if_neg (by omega), if_neg (by omega), if_neg (by omega)]
  have eB : X12_count (A2 b2) dt2 b2 (wI x) = q_b1 (X12_isSender (A2 b2) dt2 b2 (wI x - 10)) (fun v1000020 => if v1000020 = 0 then (q_b1 (X12_isHop (A2 b2) dt2 b2 (wI x - 20)) (fun v1000024 => if v1000024 = 0 then (some ((-1), dt2)) else (q_b1 (X12_p (A2 b2) dt2 b2 (wI x - 20)) (fun v1000028 => some (v1000028, dt2))))) else (q_b2 (X12_periodsOf (A2 b2) dt2 b2 (wI x - 10)) (fun v1000031 dt1000032 => some (v1000031, dt1000032)))) := by
    unfold X12_count
    simp only [z0, z1, z2, z3, z4, z5, z6, z7, z8]
    rw [if_neg (by omega), if_neg (by omega), if_neg (by omega), if_neg (by omega), if_neg (by omega), if_neg (by omega), if_neg (by omega), if_neg (by omega), if_neg (by omega)]
  have m10 : wI x - 10 = wI (x - 10) := wI_sub x 10
  have m20 : wI x - 20 = wI (x - 20) := wI_sub x 20
  have g10 : (10 ≤ wI x) = (10 ≤ x) := by
    rw [show (10 : Int32) = wI 10 from rfl, wI_le (by omega) (by omega) hx1 hx2]
  have g20 : (20 ≤ wI x) = (20 ≤ x) := by
    rw [show (20 : Int32) = wI 20 from rfl, wI_le (by omega) (by omega) hx1 hx2]
  have n10 : ¬ (1 : Int32) = 0 := by decide
  rw [eA, eB, m10, m20]
  by_cases hx : 10 ≤ x
  · have iS := M_isSender hM (show -2147483648 ≤ x - 10 by omega) (show x - 10 < 2147483648 by omega)
    have iH := M_isHop hM (show -2147483648 ≤ x - 20 by omega) (show x - 20 < 2147483648 by omega)
    by_cases hc : 0 ≤ x - 10 ∧ x - 10 < Tns T
    · rw [if_pos hc] at iS
      obtain ⟨s, hsx⟩ := Int.eq_ofNat_of_zero_le hc.1
      have hsn : s < Tns T := by omega
      obtain ⟨d2, p1, p2⟩ := M_perOf hM hsn hn hb
      refine ⟨wI (q_np T s), d2, ?_, ?_, R_keep hR q_e1_r (q_fs_e2 p2)⟩
      · unfold X11_countOfOne X11_countOfOne_b21
        rw [m10, hsx]
        simp only [g10]
        rw [if_pos hx, ho.1, o1s, m1s, T_senderAt hT hsn, b1s]
        simp only [g20]
        rw [if_neg (by omega)]
        unfold X11_countOfOne_b43
        rw [m1s, ho.1, o1s, m1s, u.2.2.2.2.2.1, T_periods hT hsn, b1s, b1s]
      · rw [iS, b1s, if_neg n10, hsx, p1, b2s]
    · rw [if_neg hc] at iS
      have e1 : X11_countOfOne (A1 b1) dt1 b1 (wI x) = X11_countOfOne_b21 (A1 b1) dt1 b1 (wI x) none := by
        unfold X11_countOfOne
        rw [m10]
        simp only [g10]
        rw [if_pos hx, ho.1, o1s, m1s, T_senderNo hT (by omega) (by omega) hc, b1s]
      rw [iS, b1s, if_pos rfl, e1]
      by_cases hh : 0 ≤ x - 20 ∧ x - 20 < Tnh T
      · rw [if_pos hh] at iH
        obtain ⟨p, hpx⟩ := Int.eq_ofNat_of_zero_le hh.1
        have hpn : p < Tnh T := by omega
        refine ⟨wI (Thp T p), dt2, ?_, ?_, R_up hR⟩
        · unfold X11_countOfOne_b21 X11_countOfOne_b43
          rw [m20, hpx]
          simp only [g20]
          rw [if_pos (by omega), ho.1, o1s, m1s, T_hopAt hT hpn, b1s, m1n, m1s, (hT.2.2.2.2.1 p hpn).1, b1s]
        · rw [iH, b1s, if_neg n10, hpx, M_p hM hpn, b1s]
      · rw [if_neg hh] at iH
        refine ⟨-1, dt2, ?_, ?_, R_up hR⟩
        · unfold X11_countOfOne_b21 X11_countOfOne_b43
          rw [m20]
          simp only [g20]
          by_cases h20 : 20 ≤ x
          · rw [if_pos h20, ho.1, o1s, m1s, T_hopNo hT (by omega) (by omega) hh, b1s, m1n, m1n, b1s]
          · rw [if_neg h20, m1n, m1n, b1s]
        · rw [iH, b1s, if_pos rfl]
  · have iS : X12_isSender (A2 b2) dt2 b2 (wI (x - 10)) = some 0 := by
      by_cases hlo : -2147483648 ≤ x - 10
      · have := M_isSender hM hlo (show x - 10 < 2147483648 by omega)
        rw [if_neg (by omega)] at this
        exact this
      · have hw : wI (x - 10) = wI (x - 10 + 4294967296) := by
          exact (Int32.ofInt_eq_iff_bmod_eq_toInt _ _).mpr (by
            rw [show (wI (x - 10 + 4294967296)).toInt = (x - 10 + 4294967296).bmod (2 ^ 32) from Int32.toInt_ofInt]
            exact (Int.add_bmod_right (x - 10) (2 ^ 32)).symm)
        rw [hw]
        have := M_isSender hM (x := x - 10 + 4294967296) (by omega) (by omega)
        rw [if_neg (by omega)] at this
        exact this
    have iH : X12_isHop (A2 b2) dt2 b2 (wI (x - 20)) = some 0 := by
      by_cases hlo : -2147483648 ≤ x - 20
      · have := M_isHop hM hlo (show x - 20 < 2147483648 by omega)
        rw [if_neg (by omega)] at this
        exact this
      · have hw : wI (x - 20) = wI (x - 20 + 4294967296) := by
          exact (Int32.ofInt_eq_iff_bmod_eq_toInt _ _).mpr (by
            rw [show (wI (x - 20 + 4294967296)).toInt = (x - 20 + 4294967296).bmod (2 ^ 32) from Int32.toInt_ofInt]
            exact (Int.add_bmod_right (x - 20) (2 ^ 32)).symm)
        rw [hw]
        have := M_isHop hM (x := x - 20 + 4294967296) (by omega) (by omega)
        rw [if_neg (by omega)] at this
        exact this
    refine ⟨-1, dt2, ?_, ?_, R_up hR⟩
    · unfold X11_countOfOne X11_countOfOne_b21 X11_countOfOne_b43
      simp only [g10, g20]
      rw [if_neg hx, if_neg (by omega), m1n, m1n, b1s]
    · rw [iS, b1s, if_pos rfl, iH, b1s, if_pos rfl]
