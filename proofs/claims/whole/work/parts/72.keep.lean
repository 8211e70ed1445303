/-! level two: what changes the tape, the signal, the slots -/
theorem R_tape {k b1 b2 : Nat} {dt1 dt2 d1 d2 : q_Dt} (h : q_Rel k b1 b2 dt1 dt2) (f1 : ∀ x, x ≠ b1 + 2 → d1.1 x = dt1.1 x) (f2 : ∀ x, x ≠ b1 + 4 → d1.2.1 x = dt1.2.1 x) (f3 : d1.2.2 = dt1.2.2) (f4 : ∀ x, x ≠ b2 → x ≠ b2 + 1 → d2.1 x = dt2.1 x) (f5 : ∀ j, j ≠ 2 → d2.1 b2 j = dt2.1 b2 j) (f6 : d2.2.1 = dt2.2.1) (hr : q_Rt b1 b2 d1 d2) : q_Rel (k + 1) b1 b2 d1 d2 := by
  obtain ⟨T, t, sd, g, hT, hM, ho, hs, hn, hg, -, ⟨M, hM8, hM9, hM3⟩, hk, hp⟩ := h
  have ht := hT.2.1
  refine ⟨T, t, sd, g, T_keep hT (fun x h1 h2 => ⟨f1 x (by omega), f2 x (by omega), by rw [f3]⟩), M_keep hM (f5 18 (by omega)) (fun x h1 h2 => f4 x (by omega) (by omega)), ?_, ?_, ?_, q_gb_up hg (by omega), hr, ⟨M, hM8, ?_, ?_⟩, ?_, ?_⟩
  · unfold q_own
    rw [f3]
    exact ho
  · unfold q_sig
    rw [f1 (b1 + 21) (by omega), f2 (b1 + 21 + 2) (by omega), f2 (b1 + 21 + 4) (by omega)]
    exact hs
  · unfold q_now
    rw [f4 (b2 + 39) (by omega) (by omega)]
    exact hn
  · rw [f1 b1 (by omega)]
    exact hM9
  · intro s hs3
    rw [f4 (b2 + 49) (by omega) (by omega), f4 (b2 + 50) (by omega) (by omega)]
    refine ⟨(hM3 s hs3).1, fun hm => ?_⟩
    obtain ⟨g2, hg1, hg2, hg3⟩ := (hM3 s hs3).2 hm
    refine ⟨g2, ?_, q_gb_up hg2 (by omega), hg3⟩
    unfold q_sig
    rw [f1 (b1 + 221 + 5 * s) (by omega), f2 (b1 + 221 + 5 * s + 2) (by omega), f2 (b1 + 221 + 5 * s + 4) (by omega)]
    exact hg1
  · unfold q_Rkk
    rw [f2 (b1 + 12) (by omega), f6, f4 (b2 + 12) (by omega) (by omega)]
    exact hk
  · rw [f1 b1 (by omega), f5 17 (by omega)]
    exact hp
theorem R_sig {k b1 b2 t sd : Nat} {T : q_Tl} {g g' : Nat → Nat → Int} {dt1 dt2 d1 d2 : q_Dt} (h : q_TT b1 t dt1 T ∧ q_M b2 sd dt2 T ∧ q_own b1 t dt1 ∧ q_sig (b1 + 21) (TN T) dt1 g ∧ q_now (b2 + 39) dt2 g ∧ q_gb k T g ∧ q_Rt b1 b2 dt1 dt2 ∧ q_Rh k b1 b2 dt1 dt2 T ∧ q_Rkk b1 b2 dt1 dt2 ∧ dt1.1 b1 8 = dt2.1 b2 17) (f1 : ∀ x, x < b1 + 21 ∨ b1 + 77 ≤ x → d1.1 x = dt1.1 x ∧ d1.2.1 x = dt1.2.1 x ∧ d1.2.2 x = dt1.2.2 x) (f4 : ∀ x, x ≠ b2 → x ≠ b2 + 37 → x ≠ b2 + 38 → (x < b2 + 39 ∨ b2 + 49 ≤ x) → d2.1 x = dt2.1 x) (f5 : ∀ j, j < 60 → d2.1 b2 j = dt2.1 b2 j) (f6 : ∀ x, x < b2 + 46 → d2.2.1 x = dt2.2.1 x) (hs' : q_sig (b1 + 21) (TN T) d1 g') (hn' : q_now (b2 + 39) d2 g') (hg' : q_gb (k + 1) T g') : q_Rel (k + 1) b1 b2 d1 d2 := by
  obtain ⟨hT, hM, ho, -, -, -, ⟨L, by', hL, hL1, hL2, hL3⟩, ⟨M, hM8, hM9, hM3⟩, hk, hp⟩ := h
  have ht := hT.2.1
  refine ⟨T, t, sd, g', T_keep hT (fun x h1 h2 => f1 x (by omega)), M_keep hM (f5 18 (by omega)) (fun x h1 h2 => f4 x (by omega) (by omega) (by omega) (by omega)), ?_, hs', hn', hg', ⟨L, by', hL, ?_, ?_, ?_⟩, ⟨M, hM8, ?_, ?_⟩, ?_, ?_⟩
  · unfold q_own
    rw [(f1 b1 (by omega)).2.2]
    exact ho
  · rw [(f1 (b1 + 2) (by omega)).1]
    exact hL1
  · rw [f5 2 (by omega)]
    exact hL2
  · rw [(f1 (b1 + 4) (by omega)).2.1, f4 (b2 + 1) (by omega) (by omega) (by omega) (by omega)]
    exact hL3
  · rw [(f1 b1 (by omega)).1]
    exact hM9
  · intro s hs3
    rw [f4 (b2 + 49) (by omega) (by omega) (by omega) (by omega), f4 (b2 + 50) (by omega) (by omega) (by omega) (by omega)]
    refine ⟨(hM3 s hs3).1, fun hm => ?_⟩
    obtain ⟨g2, hg1, hg2, hg3⟩ := (hM3 s hs3).2 hm
    refine ⟨g2, ?_, q_gb_up hg2 (by omega), hg3⟩
    unfold q_sig
    rw [(f1 (b1 + 221 + 5 * s) (by omega)).1, (f1 (b1 + 221 + 5 * s + 2) (by omega)).2.1, (f1 (b1 + 221 + 5 * s + 4) (by omega)).2.1]
    exact hg1
  · unfold q_Rkk
    rw [(f1 (b1 + 12) (by omega)).2.1, f6 (b2 + 7) (by omega), f4 (b2 + 12) (by omega) (by omega) (by omega) (by omega)]
    exact hk
  · rw [(f1 b1 (by omega)).1, f5 17 (by omega)]
    exact hp
theorem R_back : q_c_back q_Rel := by
  intro k b1 b2 dt1 dt2 a0 hk hR
  obtain ⟨x, rfl, hx1, hx2⟩ := q_arg a0
  have hR' := hR
  obtain ⟨T, t, sd, g, -, -, -, -, -, -, ⟨L, by', hL, hL1, hL2, hL3⟩, -⟩ := hR'
  show ∃ r d1 d2, X11_back (A1 b1) dt1 b1 (wI x) = some (r, d1) ∧ X12_back (A2 b2) dt2 b2 (wI x) = some (r, d2) ∧ _
  unfold X11_back X12_back
  rw [s0_0, s1_0, hL1, hL2, show (0 : Int32) = wI 0 from rfl]
  simp (disch := omega) only [wI_lt, wI_le, wI_sub, o1s, q_pI_s]
  by_cases h1 : 0 ≤ x ∧ x ≤ L
  · rw [if_neg (show ¬ x < 0 by omega), if_neg (show ¬ x < 0 by omega), if_pos h1.2, if_pos h1.2]
    refine ⟨_, _, _, rfl, rfl, R_tape hR (fun y hy => q_pI_o hy) (fun _ _ => rfl) rfl (fun y h2 _ => q_pI_o h2) (fun j hj => q_pI_k hj) rfl ?_⟩
    refine ⟨(L - x).toNat, by', by omega, ?_, ?_, fun i hi => ?_⟩
    · rw [q_pI_s, Int.toNat_of_nonneg (by omega)]
    · rw [q_pI_s, Int.toNat_of_nonneg (by omega)]
    · rw [q_pI_2, q_pI_o (show b2 + 1 ≠ b2 by omega)]
      exact hL3 i (by omega)
  · by_cases h2 : x < 0
    · rw [if_pos h2, if_pos h2]
      exact ⟨_, _, _, rfl, rfl, R_up hR⟩
    · rw [if_neg h2, if_neg h2, if_neg (show ¬ x ≤ (L : Int) by omega), if_neg (show ¬ x ≤ (L : Int) by omega)]
      exact ⟨_, _, _, rfl, rfl, R_up hR⟩
/-- one byte of an int -/
def q_byte (z : Int) (s : Nat) : Int := z / (2 ^ s : Nat) % 256
theorem wI_m255 (z : Int) : wI z &&& 255 = wI (z % 256) := by
  have h1 := Int.emod_nonneg z (show (4294967296 : Int) ≠ 0 by omega)
  have h2 : wI z = wI ((z % 4294967296).toNat : Nat) := by
    rw [Int.toNat_of_nonneg h1]
    exact (Int32.ofInt_eq_iff_bmod_eq_toInt _ _).mpr (by
      rw [show (wI (z % 4294967296)).toInt = (z % 4294967296).bmod (2 ^ 32) from Int32.toInt_ofInt]
      exact (Int.emod_bmod z (2 ^ 32)).symm)
  rw [h2, show (255 : Int32) = wI (255 : Nat) from rfl, wI_and, show (255 : Nat) = 2 ^ 8 - 1 from rfl, Nat.and_two_pow_sub_one_eq_mod]
  congr 1
  rw [Int.natCast_emod, Int.toNat_of_nonneg h1]
  omega
theorem wI_byte (z : Int) : Int8.toInt32 (Int32.toInt8 (wI z)) = wI (q_sgb (z % 256)) := by
  rw [← Int32.toInt_inj, Int8.toInt_toInt32]
  have h3 : (Int32.toInt8 (wI z)) = Int8.ofInt z := Int32.toInt8_ofInt
  rw [h3, Int8.toInt_ofInt]
  have h4 : q_sgb (z % 256) = Int.bmod z (2 ^ 8) := by
    unfold q_sgb
    rw [Int.bmod_def]
    omega
  rw [← h4]
  have : -128 ≤ q_sgb (z % 256) ∧ q_sgb (z % 256) ≤ 127 := by
    unfold q_sgb
    by_cases g : z % 256 < 128
    · rw [if_pos g]; omega
    · rw [if_neg g]; omega
  rw [wI_toInt (by omega) (by omega)]
def q_app (by' : Nat → Int) (L : Nat) (v : Int) : Nat → Int := fun i => if i = L then v else by' i
def q_tp1 (b : Nat) (dt : q_Dt) (L : Nat) (by' : Nat → Int) : Prop := dt.1 (b + 2) 6 = wI L ∧ ∀ i, i < L → dt.2.1 (b + 4) i = wJ (by' i)
def q_tp2 (b : Nat) (dt : q_Dt) (L : Nat) (by' : Nat → Int) : Prop := dt.1 b 2 = wI L ∧ ∀ i, i < L → dt.1 (b + 1) i = wI (q_sgb (by' i))
def q_fr1 (b : Nat) (dt d : q_Dt) : Prop := (∀ x, x ≠ b + 2 → d.1 x = dt.1 x) ∧ (∀ x, x ≠ b + 4 → d.2.1 x = dt.2.1 x) ∧ d.2.2 = dt.2.2
def q_fr2 (b : Nat) (dt d : q_Dt) : Prop := (∀ x, x ≠ b → x ≠ b + 1 → d.1 x = dt.1 x) ∧ (∀ j, j ≠ 2 → d.1 b j = dt.1 b j) ∧ d.2 = dt.2
theorem q_fr1_t {b : Nat} {dt d e : q_Dt} (h : q_fr1 b dt d) (h' : q_fr1 b d e) : q_fr1 b dt e := ⟨fun x hx => (h'.1 x hx).trans (h.1 x hx), fun x hx => (h'.2.1 x hx).trans (h.2.1 x hx), h'.2.2.trans h.2.2⟩
theorem q_fr2_t {b : Nat} {dt d e : q_Dt} (h : q_fr2 b dt d) (h' : q_fr2 b d e) : q_fr2 b dt e := ⟨fun x hx hy => (h'.1 x hx hy).trans (h.1 x hx hy), fun x hx => (h'.2.1 x hx).trans (h.2.1 x hx), h'.2.2.trans h.2.2⟩
theorem app1 {b L s k : Nat} {z : Int} {dt : q_Dt} {by' : Nat → Int} (h : q_tp1 b dt L by') (hL : L < 2000) (hs : s < 32) (hz1 : -2147483648 ≤ z) (hz2 : z < 2147483648) : ∃ d, X9_append_b3 (A1 b) (b + 2) (wI z) (k + 1) (wI s) dt = X9_append_b3 (A1 b) (b + 2) (wI z) k (wI (s - 8 : Int)) d ∧ q_tp1 b d (L + 1) (q_app by' L (q_byte z s)) ∧ q_fr1 b dt d := by
  have h2 := Int.emod_nonneg (z / (2 ^ s : Nat)) (show (256 : Int) ≠ 0 by omega)
  have h3 := Int.emod_lt_of_pos (z / (2 ^ s : Nat)) (show (0 : Int) < 256 by omega)
  have e8 : wI (s : Nat) + -8 = wI (s - 8 : Int) := by
    rw [show (-8 : Int32) = wI (-8) from rfl, wI_add, show (s : Int) + -8 = s - 8 by omega]
  refine ⟨q_pI (q_pJ dt (b + 4) L (wJ (q_byte z s))) (b + 2) 6 (wI (L + 1 : Nat)), ?_, ⟨q_pI_s, fun i hi => ?_⟩, ⟨fun x hx => (q_pI_o hx).trans (congrFun (q_pJ_1 (dt := dt)) x), fun x hx => q_pJ_o hx, rfl⟩⟩
  · rw [X9_append_b3.eq_2, s2_0, h.1, r_put (s3_0 b) (l4 b) (by omega) hL, wI_shr hz1 hz2 hs, wI_m255, wI_wJ (by omega) (by omega), e8]
    simp only [b1s, o1s]
    rw [if_neg (show ¬ wI s < 0 by
      rw [show (0 : Int32) = wI 0 from rfl, wI_lt (by omega) (by omega) (by omega) (by omega)]
      omega)]
    have e9 : (q_pJ dt (b + 4) L (wJ (q_byte z s))).1 (b + 2) 6 + 1 = wI (L + 1 : Nat) := by
      rw [q_pJ_1, h.1]
      exact wI_add L 1
    show X9_append_b3 (A1 b) (b + 2) (wI z) k (wI (s - 8 : Int)) (q_pI (q_pJ dt (b + 4) L (wJ (q_byte z s))) (b + 2) 6 ((q_pJ dt (b + 4) L (wJ (q_byte z s))).1 (b + 2) 6 + 1)) = _
    rw [e9]
  · show (q_pJ dt (b + 4) L (wJ (q_byte z s))).2.1 (b + 4) i = wJ (if i = L then q_byte z s else by' i)
    by_cases g : i = L
    · rw [if_pos g, g, q_pJ_s]
    · rw [if_neg g, q_pJ_k g]
      exact h.2 i (by omega)
theorem app2 {b L s k : Nat} {z : Int} {dt : q_Dt} {by' : Nat → Int} (h : q_tp2 b dt L by') (hL : L < 2000) (hs : s < 32) (hz1 : -2147483648 ≤ z) (hz2 : z < 2147483648) : ∃ d, X12_put_b3 (A2 b) b (wI z) (k + 1) (wI s) dt = X12_put_b3 (A2 b) b (wI z) k (wI (s - 8 : Int)) d ∧ q_tp2 b d (L + 1) (q_app by' L (q_byte z s)) ∧ q_fr2 b dt d := by
  have e8 : wI (s : Nat) + -8 = wI (s - 8 : Int) := by
    rw [show (-8 : Int32) = wI (-8) from rfl, wI_add, show (s : Int) + -8 = s - 8 by omega]
  refine ⟨q_pI (q_pI dt (b + 1) L (wI (q_sgb (q_byte z s)))) b 2 (wI (L + 1 : Nat)), ?_, ⟨q_pI_s, fun i hi => ?_⟩, ⟨fun x hx hy => (q_pI_o hx).trans (q_pI_o hy), fun j hj => (q_pI_k hj).trans (congrFun (q_pI_o (by omega)) j), rfl⟩⟩
  · have eb : Int8.toInt32 (Int32.toInt8 (Int8.toInt32 (Int32.toInt8 (wI z >>> (wI s &&& 31))))) = wI (q_sgb (q_byte z s)) := by
      rw [wI_shr hz1 hz2 hs, wI_byte, wI_byte]
      congr 1
      unfold q_byte q_sgb
      by_cases g : z / (2 ^ s : Nat) % 256 < 128
      · rw [if_pos g]
        rw [show z / (2 ^ s : Nat) % 256 % 256 = z / (2 ^ s : Nat) % 256 by omega, if_pos g]
      · rw [if_neg g]
        have h2 := Int.emod_nonneg (z / (2 ^ s : Nat)) (show (256 : Int) ≠ 0 by omega)
        have h3 := Int.emod_lt_of_pos (z / (2 ^ s : Nat)) (show (0 : Int) < 256 by omega)
        rw [if_neg (by omega)]
        omega
    rw [X12_put_b3.eq_2, eb, m1, n1, h.1, e8]
    simp (disch := omega) only [o1s, wI_nat, Int.toNat_natCast, show (0 : Int32) = wI 0 from rfl, wI_lt]
    rw [if_neg (by omega), if_neg (by omega)]
    have e9 : (q_pI dt (b + 1) L (wI (q_sgb (q_byte z s)))).1 b 2 + 1 = wI (L + 1 : Nat) := by
      rw [q_pI_o (by omega), h.1]
      exact wI_add L 1
    rw [e9]
  · rw [q_pI_o (by omega)]
    show (q_pI dt (b + 1) L (wI (q_sgb (q_byte z s)))).1 (b + 1) i = wI (q_sgb (if i = L then q_byte z s else by' i))
    by_cases g : i = L
    · rw [if_pos g, g, q_pI_s]
    · rw [if_neg g, q_pI_k g]
      exact h.2 i (by omega)
def q_by4 (z : Int) (L : Nat) (by' : Nat → Int) : Nat → Int := q_app (q_app (q_app (q_app by' L (q_byte z 24)) (L + 1) (q_byte z 16)) (L + 2) (q_byte z 8)) (L + 3) (q_byte z 0)
theorem app1_4 {b L : Nat} {z : Int} {dt : q_Dt} {by' : Nat → Int} (h : q_tp1 b dt L by') (hL : L + 4 ≤ 2000) (hz1 : -2147483648 ≤ z) (hz2 : z < 2147483648) : ∃ d, X9_append (A1 b) dt (b + 2) (wI z) = some d ∧ q_tp1 b d (L + 4) (q_by4 z L by') ∧ q_fr1 b dt d := by
  obtain ⟨k, hk⟩ : ∃ k, q_FU = k + 5 := ⟨q_FU - 5, by unfold q_FU; omega⟩
  obtain ⟨d1, g1, i1, j1⟩ := app1 (k := k + 4) h (by omega) (show 24 < 32 by omega) hz1 hz2
  obtain ⟨d2, g2, i2, j2⟩ := app1 (k := k + 3) i1 (by omega) (show 16 < 32 by omega) hz1 hz2
  obtain ⟨d3, g3, i3, j3⟩ := app1 (k := k + 2) i2 (by omega) (show 8 < 32 by omega) hz1 hz2
  obtain ⟨d4, g4, i4, j4⟩ := app1 (k := k + 1) i3 (by omega) (show 0 < 32 by omega) hz1 hz2
  refine ⟨d4, ?_, i4, q_fr1_t (q_fr1_t (q_fr1_t j1 j2) j3) j4⟩
  unfold X9_append
  rw [hk, show (24 : Int32) = wI (24 : Nat) from rfl]
  refine g1.trans (Eq.trans ?_ (g2.trans (Eq.trans ?_ (g3.trans (Eq.trans ?_ (g4.trans ?_))))))
  · rfl
  · rfl
  · rfl
  · rw [X9_append_b3.eq_2, if_pos (by decide)]
theorem app2_4 {b L : Nat} {z : Int} {dt : q_Dt} {by' : Nat → Int} (h : q_tp2 b dt L by') (hL : L + 4 ≤ 2000) (hz1 : -2147483648 ≤ z) (hz2 : z < 2147483648) : ∃ d, X12_put (A2 b) dt b (wI z) = some d ∧ q_tp2 b d (L + 4) (q_by4 z L by') ∧ q_fr2 b dt d := by
  obtain ⟨k, hk⟩ : ∃ k, q_FU = k + 5 := ⟨q_FU - 5, by unfold q_FU; omega⟩
  obtain ⟨d1, g1, i1, j1⟩ := app2 (k := k + 4) h (by omega) (show 24 < 32 by omega) hz1 hz2
  obtain ⟨d2, g2, i2, j2⟩ := app2 (k := k + 3) i1 (by omega) (show 16 < 32 by omega) hz1 hz2
  obtain ⟨d3, g3, i3, j3⟩ := app2 (k := k + 2) i2 (by omega) (show 8 < 32 by omega) hz1 hz2
  obtain ⟨d4, g4, i4, j4⟩ := app2 (k := k + 1) i3 (by omega) (show 0 < 32 by omega) hz1 hz2
  refine ⟨d4, ?_, i4, q_fr2_t (q_fr2_t (q_fr2_t j1 j2) j3) j4⟩
  unfold X12_put
  rw [hk, show (24 : Int32) = wI (24 : Nat) from rfl]
  refine g1.trans (Eq.trans ?_ (g2.trans (Eq.trans ?_ (g3.trans (Eq.trans ?_ (g4.trans ?_))))))
  · rfl
  · rfl
  · rfl
  · rw [X12_put_b3.eq_2, if_pos (by decide)]
theorem q_byte_b (z : Int) (s : Nat) : 0 ≤ q_byte z s ∧ q_byte z s ≤ 255 := by
  have h2 := Int.emod_nonneg (z / (2 ^ s : Nat)) (show (256 : Int) ≠ 0 by omega)
  have h3 := Int.emod_lt_of_pos (z / (2 ^ s : Nat)) (show (0 : Int) < 256 by omega)
  unfold q_byte
  omega
theorem q_app_b {by' : Nat → Int} {L : Nat} {v : Int} (hv : 0 ≤ v ∧ v ≤ 255) (h : ∀ i, i < L → 0 ≤ by' i ∧ by' i ≤ 255) : ∀ i, i < L + 1 → 0 ≤ q_app by' L v i ∧ q_app by' L v i ≤ 255 := by
  intro i hi
  unfold q_app
  by_cases g : i = L
  · rw [if_pos g]; exact hv
  · rw [if_neg g]; exact h i (by omega)
theorem q_by4_b {z : Int} {L : Nat} {by' : Nat → Int} (h : ∀ i, i < L → 0 ≤ by' i ∧ by' i ≤ 255) : ∀ i, i < L + 4 → 0 ≤ q_by4 z L by' i ∧ q_by4 z L by' i ≤ 255 := q_app_b (q_byte_b _ _) (q_app_b (q_byte_b _ _) (q_app_b (q_byte_b _ _) (q_app_b (q_byte_b _ _) h)))
theorem R_feed : q_c_feed q_Rel := by
  intro k b1 b2 dt1 dt2 a0 a1 a2 a3 a4 hk hR
  obtain ⟨x0, rfl, x1, x2⟩ := q_arg a0
  obtain ⟨y0, rfl, y1, y2⟩ := q_arg a1
  obtain ⟨v0, rfl, v1, v2⟩ := q_arg a2
  obtain ⟨u0, rfl, u1, u2⟩ := q_arg a3
  obtain ⟨w0, rfl, w1, w2⟩ := q_arg a4
  have hR' := hR
  obtain ⟨T, t, sd, g, -, -, -, -, -, -, ⟨L, by', hL, hL1, hL2, hL3⟩, -⟩ := hR'
  show ∃ r d1 d2, X11_feed (A1 b1) dt1 b1 (wI x0) (wI y0) (wI v0) (wI u0) (wI w0) = some (r, d1) ∧ X12_feed (A2 b2) dt2 b2 (wI x0) (wI y0) (wI v0) (wI u0) (wI w0) = some (r, d2) ∧ _
  unfold X11_feed X12_feed
  rw [s0_0, s1_0, hL1, hL2, show (20 : Int32) = wI 20 from rfl, show (2000 : Int32) = wI 2000 from rfl]
  simp (disch := omega) only [wI_add, wI_le]
  by_cases h1 : (L : Int) + 20 ≤ 2000
  · rw [if_pos h1, if_pos h1]
    have p0 : q_tp1 b1 dt1 L by' := ⟨hL1, fun i hi => (hL3 i hi).2.1⟩
    have r0 : q_tp2 b2 dt2 L by' := ⟨hL2, fun i hi => (hL3 i hi).2.2⟩
    obtain ⟨d1, g1, p1, f1⟩ := app1_4 p0 (by omega) x1 x2
    obtain ⟨d2, g2, p2, f2⟩ := app1_4 p1 (by omega) y1 y2
    obtain ⟨d3, g3, p3, f3⟩ := app1_4 p2 (by omega) v1 v2
    obtain ⟨d4, g4, p4, f4⟩ := app1_4 p3 (by omega) u1 u2
    obtain ⟨d5, g5, p5, f5⟩ := app1_4 p4 (by omega) w1 w2
    obtain ⟨c1, h1', r1, i1⟩ := app2_4 r0 (by omega) x1 x2
    obtain ⟨c2, h2', r2, i2⟩ := app2_4 r1 (by omega) y1 y2
    obtain ⟨c3, h3', r3, i3⟩ := app2_4 r2 (by omega) v1 v2
    obtain ⟨c4, h4', r4, i4⟩ := app2_4 r3 (by omega) u1 u2
    obtain ⟨c5, h5', r5, i5⟩ := app2_4 r4 (by omega) w1 w2
    simp only [g1, g2, g3, g4, g5, h1', h2', h3', h4', h5', b1s]
    have fA := q_fr1_t (q_fr1_t (q_fr1_t (q_fr1_t f1 f2) f3) f4) f5
    have fB := q_fr2_t (q_fr2_t (q_fr2_t (q_fr2_t i1 i2) i3) i4) i5
    have hb := q_by4_b (z := w0) (q_by4_b (z := u0) (q_by4_b (z := v0) (q_by4_b (z := y0) (q_by4_b (z := x0) (fun i hi => (hL3 i hi).1)))))
    refine ⟨wI (L + 4 + 4 + 4 + 4 + 4 : Nat), d5, c5, ?_, ?_, R_tape hR fA.1 fA.2.1 fA.2.2 fB.1 fB.2.1 (by rw [fB.2.2]) ⟨_, _, ?_, p5.1, r5.1, fun i hi => ⟨hb i hi, p5.2 i hi, r5.2 i hi⟩⟩⟩
    · rw [p5.1]
    · rw [r5.1]
    · omega
  · rw [if_neg h1, if_neg h1]
    exact ⟨_, _, _, rfl, rfl, R_up hR⟩
