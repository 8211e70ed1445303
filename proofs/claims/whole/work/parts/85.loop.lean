/-! level two: loops -/
def q_lp (T : q_Tl) (g : Nat → Nat → Int) (c t w d : Nat) : Nat := if q_sq2 T g c d t w < q_sq2 T g c ((d + 1) % Tlen T c) t w ∧ q_sq2 T g c ((d + Tlen T c - 1) % Tlen T c) t w < q_sq2 T g c ((d + 1) % Tlen T c) t w then (d + 1) % Tlen T c else if q_sq2 T g c d t w < q_sq2 T g c ((d + Tlen T c - 1) % Tlen T c) t w ∧ q_sq2 T g c ((d + 1) % Tlen T c) t w < q_sq2 T g c ((d + Tlen T c - 1) % Tlen T c) t w then (d + Tlen T c - 1) % Tlen T c else d
theorem q_lp_lt {T : q_Tl} {g : Nat → Nat → Int} {c t w d : Nat} (hd : d < Tlen T c) : q_lp T g c t w d < Tlen T c := by
  have h1 := Nat.mod_lt (d + 1) (show 0 < Tlen T c by omega)
  have h2 := Nat.mod_lt (d + Tlen T c - 1) (show 0 < Tlen T c by omega)
  unfold q_lp
  by_cases e1 : q_sq2 T g c d t w < q_sq2 T g c ((d + 1) % Tlen T c) t w ∧ q_sq2 T g c ((d + Tlen T c - 1) % Tlen T c) t w < q_sq2 T g c ((d + 1) % Tlen T c) t w
  · rw [if_pos e1]; exact h1
  · rw [if_neg e1]
    by_cases e2 : q_sq2 T g c d t w < q_sq2 T g c ((d + Tlen T c - 1) % Tlen T c) t w ∧ q_sq2 T g c ((d + 1) % Tlen T c) t w < q_sq2 T g c ((d + Tlen T c - 1) % Tlen T c) t w
    · rw [if_pos e2]; exact h2
    · rw [if_neg e2]; exact hd
theorem q_mc1 {T : q_Tl} {g : Nat → Nat → Int} {c t w d : Nat} (ht : t < 4) : q_mc T g c w 1 (4 * d + t) = q_sq2 T g c d t w := by
  show (0 : Int) + q_sq2 T g c ((4 * d + t) / 4) ((4 * d + t) % 4) (w + 0 * Tlen T c) = _
  rw [show (4 * d + t) / 4 = d by omega, show (4 * d + t) % 4 = t by omega, Nat.zero_mul, Nat.add_zero, Int.zero_add]
theorem q_sq2_b {T : q_Tl} {g : Nat → Nat → Int} {c t w d : Nat} (hw : q_wf T) (hc : c < Tnc T) (hg : ∀ a i, -3300000 ≤ g a i ∧ g a i ≤ 3300000) (ht : t < 4) : 0 ≤ q_sq2 T g c d t w ∧ q_sq2 T g c d t w < 4611686018427387904 := by
  rw [← q_mc1 ht]
  exact q_mc_b hw hc hg (by omega)
theorem T_step {b tt c t w d : Nat} {dt : q_Dt} {T : q_Tl} {g : Nat → Nat → Int} (hT : q_TT b tt dt T) (hg : q_sig (b + 21) (TN T) dt g) (hz : ∀ a i, TN T ≤ i → g a i = 0) (hb : ∀ a i, -3300000 ≤ g a i ∧ g a i ≤ 3300000) (hc : c < Tnc T) (ht : t < 4) (hd : d < Tlen T c) (hw : w < 100000) : ∃ d', X6_loopStep (A1 b) dt (b + 36) (tt + 12 + 3 * c) (wI d) (wI t) (b + 21) (wI w) = some (wI (q_lp T g c t w d), d') ∧ q_e1 b dt d' := by
  have hC := hT.1.2.1 c hc
  have hN := hT.1.1
  have hcd := T_code hT hc
  have hhi := Nat.mod_lt (d + 1) (show 0 < Tlen T c by omega)
  have hlo := Nat.mod_lt (d + Tlen T c - 1) (show 0 < Tlen T c by omega)
  have e1 := T_turn hg (show TN T ≤ 512 by omega) hz (show Tlen T c ≤ 127 by omega) ht hw
  have he : q_e1 b dt (q_row2 dt (b + 38) (b + 40) (Tlen T c) (fun k => wJ (q_tn g t (w + k) 0)) (fun k => wJ (q_tn g t (w + k) 1))) := q_e1_row2 q_e1_r
  have hT2 := T_e1 hT he
  have hs := fun dd (hdd : dd < Tlen T c) => T_s2 (w := w) (g := g) (t := t) (d := dd) hT2 hc hdd (fun k hk => q_row2_A hk) (fun k hk => q_row2_B (by omega) hk)
  have b1 := q_sq2_b (t := t) (w := w) (d := d) hT.1 hc hb ht
  have b2 := q_sq2_b (t := t) (w := w) (d := (d + 1) % Tlen T c) hT.1 hc hb ht
  have b3 := q_sq2_b (t := t) (w := w) (d := (d + Tlen T c - 1) % Tlen T c) hT.1 hc hb ht
  refine ⟨_, ?_, he⟩
  have e35 : X6_loopStep_b35 (A1 b) (b + 36) (tt + 12 + 3 * c) (wI d) (wI t) (b + 21) (wI w) (wI ((d + Tlen T c - 1) % Tlen T c : Nat)) (wI ((d + 1) % Tlen T c : Nat)) dt = some (wI (q_lp T g c t w d), q_row2 dt (b + 38) (b + 40) (Tlen T c) (fun k => wJ (q_tn g t (w + k) 0)) (fun k => wJ (q_tn g t (w + k) 1))) := by
    unfold X6_loopStep_b35 X6_loopStep_b95 X6_loopStep_b116
    rw [hcd.2.1, e1]
    simp only [b1s]
    rw [hs _ hlo]
    simp only [b1s]
    rw [hs _ hd]
    simp only [b1s]
    rw [hs _ hhi]
    simp (disch := omega) only [b1s, wJ_le]
    unfold q_lp
    by_cases g1 : q_sq2 T g c d t w < q_sq2 T g c ((d + 1) % Tlen T c) t w ∧ q_sq2 T g c ((d + Tlen T c - 1) % Tlen T c) t w < q_sq2 T g c ((d + 1) % Tlen T c) t w
    · rw [if_pos g1, if_neg (by omega), if_neg (by omega)]
    · rw [if_neg g1]
      have e95 : (if q_sq2 T g c ((d + Tlen T c - 1) % Tlen T c) t w ≤ q_sq2 T g c d t w then some (wI d, q_row2 dt (b + 38) (b + 40) (Tlen T c) (fun k => wJ (q_tn g t (w + k) 0)) (fun k => wJ (q_tn g t (w + k) 1))) else if q_sq2 T g c ((d + Tlen T c - 1) % Tlen T c) t w ≤ q_sq2 T g c ((d + 1) % Tlen T c) t w then some (wI d, q_row2 dt (b + 38) (b + 40) (Tlen T c) (fun k => wJ (q_tn g t (w + k) 0)) (fun k => wJ (q_tn g t (w + k) 1))) else some (wI ((d + Tlen T c - 1) % Tlen T c : Nat), q_row2 dt (b + 38) (b + 40) (Tlen T c) (fun k => wJ (q_tn g t (w + k) 0)) (fun k => wJ (q_tn g t (w + k) 1)))) = some (wI ((if q_sq2 T g c d t w < q_sq2 T g c ((d + Tlen T c - 1) % Tlen T c) t w ∧ q_sq2 T g c ((d + 1) % Tlen T c) t w < q_sq2 T g c ((d + Tlen T c - 1) % Tlen T c) t w then (d + Tlen T c - 1) % Tlen T c else d : Nat) : Int), q_row2 dt (b + 38) (b + 40) (Tlen T c) (fun k => wJ (q_tn g t (w + k) 0)) (fun k => wJ (q_tn g t (w + k) 1))) := by
        by_cases g2 : q_sq2 T g c d t w < q_sq2 T g c ((d + Tlen T c - 1) % Tlen T c) t w ∧ q_sq2 T g c ((d + 1) % Tlen T c) t w < q_sq2 T g c ((d + Tlen T c - 1) % Tlen T c) t w
        · rw [if_pos g2, if_neg (by omega), if_neg (by omega)]
        · rw [if_neg g2]
          by_cases g3 : q_sq2 T g c ((d + Tlen T c - 1) % Tlen T c) t w ≤ q_sq2 T g c d t w
          · rw [if_pos g3]
          · rw [if_neg g3, if_pos (by omega)]
      by_cases g4 : q_sq2 T g c ((d + 1) % Tlen T c) t w ≤ q_sq2 T g c d t w
      · rw [if_pos g4]
        exact e95
      · rw [if_neg g4, if_pos (by omega)]
        exact e95
  have e16 : X6_loopStep_b16 (A1 b) (b + 36) (tt + 12 + 3 * c) (wI d) (wI t) (b + 21) (wI w) (wI ((d + Tlen T c - 1) % Tlen T c : Nat)) dt = some (wI (q_lp T g c t w d), q_row2 dt (b + 38) (b + 40) (Tlen T c) (fun k => wJ (q_tn g t (w + k) 0)) (fun k => wJ (q_tn g t (w + k) 1))) := by
    unfold X6_loopStep_b16
    rw [hcd.2.1, show wI d + 1 = wI (d + 1 : Nat) from wI_add d 1]
    simp (disch := omega) only [wI_le]
    by_cases h1 : d + 1 < Tlen T c
    · rw [if_neg (by omega)]
      rw [Nat.mod_eq_of_lt h1] at e35
      exact e35
    · rw [if_pos (by omega)]
      rw [show (d + 1) % Tlen T c = 0 by rw [show d + 1 = Tlen T c by omega, Nat.mod_self]] at e35
      exact e35
  unfold X6_loopStep
  rw [hcd.2.1, show (0 : Int32) = wI 0 from rfl, show (1 : Int32) = wI 1 from rfl]
  simp (disch := omega) only [wI_le, wI_sub]
  by_cases h1 : d = 0
  · rw [if_pos (by omega), show (Tlen T c : Int) - 1 = ((d + Tlen T c - 1) % Tlen T c : Nat) by rw [h1, Nat.zero_add, Nat.mod_eq_of_lt (by omega)]; omega]
    exact e16
  · rw [if_neg (by omega), show (d : Int) - 1 = ((d + Tlen T c - 1) % Tlen T c : Nat) by
      rw [show d + Tlen T c - 1 = (d - 1) + Tlen T c by omega, Nat.add_mod_right, Nat.mod_eq_of_lt (by omega)]; omega]
    exact e16
theorem M_step {b sd c t w d : Nat} {dt : q_Dt} {T : q_Tl} {g : Nat → Nat → Int} (hM : q_M b sd dt T) (hg : q_now (b + 39) dt g) (hz : ∀ a i, TN T ≤ i → g a i = 0) (hb : ∀ a i, -3300000 ≤ g a i ∧ g a i ≤ 3300000) (hc : c < Tnc T) (ht : t < 4) (hd : d < Tlen T c) (hw : w < 9000) (m i : Nat) (him : i < m) (hm : m ≤ 40) (k : Nat) : ∃ d', X12_loopOf_b17 (A2 b) b (wI c) (wI t) (wI m) (wI (Tlen T c)) (k + 1) (wI d) (wI w) (wI i) dt = X12_loopOf_b17 (A2 b) b (wI c) (wI t) (wI m) (wI (Tlen T c)) k (wI (q_lp T g c t w d)) (wI (w + Tlen T c : Nat)) (wI (i + 1 : Nat)) d' ∧ q_e2 b dt d' := by
  have hC := hM.1.2.1 c hc
  have hhi := Nat.mod_lt (d + 1) (show 0 < Tlen T c by omega)
  have hlo := Nat.mod_lt (d + Tlen T c - 1) (show 0 < Tlen T c by omega)
  have b1 := q_sq2_b (t := t) (w := w) (d := d) hM.1 hc hb ht
  have b2 := q_sq2_b (t := t) (w := w) (d := (d + 1) % Tlen T c) hM.1 hc hb ht
  have b3 := q_sq2_b (t := t) (w := w) (d := (d + Tlen T c - 1) % Tlen T c) hM.1 hc hb ht
  obtain ⟨d1, p1, p2⟩ := M_metric (m := 1) (w := w) (cell := 4 * ((d + Tlen T c - 1) % Tlen T c) + t) hM hg hz hb hc (by omega) (by omega) (by omega)
  obtain ⟨d2, r1, r2⟩ := M_metric (m := 1) (w := w) (cell := 4 * d + t) (M_e2 hM p2.1) (N_e2 hg p2.1) hz hb hc (by omega) (by omega) (by omega)
  have q2 := q_e2_t p2.1 r2.1
  obtain ⟨d3, s1, s2⟩ := M_metric (m := 1) (w := w) (cell := 4 * ((d + 1) % Tlen T c) + t) (M_e2 hM q2) (N_e2 hg q2) hz hb hc (by omega) (by omega) (by omega)
  rw [q_mc1 ht] at p1 r1 s1
  refine ⟨d3, ?_, q_e2_t q2 s2.1⟩
  have kL : (wI m ≤ wI i) = False := by
    rw [wI_le (by omega) (by omega) (by omega) (by omega)]
    exact eq_false (by omega)
  have k0 : (wI (Tlen T c) = 0) = False := by
    rw [show (0 : Int32) = wI 0 from rfl, wI_eq (by omega) (by omega) (by omega) (by omega)]
    exact eq_false (by omega)
  have elo : 4 * q_ir (wI d + wI (Tlen T c) - 1) (wI (Tlen T c)) + wI t = wI (4 * ((d + Tlen T c - 1) % Tlen T c) + t : Nat) := by
    rw [wI_add, show (1 : Int32) = wI 1 from rfl, wI_sub, show (d : Int) + Tlen T c - 1 = (d + Tlen T c - 1 : Nat) by omega, wI_mod (by omega) (by omega) (by omega) (by omega), ← Int.natCast_emod, show (4 : Int32) = wI (4 : Nat) from rfl, wI_mul, wI_add]
    rfl
  have elo2 : q_ir (wI d + wI (Tlen T c) - 1) (wI (Tlen T c)) = wI ((d + Tlen T c - 1) % Tlen T c : Nat) := by
    rw [wI_add, show (1 : Int32) = wI 1 from rfl, wI_sub, show (d : Int) + Tlen T c - 1 = (d + Tlen T c - 1 : Nat) by omega, wI_mod (by omega) (by omega) (by omega) (by omega), ← Int.natCast_emod]
  have ehi : 4 * q_ir (wI d + 1) (wI (Tlen T c)) + wI t = wI (4 * ((d + 1) % Tlen T c) + t : Nat) := by
    rw [show (1 : Int32) = wI (1 : Nat) from rfl, wI_add, ← Int.natCast_add, wI_mod (by omega) (by omega) (by omega) (by omega), ← Int.natCast_emod, show (4 : Int32) = wI (4 : Nat) from rfl, wI_mul, wI_add]
    rfl
  have ehi2 : q_ir (wI d + 1) (wI (Tlen T c)) = wI ((d + 1) % Tlen T c : Nat) := by
    rw [show (1 : Int32) = wI (1 : Nat) from rfl, wI_add, ← Int.natCast_add, wI_mod (by omega) (by omega) (by omega) (by omega), ← Int.natCast_emod]
  have eme : 4 * wI d + wI t = wI (4 * d + t : Nat) := by
    rw [show (4 : Int32) = wI (4 : Nat) from rfl, wI_mul, wI_add]
    rfl
  have ew : wI w + wI (Tlen T c) = wI (w + Tlen T c : Nat) := wI_add _ _
  have ei : wI i + 1 = wI (i + 1 : Nat) := wI_add i 1
  rw [X12_loopOf_b17.eq_2, elo, ehi, eme, elo2, ehi2, show (1 : Int32) = wI ((1 : Nat) : Int) from rfl, p1]
  simp only [kL, k0, ↓reduceIte, b2s, r1, s1, X12_loopOf_b116, X12_loopOf_b136, ew]
  rw [ei]
  simp (disch := omega) only [wJ_le]
  unfold q_lp
  by_cases g1 : q_sq2 T g c d t w < q_sq2 T g c ((d + 1) % Tlen T c) t w ∧ q_sq2 T g c ((d + Tlen T c - 1) % Tlen T c) t w < q_sq2 T g c ((d + 1) % Tlen T c) t w
  · rw [if_pos g1, if_neg (by omega), if_neg (by omega)]
  · rw [if_neg g1]
    by_cases g2 : q_sq2 T g c d t w < q_sq2 T g c ((d + Tlen T c - 1) % Tlen T c) t w ∧ q_sq2 T g c ((d + 1) % Tlen T c) t w < q_sq2 T g c ((d + Tlen T c - 1) % Tlen T c) t w
    · rw [if_pos g2, if_pos (show q_sq2 T g c ((d + 1) % Tlen T c) t w ≤ q_sq2 T g c ((d + Tlen T c - 1) % Tlen T c) t w by omega), if_neg (show ¬ q_sq2 T g c ((d + Tlen T c - 1) % Tlen T c) t w ≤ q_sq2 T g c d t w by omega), if_neg (show ¬ q_sq2 T g c ((d + Tlen T c - 1) % Tlen T c) t w ≤ q_sq2 T g c ((d + 1) % Tlen T c) t w by omega)]
    · rw [if_neg g2]
      by_cases g3 : q_sq2 T g c ((d + 1) % Tlen T c) t w ≤ q_sq2 T g c ((d + Tlen T c - 1) % Tlen T c) t w
      · rw [if_pos g3]
        by_cases g4 : q_sq2 T g c ((d + Tlen T c - 1) % Tlen T c) t w ≤ q_sq2 T g c d t w
        · rw [if_pos g4]
        · rw [if_neg g4, if_pos (by omega)]
      · rw [if_neg g3, if_pos (show q_sq2 T g c ((d + 1) % Tlen T c) t w ≤ q_sq2 T g c d t w by omega)]
        by_cases g4 : q_sq2 T g c ((d + Tlen T c - 1) % Tlen T c) t w ≤ q_sq2 T g c d t w
        · rw [if_pos g4]
        · rw [if_neg g4, if_pos (by omega)]
def q_lpn (T : q_Tl) (g : Nat → Nat → Int) (c t : Nat) : Nat → Nat → Nat → Nat
  | 0, _, d => d
  | n + 1, w, d => q_lpn T g c t n (w + Tlen T c) (q_lp T g c t w d)
theorem R_loop : q_c_loop q_Rel := by
  intro k b1 b2 dt1 dt2 a0 a1 a2 a3 a4 hk hR
  obtain ⟨x, rfl, hx1, hx2⟩ := q_arg a0
  obtain ⟨d, rfl, hd1, hd2⟩ := q_arg a1
  obtain ⟨t, rfl, ht1, ht2⟩ := q_arg a2
  obtain ⟨w, rfl, hw1, hw2⟩ := q_arg a3
  obtain ⟨m, rfl, hm1, hm2⟩ := q_arg a4
  have hR' := hR
  obtain ⟨T, tt, sd, g, hT, hM, ho, hs, hn, hg, -⟩ := hR'
  have hb := q_gb_i hg (by omega)
  have hN := hT.1.1
  have e1 := M_isCode hM hx1 hx2
  have f1 := T_isSample hT ho hw1 hw2
  have f2 := M_isSample hM hw1 hw2
  have z0 : (wI m < 0) = (m < 0) := by
    rw [show (0 : Int32) = wI 0 from rfl, wI_lt hm1 hm2 (by omega) (by omega)]
  have z40 : (wI m ≤ 40) = (m ≤ 40) := by
    rw [show (40 : Int32) = wI 40 from rfl, wI_le hm1 hm2 (by omega) (by omega)]
  have n10 : ¬ (1 : Int32) = 0 := by decide
  show ∃ r d1 d2, X11_loop (A1 b1) dt1 b1 (wI x) (wI d) (wI t) (wI w) (wI m) = some (r, d1) ∧ X12_loop (A2 b2) dt2 b2 (wI x) (wI d) (wI t) (wI w) (wI m) = some (r, d2) ∧ _
  by_cases hc : 0 ≤ x ∧ x < Tnc T
  · rw [if_pos hc] at e1
    obtain ⟨c, rfl⟩ := Int.eq_ofNat_of_zero_le hc.1
    have hc' : c < Tnc T := by omega
    have hC := (hM.1.2.1 c hc').1
    have ec := T_isCell hT hc' hd1 hd2 ht1 ht2
    have i1 : X12_in (wI d) 0 (wI (Tlen T c) - 1) = some (if 0 ≤ d ∧ d ≤ (Tlen T c : Int) - 1 then 1 else 0) := by
      rw [show (1 : Int32) = wI 1 from rfl, wI_sub]
      exact M_in (a := 0) hd1 hd2 (by omega) (by omega) (by omega) (by omega)
    have i2 : X12_in (wI t) 0 3 = some (if 0 ≤ t ∧ t ≤ 3 then 1 else 0) := M_in (a := 0) (b := 3) ht1 ht2 (by omega) (by omega) (by omega) (by omega)
    have i3 : X12_in (wI m) 0 40 = some (if 0 ≤ m ∧ m ≤ 40 then 1 else 0) := M_in (a := 0) (b := 40) hm1 hm2 (by omega) (by omega) (by omega) (by omega)
    by_cases hd : 0 ≤ d ∧ d < Tlen T c
    · by_cases ht : 0 ≤ t ∧ t < 4
      · rw [if_pos (show (0 ≤ d ∧ d < (Tlen T c : Int)) ∧ 0 ≤ t ∧ t < 4 from ⟨hd, ht⟩)] at ec
        rw [if_pos (show 0 ≤ d ∧ d ≤ (Tlen T c : Int) - 1 by omega)] at i1
        rw [if_pos (show 0 ≤ t ∧ t ≤ 3 by omega)] at i2
        by_cases hw : 0 ≤ w ∧ w < TN T
        · rw [if_pos hw] at f1 f2
          by_cases hm : 0 ≤ m ∧ m ≤ 40
          · rw [if_pos hm] at i3
            obtain ⟨d, rfl⟩ := Int.eq_ofNat_of_zero_le hd.1
            obtain ⟨t, rfl⟩ := Int.eq_ofNat_of_zero_le ht.1
            obtain ⟨w, rfl⟩ := Int.eq_ofNat_of_zero_le hw.1
            obtain ⟨m, rfl⟩ := Int.eq_ofNat_of_zero_le hm.1
            have hA : ∀ n i k : Nat, i + n = m → n < k → ∀ (dd : Nat) D, dd < Tlen T c → q_e1 b1 dt1 D → ∃ D', X11_loop_b49 (A1 b1) b1 (wI t) (wI w) (wI m) (some (tt + 12 + 3 * c)) k (wI dd) (wI i) D = some (wI (q_lpn T g c t n (w + i * Tlen T c) dd), D') ∧ q_e1 b1 dt1 D' := by
              intro n
              induction n with
              | zero =>
                intro i k z1 z2 
                obtain ⟨k, rfl⟩ : ∃ m, k = m + 1 := ⟨k - 1, by omega⟩
                have e : i = m := by omega
                intro dd D hdd q1
                refine ⟨D, ?_, q1⟩
                rw [X11_loop_b49.eq_2]
                simp (disch := omega) only [wI_le]
                rw [if_pos (by omega)]
                rfl
              | succ n ih =>
                intro i k z1 z2 
                obtain ⟨k, rfl⟩ : ∃ m, k = m + 1 := ⟨k - 1, by omega⟩
                have hi : i < m := by omega
                intro dd D hdd q1
                have hT2 := T_e1 hT q1
                have hcd := T_code hT2 hc'
                have hml : i * Tlen T c ≤ 40 * 127 := Nat.mul_le_mul (by omega) (by omega)
                obtain ⟨D1, p1, p2⟩ := T_step hT2 (S_e1 hs q1) hg.2 hb hc' (show t < 4 by omega) hdd (show w + i * Tlen T c < 100000 by omega)
                obtain ⟨D', v1, v2⟩ := ih (i + 1) k (by omega) (by omega) _ D1 (q_lp_lt hdd) (q_e1_t q1 p2)
                refine ⟨D', ?_, v2⟩
                have ei : wI i + 1 = wI (i + 1 : Nat) := wI_add i 1
                have ew : wI w + wI i * wI (Tlen T c) = wI (w + i * Tlen T c : Nat) := by
                  rw [wI_mul, wI_add]
                  rfl
                rw [X11_loop_b49.eq_2, m1s, hcd.2.1, ew, s0_4, s0_1, p1, ei]
                simp (disch := omega) only [wI_le, b2s]
                rw [if_neg (by omega)]
                rw [show w + (i + 1) * Tlen T c = w + i * Tlen T c + Tlen T c by rw [Nat.succ_mul, Nat.add_assoc]] at v1
                exact v1
            have hB : ∀ n i k : Nat, i + n = m → n < k → ∀ (dd : Nat) D, dd < Tlen T c → q_e2 b2 dt2 D → ∃ D', X12_loopOf_b17 (A2 b2) b2 (wI c) (wI t) (wI m) (wI (Tlen T c)) k (wI dd) (wI (w + i * Tlen T c : Nat)) (wI i) D = some (wI (q_lpn T g c t n (w + i * Tlen T c) dd), D') ∧ q_e2 b2 dt2 D' := by
              intro n
              induction n with
              | zero =>
                intro i k z1 z2 
                obtain ⟨k, rfl⟩ : ∃ m, k = m + 1 := ⟨k - 1, by omega⟩
                have e : i = m := by omega
                intro dd D hdd q1
                refine ⟨D, ?_, q1⟩
                rw [X12_loopOf_b17.eq_2]
                simp (disch := omega) only [wI_le]
                rw [if_pos (by omega)]
                rfl
              | succ n ih =>
                intro i k z1 z2 
                obtain ⟨k, rfl⟩ : ∃ m, k = m + 1 := ⟨k - 1, by omega⟩
                have hi : i < m := by omega
                intro dd D hdd q1
                have hml : i * Tlen T c ≤ 40 * 127 := Nat.mul_le_mul (by omega) (by omega)
                obtain ⟨D1, p1, p2⟩ := M_step (M_e2 hM q1) (N_e2 hn q1) hg.2 hb hc' (show t < 4 by omega) hdd (show w + i * Tlen T c < 9000 by omega) m i hi (by omega) k
                obtain ⟨D', v1, v2⟩ := ih (i + 1) k (by omega) (by omega) _ D1 (q_lp_lt hdd) (q_e2_t q1 p2)
                refine ⟨D', ?_, v2⟩
                rw [show w + (i + 1) * Tlen T c = w + i * Tlen T c + Tlen T c by rw [Nat.succ_mul, Nat.add_assoc]] at v1
                exact p1.trans v1
            obtain ⟨D1, p1, p2⟩ := hA m 0 q_FU (by omega) (by unfold q_FU; omega) d dt1 (by omega) q_e1_r
            obtain ⟨D2, r1, r2⟩ := hB m 0 q_FU (by omega) (by unfold q_FU; omega) d dt2 (by omega) q_e2_r
            refine ⟨wI (q_lpn T g c t m (w + 0 * Tlen T c) d), D1, D2, ?_, ?_, R_keep hR p2 r2⟩
            · unfold X11_loop
              rw [ho.1, o1s, m1s, T_codeAt hT hc', b1s, ec, b1s, if_neg n10, f1, b1s, if_neg n10]
              simp only [z0, z40]
              rw [if_neg (by omega), if_pos (by omega), show (0 : Int32) = wI ((0 : Nat) : Int) from rfl]
              exact p1
            · unfold X12_loop X12_loopOf
              rw [e1, b1s, if_neg n10, M_long hM hc', b1s, i1, b1s, if_neg n10, i2, b1s, if_neg n10, f2, b1s, if_neg n10, i3, b1s, if_neg n10, b1s, show (0 : Int32) = wI ((0 : Nat) : Int) from rfl]
              rw [Nat.zero_mul, Nat.add_zero] at r1 ⊢
              rw [r1, b2s]
          · rw [if_neg hm] at i3
            refine ⟨-1, dt1, dt2, ?_, ?_, R_up hR⟩
            · unfold X11_loop
              rw [ho.1, o1s, m1s, T_codeAt hT hc', b1s, ec, b1s, if_neg n10, f1, b1s, if_neg n10]
              simp only [z0, z40]
              by_cases h0 : m < 0
              · rw [if_pos h0]
              · rw [if_neg h0, if_neg (by omega)]
            · unfold X12_loop
              rw [e1, b1s, if_neg n10, M_long hM hc', b1s, i1, b1s, if_neg n10, i2, b1s, if_neg n10, f2, b1s, if_neg n10, i3, b1s, if_pos rfl]
        · rw [if_neg hw] at f1 f2
          refine ⟨-1, dt1, dt2, ?_, ?_, R_up hR⟩
          · unfold X11_loop
            rw [ho.1, o1s, m1s, T_codeAt hT hc', b1s, ec, b1s, if_neg n10, f1, b1s, if_pos rfl]
          · unfold X12_loop
            rw [e1, b1s, if_neg n10, M_long hM hc', b1s, i1, b1s, if_neg n10, i2, b1s, if_neg n10, f2, b1s, if_pos rfl]
      · rw [if_neg (show ¬ ((0 ≤ d ∧ d < (Tlen T c : Int)) ∧ 0 ≤ t ∧ t < 4) from fun q => ht q.2)] at ec
        rw [if_pos (show 0 ≤ d ∧ d ≤ (Tlen T c : Int) - 1 by omega)] at i1
        rw [if_neg (show ¬ (0 ≤ t ∧ t ≤ 3) by omega)] at i2
        refine ⟨-1, dt1, dt2, ?_, ?_, R_up hR⟩
        · unfold X11_loop
          rw [ho.1, o1s, m1s, T_codeAt hT hc', b1s, ec, b1s, if_pos rfl]
        · unfold X12_loop
          rw [e1, b1s, if_neg n10, M_long hM hc', b1s, i1, b1s, if_neg n10, i2, b1s, if_pos rfl]
    · rw [if_neg (show ¬ ((0 ≤ d ∧ d < (Tlen T c : Int)) ∧ 0 ≤ t ∧ t < 4) from fun q => hd q.1)] at ec
      rw [if_neg (show ¬ (0 ≤ d ∧ d ≤ (Tlen T c : Int) - 1) by omega)] at i1
      refine ⟨-1, dt1, dt2, ?_, ?_, R_up hR⟩
      · unfold X11_loop
        rw [ho.1, o1s, m1s, T_codeAt hT hc', b1s, ec, b1s, if_pos rfl]
      · unfold X12_loop
        rw [e1, b1s, if_neg n10, M_long hM hc', b1s, i1, b1s, if_pos rfl]
  · rw [if_neg hc] at e1
    refine ⟨-1, dt1, dt2, ?_, ?_, R_up hR⟩
    · unfold X11_loop
      rw [ho.1, o1s, m1s, T_codeNo hT hx1 hx2 hc, b1s, show X11_isCell (A1 b1) dt1 none (wI d) (wI t) = some 0 from rfl, b1s, if_pos rfl]
    · unfold X12_loop
      rw [e1, b1s, if_pos rfl]
