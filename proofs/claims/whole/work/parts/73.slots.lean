/-! level two: increases, copies, hold, restore, noise -/
def q_inc (N : Nat) (g : Nat → Nat → Int) (a i : Nat) (v : Int) : Nat → Nat → Int := fun a' i' => if a' = a ∧ i' = i ∧ i < N then g a' i' + v else g a' i'
def q_fob (o : Nat) (dt d : q_Dt) : Prop := ∀ x, x < o ∨ o + 5 ≤ x → d.1 x = dt.1 x ∧ d.2.1 x = dt.2.1 x ∧ d.2.2 x = dt.2.2 x
theorem q_fob_r {o : Nat} {dt : q_Dt} : q_fob o dt dt := fun _ _ => ⟨rfl, rfl, rfl⟩
theorem q_fob_t {o : Nat} {dt d e : q_Dt} (h : q_fob o dt d) (h' : q_fob o d e) : q_fob o dt e := fun x hx => ⟨(h' x hx).1.trans (h x hx).1, (h' x hx).2.1.trans (h x hx).2.1, (h' x hx).2.2.trans (h x hx).2.2⟩
theorem T_inc {b o N i a : Nat} {dt : q_Dt} {g : Nat → Nat → Int} {v : Int} (hs : q_So b o) (hg : q_sig o N dt g) (hN : N ≤ 512) (hi : i < 1000000) (ha : a < 2) (hv1 : -2147483648 ≤ v) (hv2 : v < 2147483648) : ∃ d, X8_increase (A1 b) dt o (wI i) (wI a) (wI v) = some d ∧ q_sig o N d (q_inc N g a i v) ∧ q_fob o dt d := by
  obtain ⟨h1, h2, h3, h4, h5, h6⟩ := hs
  unfold X8_increase X8_increase_b25
  rw [h1, h2, hg.1, show (0 : Int32) = wI 0 from rfl, wI_wJ hv1 hv2]
  simp (disch := omega) only [wI_le, wI_eq]
  by_cases g1 : i < N
  · rw [if_neg (by omega), r_inc h3 h5 (by omega) (by omega), r_inc h4 h6 (by omega) (by omega)]
    simp only [b1s]
    have h7 := hg.2 i (by omega)
    rcases (show a = 0 ∨ a = 1 by omega) with rfl | rfl
    · rw [if_pos (by omega), h7.1, wJ_add]
      refine ⟨_, rfl, ⟨hg.1, fun j hj => ⟨?_, ?_⟩⟩, fun x hx => ⟨rfl, q_pJ_o (by omega), rfl⟩⟩
      · show _ = wJ (if 0 = 0 ∧ j = i ∧ i < N then g 0 j + v else g 0 j)
        by_cases e : j = i
        · rw [if_pos ⟨rfl, e, g1⟩, e, q_pJ_s]
        · rw [if_neg (fun q => e q.2.1), q_pJ_k e]
          exact (hg.2 j hj).1
      · show _ = wJ (if 1 = 0 ∧ j = i ∧ i < N then g 1 j + v else g 1 j)
        rw [if_neg (fun q => by omega), q_pJ_o (by omega)]
        exact (hg.2 j hj).2
    · rw [if_neg (by omega), if_neg (by omega), h7.2, wJ_add]
      refine ⟨_, rfl, ⟨hg.1, fun j hj => ⟨?_, ?_⟩⟩, fun x hx => ⟨rfl, q_pJ_o (by omega), rfl⟩⟩
      · show _ = wJ (if 0 = 1 ∧ j = i ∧ i < N then g 0 j + v else g 0 j)
        rw [if_neg (fun q => by omega), q_pJ_o (by omega)]
        exact (hg.2 j hj).1
      · show _ = wJ (if 1 = 1 ∧ j = i ∧ i < N then g 1 j + v else g 1 j)
        by_cases e : j = i
        · rw [if_pos ⟨rfl, e, g1⟩, e, q_pJ_s]
        · rw [if_neg (fun q => e q.2.1), q_pJ_k e]
          exact (hg.2 j hj).2
  · rw [if_pos (by omega), if_pos (by omega)]
    have e : q_inc N g a i v = g := by
      funext a' i'
      exact if_neg (fun q => g1 q.2.2)
    rw [e]
    exact ⟨dt, rfl, hg, q_fob_r⟩
theorem M_inc {x N i a : Nat} {dt : q_Dt} {g : Nat → Nat → Int} {v : Int} (hg : q_now x dt g) (hN : N ≤ 512) (hi : i < N) (ha : a < 2) : q_now x (q_pI dt x (512 * a + i) (dt.1 x (512 * a + i) + wI v)) (q_inc N g a i v) := by
  intro j hj
  have h7 := hg i (by omega)
  have h8 := hg j hj
  rcases (show a = 0 ∨ a = 1 by omega) with rfl | rfl
  · refine ⟨?_, ?_⟩
    · show _ = wI (if 0 = 0 ∧ j = i ∧ i < N then g 0 j + v else g 0 j)
      by_cases e : j = i
      · rw [if_pos ⟨rfl, e, hi⟩, e, show 512 * 0 + i = i by omega, q_pI_s, h7.1, wI_add]
      · rw [if_neg (fun q => e q.2.1), q_pI_k (by omega)]
        exact h8.1
    · show _ = wI (if 1 = 0 ∧ j = i ∧ i < N then g 1 j + v else g 1 j)
      rw [if_neg (fun q => by omega), q_pI_k (by omega)]
      exact h8.2
  · refine ⟨?_, ?_⟩
    · show _ = wI (if 0 = 1 ∧ j = i ∧ i < N then g 0 j + v else g 0 j)
      rw [if_neg (fun q => by omega), q_pI_k (by omega)]
      exact h8.1
    · show _ = wI (if 1 = 1 ∧ j = i ∧ i < N then g 1 j + v else g 1 j)
      by_cases e : j = i
      · rw [if_pos ⟨rfl, e, hi⟩, e, show 512 * 1 + i = 512 + i by omega, q_pI_s, h7.2, wI_add]
      · rw [if_neg (fun q => e q.2.1), q_pI_k (by omega)]
        exact h8.2
/-- a stretch of an int row laid anew -/
def q_irow (dt : q_Dt) (arr off n : Nat) (f : Nat → Int32) : q_Dt := (fun x j => if x = arr ∧ off ≤ j ∧ j < off + n then f (j - off) else dt.1 x j, dt.2)
theorem q_irow_0 (dt : q_Dt) (arr off : Nat) (f : Nat → Int32) : q_irow dt arr off 0 f = dt := by
  unfold q_irow
  refine Prod.ext ?_ rfl
  funext x j
  show (if x = arr ∧ off ≤ j ∧ j < off + 0 then f (j - off) else dt.1 x j) = dt.1 x j
  rw [if_neg (fun q => by omega)]
theorem q_irow_s (dt : q_Dt) (arr off n : Nat) (f : Nat → Int32) : q_pI (q_irow dt arr off n f) arr (off + n) (f n) = q_irow dt arr off (n + 1) f := by
  unfold q_irow q_pI
  refine Prod.ext ?_ rfl
  funext x j
  show (if x = arr ∧ j = off + n then f n else if x = arr ∧ off ≤ j ∧ j < off + n then f (j - off) else dt.1 x j) = if x = arr ∧ off ≤ j ∧ j < off + (n + 1) then f (j - off) else dt.1 x j
  by_cases h1 : x = arr
  · by_cases h2 : j = off + n
    · rw [if_pos ⟨h1, h2⟩, if_pos ⟨h1, by omega, by omega⟩, h2, show off + n - off = n by omega]
    · by_cases h3 : off ≤ j ∧ j < off + n
      · rw [if_neg (fun h => h2 h.2), if_pos ⟨h1, h3⟩, if_pos ⟨h1, by omega, by omega⟩]
      · rw [if_neg (fun h => h2 h.2), if_neg (fun h => h3 h.2), if_neg (fun h => absurd h.2 (by omega))]
  · rw [if_neg (fun h => h1 h.1), if_neg (fun h => h1 h.1), if_neg (fun h => h1 h.1)]
theorem q_irow_o {dt : q_Dt} {arr off n x : Nat} {f : Nat → Int32} (h : x ≠ arr) : (q_irow dt arr off n f).1 x = dt.1 x := by
  unfold q_irow
  funext j
  exact if_neg (fun q => h q.1)
theorem q_irow_i {dt : q_Dt} {arr off n j : Nat} {f : Nat → Int32} (h : j < n) : (q_irow dt arr off n f).1 arr (off + j) = f j := by
  unfold q_irow
  show (if arr = arr ∧ off ≤ off + j ∧ off + j < off + n then f (off + j - off) else dt.1 arr (off + j)) = f j
  rw [if_pos ⟨rfl, by omega, by omega⟩, show off + j - off = j by omega]
theorem q_irow_u {dt : q_Dt} {arr off n j : Nat} {f : Nat → Int32} (h : j < off ∨ off + n ≤ j) : (q_irow dt arr off n f).1 arr j = dt.1 arr j := by
  unfold q_irow
  exact if_neg (fun q => by omega)
theorem T_take {b o p N : Nat} {dt : q_Dt} {g : Nat → Nat → Int} (hs : q_So b o) (hs' : q_So b p) (hop : o + 5 ≤ p ∨ p + 5 ≤ o) (hg : q_sig p N dt g) : ∃ d, X8_takeOver (A1 b) dt o p = some d ∧ q_sig o N d g ∧ q_fob o dt d := by
  obtain ⟨h1, h2, h3, h4, h5, h6⟩ := hs
  obtain ⟨k1, k2, k3, k4, k5, k6⟩ := hs'
  unfold X8_takeOver
  rw [h1, h2, k1, k2, hg.1]
  simp only [o1s]
  rw [r_take (n := 512) (arr := o + 2) (n2 := 512) (arr2 := p + 2) h3 h5 (by omega) k3 k5 (by omega) (by omega) (by omega)]
  simp only [b1s]
  rw [r_take (n := 512) (arr := o + 4) (n2 := 512) (arr2 := p + 4) h4 h6 (by omega) k4 k6 (by omega) (by omega) (by omega)]
  simp only [b1s]
  refine ⟨_, rfl, ⟨q_pI_s, fun j hj => ⟨?_, ?_⟩⟩, fun x hx => ⟨q_pI_o (by omega), ?_, rfl⟩⟩
  · rw [q_row_o (by omega), q_row_i hj, q_pI_2]
    exact (hg.2 j hj).1
  · rw [q_row_i hj, q_row_o (by omega), q_pI_2]
    exact (hg.2 j hj).2
  · rw [q_row_o (by omega), q_row_o (by omega), q_pI_2]
theorem T_slot {b : Nat} {dt : q_Dt} {x : Int} (hx1 : -2147483648 ≤ x) (hx2 : x < 2147483648) : X11_slotAt (A1 b) dt b (wI x) = some (if 0 ≤ x ∧ x < 3 then some (b + 221 + 5 * x.toNat) else none) := by
  unfold X11_slotAt
  rw [s0_2, l26, wI_ofNat, show (0 : Int32) = wI 0 from rfl]
  simp (disch := omega) only [wI_lt, wI_le]
  by_cases h : 0 ≤ x ∧ x < 3
  · obtain ⟨i, rfl⟩ := Int.eq_ofNat_of_zero_le h.1
    have e := sl_0 (b := b) (i := i) (by omega)
    simp (disch := omega) only [wI_nat, Int.toNat_natCast]
    rw [if_neg (by omega), if_neg (by omega), if_neg (by omega), if_pos h, e, show b + (221 + 5 * i) = b + 221 + 5 * i by omega]
  · rw [if_neg h]
    by_cases h2 : x < 0
    · rw [if_pos h2]
    · rw [if_neg h2, if_pos (by omega)]
theorem M_holdL {b s : Nat} {dt : q_Dt} (hs : s < 3) : X12_hold_b20 (A2 b) b (wI s) q_FU 0 dt = some (1, q_irow dt (b + 50) (1024 * s) 1024 (dt.1 (b + 39))) := by
  have hl : ∀ n i k : Nat, i + n = 1024 → n < k → X12_hold_b20 (A2 b) b (wI s) k (wI i) (q_irow dt (b + 50) (1024 * s) i (dt.1 (b + 39))) = some (1, q_irow dt (b + 50) (1024 * s) 1024 (dt.1 (b + 39))) := by
    intro n
    induction n with
    | zero =>
      intro i k z1 z2 
      obtain ⟨k, rfl⟩ : ∃ m, k = m + 1 := ⟨k - 1, by omega⟩
      have e : i = 1024 := by omega
      rw [X12_hold_b20.eq_2, show (1024 : Int32) = wI 1024 from rfl]
      simp (disch := omega) only [wI_le]
      rw [if_pos (by omega), e]
    | succ n ih =>
      intro i k z1 z2 
      obtain ⟨k, rfl⟩ : ∃ m, k = m + 1 := ⟨k - 1, by omega⟩
      have hi : i < 1024 := by omega
      have hih := ih (i + 1) k (by omega) (by omega)
      have ei : wI i + 1 = wI (i + 1 : Nat) := wI_add i 1
      have e4 : 1024 * wI s + wI i = wI (1024 * s + i : Nat) := by
        rw [show (1024 : Int32) = wI (1024 : Nat) from rfl, wI_mul, wI_add]
        rfl
      rw [X12_hold_b20.eq_2, m53, m66, n53, n66, e4, ei, show (1024 : Int32) = wI 1024 from rfl, show (0 : Int32) = wI 0 from rfl]
      simp (disch := omega) only [wI_le, wI_lt, wI_nat, Int.toNat_natCast, o1s]
      rw [if_neg (by omega), if_neg (by omega), if_neg (by omega), q_irow_o (show b + 39 ≠ b + 50 by omega), q_irow_s]
      exact hih
  have h0 := hl 1024 0 q_FU (by omega) (by unfold q_FU; omega)
  rw [q_irow_0] at h0
  exact h0
theorem M_restoreL {b s : Nat} {dt : q_Dt} (hs : s < 3) : X12_restore_b22 (A2 b) b (wI s) q_FU 0 dt = some (1, q_irow dt (b + 39) 0 1024 (fun j => dt.1 (b + 50) (1024 * s + j))) := by
  have hl : ∀ n i k : Nat, i + n = 1024 → n < k → X12_restore_b22 (A2 b) b (wI s) k (wI i) (q_irow dt (b + 39) 0 i (fun j => dt.1 (b + 50) (1024 * s + j))) = some (1, q_irow dt (b + 39) 0 1024 (fun j => dt.1 (b + 50) (1024 * s + j))) := by
    intro n
    induction n with
    | zero =>
      intro i k z1 z2 
      obtain ⟨k, rfl⟩ : ∃ m, k = m + 1 := ⟨k - 1, by omega⟩
      have e : i = 1024 := by omega
      rw [X12_restore_b22.eq_2, show (1024 : Int32) = wI 1024 from rfl]
      simp (disch := omega) only [wI_le]
      rw [if_pos (by omega), e]
    | succ n ih =>
      intro i k z1 z2 
      obtain ⟨k, rfl⟩ : ∃ m, k = m + 1 := ⟨k - 1, by omega⟩
      have hi : i < 1024 := by omega
      have hih := ih (i + 1) k (by omega) (by omega)
      have ei : wI i + 1 = wI (i + 1 : Nat) := wI_add i 1
      have e4 : 1024 * wI s + wI i = wI (1024 * s + i : Nat) := by
        rw [show (1024 : Int32) = wI (1024 : Nat) from rfl, wI_mul, wI_add]
        rfl
      have es := q_irow_s dt (b + 39) 0 i (fun j => dt.1 (b + 50) (1024 * s + j))
      rw [Nat.zero_add] at es
      rw [X12_restore_b22.eq_2, m53, m66, n53, n66, e4, ei, show (1024 : Int32) = wI 1024 from rfl, show (0 : Int32) = wI 0 from rfl]
      simp (disch := omega) only [wI_le, wI_lt, wI_nat, Int.toNat_natCast, o1s]
      rw [if_neg (by omega), if_neg (by omega), if_neg (by omega), q_irow_o (show b + 50 ≠ b + 39 by omega), es]
      exact hih
  have h0 := hl 1024 0 q_FU (by omega) (by unfold q_FU; omega)
  rw [q_irow_0] at h0
  exact h0
theorem R_restore : q_c_restore q_Rel := by
  intro k b1 b2 dt1 dt2 a0 hk hR
  obtain ⟨x, rfl, hx1, hx2⟩ := q_arg a0
  have hR' := hR
  obtain ⟨T, t, sd, g, hT, hM, ho, hs, hn, hg, hrt, ⟨M, hM8, hM9, hM3⟩, hk2, hp⟩ := hR'
  show ∃ r d1 d2, X11_restore (A1 b1) dt1 b1 (wI x) = some (r, d1) ∧ X12_restore (A2 b2) dt2 b2 (wI x) = some (r, d2) ∧ _
  have e1 := T_slot (b := b1) (dt := dt1) hx1 hx2
  unfold X11_restore X12_restore
  rw [e1, s0_1, m65, n65, hM9, show (2 : Int32) = wI 2 from rfl, show (0 : Int32) = wI 0 from rfl]
  simp only [b1s]
  by_cases h : 0 ≤ x ∧ x < 3
  · rw [if_pos h, M_in1 (by omega) (by omega) (by omega) (by omega) (by omega) (by omega) (by omega)]
    obtain ⟨s, rfl⟩ := Int.eq_ofNat_of_zero_le h.1
    have hs3 : s < 3 := by omega
    have hh := hM3 s hs3
    have hbt := q_bt_2 M s
    rw [wI_bit (by omega) (by omega), Int.toNat_natCast]
    simp (disch := omega) only [m1s, b1s, wI_lt, wI_nat, Int.toNat_natCast, hh.1]
    rw [if_neg (show ¬ (1 : Int32) = wI 0 by decide), if_neg (show ¬ ((s : Int) < 0 ∨ 3 ≤ s) by omega)]
    have eb : M / 2 ^ s % 2 = q_bt M s := rfl
    rw [eb] at hh ⊢
    simp (disch := omega) only [wI_eq]
    by_cases hb : q_bt M s = 0
    · have hb' : ((q_bt M s : Nat) : Int) = 0 := by omega
      rw [if_pos hb', if_pos hb']
      exact ⟨_, _, _, rfl, rfl, R_up hR⟩
    · have hb' : ¬ ((q_bt M s : Nat) : Int) = 0 := by omega
      rw [if_neg hb', if_neg hb']
      obtain ⟨g2, hg1, hg2, hg3⟩ := hh.2 (by omega)
      obtain ⟨d, hd1, hd2, hd3⟩ := T_take (So_in b1) (So_slot b1 hs3) (Or.inl (by omega)) hg1
      have eL := M_restoreL (b := b2) (dt := dt2) hs3
      rw [hd1]
      refine ⟨1, d, _, rfl, eL, R_sig ⟨hT, hM, ho, hs, hn, hg, hrt, ⟨M, hM8, hM9, hM3⟩, hk2, hp⟩ (fun x hx => hd3 x (by omega)) (fun x h1 h2 h3 h4 => q_irow_o (by omega)) (fun j _ => congrFun (q_irow_o (by omega)) j) (fun _ _ => rfl) hd2 (fun j hj => ⟨?_, ?_⟩) (q_gb_up hg2 (by omega))⟩
      · have := q_irow_i (dt := dt2) (arr := b2 + 39) (off := 0) (n := 1024) (f := fun j => dt2.1 (b2 + 50) (1024 * s + j)) (show j < 1024 by omega)
        rw [Nat.zero_add] at this
        rw [this]
        exact (hg3 j hj).1
      · have := q_irow_i (dt := dt2) (arr := b2 + 39) (off := 0) (n := 1024) (f := fun j => dt2.1 (b2 + 50) (1024 * s + j)) (show 512 + j < 1024 by omega)
        rw [Nat.zero_add] at this
        rw [this]
        exact (hg3 j hj).2
  · rw [if_neg h, M_in0 (by omega) (by omega) (by omega) (by omega) (by omega) (by omega) (by omega)]
    simp only [m1n, b1s]
    rw [if_pos (show (0 : Int32) = wI 0 from rfl)]
    exact ⟨_, _, _, rfl, rfl, R_up hR⟩
theorem R_hold : q_c_hold q_Rel := by
  intro k b1 b2 dt1 dt2 a0 hk hR
  obtain ⟨x, rfl, hx1, hx2⟩ := q_arg a0
  have hR' := hR
  obtain ⟨T, t, sd, g, hT, hM, ho, hs, hn, hg, hrt, ⟨M, hM8, hM9, hM3⟩, hk2, hp⟩ := hR'
  show ∃ r d1 d2, X11_hold (A1 b1) dt1 b1 (wI x) = some (r, d1) ∧ X12_hold (A2 b2) dt2 b2 (wI x) = some (r, d2) ∧ _
  have e1 := T_slot (b := b1) (dt := dt1) hx1 hx2
  unfold X11_hold X12_hold
  rw [e1, s0_1, m65, n65, show (2 : Int32) = wI 2 from rfl, show (0 : Int32) = wI 0 from rfl]
  simp only [b1s]
  by_cases h : 0 ≤ x ∧ x < 3
  · rw [if_pos h, M_in1 (by omega) (by omega) (by omega) (by omega) (by omega) (by omega) (by omega)]
    obtain ⟨s, rfl⟩ := Int.eq_ofNat_of_zero_le h.1
    have hs3 : s < 3 := by omega
    have ht := hT.2.1
    rw [Int.toNat_natCast]
    simp (disch := omega) only [m1s, b1s, wI_lt, wI_nat, Int.toNat_natCast, wI_shl]
    rw [if_neg (show ¬ (1 : Int32) = wI 0 by decide), if_neg (show ¬ ((s : Int) < 0 ∨ 3 ≤ s) by omega)]
    obtain ⟨d, hd1, hd2, hd3⟩ := T_take (So_slot b1 hs3) (So_in b1) (Or.inr (by omega)) hs
    have eL := M_holdL (b := b2) (dt := q_pI dt2 (b2 + 49) s (vp_nar .boolean 1)) hs3
    rw [hd1]
    simp only [b1s, o1s]
    rw [show (0 : Int32) = wI 0 from rfl] at eL
    rw [(hd3 b1 (by omega)).1, hM9, wI_or, eL]
    have ev : vp_nar .boolean 1 = 1 := rfl
    rw [ev]
    refine ⟨1, _, _, rfl, rfl, ?_⟩
    have f1 : ∀ x, x < b1 + 221 + 5 * s ∨ b1 + 221 + 5 * s + 5 ≤ x → x ≠ b1 → (q_pI d b1 9 (wI (M ||| 2 ^ s : Nat))).1 x = dt1.1 x ∧ (q_pI d b1 9 (wI (M ||| 2 ^ s : Nat))).2.1 x = dt1.2.1 x ∧ (q_pI d b1 9 (wI (M ||| 2 ^ s : Nat))).2.2 x = dt1.2.2 x := fun x h1 h2 => ⟨(q_pI_o h2).trans (hd3 x h1).1, (hd3 x h1).2.1, (hd3 x h1).2.2⟩
    have f2 : (q_pI d b1 9 (wI (M ||| 2 ^ s : Nat))).2 = d.2 := rfl
    have f3 : ∀ j, j ≠ 9 → (q_pI d b1 9 (wI (M ||| 2 ^ s : Nat))).1 b1 j = dt1.1 b1 j := fun j hj => (q_pI_k hj).trans (congrFun (hd3 b1 (by omega)).1 j)
    have c1 : ∀ x, x ≠ b2 + 49 → x ≠ b2 + 50 → (q_irow (q_pI dt2 (b2 + 49) s 1) (b2 + 50) (1024 * s) 1024 ((q_pI dt2 (b2 + 49) s 1).1 (b2 + 39))).1 x = dt2.1 x := fun x h1 h2 => (q_irow_o h2).trans (q_pI_o h1)
    refine ⟨T, t, sd, g, T_keep hT (fun x h1 h2 => f1 x (by omega) (by omega)), M_keep hM (congrFun (c1 b2 (by omega) (by omega)) 18) (fun x h1 h2 => c1 x (by omega) (by omega)), ?_, ?_, ?_, q_gb_up hg (by omega), ?_, ⟨M ||| 2 ^ s, ?_, q_pI_s, ?_⟩, ?_, ?_⟩
    · unfold q_own
      rw [f2, (hd3 b1 (by omega)).2.2]
      exact ho
    · unfold q_sig
      rw [(f1 (b1 + 21) (by omega) (by omega)).1, (f1 (b1 + 21 + 2) (by omega) (by omega)).2.1, (f1 (b1 + 21 + 4) (by omega) (by omega)).2.1]
      exact hs
    · unfold q_now
      rw [c1 (b2 + 39) (by omega) (by omega)]
      exact hn
    · obtain ⟨L, by', hL, hL1, hL2, hL3⟩ := hrt
      refine ⟨L, by', hL, ?_, ?_, ?_⟩
      · rw [(f1 (b1 + 2) (by omega) (by omega)).1]
        exact hL1
      · rw [c1 b2 (by omega) (by omega)]
        exact hL2
      · rw [(f1 (b1 + 4) (by omega) (by omega)).2.1, c1 (b2 + 1) (by omega) (by omega)]
        exact hL3
    · exact q_or_lt (n := 3) hM8 hs3
    · intro s' hs'
      have eb : (M ||| 2 ^ s) / 2 ^ s' % 2 = if s' = s then 1 else q_bt M s' := q_bt_or M s s'
      rw [eb, q_irow_o (show b2 + 49 ≠ b2 + 50 by omega)]
      by_cases e : s' = s
      · subst e
        rw [if_pos rfl, q_pI_s]
        refine ⟨rfl, fun _ => ⟨g, ?_, q_gb_up hg (by omega), fun j hj => ⟨?_, ?_⟩⟩⟩
        · exact ⟨(congrFun (q_pI_o (by omega)) 2).trans hd2.1, fun j hj => hd2.2 j hj⟩
        · rw [q_irow_i (show j < 1024 by omega), q_pI_o (show b2 + 39 ≠ b2 + 49 by omega)]
          exact (hn j hj).1
        · rw [q_irow_i (show 512 + j < 1024 by omega), q_pI_o (show b2 + 39 ≠ b2 + 49 by omega)]
          exact (hn j hj).2
      · rw [if_neg e, q_pI_k e]
        refine ⟨(hM3 s' hs').1, fun hm => ?_⟩
        obtain ⟨g2, hg1, hg2, hg3⟩ := (hM3 s' hs').2 hm
        refine ⟨g2, ?_, q_gb_up hg2 (by omega), fun j hj => ?_⟩
        · unfold q_sig
          rw [(f1 (b1 + 221 + 5 * s') (by omega) (by omega)).1, (f1 (b1 + 221 + 5 * s' + 2) (by omega) (by omega)).2.1, (f1 (b1 + 221 + 5 * s' + 4) (by omega) (by omega)).2.1]
          exact hg1
        · rw [q_irow_u (by omega), q_irow_u (by omega), q_pI_o (show b2 + 50 ≠ b2 + 49 by omega)]
          exact hg3 j hj
    · unfold q_Rkk
      rw [(f1 (b1 + 12) (by omega) (by omega)).2.1, c1 (b2 + 12) (by omega) (by omega)]
      exact hk2
    · rw [f3 8 (by omega), c1 b2 (by omega) (by omega)]
      exact hp
  · rw [if_neg h, M_in0 (by omega) (by omega) (by omega) (by omega) (by omega) (by omega) (by omega)]
    simp only [m1n, b1s]
    rw [if_pos (show (0 : Int32) = wI 0 from rfl)]
    exact ⟨_, _, _, rfl, rfl, R_up hR⟩
