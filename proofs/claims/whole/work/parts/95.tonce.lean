/-! level two: all at once, the class -/
def q_rows (b c : Nat) (d : q_Dt) (m : Nat) (R : Nat → Nat → Int) : Prop := ∀ s, s < m → ∀ p, p < 512 → d.2.1 (b + (c + 4 * s)) p = wJ (R s p)
theorem q_rows_w {b c c' i n : Nat} {d : q_Dt} {m : Nat} {R : Nat → Nat → Int} {f : Nat → Int64} (h : q_rows b c d m R) (hx : ∀ s, s < m → b + (c + 4 * s) ≠ b + (c' + 4 * i)) : q_rows b c (q_row d (b + (c' + 4 * i)) n f) m R := fun s hs p hp => (congrFun (q_row_o (hx s hs)) p).trans (h s hs p hp)
theorem q_rows_f {b c m : Nat} {d d' : q_Dt} {R : Nat → Nat → Int} (h : q_rows b c d m R) (hx : ∀ s, s < m → d'.2.1 (b + (c + 4 * s)) = d.2.1 (b + (c + 4 * s))) : q_rows b c d' m R := fun s hs p hp => (congrFun (hx s hs) p).trans (h s hs p hp)
theorem q_fob_e1 {b o : Nat} {dt d : q_Dt} (h : q_fob o dt d) (h1 : b + 27 ≤ o) (h2 : o + 5 ≤ b + 77) : q_e1 b dt d := fun x hx => h x (by omega)
theorem q_sig_f {o n : Nat} {d d' : q_Dt} {g : Nat → Nat → Int} (h : q_sig o n d g) (h1 : d'.1 o = d.1 o) (h2 : d'.2.1 (o + 2) = d.2.1 (o + 2)) (h3 : d'.2.1 (o + 4) = d.2.1 (o + 4)) : q_sig o n d' g := by
  unfold q_sig
  rw [h1, h2, h3]
  exact h
theorem T_taoSkip {b t : Nat} {d : q_Dt} {T : q_Tl} (hT : q_TT b t d T) : ∀ n i k : Nat, i + n = 6 → n < k → Tns T ≤ i → X4_takeAllOut_b2 (A1 b) (b + 43) (some t) k (wI i) d = some d := by
  have hN := hT.1.1
  have hl : ∀ n i k : Nat, i + n = 6 → n < k → (Tns T ≤ i) → X4_takeAllOut_b2 (A1 b) (b + 43) (some t) k (wI i) d = some d := by
    intro n
    induction n with
    | zero =>
      intro i k z1 z2 g1
      obtain ⟨k, rfl⟩ : ∃ m, k = m + 1 := ⟨k - 1, by omega⟩
      have e : i = 6 := by omega
      rw [X4_takeAllOut_b2.eq_2, s43_2, s43_3, l51, l52, wI_ofNat, e]
      simp only [q_leT (Nat.le_refl 6) (show 6 < 2147483648 by omega), ↓reduceIte]
    | succ n ih =>
      intro i k z1 z2 g1
      obtain ⟨k, rfl⟩ : ∃ m, k = m + 1 := ⟨k - 1, by omega⟩
      have hi : i < 6 := by omega
      have hih := ih (i + 1) k (by omega) (by omega) (by omega)
      rw [X4_takeAllOut_b2.eq_2, s43_2, s43_3, l51, l52, wI_ofNat]
      simp only [q_leF hi (show 6 < 2147483648 by omega), ↓reduceIte, m1s]
      rw [T_senderNo hT (x := (i : Nat)) (by omega) (by omega) (by omega), b1s, m1n]
      unfold X4_takeAllOut_b60
      rw [q_n1]
      exact hih
  exact hl
theorem T_tao {b t : Nat} {dt : q_Dt} {T : q_Tl} {g : Nat → Nat → Int} {R : Nat → Nat → Int} (hT : q_TT b t dt T) (hg : q_sig (b + 46) (TN T) dt g) (hR : q_rows b 54 dt (Tns T) R) (hRb : ∀ s, s < Tns T → ∀ p, -9223372036854775808 ≤ R s p ∧ R s p < 9223372036854775808) : ∃ d', X4_takeAllOut (A1 b) dt (b + 43) (some t) = some d' ∧ q_sig (b + 46) (TN T) d' (q_Gx T g R 6 (Tns T)) ∧ q_rows b 56 d' (Tns T) R ∧ q_e1 b dt d' := by
  have hN := hT.1.1
  have ht := hT.2.1
  have hl : ∀ n i k : Nat, i + n = Tns T → n < k → (6 < k + i) → ∀ d, q_e1 b dt d → q_sig (b + 46) (TN T) d (q_Gx T g R 6 i) → q_rows b 54 d (Tns T) R → q_rows b 56 d i R → ∃ d', X4_takeAllOut_b2 (A1 b) (b + 43) (some t) k (wI i) d = some d' ∧ q_sig (b + 46) (TN T) d' (q_Gx T g R 6 (Tns T)) ∧ q_rows b 56 d' (Tns T) R ∧ q_e1 b dt d' := by
    intro n
    induction n with
    | zero =>
      intro i k z1 z2 g1
      obtain ⟨k, rfl⟩ : ∃ m, k = m + 1 := ⟨k - 1, by omega⟩
      have e : i = Tns T := by omega
      intro d q1 q2 q3 q4
      rw [e] at q2 q4
      exact ⟨d, T_taoSkip (T_e1 hT q1) (6 - i) i (k + 1) (by omega) (by omega) (by omega), q2, q4, q1⟩
    | succ n ih =>
      intro i k z1 z2 g1
      obtain ⟨k, rfl⟩ : ∃ m, k = m + 1 := ⟨k - 1, by omega⟩
      have hi : i < Tns T := by omega
      intro d q1 q2 q3 q4
      have hi6 : i < 6 := by omega
      have hk1 := r_take (al := A1 b) (dt := d) (a := b + (55 + 4 * i)) (o := b + (53 + 4 * i)) (rc_3 hi6) (rc_l1 hi6) (by omega) (rc_2 hi6) (rc_l0 hi6) (by omega) (by omega) (by omega)
      have f1 : q_e1 b d (q_row d (b + (56 + 4 * i)) 512 (d.2.1 (b + (54 + 4 * i)))) := q_e1_row q_e1_r (by omega) (by omega)
      have hT1 := T_e1 (T_e1 hT q1) f1
      have hg1 : q_sig (b + 46) (TN T) (q_row d (b + (56 + 4 * i)) 512 (d.2.1 (b + (54 + 4 * i)))) (q_Gx T g R 6 i) := q_sig_f q2 rfl (q_row_o (by omega)) (q_row_o (by omega))
      obtain ⟨d2, r1, r2, r3⟩ := T_waveS (tb := q_rsb R i) (f := -1) (sm := R i) hT1 (So_left b) (by omega) hg1 hi (by omega) (rc_3 hi6) (rc_l1 hi6) (Or.inr (by omega)) (fun p hp => by
        rw [q_row_i hp]
        exact q3 i hi p hp) (fun p _ => hRb i hi p) (fun p _ => rfl)
      rw [q_Gx_s T g R (show i ≠ 6 by omega)] at r2
      have hr3 : q_e1 b (q_row d (b + (56 + 4 * i)) 512 (d.2.1 (b + (54 + 4 * i)))) d2 := q_fob_e1 r3 (by omega) (by omega)
      obtain ⟨d', v1, v2⟩ := ih (i + 1) k (by omega) (by omega) (by omega) d2 (q_e1_t (q_e1_t q1 f1) hr3) r2 (q_rows_f (q_rows_w q3 (fun s hs => by omega)) (fun s hs => (r3 _ (by omega)).2.1)) (fun s hs p hp => by
        rw [(r3 _ (by omega)).2.1]
        by_cases es : s = i
        · rw [es, q_row_i hp]
          exact q3 i hi p hp
        · rw [q_row_o (by omega)]
          exact q4 s (by omega) p hp)
      refine ⟨d', ?_, v2⟩
      rw [X4_takeAllOut_b2.eq_2, s43_1, s43_2, s43_3, l51, l52, wI_ofNat, q_nn (show i < 2147483648 by omega), rc_0 hi6, rc_1 hi6]
      simp only [q_leF hi6 (show 6 < 2147483648 by omega), q_ge hi6 (show 6 < 2147483648 by omega), ↓reduceIte, m1s]
      rw [T_senderAt (T_e1 hT q1) hi, b1s, m1s, hk1, b1s, show (-1 : Int32) = wI (-1) from rfl, r1, b1s]
      unfold X4_takeAllOut_b60
      rw [q_n1]
      exact v1
  unfold X4_takeAllOut
  exact hl (Tns T) 0 q_FU (by omega) (by unfold q_FU; omega) (by unfold q_FU; omega) dt q_e1_r (by rw [q_Gx_0]; exact hg) hR (fun s hs => absurd hs (by omega))
theorem T_b90 {b t i : Nat} {d : q_Dt} {T : q_Tl} {rs : Nat → Int} {fl : Int32} {w : Int} (kk : Int32 → Int32 → q_Dt → Option (Int32 × q_Dt)) (hT : q_TT b t d T) (hi : i < Tns T) (hn : d.1 (b + 46) 2 = wI (TN T)) (hs : ∀ p, p < 512 → d.2.1 (b + 45) p = wJ (rs p)) (hb : ∀ p, -9223372036854775808 ≤ rs p ∧ rs p < 9223372036854775808) : X4_readAll_b90 (A1 b) kk (b + 43) (some t) fl (wI w) (wI i) (t + 42 + 5 * i) d = kk (wI (w + q_wr T i rs (q_np T i))) (wI (i + 1 : Nat)) (q_row d (b + (54 + 4 * i)) 512 (d.2.1 (b + 45))) := by
  have hN := hT.1.1
  have hi6 : i < 6 := by omega
  have hnp := (q_np_e hT.1 hi).2
  have hk1 := r_take (al := A1 b) (dt := d) (a := b + (53 + 4 * i)) (o := b + 44) (rc_2 hi6) (rc_l0 hi6) (by omega) (s44_0 b) (l45 b) (by omega) (by omega) (by omega)
  have f1 : q_e1 b d (q_row d (b + (54 + 4 * i)) 512 (d.2.1 (b + 45))) := q_e1_row q_e1_r (by omega) (by omega)
  have hT1 := T_e1 hT f1
  unfold X4_readAll_b90 X4_readAll_b125
  rw [s43_0, s43_1, s43_2, l51, q_nn (show i < 2147483648 by omega), rc_0 hi6]
  simp only [q_ge hi6 (show 6 < 2147483648 by omega), ↓reduceIte]
  rw [hk1, b1s, show (q_row d (b + (54 + 4 * i)) 512 (d.2.1 (b + 45))).1 (b + 46) 2 = wI (TN T) from hn, T_periods hT1 hi, b1s, T_wrongBits (rs := rs) hT1 hi hnp (fun p hp => by
    rw [q_row_o (by omega)]
    exact hs p hp) hb, b1s, wI_add, q_n1]
theorem T_rdSkip {b t : Nat} {d : q_Dt} {T : q_Tl} {fl w : Int32} (hT : q_TT b t d T) : ∀ n i k : Nat, i + n = 6 → n < k → Tns T ≤ i → X4_readAll_b5 (A1 b) (b + 43) (some t) fl k w (wI i) d = some (w, d) := by
  have hN := hT.1.1
  have hl : ∀ n i k : Nat, i + n = 6 → n < k → (Tns T ≤ i) → X4_readAll_b5 (A1 b) (b + 43) (some t) fl k w (wI i) d = some (w, d) := by
    intro n
    induction n with
    | zero =>
      intro i k z1 z2 g1
      obtain ⟨k, rfl⟩ : ∃ m, k = m + 1 := ⟨k - 1, by omega⟩
      have e : i = 6 := by omega
      rw [X4_readAll_b5.eq_2, s43_2, s43_3, l51, l52, wI_ofNat, e]
      simp only [q_leT (Nat.le_refl 6) (show 6 < 2147483648 by omega), ↓reduceIte, X4_readAll_b131]
    | succ n ih =>
      intro i k z1 z2 g1
      obtain ⟨k, rfl⟩ : ∃ m, k = m + 1 := ⟨k - 1, by omega⟩
      have hi : i < 6 := by omega
      have hih := ih (i + 1) k (by omega) (by omega) (by omega)
      rw [X4_readAll_b5.eq_2, s43_2, s43_3, l51, l52, wI_ofNat]
      simp only [q_leF hi (show 6 < 2147483648 by omega), ↓reduceIte, m1s]
      rw [T_senderNo hT (x := (i : Nat)) (by omega) (by omega) (by omega), b1s, m1n]
      unfold X4_readAll_b125
      rw [q_n1]
      exact hih
  exact hl
theorem T_rd0 {b t : Nat} {dt : q_Dt} {T : q_Tl} {g : Nat → Nat → Int} (hT : q_TT b t dt T) (hg : q_sig (b + 46) (TN T) dt g) (hz : ∀ a i, TN T ≤ i → g a i = 0) (hb : ∀ a i, -4000000 ≤ g a i ∧ g a i ≤ 4000000) : ∃ d', X4_readAll (A1 b) dt (b + 43) (some t) 0 = some (wI (q_aw T (fun s => q_rs T g s) (Tns T)), d') ∧ q_rows b 54 d' (Tns T) (fun s => q_rs T g s) ∧ q_e1 b dt d' := by
  have hN := hT.1.1
  have ht := hT.2.1
  have hl : ∀ n i k : Nat, i + n = Tns T → n < k → (6 < k + i) → ∀ d, q_e1 b dt d → q_sig (b + 46) (TN T) d g → q_rows b 54 d i (fun s => q_rs T g s) → ∃ d', X4_readAll_b5 (A1 b) (b + 43) (some t) 0 k (wI (q_aw T (fun s => q_rs T g s) i)) (wI i) d = some (wI (q_aw T (fun s => q_rs T g s) (Tns T)), d') ∧ q_rows b 54 d' (Tns T) (fun s => q_rs T g s) ∧ q_e1 b dt d' := by
    intro n
    induction n with
    | zero =>
      intro i k z1 z2 g1
      obtain ⟨k, rfl⟩ : ∃ m, k = m + 1 := ⟨k - 1, by omega⟩
      have e : i = Tns T := by omega
      intro d q1 q2 q4
      rw [e] at q4
      refine ⟨d, ?_, q4, q1⟩
      rw [T_rdSkip (T_e1 hT q1) (6 - i) i (k + 1) (by omega) (by omega) (by omega), e]
    | succ n ih =>
      intro i k z1 z2 g1
      obtain ⟨k, rfl⟩ : ∃ m, k = m + 1 := ⟨k - 1, by omega⟩
      have hi : i < Tns T := by omega
      intro d q1 q2 q4
      have hi6 : i < 6 := by omega
      have hT1 := T_e1 hT q1
      obtain ⟨d1, p1, p2, p3⟩ := T_gather hT1 (So_left b) q2 hz (Or.inr rfl) hi
      have hT2 := T_fJ hT1 p2
      have hg2 : q_sig (b + 46) (TN T) d1 g := q_sig_f q2 (by rw [p2.1]) (p2.2.2 _ (by omega)) (p2.2.2 _ (by omega))
      have f1 : q_e1 b d1 (q_row d1 (b + (54 + 4 * i)) 512 (d1.2.1 (b + 45))) := q_e1_row q_e1_r (by omega) (by omega)
      obtain ⟨d', v1, v2⟩ := ih (i + 1) k (by omega) (by omega) (by omega) (q_row d1 (b + (54 + 4 * i)) 512 (d1.2.1 (b + 45))) (q_e1_t (q_e1_t q1 (q_fJ_e1 p2)) f1) (q_sig_f hg2 rfl (q_row_o (by omega)) (q_row_o (by omega))) (fun s hs p hp => by
        by_cases es : s = i
        · rw [es, q_row_i hp]
          exact p3 p hp
        · rw [q_row_o (by omega), p2.2.2 _ (by omega)]
          exact q4 s (by omega) p hp)
      refine ⟨d', ?_, v2⟩
      rw [X4_readAll_b5.eq_2, s43_2, s43_3, l51, l52, wI_ofNat]
      simp only [q_leF hi6 (show 6 < 2147483648 by omega), ↓reduceIte, m1s]
      rw [T_senderAt hT1 hi, b1s, m1s]
      unfold X4_readAll_b59
      rw [s43_1, p1, b1s, if_pos rfl, T_b90 (rs := q_rs T g i) _ hT2 hi hg2.1 p3 (fun p => by have := q_rs_b (p := p) hT.1 hi hb; omega)]
      exact v1
  unfold X4_readAll
  exact hl (Tns T) 0 q_FU (by omega) (by unfold q_FU; omega) (by unfold q_FU; omega) dt q_e1_r hg (fun s hs => absurd hs (by omega))
theorem T_rd1 {b t : Nat} {dt : q_Dt} {T : q_Tl} {g : Nat → Nat → Int} {R : Nat → Nat → Int} (hT : q_TT b t dt T) (hg : q_sig (b + 46) (TN T) dt (q_Gx T g R 6 (Tns T))) (hA : q_rows b 56 dt (Tns T) R) (hRb : ∀ s, s < Tns T → ∀ p, -9223372036854775808 ≤ R s p ∧ R s p < 9223372036854775808) (hz : ∀ a i, TN T ≤ i → g a i = 0) (hb : ∀ a i, -3300000 ≤ g a i ∧ g a i ≤ 3300000) : ∃ d', X4_readAll (A1 b) dt (b + 43) (some t) 1 = some (wI (q_aw T (fun s => q_rs T (q_Gx T g R s (Tns T)) s) (Tns T)), d') ∧ q_rows b 54 d' (Tns T) (fun s => q_rs T (q_Gx T g R s (Tns T)) s) ∧ q_e1 b dt d' := by
  have hN := hT.1.1
  have ht := hT.2.1
  have n10 : ¬ (1 : Int32) = 0 := by decide
  have hl : ∀ n i k : Nat, i + n = Tns T → n < k → (6 < k + i) → ∀ d, q_e1 b dt d → q_sig (b + 46) (TN T) d (q_Gx T g R 6 (Tns T)) → q_rows b 56 d (Tns T) R → q_rows b 54 d i (fun s => q_rs T (q_Gx T g R s (Tns T)) s) → ∃ d', X4_readAll_b5 (A1 b) (b + 43) (some t) 1 k (wI (q_aw T (fun s => q_rs T (q_Gx T g R s (Tns T)) s) i)) (wI i) d = some (wI (q_aw T (fun s => q_rs T (q_Gx T g R s (Tns T)) s) (Tns T)), d') ∧ q_rows b 54 d' (Tns T) (fun s => q_rs T (q_Gx T g R s (Tns T)) s) ∧ q_e1 b dt d' := by
    intro n
    induction n with
    | zero =>
      intro i k z1 z2 g1
      obtain ⟨k, rfl⟩ : ∃ m, k = m + 1 := ⟨k - 1, by omega⟩
      have e : i = Tns T := by omega
      intro d q1 q2 q3 q4
      rw [e] at q4
      refine ⟨d, ?_, q4, q1⟩
      rw [T_rdSkip (T_e1 hT q1) (6 - i) i (k + 1) (by omega) (by omega) (by omega), e]
    | succ n ih =>
      intro i k z1 z2 g1
      obtain ⟨k, rfl⟩ : ∃ m, k = m + 1 := ⟨k - 1, by omega⟩
      have hi : i < Tns T := by omega
      intro d q1 q2 q3 q4
      have hi6 : i < 6 := by omega
      have hT1 := T_e1 hT q1
      obtain ⟨d1, r1, r2, r3⟩ := T_waveS (tb := q_rsb R i) (f := 1) (sm := R i) hT1 (So_left b) (by omega) q2 hi (by omega) (rc_3 hi6) (rc_l1 hi6) (Or.inr (by omega)) (fun p hp => q3 i hi p hp) (fun p _ => hRb i hi p) (fun p _ => rfl)
      rw [q_Gx_add T g R hi (by omega)] at r2
      have fr3 : q_e1 b d d1 := q_fob_e1 r3 (by omega) (by omega)
      have hT2 := T_e1 hT1 fr3
      have hb1 := q_Gx_b (R := R) (s := i) hT.1 (Nat.le_refl (Tns T)) hb
      obtain ⟨d2, p1, p2, p3⟩ := T_gather hT2 (So_left b) r2 (q_Gx_z hz) (Or.inr rfl) hi
      have hT3 := T_fJ hT2 p2
      have hg3 : q_sig (b + 46) (TN T) d2 (q_Gx T g R i (Tns T)) := q_sig_f r2 (by rw [p2.1]) (p2.2.2 _ (by omega)) (p2.2.2 _ (by omega))
      have hq3 : ∀ p, p < 512 → d2.2.1 (b + (56 + 4 * i)) p = wJ (R i p) := fun p hp => by
        rw [p2.2.2 _ (by omega), (r3 _ (by omega)).2.1]
        exact q3 i hi p hp
      obtain ⟨d3, u1, u2, u3⟩ := T_waveS (tb := q_rsb R i) (f := -1) (sm := R i) hT3 (So_left b) (by omega) hg3 hi (by omega) (rc_3 hi6) (rc_l1 hi6) (Or.inr (by omega)) hq3 (fun p _ => hRb i hi p) (fun p _ => rfl)
      rw [q_Gx_sub T g R hi (by omega)] at u2
      have fu3 : q_e1 b d2 d3 := q_fob_e1 u3 (by omega) (by omega)
      have hT4 := T_e1 hT3 fu3
      have hs3 : ∀ p, p < 512 → d3.2.1 (b + 45) p = wJ (q_rs T (q_Gx T g R i (Tns T)) i p) := fun p hp => by
        rw [(u3 _ (by omega)).2.1]
        exact p3 p hp
      have f1 : q_e1 b d3 (q_row d3 (b + (54 + 4 * i)) 512 (d3.2.1 (b + 45))) := q_e1_row q_e1_r (by omega) (by omega)
      obtain ⟨d', v1, v2⟩ := ih (i + 1) k (by omega) (by omega) (by omega) (q_row d3 (b + (54 + 4 * i)) 512 (d3.2.1 (b + 45))) (q_e1_t (q_e1_t (q_e1_t (q_e1_t q1 fr3) (q_fJ_e1 p2)) fu3) f1) (q_sig_f u2 rfl (q_row_o (by omega)) (q_row_o (by omega))) (fun s hs p hp => by
        rw [q_row_o (by omega), (u3 _ (by omega)).2.1, p2.2.2 _ (by omega), (r3 _ (by omega)).2.1]
        exact q3 s hs p hp) (fun s hs p hp => by
        by_cases es : s = i
        · rw [es, q_row_i hp]
          exact hs3 p hp
        · rw [q_row_o (by omega), (u3 _ (by omega)).2.1, p2.2.2 _ (by omega), (r3 _ (by omega)).2.1]
          exact q4 s (by omega) p hp)
      refine ⟨d', ?_, v2⟩
      rw [X4_readAll_b5.eq_2, s43_1, s43_2, s43_3, l51, l52, wI_ofNat, q_nn (show i < 2147483648 by omega), rc_1 hi6]
      simp only [q_leF hi6 (show 6 < 2147483648 by omega), q_ge hi6 (show 6 < 2147483648 by omega), ↓reduceIte, m1s]
      rw [T_senderAt hT1 hi, b1s, m1s, if_neg n10, show (1 : Int32) = wI 1 from rfl, r1, b1s]
      unfold X4_readAll_b59
      rw [s43_1, s43_3, l52, q_nn (show i < 2147483648 by omega), rc_1 hi6, p1, b1s, if_neg (show ¬ wI 1 = 0 by decide), show (-1 : Int32) = wI (-1) from rfl, u1, b1s, T_b90 (rs := q_rs T (q_Gx T g R i (Tns T)) i) _ hT4 hi u2.1 hs3 (fun p => by have := q_rs_b (p := p) hT.1 hi hb1; omega)]
      simp only [q_ge hi6 (show 6 < 2147483648 by omega), ↓reduceIte]
      exact v1
  unfold X4_readAll
  exact hl (Tns T) 0 q_FU (by omega) (by unfold q_FU; omega) (by unfold q_FU; omega) dt q_e1_r hg hA (fun s hs => absurd hs (by omega))
theorem T_once {b t r : Nat} {dt : q_Dt} {T : q_Tl} {g : Nat → Nat → Int} (hT : q_TT b t dt T) (hg : q_sig (b + 21) (TN T) dt g) (hz : ∀ a i, TN T ≤ i → g a i = 0) (hb : ∀ a i, -3300000 ≤ g a i ∧ g a i ≤ 3300000) (hr : 1 ≤ r) (hr6 : r ≤ 6) : ∃ d', X4_wrongAtOnce (A1 b) dt (b + 43) (some t) (b + 21) (wI r) = some (wI (q_aw T (q_ao T g (r - 1)) (Tns T)), d') ∧ q_e1 b dt d' := by
  have hN := hT.1.1
  have hb4 : ∀ a i, -4000000 ≤ g a i ∧ g a i ≤ 4000000 := fun a i => by have := hb a i; omega
  have htk : ∀ d, q_e1 b dt d → ∃ d1, X8_takeOver (A1 b) d (b + 46) (b + 21) = some d1 ∧ q_sig (b + 46) (TN T) d1 g ∧ q_fob (b + 46) d d1 := fun d q1 => T_take (So_left b) (So_in b) (by omega) (q_sig_f hg (q1 _ (by omega)).1 (q1 _ (by omega)).2.1 (q1 _ (by omega)).2.1)
  have hl : ∀ n i k : Nat, i + n = r - 1 → n < k → ∀ d, q_e1 b dt d → q_rows b 54 d (Tns T) (q_ao T g i) → ∃ d', X4_wrongAtOnce_b6 (A1 b) (b + 43) (some t) (b + 21) (wI r) k (wI (q_aw T (q_ao T g i) (Tns T))) (wI (i + 1 : Nat)) d = some (wI (q_aw T (q_ao T g (r - 1)) (Tns T)), d') ∧ q_e1 b dt d' := by
    intro n
    induction n with
    | zero =>
      intro i k z1 z2 
      obtain ⟨k, rfl⟩ : ∃ m, k = m + 1 := ⟨k - 1, by omega⟩
      have e : i = r - 1 := by omega
      intro d q1 q2
      refine ⟨d, ?_, q1⟩
      rw [X4_wrongAtOnce_b6.eq_2, e, show r - 1 + 1 = r by omega]
      simp only [q_leT (Nat.le_refl r) (show r < 2147483648 by omega), ↓reduceIte]
    | succ n ih =>
      intro i k z1 z2 
      obtain ⟨k, rfl⟩ : ∃ m, k = m + 1 := ⟨k - 1, by omega⟩
      have hi : i < r - 1 := by omega
      intro d q1 q2
      obtain ⟨d1, p1, p2, p3⟩ := htk d q1
      have f1 : q_e1 b d d1 := q_fob_e1 p3 (by omega) (by omega)
      have hT1 := T_e1 (T_e1 hT q1) f1
      obtain ⟨d2, r1, r2, r3, r4⟩ := T_tao hT1 p2 (q_rows_f q2 (fun s hs => (p3 _ (by omega)).2.1)) (fun s hs p => q_ao_b hT.1 hb i hs p)
      obtain ⟨d3, u1, u2, u3⟩ := T_rd1 (T_e1 hT1 r4) r2 r3 (fun s hs p => q_ao_b hT.1 hb i hs p) hz hb
      obtain ⟨d', v1, v2⟩ := ih (i + 1) k (by omega) (by omega) d3 (q_e1_t (q_e1_t (q_e1_t q1 f1) r4) u3) u2
      refine ⟨d', ?_, v2⟩
      have kz : (wI (i + 1 : Nat) ≤ 0) = False := q_leF (a := i + 1) (b := 0) (by omega) (by omega)
      rw [X4_wrongAtOnce_b6.eq_2, s43_1, p1]
      simp only [q_leF (show i + 1 < r by omega) (show r < 2147483648 by omega), ↓reduceIte, b1s, kz, X4_wrongAtOnce_b30, X4_wrongAtOnce_b42]
      rw [r1, b1s, u1, b2s, q_n1]
      exact v1
  obtain ⟨k0, hk0⟩ : ∃ k0, q_FU = k0 + 1 := ⟨q_FU - 1, by unfold q_FU; omega⟩
  have hk1 : 100 < k0 := by unfold q_FU at hk0; omega
  obtain ⟨d1, p1, p2, p3⟩ := htk dt q_e1_r
  have f1 : q_e1 b dt d1 := q_fob_e1 p3 (by omega) (by omega)
  obtain ⟨d3, u1, u2, u3⟩ := T_rd0 (T_e1 hT f1) p2 hz hb4
  obtain ⟨d', v1, v2⟩ := hl (r - 1) 0 k0 (by omega) (by omega) d3 (q_e1_t f1 u3) u2
  refine ⟨d', ?_, v2⟩
  have kr : (wI r ≤ 0) = False := q_leF (a := r) (b := 0) (by omega) (by omega)
  have kz : ((0 : Int32) ≤ 0) = True := eq_true (by decide)
  unfold X4_wrongAtOnce
  rw [hk0, X4_wrongAtOnce_b6.eq_2, s43_1, p1]
  simp only [kr, kz, ↓reduceIte, b1s, X4_wrongAtOnce_b30, X4_wrongAtOnce_b42]
  rw [u1, b2s]
  exact v1
