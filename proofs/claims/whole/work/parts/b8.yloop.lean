/-! level two: the class makes a whole text -/
theorem y_tell2 {b t N a : Nat} {K P : Nat → Nat} {V : Nat → Int} {d : q_Dt} {F : Nat × Nat} {M : q_Nm} {T : q_Tl} (hY : kd_Y b N K P V d (a + 1) F M) (hN : qk_tok K P V N) (hM : kn_wf M) (hu : kn_un M) (hr : kn_r M T) (hT : q_TT b t d T) (hF : F.1 ≤ 5) (ha : a ≤ N) (h : (ky_tell K V (ky_c T) a).2 = 0) : ∃ d' e, X3_makeTell (A1 b) d (b + 1) t (wI (V a)) = some d' ∧ e + 1 ≤ N ∧ ky_tell K V (ky_c T) a = (e + 1, 0) ∧ kd_R b t N K P V d d' e (kz_F K P V M T a F) (kz_M V M T a) (kz_T K V M T a) := by
  have hw0 := hT.1.1
  have hcw : ky_cw T := ⟨hw0.1, hw0.2.1, hw0.2.2.1, hw0.2.2.2.1, hw0.2.2.2.2.1⟩
  obtain ⟨w, hw10, hw, hk6, hroom, h4⟩ := ky_tell_s hN ha h
  have hrm := ky_room_c hcw hw10 hroom
  have hb := (ky_tell_b hN (c := ky_c T) ha).1.1
  have hm20 : w ≤ 5 → M.1 < 20 := by
    intro h
    have := hr.1
    by_cases g : w ≤ 3
    · have := hrm.1 g; omega
    · by_cases g2 : w = 4
      · have := hrm.2.1 g2; omega
      · have := hrm.2.2.1 (by omega); omega
  have hw3 : (V a).toNat = w := by omega
  have h5 := h
  rw [h4] at h5 hb
  rw [hw]
  suffices hx : ∃ d' e, X3_makeTell (A1 b) d (b + 1) t (wI ((w : Nat) : Int)) = some d' ∧ ky_tell K V (ky_c T) a = (e + 1, 0) ∧ kd_R b t N K P V d d' e (kz_F K P V M T a F) (kz_M V M T a) (kz_T K V M T a) by
    obtain ⟨d', e, x1, x2, x3⟩ := hx
    rw [← h4, x2] at hb
    exact ⟨d', e, x1, hb, x2, x3⟩
  have h10 : w = 0 ∨ w = 1 ∨ w = 2 ∨ w = 3 ∨ w = 4 ∨ w = 5 ∨ w = 6 ∨ w = 7 ∨ w = 8 ∨ w = 9 := by omega
  rcases h10 with rfl | rfl | rfl | rfl | rfl | rfl | rfl | rfl | rfl | rfl
  · obtain ⟨g1, g2, g3, g4, g5, gl⟩ := ky_w0 h5
    have hb1 : (a + 5) + 1 ≤ N := by rw [gl] at hb; exact hb
    obtain ⟨d', r1, r2⟩ := y_m0 hY hN hM (hm20 (by omega)) hT (hrm.1 (by omega)) hF (by omega) g1 g2 g3 g4
    refine ⟨d', a + 5, ?_, h4.trans gl, ?_⟩
    · unfold X3_makeTell
      rw [if_pos (show wI ((0 : Nat) : Int) = 0 from rfl)]
      rw [r1]
      simp only [b1s]
    · unfold kz_F kz_M kz_T
      rw [hw3]
      exact r2
  · obtain ⟨g1, g2, g3, g4, gl⟩ := ky_w1 h5
    have hb1 : (a + 4) + 1 ≤ N := by rw [gl] at hb; exact hb
    obtain ⟨d', r1, r2⟩ := y_m1 hY hN hM (hm20 (by omega)) hT (hrm.1 (by omega)) hF (by omega) g1 g2 g3
    refine ⟨d', a + 4, ?_, h4.trans gl, ?_⟩
    · unfold X3_makeTell
      rw [if_neg (show ¬ wI ((1 : Nat) : Int) = 0 by decide), if_pos (show wI ((1 : Nat) : Int) = 1 from rfl)]
      rw [r1]
      simp only [b1s]
    · unfold kz_F kz_M kz_T
      rw [hw3]
      exact r2
  · obtain ⟨g1, g2, g3, g4, gl⟩ := ky_w2 h5
    have hb1 : (a + 4) + 1 ≤ N := by rw [gl] at hb; exact hb
    obtain ⟨d', r1, r2⟩ := y_m2 hY hN hM (hm20 (by omega)) hT (hrm.1 (by omega)) hF (by omega) g1 g2 g3
    refine ⟨d', a + 4, ?_, h4.trans gl, ?_⟩
    · unfold X3_makeTell
      rw [if_neg (show ¬ wI ((2 : Nat) : Int) = 0 by decide), if_neg (show ¬ wI ((2 : Nat) : Int) = 1 by decide), if_pos (show wI ((2 : Nat) : Int) = 2 from rfl)]
      rw [r1]
      simp only [b1s]
    · unfold kz_F kz_M kz_T
      rw [hw3]
      exact r2
  · obtain ⟨g1, g2, g3, g4, g5, gl⟩ := ky_w3 h5
    have hb1 : (a + 5) + 1 ≤ N := by rw [gl] at hb; exact hb
    obtain ⟨d', r1, r2⟩ := y_m3 hY hN hM (hm20 (by omega)) hu hr hT (hrm.1 (by omega)) hF (by omega) g1 g2 g3 g4
    refine ⟨d', a + 5, ?_, h4.trans gl, ?_⟩
    · unfold X3_makeTell
      rw [if_neg (show ¬ wI ((3 : Nat) : Int) = 0 by decide), if_neg (show ¬ wI ((3 : Nat) : Int) = 1 by decide), if_neg (show ¬ wI ((3 : Nat) : Int) = 2 by decide), if_pos (show wI ((3 : Nat) : Int) = 3 from rfl)]
      rw [r1]
      simp only [b1s]
    · unfold kz_F kz_M kz_T
      rw [hw3]
      exact r2
  · obtain ⟨g1, g2, g3, g4, g5, gl⟩ := ky_w4 h5
    have hb1 : (a + 5) + 1 ≤ N := by rw [gl] at hb; exact hb
    obtain ⟨d', r1, r2⟩ := y_m4 hY hN hM (hm20 (by omega)) hT (hrm.2.1 rfl) hF (by omega) g1 g2 g3 g4
    refine ⟨d', a + 5, ?_, h4.trans gl, ?_⟩
    · unfold X3_makeTell
      rw [if_neg (show ¬ wI ((4 : Nat) : Int) = 0 by decide), if_neg (show ¬ wI ((4 : Nat) : Int) = 1 by decide), if_neg (show ¬ wI ((4 : Nat) : Int) = 2 by decide), if_neg (show ¬ wI ((4 : Nat) : Int) = 3 by decide), if_pos (show wI ((4 : Nat) : Int) = 4 from rfl)]
      rw [r1]
      simp only [b1s]
    · unfold kz_F kz_M kz_T
      rw [hw3]
      exact r2
  · obtain ⟨g1, g2, g3, g4, g5, g6, g7, g8, gl⟩ := ky_w5 h5
    have hb1 : (if K (a + 7) = 6 then a + 9 else a + 7) + 1 ≤ N := by rw [gl] at hb; exact hb
    obtain ⟨d', r1, r2⟩ := y_m5 hY hN hM (hm20 (by omega)) hu hr hT (hrm.2.2.1 rfl) hF (by split at hb1 <;> omega) (fun q => by rw [if_pos q] at hb1; omega) g1 g2 g3 g4 g5 g6 (fun q => (g7 q).2)
    refine ⟨d', if K (a + 7) = 6 then a + 9 else a + 7, ?_, h4.trans gl, ?_⟩
    · unfold X3_makeTell
      rw [if_neg (show ¬ wI ((5 : Nat) : Int) = 0 by decide), if_neg (show ¬ wI ((5 : Nat) : Int) = 1 by decide), if_neg (show ¬ wI ((5 : Nat) : Int) = 2 by decide), if_neg (show ¬ wI ((5 : Nat) : Int) = 3 by decide), if_neg (show ¬ wI ((5 : Nat) : Int) = 4 by decide), if_pos (show wI ((5 : Nat) : Int) = 5 from rfl)]
      rw [r1]
      simp only [b1s]
    · unfold kz_F kz_M kz_T
      rw [hw3]
      exact r2
  · obtain ⟨g1, g2, g3, g4, gl⟩ := ky_w6 h5
    have hb1 : (a + 4 + kz_e K a) + 1 ≤ N := by rw [gl] at hb; exact hb
    obtain ⟨d', r1, r2⟩ := y_m6 hY hN hM hu hr hT (hrm.2.2.2.1 rfl) hF (by omega) g1 g2 g3
    refine ⟨d', a + 4 + kz_e K a, ?_, h4.trans gl, ?_⟩
    · unfold X3_makeTell
      rw [if_neg (show ¬ wI ((6 : Nat) : Int) = 0 by decide), if_neg (show ¬ wI ((6 : Nat) : Int) = 1 by decide), if_neg (show ¬ wI ((6 : Nat) : Int) = 2 by decide), if_neg (show ¬ wI ((6 : Nat) : Int) = 3 by decide), if_neg (show ¬ wI ((6 : Nat) : Int) = 4 by decide), if_neg (show ¬ wI ((6 : Nat) : Int) = 5 by decide), if_pos (show wI ((6 : Nat) : Int) = 6 from rfl)]
      rw [r1]
      simp only [b1s]
    · unfold kz_F kz_M kz_T
      rw [hw3]
      exact r2
  · obtain ⟨g1, g2, g3, g4, g5, gl⟩ := ky_w7 h5
    have hb1 : (a + 5) + 1 ≤ N := by rw [gl] at hb; exact hb
    obtain ⟨d', r1, r2⟩ := y_m7 hY hN hT (hrm.2.2.2.2 rfl) hF (by omega) g1 g2 g3 g4
    refine ⟨d', a + 5, ?_, h4.trans gl, ?_⟩
    · unfold X3_makeTell
      rw [if_neg (show ¬ wI ((7 : Nat) : Int) = 0 by decide), if_neg (show ¬ wI ((7 : Nat) : Int) = 1 by decide), if_neg (show ¬ wI ((7 : Nat) : Int) = 2 by decide), if_neg (show ¬ wI ((7 : Nat) : Int) = 3 by decide), if_neg (show ¬ wI ((7 : Nat) : Int) = 4 by decide), if_neg (show ¬ wI ((7 : Nat) : Int) = 5 by decide), if_neg (show ¬ wI ((7 : Nat) : Int) = 6 by decide), if_pos (show wI ((7 : Nat) : Int) = 7 from rfl)]
      rw [r1]
      simp only [b1s]
    · unfold kz_F kz_M kz_T
      rw [hw3]
      exact r2
  · obtain ⟨g1, g2, g3, gl⟩ := ky_w8 h5
    have hb1 : (a + 3) + 1 ≤ N := by rw [gl] at hb; exact hb
    obtain ⟨d', r1, r2⟩ := y_m8 hY hN hT hF (by omega) g1 g2
    refine ⟨d', a + 3, ?_, h4.trans gl, ?_⟩
    · unfold X3_makeTell
      rw [if_neg (show ¬ wI ((8 : Nat) : Int) = 0 by decide), if_neg (show ¬ wI ((8 : Nat) : Int) = 1 by decide), if_neg (show ¬ wI ((8 : Nat) : Int) = 2 by decide), if_neg (show ¬ wI ((8 : Nat) : Int) = 3 by decide), if_neg (show ¬ wI ((8 : Nat) : Int) = 4 by decide), if_neg (show ¬ wI ((8 : Nat) : Int) = 5 by decide), if_neg (show ¬ wI ((8 : Nat) : Int) = 6 by decide), if_neg (show ¬ wI ((8 : Nat) : Int) = 7 by decide), if_pos (show wI ((8 : Nat) : Int) = 8 from rfl)]
      exact r1
    · unfold kz_F kz_M kz_T
      rw [hw3]
      exact r2
  · obtain ⟨g1, g2, gl⟩ := ky_w9 h5
    have hb1 : (a + 2) + 1 ≤ N := by rw [gl] at hb; exact hb
    obtain ⟨d', r1, r2⟩ := y_m9 hY hN hT hF (by omega) g1
    refine ⟨d', a + 2, ?_, h4.trans gl, ?_⟩
    · unfold X3_makeTell
      rw [if_neg (show ¬ wI ((9 : Nat) : Int) = 0 by decide), if_neg (show ¬ wI ((9 : Nat) : Int) = 1 by decide), if_neg (show ¬ wI ((9 : Nat) : Int) = 2 by decide), if_neg (show ¬ wI ((9 : Nat) : Int) = 3 by decide), if_neg (show ¬ wI ((9 : Nat) : Int) = 4 by decide), if_neg (show ¬ wI ((9 : Nat) : Int) = 5 by decide), if_neg (show ¬ wI ((9 : Nat) : Int) = 6 by decide), if_neg (show ¬ wI ((9 : Nat) : Int) = 7 by decide), if_neg (show ¬ wI ((9 : Nat) : Int) = 8 by decide), if_pos (show wI ((9 : Nat) : Int) = 9 from rfl)]
      exact r1
    · unfold kz_F kz_M kz_T
      rw [hw3]
      exact r2
def kz_all (K P : Nat → Nat) (V : Nat → Int) : Nat → Nat → q_Tl × q_Nm × (Nat × Nat) → q_Tl × q_Nm × (Nat × Nat)
  | 0, _, X => X
  | n + 1, a, X => if K a = 0 then X else kz_all K P V n (ky_tell K V (ky_c X.1) a).1 (kz_T K V X.2.1 X.1 a, kz_M V X.2.1 X.1 a, kz_F K P V X.2.1 X.1 a X.2.2)
theorem kz_all_f {K P : Nat → Nat} {V : Nat → Int} : ∀ n a (X : q_Tl × q_Nm × (Nat × Nat)), X.2.2.1 ≠ 0 → (kz_all K P V n a X).2.2 = X.2.2 := by
  intro n
  induction n with
  | zero => intro a X _; rfl
  | succ n ih =>
    intro a X h
    have e : kz_all K P V (n + 1) a X = if K a = 0 then X else kz_all K P V n (ky_tell K V (ky_c X.1) a).1 (kz_T K V X.2.1 X.1 a, kz_M V X.2.1 X.1 a, kz_F K P V X.2.1 X.1 a X.2.2) := rfl
    rw [e]
    by_cases g : K a = 0
    · rw [if_pos g]
    · rw [if_neg g]
      have h2 : kz_F K P V X.2.1 X.1 a X.2.2 = X.2.2 := kz_F_f h
      rw [ih _ _ (by show (kz_F K P V X.2.1 X.1 a X.2.2).1 ≠ 0; rw [h2]; exact h)]
      exact h2
theorem ky_all_ge {K P : Nat → Nat} {V : Nat → Int} {N : Nat} (hN : qk_tok K P V N) : ∀ n (c : Nat → Nat) a, a ≤ N → a ≤ (ky_all K V n c a).1 := by
  intro n
  induction n with
  | zero => intro c a _; exact Nat.le_refl _
  | succ n ih =>
    intro c a ha
    have e : ky_all K V (n + 1) c a = if K a = 0 then (a, 0) else if (ky_tell K V c a).2 = 0 then ky_all K V n (ky_ci c (V a).toNat) (ky_tell K V c a).1 else ky_tell K V c a := rfl
    have hb := ky_tell_b hN (c := c) ha
    rw [e]
    by_cases g : K a = 0
    · rw [if_pos g]; exact Nat.le_refl _
    · rw [if_neg g]
      by_cases g2 : (ky_tell K V c a).2 = 0
      · rw [if_pos g2]
        have := ih (ky_ci c (V a).toNat) _ hb.1.1
        omega
      · rw [if_neg g2]; exact hb.2.1
theorem y_mkloop {b t N A : Nat} {K P : Nat → Nat} {V : Nat → Int} (hN : qk_tok K P V N) : ∀ (n i k a : Nat) (T : q_Tl) (M : q_Nm) (F : Nat × Nat) (d : q_Dt), i + n = 400 → n + 1 < k → 2 * i ≤ a → a ≤ N → kd_Y b N K P V d a F M → F.1 = 0 → q_TT b t d T → kn_wf M → kn_un M → kn_r M T → ky_all K V n (ky_c T) a = (A, 0) → d.1 (b + 2) 7 = wI A → ∃ d', X3_make_b38 (A1 b) (b + 1) t k (wI i) d = some (wI (kz_all K P V n a (T, M, F)).2.2.1, d') ∧ kd_fr b t d d' ∧ kd_7 (d'.1 (b + 1) 7) (kz_all K P V n a (T, M, F)).2.2 ∧ (kz_all K P V n a (T, M, F)).2.2.1 ≤ 5 ∧ ((kz_all K P V n a (T, M, F)).2.2.1 = 0 → q_TT b t d' (kz_all K P V n a (T, M, F)).1) := by
  intro n
  have hN4 := hN.1
  induction n with
  | zero =>
    intro i k a T M F d h1 h2 h3 h4
    exfalso
    omega
  | succ n ih =>
    intro i k a T M F d h1 h2 h3 h4 hY hF hT hM hu hr hA hat
    obtain ⟨k, rfl⟩ : ∃ k', k = k' + 1 := ⟨k - 1, by omega⟩
    have ht := hT.2.1
    have e : kz_all K P V (n + 1) a (T, M, F) = if K a = 0 then (T, M, F) else kz_all K P V n (ky_tell K V (ky_c T) a).1 (kz_T K V M T a, kz_M V M T a, kz_F K P V M T a F) := rfl
    have eA : ky_all K V (n + 1) (ky_c T) a = if K a = 0 then (a, 0) else if (ky_tell K V (ky_c T) a).2 = 0 then ky_all K V n (ky_ci (ky_c T) (V a).toNat) (ky_tell K V (ky_c T) a).1 else ky_tell K V (ky_c T) a := rfl
    rw [eA] at hA
    rw [e, X3_make_b38.eq_2, s1_0, hat, hY.2.1, hY.2.2.1]
    have e4 : ((400 : Int32) ≤ wI (i : Int)) = (((400 : Nat) : Int) ≤ i) := wI_le (a := ((400 : Nat) : Int)) (by omega) (by omega) (by omega) (by omega)
    simp only [e4]
    rw [if_neg (by omega)]
    by_cases g : K a = 0
    · rw [if_pos g] at hA ⊢
      have hAa : a = A := congrArg Prod.fst hA
      rw [← hAa, if_pos (by rw [wI_le (by omega) (by omega) (by omega) (by omega)]; omega)]
      unfold X3_make_b113
      rw [hY.2.2.1]
      exact ⟨d, rfl, kd_fr_r, hY.2.2.2.1, by show F.1 ≤ 5; omega, fun _ => hT⟩
    · rw [if_neg g] at hA ⊢
      by_cases g2 : (ky_tell K V (ky_c T) a).2 = 0
      · rw [if_pos g2] at hA
        have hb := ky_tell_b hN (c := ky_c T) h4
        have hb2 := hb.2.2 g2
        obtain ⟨w, hw10, hw, hk6, hroom, h4w⟩ := ky_tell_s hN h4 g2
        have hge := ky_all_ge hN n (ky_ci (ky_c T) (V a).toNat) (ky_tell K V (ky_c T) a).1 hb.1.1
        rw [hA] at hge
        have hge2 : (ky_tell K V (ky_c T) a).1 ≤ A := hge
        have hAN : A < 100000 := by
          have h9 := congrArg Prod.fst hA
          have hx : ∀ n (c : Nat → Nat) a, a ≤ N → (ky_all K V n c a).1 ≤ N := by
            intro n
            induction n with
            | zero => intro c a ha; exact ha
            | succ n ih2 =>
              intro c a ha
              have e : ky_all K V (n + 1) c a = if K a = 0 then (a, 0) else if (ky_tell K V c a).2 = 0 then ky_all K V n (ky_ci c (V a).toNat) (ky_tell K V c a).1 else ky_tell K V c a := rfl
              have hb := ky_tell_b hN (c := c) ha
              rw [e]
              by_cases g : K a = 0
              · rw [if_pos g]; exact ha
              · rw [if_neg g]
                by_cases g2 : (ky_tell K V c a).2 = 0
                · rw [if_pos g2]; exact ih2 _ _ hb.1.1
                · rw [if_neg g2]; exact hb.1.1
          have h8 := hx n (ky_ci (ky_c T) (V a).toNat) (ky_tell K V (ky_c T) a).1 hb.1.1
          have h7 : (ky_all K V n (ky_ci (ky_c T) (V a).toNat) (ky_tell K V (ky_c T) a).1).1 = A := h9
          omega
        rw [if_neg (by rw [wI_le (by omega) (by omega) (by omega) (by omega)]; omega), if_pos (show wI (F.1 : Int) = 0 by rw [hF]; rfl)]
        have ev : X5_small (A1 b) d ((A1 b).2.2 (b + 2) 3) (wI a) = some (wI (V a)) := by
          rw [s2_3, r_small (s9_0 b) (l10 b) (by omega) (by omega), (hY.1 a (by omega)).2.2, wJ_wI]
        rw [ev]
        simp only [b1s, o1s]
        rw [show wI (a : Int) + 1 = wI (a + 1 : Nat) from wI_add a 1]
        obtain ⟨y1, y2⟩ := y_step (a2 := a + 1) hY
        obtain ⟨d2, en, r1, r2, r3, r4⟩ := y_tell2 y1 hN hM hu hr (kd_TT hT y2) (by omega) h4 g2
        rw [r1]
        simp only [b1s]
        have hw3 : (V a).toNat = w := by omega
        by_cases g3 : (kz_F K P V M T a F).1 = 0
        · have hRR := r4.2.2.2.2 g3
          have hY2 := hRR.1
          rw [hY2.2.1, show wI (en : Int) + 1 = wI (en + 1 : Nat) from wI_add en 1, show wI (i : Int) + 1 = wI (i + 1 : Nat) from wI_add i 1]
          obtain ⟨z1, z2⟩ := y_step (a2 := en + 1) hY2
          have hw0 := hT.1.1
          have hcw : ky_cw T := ⟨hw0.1, hw0.2.1, hw0.2.2.1, hw0.2.2.2.1, hw0.2.2.2.2.1⟩
          have hk2 : w ≤ 5 → K (a + 1) = 2 := by
            intro h5
            rw [h4w] at g2
            have h6 : w = 0 ∨ w = 1 ∨ w = 2 ∨ w = 3 ∨ w = 4 ∨ w = 5 := by omega
            rcases h6 with rfl | rfl | rfl | rfl | rfl | rfl
            · exact (ky_w0 g2).1
            · exact (ky_w1 g2).1
            · exact (ky_w2 g2).1
            · exact (ky_w3 g2).1
            · exact (ky_w4 g2).1
            · exact (ky_w5 g2).1
          have hok := kz_M_ok (K := K) hN hw hw10 hk2 hM hr hcw (ky_room_c hcw hw10 hroom)
          have hun := kz_M_un hw hw10 hu g3
          rw [hw3, ← kz_c_step (K := K) (P := P) (V := V) (M := M) hw hw10, r3] at hA
          have h27 : (q_pI d2 (b + 1) 5 (wI (en + 1 : Nat))).1 (b + 2) 7 = wI A := by
            rw [q_pI_o (show b + 2 ≠ b + 1 by omega), (r4.1 (b + 2) (by omega) (by omega) (by omega) (by omega) (by omega)).1, y2.1 (b + 2) (by omega)]
            exact hat
          have hen : 2 * (i + 1) ≤ en + 1 := by
            rw [r3] at hb2
            have h9 : a + 2 ≤ en + 1 := hb2.1
            omega
          obtain ⟨d', v1, v2, v3, v4, v5⟩ := ih (i + 1) k (en + 1) _ _ _ _ (by omega) (by omega) hen r2 z1 g3 (kd_TT hRR.2 z2) hok.1 hun hok.2.1 hA h27
          rw [r3]
          exact ⟨d', v1, kd_fr_t (kd_fr_t (kd_fr_t (kd_fn_fr y2) r4.1) (kd_fn_fr z2)) v2, v3, v4, v5⟩
        · obtain ⟨k, rfl⟩ : ∃ k', k = k' + 1 := ⟨k - 1, by omega⟩
          have hfz : (kz_all K P V n (ky_tell K V (ky_c T) a).1 (kz_T K V M T a, kz_M V M T a, kz_F K P V M T a F)).2.2 = kz_F K P V M T a F := kz_all_f _ _ _ g3
          rw [hfz]
          obtain ⟨d3, hd3⟩ : ∃ z, z = q_pI d2 (b + 1) 5 (d2.1 (b + 1) 5 + 1) := ⟨_, rfl⟩
          rw [← hd3]
          have h36 : d3.1 (b + 1) 6 = wI (kz_F K P V M T a F).1 := by
            rw [hd3, q_pI_k (by omega)]
            exact r4.2.1
          have h37 : d3.1 (b + 1) 7 = d2.1 (b + 1) 7 := by
            rw [hd3, q_pI_k (by omega)]
          have f3 : kd_fn b d2 d3 := by
            rw [hd3]
            exact ⟨fun x hx => q_pI_o hx, fun _ _ _ _ => rfl, rfl⟩
          refine ⟨d3, ?_, kd_fr_t (kd_fr_t (kd_fn_fr y2) r4.1) (kd_fn_fr f3), by rw [h37]; exact r4.2.2.1, r4.2.2.2.1, fun q => absurd q g3⟩
          have hF5 := r4.2.2.2.1
          have hne : ¬ wI ((kz_F K P V M T a F).1 : Int) = 0 := by
            rw [show (0 : Int32) = wI (0 : Nat) from rfl, wI_eq (by omega) (by omega) (by omega) (by omega)]
            omega
          rw [X3_make_b38.eq_2, h36, if_neg hne]
          unfold X3_make_b113
          rw [h36, ite_self, ite_self]
      · rw [if_neg g2] at hA
        rw [hA] at g2
        exact absurd rfl g2
def kn_0 : q_Nm := (0, fun _ => 0, fun _ => 0, fun _ => 0)
/-- a text's fault and its place, what it tells -/
def kz_res (K P : Nat → Nat) (V : Nat → Int) : Nat × Nat := if (ky_all K V 400 (fun _ => 0) 0).2 = 0 then (kz_all K P V 400 0 (kt_0, kn_0, (0, 0))).2.2 else ((ky_all K V 400 (fun _ => 0) 0).2, P (ky_all K V 400 (fun _ => 0) 0).1)
def kz_told (K P : Nat → Nat) (V : Nat → Int) : q_Tl := (kz_all K P V 400 0 (kt_0, kn_0, (0, 0))).1
theorem ky_c_0 : ky_c kt_0 = fun _ => 0 := by
  funext r
  unfold ky_c
  repeat' split
  all_goals rfl
def kd_ff (b t : Nat) (dt d : q_Dt) : Prop := ∀ x, x ≠ b + 1 → x ≠ b + 2 → x ≠ b + 6 → x ≠ b + 8 → x ≠ b + 10 → x ≠ b + 14 → x ≠ b + 16 → x ≠ b + 18 → x ≠ b + 20 → (x < t ∨ t + 72 ≤ x) → d.1 x = dt.1 x ∧ d.2.1 x = dt.2.1 x ∧ d.2.2 x = dt.2.2 x
theorem y_make {b t L : Nat} {B : Nat → Int} {dt : q_Dt} (h : qk_tx b L B dt) (ht : t = b + 77 ∨ t = b + 149) {K P : Nat → Nat} {V : Nat → Int} {N : Nat} (hK : K = fun n => qk_k B L (qk_st B L n)) (hP : P = qk_st B L) (hV : V = fun n => qk_v B L (qk_st B L n)) (hNe : N = qk_N K 400 0) : ∃ d', X3_make (A1 b) dt (b + 1) (some t) = some (wI (kz_res K P V).1, d') ∧ kd_7 (d'.1 (b + 1) 7) (kz_res K P V) ∧ (kz_res K P V).1 ≤ 5 ∧ ((kz_res K P V).1 = 0 → q_TT b t d' (kz_told K P V)) ∧ d'.1 (b + 2) 6 = 0 ∧ kd_ff b t dt d' := by
  have hN := qk_tok_i B h.1
  rw [← hK, ← hV, ← hP, ← hNe] at hN
  have hN4 := hN.1
  obtain ⟨d1, hd1⟩ : ∃ z, z = q_pI (q_pI (q_pI (q_pI (q_pI (q_pI (q_pI (q_pI dt t 7 0) t 8 0) t 9 0) t 10 0) t 11 0) t 12 256) t 13 0) t 14 0 := ⟨_, rfl⟩
  have ec : X10_clear (A1 b) dt t = some d1 := by
    unfold X10_clear
    simp only [o1s]
    rw [← hd1]
  have f1 : kt_fr t dt d1 := by
    rw [hd1]
    exact kt_fr_t (kt_fr_t (kt_fr_t (kt_fr_t (kt_fr_t (kt_fr_t (kt_fr_t (kt_fr_I (by omega)) (kt_fr_I (by omega))) (kt_fr_I (by omega))) (kt_fr_I (by omega))) (kt_fr_I (by omega))) (kt_fr_I (by omega))) (kt_fr_I (by omega))) (kt_fr_I (by omega))
  have h0 : ∀ v : Nat, v = 0 ∨ v = 1 ∨ v = 2 ∨ v = 3 ∨ v = 4 ∨ v = 6 ∨ v = 7 → kt_0.1 0 v = 0 := by
    intro v hv
    rcases hv with rfl | rfl | rfl | rfl | rfl | rfl | rfl <;> rfl
  have hT1 : q_TT b t d1 kt_0 := by
    refine ⟨kt_0_wf, ht, ?_, fun c hc => absurd hc (Nat.not_lt_zero c), fun c hc => absurd hc (Nat.not_lt_zero c), fun c hc => absurd hc (Nat.not_lt_zero c), fun c hc => absurd hc (Nat.not_lt_zero c), fun c hc => absurd hc (Nat.not_lt_zero c)⟩
    rw [hd1]
    refine ⟨?_, ?_, ?_, ?_, ?_, ?_, ?_, ?_⟩
    · rw [q_pI_k (by omega), q_pI_k (by omega), q_pI_k (by omega), q_pI_k (by omega), q_pI_k (by omega), q_pI_k (by omega), q_pI_k (by omega), q_pI_s]; rfl
    · rw [q_pI_k (by omega), q_pI_k (by omega), q_pI_k (by omega), q_pI_k (by omega), q_pI_k (by omega), q_pI_k (by omega), q_pI_s]; rfl
    · rw [q_pI_k (by omega), q_pI_k (by omega), q_pI_k (by omega), q_pI_k (by omega), q_pI_k (by omega), q_pI_s]; rfl
    · rw [q_pI_k (by omega), q_pI_k (by omega), q_pI_k (by omega), q_pI_k (by omega), q_pI_s]; rfl
    · rw [q_pI_k (by omega), q_pI_k (by omega), q_pI_k (by omega), q_pI_s]; rfl
    · rw [q_pI_k (by omega), q_pI_k (by omega), q_pI_s]; rfl
    · rw [q_pI_k (by omega), q_pI_s]; rfl
    · rw [q_pI_s]; rfl
  obtain ⟨d2, hd2⟩ : ∃ z, z = q_pI (q_pI d1 (b + 1) 4 0) (b + 1) 5 0 := ⟨_, rfl⟩
  have h2 : qk_tx b L B d2 := by
    refine ⟨h.1, ?_, fun i hi => ?_, fun i hi => ?_⟩
    · rw [hd2, q_pI_o (by omega), q_pI_o (by omega), (f1 (b + 2) (by omega)).1]; exact h.2.1
    · rw [hd2, q_pI_2, q_pI_2, (f1 (b + 4) (by omega)).2.1]; exact h.2.2.1 i hi
    · rw [hd2, q_pI_2, q_pI_2, (f1 (b + 12) (by omega)).2.1]; exact h.2.2.2 i hi
  obtain ⟨d3, r1, r2, r3, r4, r5, r6, r7, r8⟩ := y_take h2 hK hP hV hNe
  obtain ⟨s, hs⟩ : ∃ z, z = ky_all K V 400 (fun _ => 0) 0 := ⟨_, rfl⟩
  rw [← hs] at r1 r4 r5
  have hs2 : ky_ok K N s := by
    rw [hs]
    have hx : ∀ n (c : Nat → Nat) a, a ≤ N → ky_ok K N (ky_all K V n c a) := by
      intro n
      induction n with
      | zero => intro c a ha; exact ⟨ha, by show (0 : Nat) ≤ 2; omega⟩
      | succ n ih2 =>
        intro c a ha
        have e : ky_all K V (n + 1) c a = if K a = 0 then (a, 0) else if (ky_tell K V c a).2 = 0 then ky_all K V n (ky_ci c (V a).toNat) (ky_tell K V c a).1 else ky_tell K V c a := rfl
        have hb := ky_tell_b hN (c := c) ha
        rw [e]
        by_cases g : K a = 0
        · rw [if_pos g]; exact ⟨ha, by show (0 : Nat) ≤ 2; omega⟩
        · rw [if_neg g]
          by_cases g2 : (ky_tell K V c a).2 = 0
          · rw [if_pos g2]; exact ih2 _ _ hb.1.1
          · rw [if_neg g2]; exact hb.1
    exact hx 400 _ 0 (Nat.zero_le _)
  obtain ⟨d4, hd4⟩ : ∃ z, z = q_pI (q_pI d3 (b + 1) 6 (wI s.2)) (b + 1) 7 (d3.1 (b + 2) 9) := ⟨_, rfl⟩
  have e9 : (q_pI d3 (b + 1) 6 (wI (s.2 : Int))).1 (b + 2) 9 = d3.1 (b + 2) 9 := congrFun (q_pI_o (show b + 2 ≠ b + 1 by omega)) 9
  have hmk : X3_make (A1 b) dt (b + 1) (some t) = X3_make_b38 (A1 b) (b + 1) t q_FU (wI (0 : Nat)) d4 := by
    unfold X3_make
    simp only [m1s]
    rw [ec]
    simp only [b1s, o1s]
    rw [← hd2, s1_0, r1]
    simp only [b2s]
    rw [e9, ← hd4]
    rfl
  have f24 : ∀ x, x ≠ b + 1 → x ≠ b + 2 → d4.1 x = d1.1 x := by
    intro x h1 h2
    rw [hd4, q_pI_o h1, q_pI_o h1, r6 x h2, hd2, q_pI_o h1, q_pI_o h1]
  have g24 : ∀ x, x ≠ b + 6 → x ≠ b + 8 → x ≠ b + 10 → x ≠ b + 14 → d4.2.1 x = d1.2.1 x := by
    intro x h1 h2 h3 h4
    rw [hd4, q_pI_2, q_pI_2, r8 x h1 h2 h3 h4, hd2]
    rfl
  have k24 : d4.2.2 = d1.2.2 := by
    rw [hd4, q_pI_2, q_pI_2, r7, hd2]
    rfl
  have ff4 : kd_ff b t dt d4 := fun x h1 h2 h3 h4 h5 h6 _ _ _ h7 => ⟨(f24 x h1 h2).trans (f1 x h7).1, (g24 x h3 h4 h5 h6).trans (f1 x h7).2.1, by rw [k24]; exact (f1 x h7).2.2⟩
  have h26 : d4.1 (b + 2) 6 = 0 := by
    rw [hd4, q_pI_o (by omega), q_pI_o (by omega)]
    exact r3
  rw [hmk]
  unfold kz_res
  rw [← hs]
  by_cases g : s.2 = 0
  · rw [if_pos g]
    rw [if_pos g] at r5
    have hT4 : q_TT b t d4 kt_0 := T_keep hT1 (fun x h1 h2 => ⟨f24 x (by omega) (by omega), g24 x (by omega) (by omega) (by omega) (by omega), by rw [k24]⟩)
    have hY4 : kd_Y b N K P V d4 0 (0, 0) kn_0 := by
      refine ⟨fun j hj => ?_, ?_, ?_, ⟨fun q => absurd rfl q, fun _ => ?_⟩, ?_, fun k hk => absurd hk (Nat.not_lt_zero k)⟩
      · rw [hd4]; exact r2 j hj
      · rw [hd4, q_pI_k (by omega), q_pI_k (by omega), r6 (b + 1) (by omega), hd2, q_pI_s]; rfl
      · rw [hd4, q_pI_k (by omega), q_pI_s, g]
      · rw [hd4, q_pI_s]; exact r5
      · rw [hd4, q_pI_k (by omega), q_pI_k (by omega), r6 (b + 1) (by omega), hd2, q_pI_k (by omega), q_pI_s]; rfl
    have hat : d4.1 (b + 2) 7 = wI s.1 := by
      rw [hd4, q_pI_o (by omega), q_pI_o (by omega)]
      exact r4
    have hA : ky_all K V 400 (ky_c kt_0) 0 = (s.1, 0) := by
      rw [ky_c_0, ← hs, ← g]
    obtain ⟨d', v1, v2, v3, v4, v5⟩ := y_mkloop hN 400 0 q_FU 0 kt_0 kn_0 (0, 0) d4 (by omega) (by unfold q_FU; omega) (by omega) (by omega) hY4 rfl hT4 ⟨Nat.zero_le _, fun k hk => absurd hk (Nat.not_lt_zero k)⟩ (fun i j hi => absurd hi (Nat.not_lt_zero i)) ⟨rfl, fun k hk => absurd hk (Nat.not_lt_zero k)⟩ hA hat
    refine ⟨d', v1, v3, v4, v5, ?_, fun x h1 h2 h3 h4 h5 h6 h7 h8 h9 h10 => ?_⟩
    · rw [(v2 (b + 2) (by omega) (by omega) (by omega) (by omega) (by omega)).1]
      exact h26
    · have q1 := v2 x h1 h7 h8 h9 h10
      have q2 := ff4 x h1 h2 h3 h4 h5 h6 h7 h8 h9 h10
      exact ⟨q1.1.trans q2.1, q1.2.1.trans q2.2.1, q1.2.2.trans q2.2.2⟩
  · rw [if_neg g]
    rw [if_neg g] at r5
    have hs3 := hs2.2
    have e6 : d4.1 (b + 1) 6 = wI s.2 := by rw [hd4, q_pI_k (by omega), q_pI_s]
    have e7 : d4.1 (b + 1) 7 = wI (P s.1) := by rw [hd4, q_pI_s]; exact r5
    have hne : ¬ wI (s.2 : Int) = 0 := by
      rw [show (0 : Int32) = wI (0 : Nat) from rfl, wI_eq (by omega) (by omega) (by omega) (by omega)]
      omega
    obtain ⟨k, hk⟩ : ∃ k, q_FU = k + 1 := ⟨q_FU - 1, by unfold q_FU; omega⟩
    have e4 : ((400 : Int32) ≤ wI ((0 : Nat) : Int)) = (((400 : Nat) : Int) ≤ ((0 : Nat) : Int)) := wI_le (a := ((400 : Nat) : Int)) (by omega) (by omega) (by omega) (by omega)
    refine ⟨d4, ?_, ⟨fun _ => e7, fun q => absurd q g⟩, by show s.2 ≤ 5; omega, fun q => absurd q g, h26, ff4⟩
    rw [hk, X3_make_b38.eq_2, e6, if_neg hne]
    simp only [e4]
    rw [if_neg (by omega)]
    unfold X3_make_b113
    rw [e6, ite_self]
