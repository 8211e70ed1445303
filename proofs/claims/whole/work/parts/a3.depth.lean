/-! level two: depth, the class -/
def q_dbt (ch : Nat → Int) (L i : Nat) : Int := if ch (i % L) < 0 then 1 else 0
theorem q_dbt_b (ch : Nat → Int) (L i : Nat) : q_dbt ch L i = 0 ∨ q_dbt ch L i = 1 := by
  unfold q_dbt
  by_cases h : ch (i % L) < 0
  · rw [if_pos h]; exact Or.inr rfl
  · rw [if_neg h]; exact Or.inl rfl
theorem q_dbt_p (ch : Nat → Int) (L i : Nat) : q_dbt ch L (i + L) = q_dbt ch L i := by
  unfold q_dbt
  rw [Nat.add_mod_right]
theorem q_bx {a b c : Int} (ha : a = 0 ∨ a = 1) (hb : b = 0 ∨ b = 1) (hc : c = 0 ∨ c = 1) : wI a ^^^ (wI b &&& wI c) = wI ((a + b * c) % 2) := by
  rcases ha with rfl | rfl <;> rcases hb with rfl | rfl <;> rcases hc with rfl | rfl <;> decide
theorem q_bxJ {a b : Int} (ha : a = 0 ∨ a = 1) (hb : b = 0 ∨ b = 1) : wJ a ^^^ wJ b = wJ ((a + b) % 2) := by
  rcases ha with rfl | rfl <;> rcases hb with rfl | rfl <;> decide
theorem q_ds_s (s C : Nat → Int) (n m : Nat) : q_ds s C n (m + 1) = q_ds s C n m + C m * s (n - m) := rfl
def q_k1 (b : Nat) (d : q_Dt) (C B : Nat → Int) : Prop := ∀ k, k < 128 → d.2.1 (b + 31) k = wJ (C k) ∧ d.2.1 (b + 33) k = wJ (B k)
theorem T_fails {b c L nn deep : Nat} {d : q_Dt} {ch C B : Nat → Int} (h : q_Code (A1 b) d c L ch) (hk : q_k1 b d C B) (hC : ∀ k, C k = 0 ∨ C k = 1) (hd : deep ≤ nn) (hd2 : deep ≤ 127) (hn : nn < 1000) : X2_fails (A1 b) d (b + 27) c (wI nn) (wI deep) = some (wI (q_ds (q_dbt ch L) C nn (deep + 1) % 2)) := by
  have hL := h.2.2.1
  have hl : ∀ n i k : Nat, i + n = deep + 1 → n < k → X2_fails_b6 (A1 b) d (b + 27) c (wI nn) (wI deep) k (wI (q_ds (q_dbt ch L) C nn i % 2)) (wI i) = some (wI (q_ds (q_dbt ch L) C nn (deep + 1) % 2)) := by
    intro n
    induction n with
    | zero =>
      intro i k z1 z2 
      obtain ⟨k, rfl⟩ : ∃ m, k = m + 1 := ⟨k - 1, by omega⟩
      have e : i = deep + 1 := by omega
      rw [X2_fails_b6.eq_2, e, if_pos (show wI deep < wI (deep + 1 : Nat) by rw [wI_lt (by omega) (by omega) (by omega) (by omega)]; omega)]
      rcases (show q_ds (q_dbt ch L) C nn (deep + 1) % 2 = 0 ∨ q_ds (q_dbt ch L) C nn (deep + 1) % 2 = 1 by omega) with h1 | h1
      · rw [h1]; rfl
      · rw [h1]; rfl
    | succ n ih =>
      intro i k z1 z2 
      obtain ⟨k, rfl⟩ : ∃ m, k = m + 1 := ⟨k - 1, by omega⟩
      have hi : i < deep + 1 := by omega
      have hih := ih (i + 1) k (by omega) (by omega)
      rw [q_ds_s] at hih
      have hb := h.2.2.2.2 ((nn - i) % L) (Nat.mod_lt _ (by omega))
      have e1 : wI nn - wI i = wI (nn - i : Nat) := by
        rw [wI_sub]
        congr 1
        omega
      have hsm := r_small (al := A1 b) (dt := d) (a := b + 30) (s30_0 b) (l31 b) (by omega) (show i < 128 by omega)
      rw [(hk i (by omega)).1, wJ_wI] at hsm
      have hfin : ∀ t0 : Int32, t0 = wI (q_dbt ch L (nn - i)) → X2_fails_b28 (A1 b) d (X2_fails_b6 (A1 b) d (b + 27) c (wI nn) (wI deep) k) (b + 27) c (wI nn) (wI deep) (wI (q_ds (q_dbt ch L) C nn i % 2)) (wI i) t0 = some (wI (q_ds (q_dbt ch L) C nn (deep + 1) % 2)) := by
        intro t0 ht
        unfold X2_fails_b28
        rw [s27_1, hsm, b1s, ht, q_bx (by omega) (hC i) (q_dbt_b ch L (nn - i)), q_n1]
        rw [show (q_ds (q_dbt ch L) C nn i % 2 + C i * q_dbt ch L (nn - i)) % 2 = (q_ds (q_dbt ch L) C nn i + C i * q_dbt ch L (nn - i)) % 2 by omega]
        exact hih
      rw [X2_fails_b6.eq_2, if_neg (show ¬ wI deep < wI i by rw [wI_lt (by omega) (by omega) (by omega) (by omega)]; omega), e1, c_round_n h (by omega), b1s]
      by_cases hz : ch ((nn - i) % L) < 0
      · rw [if_neg (show ¬ 0 ≤ wI (ch ((nn - i) % L)) by rw [show (0 : Int32) = wI 0 from rfl, wI_le (by omega) (by omega) (by omega) (by omega)]; omega)]
        refine hfin 1 ?_
        unfold q_dbt
        rw [if_pos hz]
        rfl
      · rw [if_pos (show 0 ≤ wI (ch ((nn - i) % L)) by rw [show (0 : Int32) = wI 0 from rfl, wI_le (by omega) (by omega) (by omega) (by omega)]; omega)]
        refine hfin 0 ?_
        unfold q_dbt
        rw [if_neg hz]
        rfl
  exact hl (deep + 1) 0 q_FU (by omega) (by unfold q_FU; omega)
theorem T_mixO {b gap : Nat} {dt : q_Dt} {C B : Nat → Int} (hk : q_k1 b dt C B) (hC : ∀ k, C k = 0 ∨ C k = 1) (hB : ∀ k, B k = 0 ∨ B k = 1) (hg : gap < 1000) : ∃ d', X2_mixOlder (A1 b) dt (b + 27) (wI gap) = some d' ∧ q_k1 b d' (q_mix C B gap) B ∧ q_fJ (b + 31) dt d' := by
  have e127 : ∀ i : Nat, i < 2000 → (127 < wI i) = (127 < i) := fun i hi => by
    rw [show (127 : Int32) = wI (127 : Nat) from rfl, wI_lt (by omega) (by omega) (by omega) (by omega)]
    exact propext ⟨fun q => by omega, fun q => by omega⟩
  have hk0 : ∀ i, i < 128 → dt.2.1 (b + 31) i = wJ (if i < gap then q_mix C B gap i else C i) := fun i hi => by
    rw [(hk i hi).1]
    by_cases h : i < gap
    · rw [if_pos h]
      unfold q_mix
      rw [if_neg (by omega)]
    · rw [if_neg h]
  have hl : ∀ n i k : Nat, i + n = 128 → n < k → ∀ d, gap ≤ i → q_fJ (b + 31) dt d → (∀ j, j < 128 → d.2.1 (b + 31) j = wJ (if j < i then q_mix C B gap j else C j)) → ∃ d', X2_mixOlder_b2 (A1 b) (b + 27) (wI gap) k (wI i) d = some d' ∧ q_k1 b d' (q_mix C B gap) B ∧ q_fJ (b + 31) dt d' := by
    intro n
    induction n with
    | zero =>
      intro i k z1 z2 
      obtain ⟨k, rfl⟩ : ∃ m, k = m + 1 := ⟨k - 1, by omega⟩
      have e : i = 128 := by omega
      intro d g0 q1 q2
      refine ⟨d, ?_, fun j hj => ⟨?_, ?_⟩, q1⟩
      · rw [X2_mixOlder_b2.eq_2, if_pos (by rw [e127 i (by omega)]; omega)]
      · rw [q2 j hj, if_pos (by omega)]
      · rw [q1.2.2 (b + 33) (by omega)]
        exact (hk j hj).2
    | succ n ih =>
      intro i k z1 z2 
      obtain ⟨k, rfl⟩ : ∃ m, k = m + 1 := ⟨k - 1, by omega⟩
      have hi : i < 128 := by omega
      intro d g0 q1 q2
      have e1 : wI i - wI gap = wI (i - gap : Nat) := by
        rw [wI_sub]
        congr 1
        omega
      have h1 := q2 i hi
      rw [if_neg (by omega)] at h1
      have h2 := (hk (i - gap) (by omega)).2
      rw [← q1.2.2 (b + 33) (by omega)] at h2
      obtain ⟨d', v1, v2⟩ := ih (i + 1) k (by omega) (by omega) (q_pJ d (b + 31) i (wJ ((C i + B (i - gap)) % 2))) (by omega) ⟨q1.1, q1.2.1, fun x hx => (q_pJ_o hx).trans (q1.2.2 x hx)⟩ (fun j hj => by
        by_cases ej : j = i
        · rw [ej, q_pJ_s, if_pos (by omega)]
          unfold q_mix
          rw [if_pos g0]
        · rw [q_pJ_k ej, q2 j hj]
          by_cases hj2 : j < i
          · rw [if_pos hj2, if_pos (by omega)]
          · rw [if_neg hj2, if_neg (by omega)])
      refine ⟨d', ?_, v2⟩
      rw [X2_mixOlder_b2.eq_2, if_neg (by rw [e127 i (by omega)]; omega), s27_1, s27_2, e1, r_at (s30_0 b) (l31 b) (by omega) (show i < 128 by omega), b1s, r_at (s32_0 b) (l33 b) (by omega) (show i - gap < 128 by omega), b1s, h1, h2, q_bxJ (hC i) (hB (i - gap)), r_put (s30_0 b) (l31 b) (by omega) (show i < 128 by omega), b1s, q_n1]
      exact v1
  unfold X2_mixOlder
  by_cases hg2 : gap ≤ 128
  · exact hl (128 - gap) gap q_FU (by omega) (by unfold q_FU; omega) dt (Nat.le_refl gap) ⟨rfl, rfl, fun _ _ => rfl⟩ hk0
  · refine ⟨dt, ?_, fun j hj => ⟨?_, (hk j hj).2⟩, ⟨rfl, rfl, fun _ _ => rfl⟩⟩
    · obtain ⟨k0, hk0'⟩ : ∃ k0, q_FU = k0 + 1 := ⟨q_FU - 1, by unfold q_FU; omega⟩
      rw [hk0', X2_mixOlder_b2.eq_2, if_pos (by rw [e127 gap (by omega)]; omega)]
    · rw [hk0 j hj, if_pos (by omega)]
theorem q_fJ_e1x {b x : Nat} {dt d : q_Dt} (h : q_fJ x dt d) (h1 : b + 27 ≤ x) (h2 : x < b + 77) : q_e1 b dt d := fun y hy => ⟨by rw [h.1], h.2.2 y (by omega), by rw [h.2.1]⟩
theorem T_depthL {b tt c : Nat} {dt : q_Dt} {T : q_Tl} (hT : q_TT b tt dt T) (hc : c < Tnc T) : ∀ n i k : Nat, i + n = 2 * Tlen T c → n < k → ∀ d, q_e1 b dt d → q_k1 b d (q_bm (q_dbt (Tch T c) (Tlen T c)) i).1.1 (q_bm (q_dbt (Tch T c) (Tlen T c)) i).1.2 → ∃ d', X2_depthOf_b34 (A1 b) (b + 27) (tt + 12 + 3 * c) k (wI (q_bm (q_dbt (Tch T c) (Tlen T c)) i).2.1) (wI (q_bm (q_dbt (Tch T c) (Tlen T c)) i).2.2) (wI i) d = some (wI (q_bm (q_dbt (Tch T c) (Tlen T c)) (2 * Tlen T c)).2.1, d') ∧ q_e1 b dt d' := by
  have hL := (hT.1.2.1 c hc).1
  have hl : ∀ n i k : Nat, i + n = 2 * Tlen T c → n < k → ∀ d, q_e1 b dt d → q_k1 b d (q_bm (q_dbt (Tch T c) (Tlen T c)) i).1.1 (q_bm (q_dbt (Tch T c) (Tlen T c)) i).1.2 → ∃ d', X2_depthOf_b34 (A1 b) (b + 27) (tt + 12 + 3 * c) k (wI (q_bm (q_dbt (Tch T c) (Tlen T c)) i).2.1) (wI (q_bm (q_dbt (Tch T c) (Tlen T c)) i).2.2) (wI i) d = some (wI (q_bm (q_dbt (Tch T c) (Tlen T c)) (2 * Tlen T c)).2.1, d') ∧ q_e1 b dt d' := by
    intro n
    induction n with
    | zero =>
      intro i k z1 z2 
      obtain ⟨k, rfl⟩ : ∃ m, k = m + 1 := ⟨k - 1, by omega⟩
      have e : i = 2 * Tlen T c := by omega
      intro d q1 q2
      refine ⟨d, ?_, q1⟩
      have hCd := T_code (T_e1 hT q1) hc
      have e2 : 2 * wI (Tlen T c) = wI (2 * Tlen T c : Nat) := by
        rw [show (2 : Int32) = wI (2 : Nat) from rfl, wI_mul]
        rfl
      rw [X2_depthOf_b34.eq_2, hCd.2.1, e2, e]
      simp only [q_leT (Nat.le_refl (2 * Tlen T c)) (show 2 * Tlen T c < 2147483648 by omega), ↓reduceIte]
    | succ n ih =>
      intro i k z1 z2 
      obtain ⟨k, rfl⟩ : ∃ m, k = m + 1 := ⟨k - 1, by omega⟩
      have hi : i < 2 * Tlen T c := by omega
      intro d q1 q2
      have hbi := q_bm_i (q_dbt_b (Tch T c) (Tlen T c)) (q_dbt_p (Tch T c) (Tlen T c)) hL.1 i
      have hCd := T_code (T_e1 hT q1) hc
      have hih := ih (i + 1) k (by omega) (by omega)
      have est : q_bm (q_dbt (Tch T c) (Tlen T c)) (i + 1) = q_bms (q_dbt (Tch T c) (Tlen T c)) i (q_bm (q_dbt (Tch T c) (Tlen T c)) i) := rfl
      rw [est] at hih
      generalize q_bm (q_dbt (Tch T c) (Tlen T c)) i = st at hih hbi q2 ⊢
      obtain ⟨⟨C, B⟩, deep, gap⟩ := st
      obtain ⟨hC, hB, -, ⟨h4, h5, h6, h7⟩, -⟩ := hbi
      simp only at hC hB h4 h5 h6 h7 q2 ⊢
      have e2 : 2 * wI (Tlen T c) = wI (2 * Tlen T c : Nat) := by
        rw [show (2 : Int32) = wI (2 : Nat) from rfl, wI_mul]
        rfl
      have e3 : 2 * wI deep = wI (2 * deep : Nat) := by
        rw [show (2 : Int32) = wI (2 : Nat) from rfl, wI_mul]
        rfl
      have hf := T_fails (nn := i) (deep := deep) hCd q2 hC h4 (by omega) (by omega)
      unfold q_bms at hih
      simp only at hih
      rw [X2_depthOf_b34.eq_2, hCd.2.1, e2, hf, b1s, e3]
      simp only [q_leF hi (show 2 * Tlen T c < 2147483648 by omega), ↓reduceIte]
      by_cases hd0 : q_ds (q_dbt (Tch T c) (Tlen T c)) C i (deep + 1) % 2 = 0
      · rw [if_pos hd0] at hih
        obtain ⟨d', v1, v2⟩ := hih d q1 q2
        refine ⟨d', ?_, v2⟩
        rw [hd0, if_pos (show wI 0 = 0 from rfl)]
        unfold X2_depthOf_b112
        rw [q_n1, q_n1]
        exact v1
      · rw [if_neg hd0] at hih
        rw [show q_ds (q_dbt (Tch T c) (Tlen T c)) C i (deep + 1) % 2 = 1 by omega, if_neg (show ¬ wI 1 = 0 by decide)]
        have hk1 := r_take (al := A1 b) (dt := d) (a := b + 34) (o := b + 30) (s34_0 b) (l35 b) (by omega) (s30_0 b) (l31 b) (by omega) (by omega) (by omega)
        have f1 : q_e1 b d (q_row d (b + 35) 128 (d.2.1 (b + 31))) := q_e1_row q_e1_r (by omega) (by omega)
        have hq2 : q_k1 b (q_row d (b + 35) 128 (d.2.1 (b + 31))) C B := fun j hj => by
          rw [q_row_o (by omega), q_row_o (by omega)]
          exact q2 j hj
        obtain ⟨d1, m1, m2, m3⟩ := T_mixO (gap := gap) hq2 hC hB (by omega)
        have f2 : q_e1 b d d1 := q_e1_t f1 (q_fJ_e1x m3 (by omega) (by omega))
        by_cases hg : i < 2 * deep
        · rw [if_pos hg] at hih
          obtain ⟨d', v1, v2⟩ := hih d1 (q_e1_t q1 f2) m2
          refine ⟨d', ?_, v2⟩
          rw [if_pos (show wI i < wI (2 * deep : Nat) by rw [wI_lt (by omega) (by omega) (by omega) (by omega)]; omega)]
          unfold X2_depthOf_b69 X2_depthOf_b112
          rw [s27_1, s27_3, hk1, b1s, m1, b1s, if_pos rfl, q_n1, q_n1]
          exact v1
        · rw [if_neg hg] at hih
          have hk2 := r_take (al := A1 b) (dt := d1) (a := b + 32) (o := b + 34) (s32_0 b) (l33 b) (by omega) (s34_0 b) (l35 b) (by omega) (by omega) (by omega)
          obtain ⟨d', v1, v2⟩ := hih (q_row d1 (b + 33) 128 (d1.2.1 (b + 35))) (q_e1_t (q_e1_t q1 f2) (q_e1_row q_e1_r (by omega) (by omega))) (fun j hj => by
            rw [q_row_o (by omega), q_row_i hj, m3.2.2 (b + 35) (by omega), q_row_i hj]
            exact ⟨(m2 j hj).1, (q2 j hj).1⟩)
          refine ⟨d', ?_, v2⟩
          have e5 : wI i + 1 - wI deep = wI (i + 1 - deep : Nat) := by
            rw [show (1 : Int32) = wI 1 from rfl, wI_add, wI_sub]
            congr 1
            omega
          rw [if_neg (show ¬ wI i < wI (2 * deep : Nat) by rw [wI_lt (by omega) (by omega) (by omega) (by omega)]; omega)]
          unfold X2_depthOf_b69 X2_depthOf_b112
          rw [s27_1, s27_2, s27_3, hk1, b1s, m1, b1s, if_neg (show ¬ (1 : Int32) = 0 by decide), hk2, b1s, e5, q_n1, show (0 : Int32) + 1 = wI (1 : Nat) from rfl]
          exact v1
  exact hl
theorem T_depthOf {b tt c : Nat} {dt : q_Dt} {T : q_Tl} (hT : q_TT b tt dt T) (hc : c < Tnc T) : ∃ d', X2_depthOf (A1 b) dt (b + 27) (tt + 12 + 3 * c) = some (wI (q_bm (q_dbt (Tch T c) (Tlen T c)) (2 * Tlen T c)).2.1, d') ∧ q_e1 b dt d' := by
  have hL := (hT.1.2.1 c hc).1
  have h1 := r_clear (al := A1 b) (dt := dt) (a := b + 30) (s30_0 b) (l31 b) (by omega)
  have h2 := r_put (al := A1 b) (dt := q_row dt (b + 31) 128 (fun _ => 0)) (a := b + 30) (i := 0) (v := 1) (s30_0 b) (l31 b) (by omega) (by omega)
  have h3 := r_take (al := A1 b) (dt := q_pJ (q_row dt (b + 31) 128 (fun _ => 0)) (b + 31) 0 1) (a := b + 32) (o := b + 30) (s32_0 b) (l33 b) (by omega) (s30_0 b) (l31 b) (by omega) (by omega) (by omega)
  have hcell : ∀ j, j < 128 → (q_pJ (q_row dt (b + 31) 128 (fun _ => 0)) (b + 31) 0 1).2.1 (b + 31) j = wJ (q_del j) := fun j hj => by
    unfold q_del
    by_cases h : j = 0
    · rw [h, q_pJ_s, if_pos rfl]
      rfl
    · rw [q_pJ_k h, q_row_i hj, if_neg h]
      rfl
  obtain ⟨d', v1, v2⟩ := T_depthL hT hc (2 * Tlen T c) 0 q_FU (by omega) (by unfold q_FU; omega) (q_row (q_pJ (q_row dt (b + 31) 128 (fun _ => 0)) (b + 31) 0 1) (b + 33) 128 ((q_pJ (q_row dt (b + 31) 128 (fun _ => 0)) (b + 31) 0 1).2.1 (b + 31))) (q_e1_row (q_e1_J (q_e1_row q_e1_r (by omega) (by omega)) (by omega) (by omega)) (by omega) (by omega)) (fun j hj => by
    rw [q_row_o (by omega), q_row_i hj]
    exact ⟨hcell j hj, hcell j hj⟩)
  refine ⟨d', ?_, v2⟩
  unfold X2_depthOf
  rw [s27_1, s27_2, h1, b1s, show (0 : Int32) = wI ((0 : Nat) : Int) from rfl, h2, b1s, h3, b1s]
  exact v1
