/-! level two: a text cut, the class -/
def qk_tx (b L : Nat) (B : Nat → Int) (dt : q_Dt) : Prop := L ≤ 2000 ∧ dt.1 (b + 2) 6 = wI L ∧ (∀ i, i < L → (0 ≤ B i ∧ B i ≤ 255) ∧ dt.2.1 (b + 4) i = wJ (B i)) ∧ ∀ i, i < 11 → dt.2.1 (b + 12) i = wJ (q_key i)
theorem r_anyS {al : q_Al} {dt : q_Dt} {a n arr i : Nat} (hR : al.2.2 a 0 = arr) (hn : al.2.1 arr = n) (hb : n < 100000) (hi : i < 1000000) : ∃ z, X5_small al dt a (wI i) = some z := by
  by_cases h : i < n
  · exact ⟨_, r_small hR hn hb h⟩
  · refine ⟨0, ?_⟩
    simp (disch := omega) only [X5_small, hR, hn, wI_ofNat, wI_lit, wI_lt, wI_le, wI_nat]
    rw [if_neg (by omega), if_pos (by omega)]
theorem c_let {c : Int} (h : 0 ≤ c ∧ c ≤ 255) : X9_isLetter (wI c) = some (if qk_cl c = 1 then 1 else 0) := by
  simp (disch := omega) only [X9_isLetter, wI_lit, wI_lt]
  by_cases h1 : 97 ≤ c ∧ c ≤ 122
  · rw [if_pos ((qk_cl_1 c).mpr h1), if_neg (by omega), if_neg (by omega)]
  · rw [if_neg (fun q => h1 ((qk_cl_1 c).mp q))]
    by_cases h2 : c < 97
    · rw [if_pos (by omega)]
    · rw [if_neg (by omega), if_pos (by omega)]
theorem c_dig {c : Int} (h : 0 ≤ c ∧ c ≤ 255) : X9_isDigit (wI c) = some (if qk_cl c = 2 then 1 else 0) := by
  simp (disch := omega) only [X9_isDigit, wI_lit, wI_lt]
  by_cases h1 : 48 ≤ c ∧ c ≤ 57
  · rw [if_pos ((qk_cl_2 c).mpr h1), if_neg (by omega), if_neg (by omega)]
  · rw [if_neg (fun q => h1 ((qk_cl_2 c).mp q))]
    by_cases h2 : c < 48
    · rw [if_pos (by omega)]
    · rw [if_neg (by omega), if_pos (by omega)]
theorem c_let_any (z : Int32) : ∃ v, X9_isLetter z = some v := by
  unfold X9_isLetter
  repeat' split
  all_goals exact ⟨_, rfl⟩
theorem c_dig_any (z : Int32) : ∃ v, X9_isDigit z = some v := by
  unfold X9_isDigit
  repeat' split
  all_goals exact ⟨_, rfl⟩
theorem c_tape {b L i : Nat} {B : Nat → Int} {dt : q_Dt} (h : qk_tx b L B dt) (hi : i < L) : X5_small (A1 b) dt ((A1 b).2.2 (b + 2) 0) (wI i) = some (wI (B i)) := by
  rw [s2_0, r_small (s3_0 b) (l4 b) (by omega) (by have := h.1; omega), (h.2.2.1 i hi).2, wJ_wI]
theorem c_bl {b L s : Nat} {B : Nat → Int} {dt : q_Dt} (h : qk_tx b L B dt) (hs : s ≤ L) : X9_behindBlanks (A1 b) dt (b + 2) (wI s) = some (wI (qk_bl B L L s)) := by
  have hL := h.1
  have hl : ∀ n i k m : Nat, i + n = L → n < k → (n ≤ m) → X9_behindBlanks_b2 (A1 b) dt (b + 2) k (wI i) = some (wI (qk_bl B L m i)) := by
    intro n
    induction n with
    | zero =>
      intro i k m z1 z2 g1
      obtain ⟨k, rfl⟩ : ∃ m, k = m + 1 := ⟨k - 1, by omega⟩
      have e : i = L := by omega
      have e2 : qk_bl B L m L = L := by
        cases m with
        | zero => rfl
        | succ m => exact if_neg (fun q => absurd q.1 (by omega))
      rw [X9_behindBlanks_b2.eq_2, h.2.1, e, e2]
      simp (disch := omega) only [wI_le]
      rw [if_pos (by omega)]
    | succ n ih =>
      intro i k m z1 z2 g1
      obtain ⟨k, rfl⟩ : ∃ m, k = m + 1 := ⟨k - 1, by omega⟩
      have hi : i < L := by omega
      obtain ⟨m, rfl⟩ : ∃ m', m = m' + 1 := ⟨m - 1, by omega⟩
      have hih := ih (i + 1) k m (by omega) (by omega) (by omega)
      have hB := (h.2.2.1 i hi).1
      rw [X9_behindBlanks_b2.eq_2, h.2.1, c_tape h hi]
      simp (disch := omega) only [wI_le, b1s, wI_lit, wI_eq, X9_behindBlanks_b45, wI_add, ← Int.natCast_add]
      rw [if_neg (by omega), hih]
      show _ = some (wI (if i < L ∧ (B i = 9 ∨ B i = 10 ∨ B i = 13 ∨ B i = 32) then qk_bl B L m (i + 1) else i : Nat))
      by_cases g1 : B i = 9
      · rw [if_pos (by omega), if_pos ⟨hi, Or.inl g1⟩]
      · rw [if_neg (by omega)]
        by_cases g2 : B i = 10
        · rw [if_pos (by omega), if_pos ⟨hi, Or.inr (Or.inl g2)⟩]
        · rw [if_neg (by omega)]
          by_cases g3 : B i = 13
          · rw [if_pos (by omega), if_pos ⟨hi, Or.inr (Or.inr (Or.inl g3))⟩]
          · rw [if_neg (by omega)]
            by_cases g4 : B i = 32
            · rw [if_pos (by omega), if_pos ⟨hi, Or.inr (Or.inr (Or.inr g4))⟩]
            · rw [if_neg (by omega), if_neg (by omega)]
  exact hl (L - s) s q_FU L (by omega) (by unfold q_FU; omega) (by omega)
theorem c_en {b L s : Nat} {B : Nat → Int} {dt : q_Dt} (h : qk_tx b L B dt) (hs : s ≤ L) : X9_behindToken (A1 b) dt (b + 2) (wI s) = some (wI (qk_en B L s)) := by
  have hL := h.1
  have ei : ∀ i : Nat, wI i + 1 = wI (i + 1 : Nat) := fun i => wI_add i 1
  by_cases h0 : s = L
  · obtain ⟨z, hz⟩ := r_anyS (dt := dt) (i := s) (s3_0 b) (l4 b) (by omega) (by omega)
    obtain ⟨z1, hz1⟩ := c_let_any z
    obtain ⟨z2, hz2⟩ := c_dig_any z
    have e1 : ∀ f g, X9_behindToken_b34 (A1 b) dt (b + 2) f g q_FU (wI s + 1) = some (wI L) := by
      intro f g
      obtain ⟨k, hk⟩ : ∃ k, q_FU = k + 1 := ⟨q_FU - 1, by unfold q_FU; omega⟩
      rw [hk, X9_behindToken_b34.eq_2, h.2.1, ei]
      simp (disch := omega) only [wI_le]
      rw [if_pos (by omega)]
    unfold X9_behindToken X9_behindToken_b23 X9_behindToken_b28 qk_en
    rw [s2_0, hz]
    simp only [b1s, hz1, hz2, e1]
    rw [if_pos (show L ≤ s by omega)]
    repeat' split
    all_goals rfl
  · have h1 : s < L := by omega
    have hB := (h.2.2.1 s h1).1
    have hl : ∀ n i k m : Nat, i + n = L → n < k → (n ≤ m) → X9_behindToken_b34 (A1 b) dt (b + 2) (wI (B s)) (if qk_cl (B s) = 0 then 0 else 1) k (wI i) = some (wI (if qk_cl (B s) = 0 then i else qk_rn B L (qk_cl (B s)) m i : Nat)) := by
      intro n
      induction n with
      | zero =>
        intro i k m z1 z2 g1
        obtain ⟨k, rfl⟩ : ∃ m, k = m + 1 := ⟨k - 1, by omega⟩
        have e : i = L := by omega
        have e2 : qk_rn B L (qk_cl (B s)) m L = L := by
          cases m with
          | zero => rfl
          | succ m => exact if_neg (fun q => absurd q.1 (by omega))
        rw [X9_behindToken_b34.eq_2, h.2.1, e, e2]
        simp (disch := omega) only [wI_le]
        rw [if_pos (by omega), ite_self]
      | succ n ih =>
        intro i k m z1 z2 g1
        obtain ⟨k, rfl⟩ : ∃ m, k = m + 1 := ⟨k - 1, by omega⟩
        have hi : i < L := by omega
        obtain ⟨m, rfl⟩ : ∃ m', m = m' + 1 := ⟨m - 1, by omega⟩
        have hih := ih (i + 1) k m (by omega) (by omega) (by omega)
        have hB2 := (h.2.2.1 i hi).1
        rw [X9_behindToken_b34.eq_2, h.2.1, c_tape h hi]
        simp (disch := omega) only [wI_le, b1s, c_let hB, c_let hB2, c_dig hB, c_dig hB2, X9_behindToken_b83, X9_behindToken_b82, X9_behindToken_b94]
        rw [if_neg (by omega), ei, hih]
        show _ = some (wI (if qk_cl (B s) = 0 then i else (if i < L ∧ qk_cl (B i) = qk_cl (B s) then qk_rn B L (qk_cl (B s)) m (i + 1) else i) : Nat))
        rcases qk_cl_3 (B s) with u | u | u <;> rcases qk_cl_3 (B i) with u2 | u2 | u2 <;> simp [u, u2, hi]
    have h2 := hl (L - (s + 1)) (s + 1) q_FU L (by omega) (by unfold q_FU; omega) (by omega)
    unfold X9_behindToken X9_behindToken_b23 X9_behindToken_b28 qk_en
    rw [c_tape h h1]
    simp only [b1s, c_let hB, c_dig hB, ei]
    rw [if_neg (show ¬ L ≤ s by omega)]
    rcases qk_cl_3 (B s) with u | u | u
    · simp only [u, qe01, qe02, qe12, qe21, qe10, qe20, eq_self, if_true, if_false, q_10, q_00] at h2 ⊢
      exact h2
    · simp only [u, qe01, qe02, qe12, qe21, qe10, qe20, eq_self, if_true, if_false, q_10, q_00] at h2 ⊢
      exact h2
    · simp only [u, qe01, qe02, qe12, qe21, qe10, qe20, eq_self, if_true, if_false, q_10, q_00] at h2 ⊢
      exact h2
theorem c_val {b L s z : Nat} {B : Nat → Int} {dt : q_Dt} (h : qk_tx b L B dt) (hs : s ≤ z) (he : z ≤ L) : X9_valueOf (A1 b) dt (b + 2) (wI s) (wI z) = some (wJ (qk_gv B s (z - s))) := by
  have hL := h.1
  have hl : ∀ n i k : Nat, i + n = z - s → n < k → X9_valueOf_b5 (A1 b) dt (b + 2) (wI z) k (wJ (qk_gv B s i)) (wI (s + i : Nat)) = some (wJ (qk_gv B s (z - s))) := by
    intro n
    induction n with
    | zero =>
      intro i k z1 z2 
      obtain ⟨k, rfl⟩ : ∃ m, k = m + 1 := ⟨k - 1, by omega⟩
      have e : i = z - s := by omega
      rw [X9_valueOf_b5.eq_2]
      simp (disch := omega) only [wI_le]
      rw [if_pos (by omega), show i = z - s by omega]
    | succ n ih =>
      intro i k z1 z2 
      obtain ⟨k, rfl⟩ : ∃ m, k = m + 1 := ⟨k - 1, by omega⟩
      have hi : i < z - s := by omega
      have hih := ih (i + 1) k (by omega) (by omega)
      have hB2 := (h.2.2.1 (s + i) (by omega)).1
      have ei : wI (s + i : Nat) + 1 = wI (s + (i + 1) : Nat) := wI_add _ 1
      rw [X9_valueOf_b5.eq_2, c_tape h (show s + i < L by omega)]
      simp (disch := omega) only [wI_le, b1s, c_dig hB2, X9_withLetter, X9_valueOf_b52, ei, wI_wJ, wJ_lit, wJ_mul, wJ_add, wJ_sub]
      rw [if_neg (by omega)]
      by_cases u : qk_cl (B (s + i)) = 2
      · have e1 : qk_gv B s (i + 1) = 10 * qk_gv B s i + (B (s + i) - 48) := if_pos u
        rw [e1] at hih
        rw [if_pos u, if_neg (by decide), ← hih]
        congr 2
        omega
      · have e1 : qk_gv B s (i + 1) = 27 * qk_gv B s i + (B (s + i) - 96) := if_neg u
        rw [e1] at hih
        rw [if_neg u, if_pos rfl, ← hih]
        congr 2
        omega
  exact hl (z - s) 0 q_FU (by omega) (by unfold q_FU; omega)
theorem c_word {b : Nat} {v : Int} {dt : q_Dt} (h : ∀ i, i < 11 → dt.2.1 (b + 12) i = wJ (q_key i)) (hv : 0 ≤ v ∧ v < 282429536481) : X9_wordOf (A1 b) dt (b + 2) (wJ v) = some (if qk_wd v = 11 then wI (-1) else wI (qk_wd v)) := by
  have hl : ∀ n i k : Nat, i + n = 11 → n < k → X9_wordOf_b2 (A1 b) dt (b + 2) (wJ v) k (wI i) = some (if qk_wf v n i = 11 then wI (-1) else wI (qk_wf v n i)) := by
    intro n
    induction n with
    | zero =>
      intro i k z1 z2 
      obtain ⟨k, rfl⟩ : ∃ m, k = m + 1 := ⟨k - 1, by omega⟩
      have e : i = 11 := by omega
      have e2 : qk_wf v 0 i = 11 := e
      rw [X9_wordOf_b2.eq_2, e2, if_pos rfl]
      simp (disch := omega) only [wI_lit, wI_lt]
      rw [if_pos (by omega)]
      rfl
    | succ n ih =>
      intro i k z1 z2 
      obtain ⟨k, rfl⟩ : ∃ m, k = m + 1 := ⟨k - 1, by omega⟩
      have hi : i < 11 := by omega
      have hih := ih (i + 1) k (by omega) (by omega)
      have hk := qk_key_b hi
      have ei : wI i + 1 = wI (i + 1 : Nat) := wI_add i 1
      rw [X9_wordOf_b2.eq_2, s2_4, r_at (s11_0 b) (l12 b) (by omega) hi, h i hi, ei, hih]
      simp (disch := omega) only [wI_lit, wI_lt, b1s, wJ_eq]
      rw [if_neg (by omega)]
      by_cases u : q_key i = v
      · have e1 : qk_wf v (n + 1) i = i := if_pos u
        rw [if_pos u, e1, if_neg (by omega)]
      · have e1 : qk_wf v (n + 1) i = qk_wf v n (i + 1) := if_neg u
        rw [if_neg u, e1]
  exact hl 11 0 q_FU (by omega) (by unfold q_FU; omega)
theorem c_kind {b L s : Nat} {B : Nat → Int} {dt : q_Dt} (h : qk_tx b L B dt) (hs : s ≤ L) : X9_kindOf (A1 b) dt (b + 2) (wI s) (wI (qk_en B L s)) (wJ (qk_gv B s (qk_en B L s - s))) = some (wI (qk_k B L s)) := by
  have hL := h.1
  by_cases h0 : s = L
  · obtain ⟨z, hz⟩ := r_anyS (dt := dt) (i := s) (s3_0 b) (l4 b) (by omega) (by omega)
    unfold X9_kindOf qk_k
    rw [s2_0, hz, h.2.1]
    simp (disch := omega) only [b1s, wI_lt]
    rw [if_neg (show ¬ (s : Int) < L by omega), if_pos (by omega)]
    rfl
  · have h1 : s < L := by omega
    have hB := (h.2.2.1 s h1).1
    have hE := qk_en_b (B := B) h1
    unfold X9_kindOf qk_k
    rw [c_tape h h1, h.2.1]
    simp only [b1s, c_let hB, c_dig hB]
    have e1 : (wI (s : Int) < wI (L : Int)) = ((s : Int) < L) := wI_lt (by omega) (by omega) (by omega) (by omega)
    simp only [e1]
    rw [if_pos (show (s : Int) < L by omega), if_neg (show ¬ L ≤ s by omega)]
    rcases qk_cl_3 (B s) with u | u | u
    · simp only [u, qe01, qe02, qe12, qe21, qe10, qe20, eq_self, if_true, if_false, q_10, q_00]
      simp (disch := omega) only [wI_lit, wI_eq]
      by_cases g1 : B s = 59
      · rw [if_pos (by omega), if_pos g1]
      · rw [if_neg (by omega), if_neg g1]
        by_cases g2 : B s = 45
        · rw [if_pos (by omega), if_pos g2]
        · rw [if_neg (by omega), if_neg g2]
    · have g2 := fun (q : qk_en B L s - s ≤ 8) => qk_gv_8 (fun j hj => (qk_run h1 j hj).trans u) q
      have g3 := qk_wd_b (qk_gv B s (qk_en B L s - s))
      simp only [u, qe01, qe02, qe12, qe21, qe10, qe20, eq_self, if_true, if_false, q_10, q_00]
      simp (disch := omega) only [wI_lit, wI_sub, wI_le]
      by_cases g1 : 8 < qk_en B L s - s
      · rw [if_neg (by omega), if_pos g1]
      · rw [if_pos (by omega), if_neg g1, c_word h.2.2.2 (g2 (by omega))]
        simp only [b1s]
        by_cases g4 : qk_wd (qk_gv B s (qk_en B L s - s)) = 11
        · rw [if_pos g4, if_pos g4, if_pos (by decide)]
        · rw [if_neg g4, if_neg g4, show -(wI (1 : Nat)) = wI (-1) from rfl, if_neg (by rw [wI_eq (by omega) (by omega) (by omega) (by omega)]; omega)]
    · simp only [u, qe01, qe02, qe12, qe21, qe10, qe20, eq_self, if_true, if_false, q_10, q_00]
      simp (disch := omega) only [wI_lit, wI_sub, wI_le]
      by_cases g1 : 4 < qk_en B L s - s
      · rw [if_neg (by omega), if_pos g1]
      · rw [if_pos (by omega), if_neg g1]
/-- the class's tokens -/
def qk_C (b : Nat) (K P : Nat → Nat) (V : Nat → Int) (N : Nat) (dt : q_Dt) : Prop := ∀ j, j < N → dt.2.1 (b + 6) j = wJ (K j) ∧ dt.2.1 (b + 8) j = wJ (P j) ∧ dt.2.1 (b + 10) j = wJ (V j)
def qk_fc (b : Nat) (dt d : q_Dt) : Prop := d.1 = dt.1 ∧ d.2.2 = dt.2.2 ∧ ∀ x, x ≠ b + 6 → x ≠ b + 8 → x ≠ b + 10 → d.2.1 x = dt.2.1 x
theorem qk_tx_f {b L : Nat} {B : Nat → Int} {dt d : q_Dt} (h : qk_tx b L B dt) (hf : qk_fc b dt d) : qk_tx b L B d := by
  refine ⟨h.1, by rw [hf.1]; exact h.2.1, fun i hi => ?_, fun i hi => ?_⟩
  · rw [hf.2.2 (b + 4) (by omega) (by omega) (by omega)]; exact h.2.2.1 i hi
  · rw [hf.2.2 (b + 12) (by omega) (by omega) (by omega)]; exact h.2.2.2 i hi
theorem c_cut {b L : Nat} {B : Nat → Int} {dt : q_Dt} (h : qk_tx b L B dt) : ∃ d, X9_cut (A1 b) dt (b + 2) = some d ∧ qk_C b (fun n => qk_k B L (qk_st B L n)) (qk_st B L) (fun n => qk_v B L (qk_st B L n)) (qk_N (fun n => qk_k B L (qk_st B L n)) 400 0 + 1) d ∧ qk_fc b dt d := by
  have hN := qk_tok_i B h.1
  obtain ⟨N, hNe⟩ : ∃ N, N = qk_N (fun n => qk_k B L (qk_st B L n)) 400 0 := ⟨_, rfl⟩
  rw [← hNe] at hN ⊢
  have hl : ∀ n i k : Nat, i + n = N + 1 → n < k → ∀ d (x2 : Nat), (i = 0 → x2 = 6) → (0 < i → x2 = qk_k B L (qk_st B L (i - 1))) → qk_C b (fun n => qk_k B L (qk_st B L n)) (qk_st B L) (fun n => qk_v B L (qk_st B L n)) i d → qk_fc b dt d → ∃ d', X9_cut_b7 (A1 b) (b + 2) k (wI (qk_ps B L i)) (wI x2) (wI i) d = some d' ∧ qk_C b (fun n => qk_k B L (qk_st B L n)) (qk_st B L) (fun n => qk_v B L (qk_st B L n)) (N + 1) d' ∧ qk_fc b dt d' := by
    intro n
    induction n with
    | zero =>
      intro i k z1 z2 
      obtain ⟨k, rfl⟩ : ∃ m, k = m + 1 := ⟨k - 1, by omega⟩
      have e : i = N + 1 := by omega
      intro d x2 y1 y2 y3 y4
      have hx := y2 (by omega)
      rw [e] at y3
      refine ⟨d, ?_, y3, y4⟩
      have hxb := qk_k_b B L (qk_st B L (i - 1))
      have hN4 := hN.1
      rw [X9_cut_b7.eq_2]
      simp (disch := omega) only [wI_lit, wI_lt, wI_eq]
      by_cases g : N = 400
      · rw [if_pos (show ((400 : Nat) : Int) < i by omega)]
      · have g2 := hN.2.2.1 (by omega)
        have g3 : x2 ≤ 1 := by
          rw [hx, show i - 1 = N by omega]
          exact g2
        rw [if_neg (show ¬ ((400 : Nat) : Int) < i by omega)]
        by_cases g4 : x2 = 0
        · rw [if_pos (by omega)]
        · rw [if_neg (by omega), if_pos (by omega)]
    | succ n ih =>
      intro i k z1 z2 
      obtain ⟨k, rfl⟩ : ∃ m, k = m + 1 := ⟨k - 1, by omega⟩
      have hi : i < N + 1 := by omega
      intro d x2 y1 y2 y3 y4
      have hN1 := hN.1
      have hxb : 2 ≤ x2 ∧ x2 ≤ 6 := by
        by_cases g : i = 0
        · have := y1 g; omega
        · have g1 := y2 (by omega)
          have g2 := hN.2.1 (i - 1) (by omega)
          have g3 := qk_k_b B L (qk_st B L (i - 1))
          have g4 : 2 ≤ qk_k B L (qk_st B L (i - 1)) := g2
          omega
      have ht := qk_tx_f h y4
      have hL := h.1
      have hp := qk_st_b B L i
      have hpp := qk_ps_b B L i
      have hp2 := qk_ps_b B L (i + 1)
      have ee : qk_ps B L (i + 1) = qk_en B L (qk_st B L i) := rfl
      have hkb := qk_k_b B L (qk_st B L i)
      have hge : qk_st B L i ≤ qk_en B L (qk_st B L i) := by
        by_cases g : qk_st B L i < L
        · have := qk_en_b (B := B) g; omega
        · unfold qk_en; rw [if_pos (by omega)]; omega
      have ebl : X9_behindBlanks (A1 b) d (b + 2) (wI (qk_ps B L i)) = some (wI (qk_st B L i)) := c_bl ht hpp
      have een := c_en ht hp.2
      have eva := c_val (z := qk_en B L (qk_st B L i)) ht hge (by rw [← ee]; exact hp2)
      have eki := c_kind ht hp.2
      have ei : wI i + 1 = wI (i + 1 : Nat) := wI_add i 1
      obtain ⟨d2, hd2⟩ : ∃ z, z = q_pJ (q_pJ d (b + 6) i (wJ (qk_k B L (qk_st B L i)))) (b + 8) i (wJ (qk_st B L i)) := ⟨_, rfl⟩
      obtain ⟨d3, hd3⟩ : ∃ z, z = q_pJ d2 (b + 10) i (wJ (qk_v B L (qk_st B L i))) := ⟨_, rfl⟩
      have f2 : qk_fc b d d2 := by
        rw [hd2]
        exact ⟨rfl, rfl, fun x h1 h2 h3 => (q_pJ_o h2).trans (q_pJ_o h1)⟩
      have f3 : qk_fc b dt d3 := by
        rw [hd3]
        exact ⟨f2.1.trans y4.1, f2.2.1.trans y4.2.1, fun x h1 h2 h3 => (q_pJ_o h3).trans ((f2.2.2 x h1 h2 h3).trans (y4.2.2 x h1 h2 h3))⟩
      have c3 : qk_C b (fun n => qk_k B L (qk_st B L n)) (qk_st B L) (fun n => qk_v B L (qk_st B L n)) (i + 1) d3 := by
        intro j hj
        rw [hd3, hd2]
        by_cases g : j = i
        · rw [g]
          refine ⟨?_, ?_, ?_⟩
          · rw [q_pJ_o (by omega), q_pJ_o (by omega), q_pJ_s]
          · rw [q_pJ_o (by omega), q_pJ_s]
          · rw [q_pJ_s]
        · have g2 := y3 j (by omega)
          refine ⟨?_, ?_, ?_⟩
          · rw [q_pJ_o (by omega), q_pJ_o (by omega), q_pJ_k g]; exact g2.1
          · rw [q_pJ_o (by omega), q_pJ_k g, q_pJ_o (by omega)]; exact g2.2.1
          · rw [q_pJ_k g, q_pJ_o (by omega), q_pJ_o (by omega)]; exact g2.2.2
      obtain ⟨d', v1, v2, v3⟩ := ih (i + 1) k (by omega) (by omega) d3 (qk_k B L (qk_st B L i)) (fun q => absurd q (by omega)) (fun _ => rfl) c3 f3
      refine ⟨d', ?_, v2, v3⟩
      rw [X9_cut_b7.eq_2, ebl]
      simp (disch := omega) only [wI_lit, wI_lt, wI_eq]
      rw [if_neg (by omega), if_neg (by omega), if_neg (by omega)]
      simp only [b1s, een, eva, eki]
      rw [wI_wJ (by omega) (by omega), wI_wJ (by omega) (by omega), s2_1, s2_2, s2_3, r_put (s5_0 b) (l6 b) (by omega) (by omega)]
      simp only [b1s]
      rw [r_put (s7_0 b) (l8 b) (by omega) (by omega)]
      simp only [b1s]
      rw [← hd2]
      simp (disch := omega) only [wI_eq]
      unfold X9_cut_b100
      by_cases g : qk_k B L (qk_st B L i) = 6
      · have g1 := qk_k_6 (Or.inl g)
        have g2 := qk_gv_8 (fun j hj => (qk_run g1.1 j hj).trans g1.2.1) g1.2.2.1
        have g3 := qk_wd_b (qk_gv B (qk_st B L i) (qk_en B L (qk_st B L i) - qk_st B L i))
        have g4 : qk_v B L (qk_st B L i) = qk_wd (qk_gv B (qk_st B L i) (qk_en B L (qk_st B L i) - qk_st B L i)) := if_pos g
        rw [if_pos (by omega), c_word (qk_tx_f ht f2).2.2.2 g2, if_neg (g1.2.2.2.1 g)]
        simp only [b1s]
        rw [wI_wJ (by omega) (by omega), r_put (s9_0 b) (l10 b) (by omega) (by omega), ← g4, ← hd3]
        simp only [b1s]
        rw [ei, ← ee]
        exact v1
      · have g4 : qk_v B L (qk_st B L i) = qk_gv B (qk_st B L i) (qk_en B L (qk_st B L i) - qk_st B L i) := if_neg g
        rw [if_neg (by omega), r_put (s9_0 b) (l10 b) (by omega) (by omega), ← g4, ← hd3]
        simp only [b1s]
        rw [ei, ← ee]
        exact v1
  have h0 : qk_fc b dt dt := ⟨rfl, rfl, fun _ _ _ _ => rfl⟩
  exact hl (N + 1) 0 q_FU (by omega) (by have := hN.1; unfold q_FU; omega) dt 6 (fun _ => rfl) (fun q => absurd q (by omega)) (fun j hj => absurd hj (by omega)) h0
