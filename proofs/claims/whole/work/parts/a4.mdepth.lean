/-! level two: depth, the check -/
def q_f4 (b : Nat) (dt d : q_Dt) : Prop := (∀ x, x < b + 41 ∨ b + 45 ≤ x → d.1 x = dt.1 x) ∧ d.2 = dt.2
theorem q_f4_r {b : Nat} {dt : q_Dt} : q_f4 b dt dt := ⟨fun _ _ => rfl, rfl⟩
theorem q_f4_t {b : Nat} {dt d e : q_Dt} (h : q_f4 b dt d) (h' : q_f4 b d e) : q_f4 b dt e := ⟨fun x hx => (h'.1 x hx).trans (h.1 x hx), h'.2.trans h.2⟩
theorem q_f4_I {b a k : Nat} {dt d : q_Dt} {v : Int32} (h : q_f4 b dt d) (ha : b + 41 ≤ a ∧ a < b + 45) : q_f4 b dt (q_pI d a k v) := ⟨fun x hx => (q_pI_o (by omega)).trans (h.1 x hx), h.2⟩
theorem q_f4_e2 {b : Nat} {dt d : q_Dt} (h : q_f4 b dt d) : q_e2 b dt d := ⟨fun x h1 h2 h3 h4 => h.1 x (by omega), fun j _ => congrFun (h.1 b (by omega)) j, fun x _ => by rw [h.2]⟩
theorem M_f4 {b sd : Nat} {dt d : q_Dt} {T : q_Tl} (h : q_M b sd dt T) (hf : q_f4 b dt d) : q_M b sd d T := M_e2 h (q_f4_e2 hf)
theorem M_dRow {b sd c : Nat} {dt : q_Dt} {T : q_Tl} (hM : q_M b sd dt T) (hc : c < Tnc T) : ∃ d', X12_depth_b20 (A2 b) b (wI c) (wI (2 * Tlen T c : Nat)) q_FU 0 dt = X12_depth_b59 (A2 b) b (wI (2 * Tlen T c : Nat)) q_FU 0 d' ∧ q_f4 b dt d' ∧ ∀ j, j < 2 * Tlen T c → d'.1 (b + 41) j = wI (q_dbt (Tch T c) (Tlen T c) j) := by
  have hC := hM.1.2.1 c hc
  have hL := hC.1
  have hnc := hM.1.1
  have hl : ∀ n i k : Nat, i + n = 2 * Tlen T c → n < k → ∀ d, q_f4 b dt d → (∀ j, j < i → d.1 (b + 41) j = wI (q_dbt (Tch T c) (Tlen T c) j)) → ∃ d', X12_depth_b20 (A2 b) b (wI c) (wI (2 * Tlen T c : Nat)) k (wI i) d = X12_depth_b59 (A2 b) b (wI (2 * Tlen T c : Nat)) q_FU 0 d' ∧ q_f4 b dt d' ∧ ∀ j, j < 2 * Tlen T c → d'.1 (b + 41) j = wI (q_dbt (Tch T c) (Tlen T c) j) := by
    intro n
    induction n with
    | zero =>
      intro i k z1 z2 
      obtain ⟨k, rfl⟩ : ∃ m, k = m + 1 := ⟨k - 1, by omega⟩
      have e : i = 2 * Tlen T c := by omega
      intro d q1 q2
      refine ⟨d, ?_, q1, fun j hj => q2 j (by omega)⟩
      rw [X12_depth_b20.eq_2, e]
      simp only [q_leT (Nat.le_refl (2 * Tlen T c)) (show 2 * Tlen T c < 2147483648 by omega), ↓reduceIte]
    | succ n ih =>
      intro i k z1 z2 
      obtain ⟨k, rfl⟩ : ∃ m, k = m + 1 := ⟨k - 1, by omega⟩
      have hi : i < 2 * Tlen T c := by omega
      intro d q1 q2
      have hM1 := M_f4 hM q1
      have hm := Nat.mod_lt i (show 0 < Tlen T c by omega)
      have hb := hC.2 (i % Tlen T c) hm
      have e1 : q_ir (wI i) (wI (Tlen T c)) = wI (i % Tlen T c : Nat) := by
        rw [wI_mod (by omega) (by omega) (by omega) (by omega)]
        rfl
      have hfin : ∀ v : Int32, v = wI (q_dbt (Tch T c) (Tlen T c) i) → ∃ d', X12_depth_b50 (A2 b) (X12_depth_b20 (A2 b) b (wI c) (wI (2 * Tlen T c : Nat)) k) b (wI c) (wI (2 * Tlen T c : Nat)) (wI i) (b + 41) (wI i) v d = X12_depth_b59 (A2 b) b (wI (2 * Tlen T c : Nat)) q_FU 0 d' ∧ q_f4 b dt d' ∧ ∀ j, j < 2 * Tlen T c → d'.1 (b + 41) j = wI (q_dbt (Tch T c) (Tlen T c) j) := by
        intro v hv
        unfold X12_depth_b50
        rw [n55, q_nn (show i < 2147483648 by omega), q_n1, hv]
        simp only [q_ge (show i < 260 by omega) (show 260 < 2147483648 by omega), ↓reduceIte, o1s]
        refine ih (i + 1) k (by omega) (by omega) _ (q_f4_I q1 (by omega)) (fun j hj => ?_)
        by_cases ej : j = i
        · rw [ej, q_pI_s]
        · rw [q_pI_k ej]
          exact q2 j (by omega)
      rw [X12_depth_b20.eq_2, M_long hM1 hc, b1s, e1, M_chip hM1 hc hm, b1s, m55]
      simp only [q_leF hi (show 2 * Tlen T c < 2147483648 by omega), ↓reduceIte]
      rw [if_neg (show ¬ wI (Tlen T c) = 0 by rw [show (0 : Int32) = wI 0 from rfl, wI_eq (by omega) (by omega) (by omega) (by omega)]; omega)]
      by_cases hz : Tch T c (i % Tlen T c) < 0
      · rw [if_neg (show ¬ 0 ≤ wI (Tch T c (i % Tlen T c)) by rw [show (0 : Int32) = wI 0 from rfl, wI_le (by omega) (by omega) (by omega) (by omega)]; omega)]
        refine hfin 1 ?_
        unfold q_dbt
        rw [if_pos hz]
        rfl
      · rw [if_pos (show 0 ≤ wI (Tch T c (i % Tlen T c)) by rw [show (0 : Int32) = wI 0 from rfl, wI_le (by omega) (by omega) (by omega) (by omega)]; omega)]
        refine hfin 0 ?_
        unfold q_dbt
        rw [if_neg hz]
        rfl
  exact hl (2 * Tlen T c) 0 q_FU (by omega) (by unfold q_FU; omega) dt q_f4_r (fun j hj => absurd hj (by omega))
def q_k2 (b : Nat) (d : q_Dt) (C B : Nat → Int) : Prop := ∀ k, k < 260 → d.1 (b + 42) k = wI (C k) ∧ d.1 (b + 43) k = wI (B k)
theorem M_dInit {b : Nat} {dt : q_Dt} {w : Int32} : ∃ d', X12_depth_b59 (A2 b) b w q_FU 0 dt = X12_depth_b110 (A2 b) b w q_FU 0 1 0 d' ∧ q_f4 b dt d' ∧ d'.1 (b + 41) = dt.1 (b + 41) ∧ q_k2 b d' q_del q_del := by
  have hl : ∀ n i k : Nat, i + n = 260 → n < k → ∀ d, q_f4 b dt d → d.1 (b + 41) = dt.1 (b + 41) → (∀ j, j < i → d.1 (b + 42) j = wI (q_del j) ∧ d.1 (b + 43) j = wI (q_del j)) → ∃ d', X12_depth_b59 (A2 b) b w k (wI i) d = X12_depth_b110 (A2 b) b w q_FU 0 1 0 d' ∧ q_f4 b dt d' ∧ d'.1 (b + 41) = dt.1 (b + 41) ∧ q_k2 b d' q_del q_del := by
    intro n
    induction n with
    | zero =>
      intro i k z1 z2 
      obtain ⟨k, rfl⟩ : ∃ m, k = m + 1 := ⟨k - 1, by omega⟩
      have e : i = 260 := by omega
      intro d q1 q2 q3
      refine ⟨d, ?_, q1, q2, fun j hj => q3 j (by omega)⟩
      rw [X12_depth_b59.eq_2, show (260 : Int32) = wI (260 : Nat) from rfl, e]
      simp only [q_leT (Nat.le_refl 260) (show 260 < 2147483648 by omega), ↓reduceIte]
    | succ n ih =>
      intro i k z1 z2 
      obtain ⟨k, rfl⟩ : ∃ m, k = m + 1 := ⟨k - 1, by omega⟩
      have hi : i < 260 := by omega
      intro d q1 q2 q3
      obtain ⟨d', v1, v2⟩ := ih (i + 1) k (by omega) (by omega) (q_pI (q_pI d (b + 42) i (wI (q_del i))) (b + 43) i (wI (q_del i))) (q_f4_I (q_f4_I q1 (by omega)) (by omega)) (by rw [q_pI_o (by omega), q_pI_o (by omega)]; exact q2) (fun j hj => by
        by_cases ej : j = i
        · rw [ej, q_pI_o (show b + 42 ≠ b + 43 by omega), q_pI_s, q_pI_s]
          exact ⟨rfl, rfl⟩
        · rw [q_pI_k ej, q_pI_k ej, q_pI_k ej, q_pI_k ej]
          exact q3 j (by omega))
      refine ⟨d', ?_, v2⟩
      rw [X12_depth_b59.eq_2, show (260 : Int32) = wI (260 : Nat) from rfl]
      simp only [q_leF hi (show 260 < 2147483648 by omega), ↓reduceIte]
      unfold X12_depth_b80 X12_depth_b95
      rw [m56, m57, n56, n57, q_nn (show i < 2147483648 by omega), q_n1]
      simp only [q_ge hi (show 260 < 2147483648 by omega), ↓reduceIte, o1s]
      by_cases h0 : i = 0
      · have ez : wI (i : Nat) = 0 := by rw [h0]; rfl
        have ed : (1 : Int32) = wI (q_del i) := by rw [h0]; rfl
        refine Eq.trans ?_ v1
        rw [if_pos ez, if_pos ez, ed]
      · have ez : ¬ wI (i : Nat) = 0 := by
          rw [show (0 : Int32) = wI 0 from rfl, wI_eq (by omega) (by omega) (by omega) (by omega)]
          omega
        have ed : (0 : Int32) = wI (q_del i) := by
          unfold q_del
          rw [if_neg h0]
          rfl
        refine Eq.trans ?_ v1
        rw [if_neg ez, if_neg ez, ed]
  exact hl 260 0 q_FU (by omega) (by unfold q_FU; omega) dt q_f4_r rfl (fun j hj => absurd hj (by omega))
theorem M_dDis {b deep gap nn M : Nat} {d : q_Dt} {s C B : Nat → Int} (kk : Int32 → Int32 → Int32 → q_Dt → Option (Int32 × q_Dt)) (hs : ∀ i, s i = 0 ∨ s i = 1) (hk : q_k2 b d C B) (hC : ∀ k, C k = 0 ∨ C k = 1) (hr : ∀ j, j < M → d.1 (b + 41) j = wI (s j)) (hd : deep ≤ nn) (hd2 : deep ≤ 127) (hn : nn < M) (hM : M ≤ 254) : X12_depth_b122 (A2 b) kk b (wI M) (wI deep) (wI gap) (wI nn) q_FU 0 0 d = if q_ds s C nn (deep + 1) % 2 = 0 then X12_depth_b301 (A2 b) kk b (wI M) (wI deep) (wI (gap + 1 : Nat)) (wI nn) d else X12_depth_b173 (A2 b) kk b (wI M) (wI deep) (wI gap) (wI nn) q_FU 0 d := by
  have hbd : ∀ m, 0 ≤ q_ds s C nn m ∧ q_ds s C nn m ≤ m := fun m => q_sum01 m (fun i _ => by
    rcases hC i with h1 | h1
    · rw [h1, Int.zero_mul]; omega
    · rw [h1, Int.one_mul]
      have := hs (nn - i)
      omega)
  have hl : ∀ n i k : Nat, i + n = deep + 1 → n < k → X12_depth_b122 (A2 b) kk b (wI M) (wI deep) (wI gap) (wI nn) k (wI (q_ds s C nn i)) (wI i) d = if q_ds s C nn (deep + 1) % 2 = 0 then X12_depth_b301 (A2 b) kk b (wI M) (wI deep) (wI (gap + 1 : Nat)) (wI nn) d else X12_depth_b173 (A2 b) kk b (wI M) (wI deep) (wI gap) (wI nn) q_FU 0 d := by
    intro n
    induction n with
    | zero =>
      intro i k z1 z2 
      obtain ⟨k, rfl⟩ : ∃ m, k = m + 1 := ⟨k - 1, by omega⟩
      have e : i = deep + 1 := by omega
      have h1 := hbd (deep + 1)
      rw [X12_depth_b122.eq_2, e, if_pos (show wI deep < wI (deep + 1 : Nat) by rw [wI_lt (by omega) (by omega) (by omega) (by omega)]; omega), show (2 : Int32) = wI 2 from rfl, wI_mod (by omega) (by omega) (by omega) (by omega), q_n1]
      by_cases hz : q_ds s C nn (deep + 1) % 2 = 0
      · rw [if_pos hz, hz, if_pos (show wI 0 = 0 from rfl)]
      · rw [if_neg hz, show q_ds s C nn (deep + 1) % 2 = 1 by omega, if_neg (show ¬ wI 1 = 0 by decide)]
    | succ n ih =>
      intro i k z1 z2 
      obtain ⟨k, rfl⟩ : ∃ m, k = m + 1 := ⟨k - 1, by omega⟩
      have hi : i < deep + 1 := by omega
      have hih := ih (i + 1) k (by omega) (by omega)
      rw [q_ds_s] at hih
      have e1 : wI nn - wI i = wI (nn - i : Nat) := by
        rw [wI_sub]
        congr 1
        omega
      rw [X12_depth_b122.eq_2, if_neg (show ¬ wI deep < wI i by rw [wI_lt (by omega) (by omega) (by omega) (by omega)]; omega), m55, m56, n55, n56, e1, q_nn (show i < 2147483648 by omega), q_nn (show nn - i < 2147483648 by omega), (hk i (by omega)).1, hr (nn - i) (by omega), wI_mul, wI_add, q_n1]
      simp only [q_ge (show i < 260 by omega) (show 260 < 2147483648 by omega), q_ge (show nn - i < 260 by omega) (show 260 < 2147483648 by omega), ↓reduceIte, o1s]
      exact hih
  exact hl (deep + 1) 0 q_FU (by omega) (by unfold q_FU; omega)
theorem M_dCopy {b : Nat} {dt : q_Dt} {w x3 x4 x5 : Int32} (kk : Int32 → Int32 → Int32 → q_Dt → Option (Int32 × q_Dt)) : X12_depth_b173 (A2 b) kk b w x3 x4 x5 q_FU 0 dt = X12_depth_b205 (A2 b) kk b w x3 x4 x5 q_FU x4 (q_irow dt (b + 44) 0 260 (dt.1 (b + 42))) := by
  have hl : ∀ n i k : Nat, i + n = 260 → n < k → X12_depth_b173 (A2 b) kk b w x3 x4 x5 k (wI i) (q_irow dt (b + 44) 0 i (dt.1 (b + 42))) = X12_depth_b205 (A2 b) kk b w x3 x4 x5 q_FU x4 (q_irow dt (b + 44) 0 260 (dt.1 (b + 42))) := by
    intro n
    induction n with
    | zero =>
      intro i k z1 z2 
      obtain ⟨k, rfl⟩ : ∃ m, k = m + 1 := ⟨k - 1, by omega⟩
      have e : i = 260 := by omega
      rw [X12_depth_b173.eq_2, show (260 : Int32) = wI (260 : Nat) from rfl, e]
      simp only [q_leT (Nat.le_refl 260) (show 260 < 2147483648 by omega), ↓reduceIte]
    | succ n ih =>
      intro i k z1 z2 
      obtain ⟨k, rfl⟩ : ∃ m, k = m + 1 := ⟨k - 1, by omega⟩
      have hi : i < 260 := by omega
      have hih := ih (i + 1) k (by omega) (by omega)
      have es := q_irow_s dt (b + 44) 0 i (dt.1 (b + 42))
      rw [Nat.zero_add] at es
      rw [X12_depth_b173.eq_2, m56, m58, n56, n58, q_nn (show i < 2147483648 by omega), show (260 : Int32) = wI (260 : Nat) from rfl]
      simp only [q_leF hi (show 260 < 2147483648 by omega), q_ge hi (show 260 < 2147483648 by omega), ↓reduceIte, o1s, q_n1]
      rw [q_irow_o (show b + 42 ≠ b + 44 by omega), es]
      exact hih
  have h0 := hl 260 0 q_FU (by omega) (by unfold q_FU; omega)
  rw [q_irow_0] at h0
  exact h0
theorem M_dUp {b : Nat} {dt : q_Dt} {w x3 x5 : Int32} (kk : Int32 → Int32 → Int32 → q_Dt → Option (Int32 × q_Dt)) : X12_depth_b270 (A2 b) kk b w x3 x5 q_FU 0 dt = X12_depth_b301 (A2 b) kk b w x3 1 x5 (q_irow dt (b + 43) 0 260 (dt.1 (b + 44))) := by
  have hl : ∀ n i k : Nat, i + n = 260 → n < k → X12_depth_b270 (A2 b) kk b w x3 x5 k (wI i) (q_irow dt (b + 43) 0 i (dt.1 (b + 44))) = X12_depth_b301 (A2 b) kk b w x3 1 x5 (q_irow dt (b + 43) 0 260 (dt.1 (b + 44))) := by
    intro n
    induction n with
    | zero =>
      intro i k z1 z2 
      obtain ⟨k, rfl⟩ : ∃ m, k = m + 1 := ⟨k - 1, by omega⟩
      have e : i = 260 := by omega
      rw [X12_depth_b270.eq_2, show (260 : Int32) = wI (260 : Nat) from rfl, e]
      simp only [q_leT (Nat.le_refl 260) (show 260 < 2147483648 by omega), ↓reduceIte]
    | succ n ih =>
      intro i k z1 z2 
      obtain ⟨k, rfl⟩ : ∃ m, k = m + 1 := ⟨k - 1, by omega⟩
      have hi : i < 260 := by omega
      have hih := ih (i + 1) k (by omega) (by omega)
      have es := q_irow_s dt (b + 43) 0 i (dt.1 (b + 44))
      rw [Nat.zero_add] at es
      rw [X12_depth_b270.eq_2, m57, m58, n57, n58, q_nn (show i < 2147483648 by omega), show (260 : Int32) = wI (260 : Nat) from rfl]
      simp only [q_leF hi (show 260 < 2147483648 by omega), q_ge hi (show 260 < 2147483648 by omega), ↓reduceIte, o1s, q_n1]
      rw [q_irow_o (show b + 44 ≠ b + 43 by omega), es]
      exact hih
  have h0 := hl 260 0 q_FU (by omega) (by unfold q_FU; omega)
  rw [q_irow_0] at h0
  exact h0
theorem M_dMix {b gap deep nn : Nat} {dt : q_Dt} {w : Int32} {C B : Nat → Int} (kk : Int32 → Int32 → Int32 → q_Dt → Option (Int32 × q_Dt)) (hk : q_k2 b dt C B) (hC : ∀ k, C k = 0 ∨ C k = 1) (hB : ∀ k, B k = 0 ∨ B k = 1) (hg : gap ≤ 260) (hd : deep ≤ nn) (hn : nn < 1000) : ∃ d', X12_depth_b205 (A2 b) kk b w (wI deep) (wI gap) (wI nn) q_FU (wI gap) dt = (if nn < 2 * deep then X12_depth_b301 (A2 b) kk b w (wI deep) (wI (gap + 1 : Nat)) (wI nn) d' else X12_depth_b270 (A2 b) kk b w (wI (nn + 1 - deep : Nat)) (wI nn) q_FU 0 d') ∧ q_k2 b d' (q_mix C B gap) B ∧ (∀ x, x ≠ b + 42 → d'.1 x = dt.1 x) ∧ d'.2 = dt.2 := by
  have hl : ∀ n i k : Nat, i + n = 260 → n < k → ∀ d, gap ≤ i → (∀ x, x ≠ b + 42 → d.1 x = dt.1 x) → d.2 = dt.2 → (∀ j, j < 260 → d.1 (b + 42) j = wI (if j < i then q_mix C B gap j else C j)) → ∃ d', X12_depth_b205 (A2 b) kk b w (wI deep) (wI gap) (wI nn) k (wI i) d = (if nn < 2 * deep then X12_depth_b301 (A2 b) kk b w (wI deep) (wI (gap + 1 : Nat)) (wI nn) d' else X12_depth_b270 (A2 b) kk b w (wI (nn + 1 - deep : Nat)) (wI nn) q_FU 0 d') ∧ q_k2 b d' (q_mix C B gap) B ∧ (∀ x, x ≠ b + 42 → d'.1 x = dt.1 x) ∧ d'.2 = dt.2 := by
    intro n
    induction n with
    | zero =>
      intro i k z1 z2 
      obtain ⟨k, rfl⟩ : ∃ m, k = m + 1 := ⟨k - 1, by omega⟩
      have e : i = 260 := by omega
      intro d g0 q1 q2 q3
      refine ⟨d, ?_, fun j hj => ⟨?_, ?_⟩, q1, q2⟩
      · have e3 : 2 * wI deep = wI (2 * deep : Nat) := by
          rw [show (2 : Int32) = wI (2 : Nat) from rfl, wI_mul]
          rfl
        have e5 : wI nn + 1 - wI deep = wI (nn + 1 - deep : Nat) := by
          rw [show (1 : Int32) = wI 1 from rfl, wI_add, wI_sub]
          congr 1
          omega
        rw [X12_depth_b205.eq_2, show (260 : Int32) = wI (260 : Nat) from rfl, e, e3, e5, q_n1]
        simp only [q_leT (Nat.le_refl 260) (show 260 < 2147483648 by omega), ↓reduceIte]
        by_cases h : nn < 2 * deep
        · rw [if_pos h, if_neg (show ¬ wI (2 * deep : Nat) ≤ wI nn by rw [wI_le (by omega) (by omega) (by omega) (by omega)]; omega)]
        · rw [if_neg h, if_pos (show wI (2 * deep : Nat) ≤ wI nn by rw [wI_le (by omega) (by omega) (by omega) (by omega)]; omega)]
      · rw [q3 j hj, if_pos (by omega)]
      · rw [q1 (b + 43) (by omega)]
        exact (hk j hj).2
    | succ n ih =>
      intro i k z1 z2 
      obtain ⟨k, rfl⟩ : ∃ m, k = m + 1 := ⟨k - 1, by omega⟩
      have hi : i < 260 := by omega
      intro d g0 q1 q2 q3
      have e1 : wI i - wI gap = wI (i - gap : Nat) := by
        rw [wI_sub]
        congr 1
        omega
      have h1 := q3 i hi
      rw [if_neg (by omega)] at h1
      have h2 := (hk (i - gap) (by omega)).2
      rw [← q1 (b + 43) (by omega)] at h2
      have hCi := hC i
      have hBi := hB (i - gap)
      have e6 : q_ir (wI (C i) + wI (B (i - gap))) 2 = wI ((C i + B (i - gap)) % 2) := by
        rw [wI_add, show (2 : Int32) = wI 2 from rfl, wI_mod (by omega) (by omega) (by omega) (by omega)]
      obtain ⟨d', v1, v2⟩ := ih (i + 1) k (by omega) (by omega) (q_pI d (b + 42) i (wI ((C i + B (i - gap)) % 2))) (by omega) (fun x hx => (q_pI_o hx).trans (q1 x hx)) q2 (fun j hj => by
        by_cases ej : j = i
        · rw [ej, q_pI_s, if_pos (by omega)]
          unfold q_mix
          rw [if_pos g0]
        · rw [q_pI_k ej, q3 j hj]
          by_cases hj2 : j < i
          · rw [if_pos hj2, if_pos (by omega)]
          · rw [if_neg hj2, if_neg (by omega)])
      refine ⟨d', ?_, v2⟩
      rw [X12_depth_b205.eq_2, e1, m56, m57, n56, n57, q_nn (show i < 2147483648 by omega), q_nn (show i - gap < 2147483648 by omega), h1, h2, e6, q_n1 i, show (260 : Int32) = wI (260 : Nat) from rfl]
      simp only [q_leF hi (show 260 < 2147483648 by omega), q_ge hi (show 260 < 2147483648 by omega), q_ge (show i - gap < 260 by omega) (show 260 < 2147483648 by omega), ↓reduceIte, o1s]
      exact v1
  refine hl (260 - gap) gap q_FU (by omega) (by unfold q_FU; omega) dt (Nat.le_refl gap) (fun _ _ => rfl) rfl (fun j hj => ?_)
  rw [(hk j hj).1]
  by_cases h : j < gap
  · rw [if_pos h]
    unfold q_mix
    rw [if_neg (by omega)]
  · rw [if_neg h]
theorem M_depthL {b M L : Nat} {dt : q_Dt} {s : Nat → Int} (hs : ∀ i, s i = 0 ∨ s i = 1) (hp : ∀ i, s (i + L) = s i) (hL : 1 ≤ L ∧ L ≤ 127) (hM : M = 2 * L) : ∀ n i k : Nat, i + n = M → n < k → ∀ d, q_f4 b dt d → (∀ j, j < M → d.1 (b + 41) j = wI (s j)) → q_k2 b d (q_bm s i).1.1 (q_bm s i).1.2 → ∃ d', X12_depth_b110 (A2 b) b (wI M) k (wI (q_bm s i).2.1) (wI (q_bm s i).2.2) (wI i) d = some (wI (q_bm s M).2.1, d') ∧ q_f4 b dt d' := by
  have hl : ∀ n i k : Nat, i + n = M → n < k → ∀ d, q_f4 b dt d → (∀ j, j < M → d.1 (b + 41) j = wI (s j)) → q_k2 b d (q_bm s i).1.1 (q_bm s i).1.2 → ∃ d', X12_depth_b110 (A2 b) b (wI M) k (wI (q_bm s i).2.1) (wI (q_bm s i).2.2) (wI i) d = some (wI (q_bm s M).2.1, d') ∧ q_f4 b dt d' := by
    intro n
    induction n with
    | zero =>
      intro i k z1 z2 
      obtain ⟨k, rfl⟩ : ∃ m, k = m + 1 := ⟨k - 1, by omega⟩
      have e : i = M := by omega
      intro d q1 q2 q3
      refine ⟨d, ?_, q1⟩
      rw [X12_depth_b110.eq_2, e]
      simp only [q_leT (Nat.le_refl M) (show M < 2147483648 by omega), ↓reduceIte]
    | succ n ih =>
      intro i k z1 z2 
      obtain ⟨k, rfl⟩ : ∃ m, k = m + 1 := ⟨k - 1, by omega⟩
      have hi : i < M := by omega
      intro d q1 q2 q3
      have hbi := q_bm_i hs hp hL.1 i
      have hih := ih (i + 1) k (by omega) (by omega)
      have est : q_bm s (i + 1) = q_bms s i (q_bm s i) := rfl
      rw [est] at hih
      generalize q_bm s i = st at hih hbi q3 ⊢
      obtain ⟨⟨C, B⟩, deep, gap⟩ := st
      obtain ⟨hC, hB, -, ⟨h4, h5, h6, h7⟩, -⟩ := hbi
      simp only at hC hB h4 h5 h6 h7 q3 ⊢
      unfold q_bms at hih
      simp only at hih
      have hdis := M_dDis (gap := gap) (nn := i) (X12_depth_b110 (A2 b) b (wI M) k) hs q3 hC q2 h4 (by omega) hi (by omega)
      rw [X12_depth_b110.eq_2, hdis]
      simp only [q_leF hi (show M < 2147483648 by omega), ↓reduceIte]
      by_cases hd0 : q_ds s C i (deep + 1) % 2 = 0
      · rw [if_pos hd0] at hih ⊢
        obtain ⟨d', v1, v2⟩ := hih d q1 q2 q3
        refine ⟨d', ?_, v2⟩
        unfold X12_depth_b301
        rw [q_n1]
        exact v1
      · rw [if_neg hd0] at hih ⊢
        rw [M_dCopy]
        have hk3 : q_k2 b (q_irow d (b + 44) 0 260 (d.1 (b + 42))) C B := fun j hj => by
          rw [q_irow_o (by omega), q_irow_o (by omega)]
          exact q3 j hj
        obtain ⟨d1, r1, r2, r3, r4⟩ := M_dMix (nn := i) (deep := deep) (w := wI M) (X12_depth_b110 (A2 b) b (wI M) k) hk3 hC hB (show gap ≤ 260 by omega) h4 (by omega)
        have f1 : q_f4 b d d1 := ⟨fun x hx => (r3 x (by omega)).trans (q_irow_o (by omega)), r4⟩
        have hr1 : ∀ j, j < M → d1.1 (b + 41) j = wI (s j) := fun j hj => by
          rw [r3 (b + 41) (by omega), q_irow_o (by omega)]
          exact q2 j hj
        rw [r1]
        by_cases hg : i < 2 * deep
        · rw [if_pos hg] at hih ⊢
          obtain ⟨d', v1, v2⟩ := hih d1 (q_f4_t q1 f1) hr1 r2
          refine ⟨d', ?_, v2⟩
          unfold X12_depth_b301
          rw [q_n1]
          exact v1
        · rw [if_neg hg] at hih ⊢
          rw [M_dUp]
          obtain ⟨d', v1, v2⟩ := hih (q_irow d1 (b + 43) 0 260 (d1.1 (b + 44))) (q_f4_t (q_f4_t q1 f1) ⟨fun x hx => q_irow_o (by omega), rfl⟩) (fun j hj => by
            rw [q_irow_o (by omega)]
            exact hr1 j hj) (fun j hj => by
            have k1 := q_irow_i (dt := d1) (arr := b + 43) (off := 0) (n := 260) (j := j) (f := d1.1 (b + 44)) hj
            have k2 := q_irow_i (dt := d) (arr := b + 44) (off := 0) (n := 260) (j := j) (f := d.1 (b + 42)) hj
            rw [Nat.zero_add] at k1 k2
            rw [q_irow_o (show b + 42 ≠ b + 43 by omega), k1, r3 (b + 44) (by omega), k2]
            exact ⟨(r2 j hj).1, (q3 j hj).1⟩)
          refine ⟨d', ?_, v2⟩
          unfold X12_depth_b301
          rw [q_n1]
          exact v1
  exact hl
theorem R_depth : q_c_depth q_Rel := by
  intro k b1 b2 dt1 dt2 a0 hk hR
  obtain ⟨x, rfl, hx1, hx2⟩ := q_arg a0
  have hR' := hR
  obtain ⟨T, tt, sd, g, hT, hM, ho, -⟩ := hR'
  have hN := hT.1.1
  have n10 : ¬ (1 : Int32) = 0 := by decide
  have e2 := M_isCode hM hx1 hx2
  show ∃ r d1 d2, X11_depth (A1 b1) dt1 b1 (wI x) = some (r, d1) ∧ X12_depth (A2 b2) dt2 b2 (wI x) = some (r, d2) ∧ _
  by_cases hc : 0 ≤ x ∧ x < Tnc T
  · rw [if_pos hc] at e2
    obtain ⟨c, rfl⟩ := Int.eq_ofNat_of_zero_le hc.1
    have hcn : c < Tnc T := by omega
    have hL := (hT.1.2.1 c hcn).1
    obtain ⟨d1, p1, p2⟩ := T_depthOf hT hcn
    obtain ⟨d2, r1, r2, r3⟩ := M_dRow hM hcn
    obtain ⟨d3, s1, s2, s3, s4⟩ := M_dInit (b := b2) (dt := d2) (w := wI (2 * Tlen T c : Nat))
    obtain ⟨d4, v1, v2⟩ := M_depthL (q_dbt_b (Tch T c) (Tlen T c)) (q_dbt_p (Tch T c) (Tlen T c)) hL rfl (2 * Tlen T c) 0 q_FU (by omega) (by unfold q_FU; omega) d3 q_f4_r (fun j hj => by
      rw [s3]
      exact r3 j hj) s4
    refine ⟨wI (q_bm (q_dbt (Tch T c) (Tlen T c)) (2 * Tlen T c)).2.1, d1, d4, ?_, ?_, R_keep hR p2 (q_f4_e2 (q_f4_t (q_f4_t r2 s2) v2))⟩
    · unfold X11_depth
      rw [ho.1, o1s, m1s, T_codeAt hT hcn, b1s, m1s, s0_3, p1, b2s]
    · have e3 : 2 * wI (Tlen T c) = wI (2 * Tlen T c : Nat) := by
        rw [show (2 : Int32) = wI (2 : Nat) from rfl, wI_mul]
        rfl
      unfold X12_depth
      rw [e2, b1s, if_neg n10, M_long hM hcn, b1s, e3, r1, s1]
      exact v1
  · rw [if_neg hc] at e2
    refine ⟨-1, dt1, dt2, ?_, ?_, R_up hR⟩
    · unfold X11_depth
      rw [ho.1, o1s, m1s, T_codeNo hT hx1 hx2 hc, b1s, m1n]
    · unfold X12_depth
      rw [e2, b1s, if_pos rfl]
