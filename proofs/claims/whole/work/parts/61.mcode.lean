/-! level two: codes, the check -/
theorem M_alike {b sd : Nat} {dt : q_Dt} {T : q_Tl} (h : q_M b sd dt T) {c o s : Nat} (hc : c < Tnc T) (ho : o < Tnc T) (hl0 : Tlen T c = Tlen T o) (hs : s < Tlen T c) : X12_alikeAt (A2 b) dt b (wI c) (wI o) (wI s) = some (wI (q_alk (Tlen T c) (Tch T c) (Tch T o) s)) := by
  have hL := (h.1.2.1 c hc).1
  have hN := h.1.1.1
  have hl : ∀ n i k, i + n = Tlen T c → n < k → X12_alikeAt_b13 (A2 b) dt b (wI c) (wI o) (wI s) (wI (Tlen T c)) k (wI (q_sum (fun i => Tch T c i * Tch T o ((i + s) % Tlen T c)) i)) (wI i) = some (wI (q_alk (Tlen T c) (Tch T c) (Tch T o) s)) := by
    intro n
    induction n with
    | zero =>
      intro i k h1 h2 
      obtain ⟨k, rfl⟩ : ∃ m, k = m + 1 := ⟨k - 1, by omega⟩
      have e : i = Tlen T c := by omega
      simp (disch := omega) only [X12_alikeAt_b13, wI_le]
      rw [if_pos (by omega), e]
      rfl
    | succ n ih =>
      intro i k h1 h2 
      obtain ⟨k, rfl⟩ : ∃ m, k = m + 1 := ⟨k - 1, by omega⟩
      have hi : i < Tlen T c := by omega
      have hih := ih (i + 1) k (by omega) (by omega)
      rw [q_sum_s] at hih
      have hj := Nat.mod_lt (i + s) (show 0 < Tlen T c by omega)
      simp (disch := omega) only [X12_alikeAt_b13, wI_le, M_chip h hc hi, q_b1, wI_lit, wI_eq, wI_add, ← Int.natCast_add, wI_mod, ← Int.natCast_emod, M_chip h ho (show (i + s) % Tlen T c < Tlen T o by omega), wI_mul]
      rw [if_neg (by omega), if_neg (by omega)]
      exact hih
  simp only [X12_alikeAt, M_long h hc, q_b1]
  exact hl (Tlen T c) 0 q_FU (by omega) (by unfold q_FU; omega)
theorem M_round {b sd : Nat} {dt : q_Dt} {T : q_Tl} (h : q_M b sd dt T) {c : Nat} (hc : c < Tnc T) : X12_roundOf (A2 b) dt b (wI c) = some (wI (q_find (fun s => q_alk (Tlen T c) (Tch T c) (Tch T c) s = Tlen T c) (Tlen T c - 1) 1 : Nat)) := by
  have hC := h.1.2.1 c hc
  have hL := hC.1
  have hl : ∀ n i k, i + n = Tlen T c → n < k → X12_roundOf_b2 (A2 b) dt b (wI c) k (wI i) = some (wI (q_find (fun s => q_alk (Tlen T c) (Tch T c) (Tch T c) s = Tlen T c) n i : Nat)) := by
    intro n
    induction n with
    | zero =>
      intro i k h1 h2 
      obtain ⟨k, rfl⟩ : ∃ m, k = m + 1 := ⟨k - 1, by omega⟩
      have e : i = Tlen T c := by omega
      simp (disch := omega) only [X12_roundOf_b2, M_long h hc, q_b1, wI_le]
      rw [if_pos (by omega), ← e]
      rfl
    | succ n ih =>
      intro i k h1 h2 
      obtain ⟨k, rfl⟩ : ∃ m, k = m + 1 := ⟨k - 1, by omega⟩
      have hi : i < Tlen T c := by omega
      have hih := ih (i + 1) k (by omega) (by omega)
      have hb := q_alk_b (s := i) hL hC.2 hC.2
      simp (disch := omega) only [X12_roundOf_b2, M_long h hc, wI_le, M_alike h hc hc rfl hi, q_b1, wI_eq, wI_lit, wI_add]
      rw [if_neg (by omega)]
      show _ = some (wI ((if q_alk (Tlen T c) (Tch T c) (Tch T c) i = Tlen T c then i else q_find (fun s => q_alk (Tlen T c) (Tch T c) (Tch T c) s = Tlen T c) n (i + 1) : Nat) : Int))
      by_cases hw : q_alk (Tlen T c) (Tch T c) (Tch T c) i = Tlen T c
      · rw [if_pos hw, if_pos hw]
      · rw [if_neg hw, if_neg hw]
        exact hih
  exact hl (Tlen T c - 1) 1 q_FU (by omega) (by unfold q_FU; omega)
theorem M_worst {b sd : Nat} {dt : q_Dt} {T : q_Tl} (h : q_M b sd dt T) {c o : Nat} (hc : c < Tnc T) (ho : o < Tnc T) (hl0 : Tlen T c = Tlen T o) : X12_worstOf (A2 b) dt b (wI c) (wI o) = some (wI (q_wrst (Tlen T c) (Tch T c) (Tch T o) (if c = o then 1 else 0))) := by
  have hC := h.1.2.1 c hc
  have hO := h.1.2.1 o ho
  rw [← hl0] at hO
  have hL := hC.1
  have hN := h.1.1.1
  have hst : (if c = o then 1 else 0) ≤ 1 := by
    by_cases hw : c = o
    · rw [if_pos hw]; omega
    · rw [if_neg hw]; omega
  have hS : ∀ st : Nat, st ≤ 1 → X12_worstOf_b14 (A2 b) dt b (wI c) (wI o) q_FU (wI 0) (wI st) = some (wI (q_wrst (Tlen T c) (Tch T c) (Tch T o) st)) := by
    intro st hs
    have hbF : ∀ i : Nat, (fun s : Nat => if s < st then 0 else q_mag (q_alk (Tlen T c) (Tch T c) (Tch T o) s)) i ≤ 127 := by
      intro i
      have hb := q_alk_b (s := i) hL hC.2 hO.2
      show (if i < st then 0 else q_mag (q_alk (Tlen T c) (Tch T c) (Tch T o) i)) ≤ 127
      unfold q_mag
      by_cases h1 : i < st
      · rw [if_pos h1]; omega
      · rw [if_neg h1]
        by_cases h2 : q_alk (Tlen T c) (Tch T c) (Tch T o) i < 0
        · rw [if_pos h2]; omega
        · rw [if_neg h2]; omega
    have hl : ∀ n i k, i + n = Tlen T c → n < k → (st ≤ i) → X12_worstOf_b14 (A2 b) dt b (wI c) (wI o) k (wI (q_top (fun s => if s < st then 0 else q_mag (q_alk (Tlen T c) (Tch T c) (Tch T o) s)) i)) (wI i) = some (wI (q_wrst (Tlen T c) (Tch T c) (Tch T o) st)) := by
      intro n
      induction n with
      | zero =>
        intro i k h1 h2 g1
        obtain ⟨k, rfl⟩ : ∃ m, k = m + 1 := ⟨k - 1, by omega⟩
        have e : i = Tlen T c := by omega
        simp (disch := omega) only [X12_worstOf_b14, M_long h hc, q_b1, wI_le]
        rw [if_pos (by omega), e]
        rfl
      | succ n ih =>
        intro i k h1 h2 g1
        obtain ⟨k, rfl⟩ : ∃ m, k = m + 1 := ⟨k - 1, by omega⟩
        have hi : i < Tlen T c := by omega
        have hih := ih (i + 1) k (by omega) (by omega) (by omega)
        rw [q_top_s, if_neg (show ¬ i < st by omega)] at hih
        have hb := q_alk_b (s := i) hL hC.2 hO.2
        have hb2 := q_top_b (by omega) i (fun j _ => hbF j)
        have hb3 := hbF i
        simp only [if_neg (show ¬ i < st by omega)] at hb3
        unfold q_mag at hb3
        simp (disch := omega) only [X12_worstOf_b14, M_long h hc, q_b1, wI_le, M_alike h hc ho hl0 hi, wI_lit, wI_neg, wI_add]
        rw [if_neg (by omega)]
        by_cases hw : q_alk (Tlen T c) (Tch T c) (Tch T o) i < 0
        · rw [show q_mag (q_alk (Tlen T c) (Tch T c) (Tch T o) i) = - q_alk (Tlen T c) (Tch T c) (Tch T o) i from if_pos hw] at hih
          rw [if_neg (by omega)]
          simp (disch := omega) only [X12_worstOf_b44, X12_worstOf_b53, wI_le, wI_lit, wI_add]
          by_cases hw2 : q_top (fun s => if s < st then 0 else q_mag (q_alk (Tlen T c) (Tch T c) (Tch T o) s)) i < - q_alk (Tlen T c) (Tch T c) (Tch T o) i
          · rw [if_neg (by omega)]
            rw [if_pos hw2] at hih
            exact hih
          · rw [if_pos (by omega)]
            rw [if_neg hw2] at hih
            exact hih
        · rw [show q_mag (q_alk (Tlen T c) (Tch T c) (Tch T o) i) = q_alk (Tlen T c) (Tch T c) (Tch T o) i from if_neg hw] at hih
          rw [if_pos (by omega)]
          simp (disch := omega) only [X12_worstOf_b44, X12_worstOf_b53, wI_le, wI_lit, wI_add]
          by_cases hw2 : q_top (fun s => if s < st then 0 else q_mag (q_alk (Tlen T c) (Tch T c) (Tch T o) s)) i < q_alk (Tlen T c) (Tch T c) (Tch T o) i
          · rw [if_neg (by omega)]
            rw [if_pos hw2] at hih
            exact hih
          · rw [if_pos (by omega)]
            rw [if_neg hw2] at hih
            exact hih
    have h0 : q_top (fun s => if s < st then 0 else q_mag (q_alk (Tlen T c) (Tch T c) (Tch T o) s)) st = 0 := by
      rcases (show st = 0 ∨ st = 1 by omega) with rfl | rfl
      · rfl
      · rfl
    have h1 := hl (Tlen T c - st) st q_FU (by omega) (by unfold q_FU; omega) (by omega)
    rw [h0] at h1
    exact h1
  have h2 := hS _ hst
  simp (disch := omega) only [X12_worstOf, wI_eq, X12_worstOf_b12]
  by_cases hw : c = o
  · rw [if_pos hw] at h2 ⊢
    rw [if_pos (by omega)]
    exact h2
  · rw [if_neg hw] at h2 ⊢
    rw [if_neg (by omega)]
    exact h2
theorem M_timesL {b sd : Nat} {dt : q_Dt} {T : q_Tl} (h : q_M b sd dt T) {c o : Nat} (hc : c < Tnc T) (ho : o < Tnc T) (hl0 : Tlen T c = Tlen T o) {v : Int} (hv1 : -2147483648 ≤ v) (hv2 : v < 2147483648) : X12_times_b17 (A2 b) dt b (wI c) (wI o) (wI v) q_FU 0 0 = some (wI (q_sum (fun s => if q_alk (Tlen T c) (Tch T c) (Tch T o) s = v then 1 else 0) (Tlen T c))) := by
  have hC := h.1.2.1 c hc
  have hO := h.1.2.1 o ho
  rw [← hl0] at hO
  have hL := hC.1
  have hl : ∀ n i k, i + n = Tlen T c → n < k → X12_times_b17 (A2 b) dt b (wI c) (wI o) (wI v) k (wI (q_sum (fun s => if q_alk (Tlen T c) (Tch T c) (Tch T o) s = v then 1 else 0) i)) (wI i) = some (wI (q_sum (fun s => if q_alk (Tlen T c) (Tch T c) (Tch T o) s = v then 1 else 0) (Tlen T c))) := by
    intro n
    induction n with
    | zero =>
      intro i k h1 h2 
      obtain ⟨k, rfl⟩ : ∃ m, k = m + 1 := ⟨k - 1, by omega⟩
      have e : i = Tlen T c := by omega
      simp (disch := omega) only [X12_times_b17, M_long h hc, q_b1, wI_le]
      rw [if_pos (by omega), e]
    | succ n ih =>
      intro i k h1 h2 
      obtain ⟨k, rfl⟩ : ∃ m, k = m + 1 := ⟨k - 1, by omega⟩
      have hi : i < Tlen T c := by omega
      have hih := ih (i + 1) k (by omega) (by omega)
      rw [q_sum_s] at hih
      have hb := q_alk_b (s := i) hL hC.2 hO.2
      simp (disch := omega) only [X12_times_b17, M_long h hc, q_b1, wI_le, M_alike h hc ho hl0 hi, wI_lit, wI_add, wI_eq, X12_times_b42]
      rw [if_neg (by omega)]
      by_cases hw : q_alk (Tlen T c) (Tch T c) (Tch T o) i = v
      · rw [if_pos hw]
        rw [if_pos hw] at hih
        exact hih
      · rw [if_neg hw]
        rw [if_neg hw, Int.add_zero] at hih
        exact hih
  exact hl (Tlen T c) 0 q_FU (by omega) (by unfold q_FU; omega)
theorem M_code1 {b sd : Nat} {dt : q_Dt} {T : q_Tl} (h : q_M b sd dt T) {c : Nat} (hc : c < Tnc T) : X12_code_b48 (A2 b) dt b (wI c) (wI 1) (wI (Tlen T c)) q_FU 0 0 = some (wI (q_sum (fun i => if Tch T c i < 0 then 1 else 0) (Tlen T c))) := by
  have hC := h.1.2.1 c hc
  have hL := hC.1
  have hl : ∀ n i k, i + n = Tlen T c → n < k → X12_code_b48 (A2 b) dt b (wI c) (wI 1) (wI (Tlen T c)) k (wI (q_sum (fun i => if Tch T c i < 0 then 1 else 0) i)) (wI i) = some (wI (q_sum (fun i => if Tch T c i < 0 then 1 else 0) (Tlen T c))) := by
    intro n
    induction n with
    | zero =>
      intro i k h1 h2 
      obtain ⟨k, rfl⟩ : ∃ m, k = m + 1 := ⟨k - 1, by omega⟩
      have e : i = Tlen T c := by omega
      simp (disch := omega) only [X12_code_b48, wI_le]
      rw [if_pos (by omega), e]
    | succ n ih =>
      intro i k h1 h2 
      obtain ⟨k, rfl⟩ : ∃ m, k = m + 1 := ⟨k - 1, by omega⟩
      have hi : i < Tlen T c := by omega
      have hih := ih (i + 1) k (by omega) (by omega)
      rw [q_sum_s] at hih
      have hb := hC.2 i hi
      simp (disch := omega) only [X12_code_b48, wI_le, M_chip h hc hi, q_b1, wI_lit, wI_add, wI_eq, X12_code_b96, X12_code_b93]
      rw [if_neg (by omega), if_pos (by omega)]
      by_cases hw : Tch T c i < 0
      · rw [if_neg (by omega)]
        rw [if_pos hw] at hih
        exact hih
      · rw [if_pos (by omega)]
        rw [if_neg hw, Int.add_zero] at hih
        exact hih
  exact hl (Tlen T c) 0 q_FU (by omega) (by unfold q_FU; omega)
theorem M_code3 {b sd : Nat} {dt : q_Dt} {T : q_Tl} (h : q_M b sd dt T) {c : Nat} (hc : c < Tnc T) : X12_code_b48 (A2 b) dt b (wI c) (wI 3) (wI (Tlen T c)) q_FU 0 0 = some (wI (q_sum (fun i => if Tch T c i = Tch T c ((i + 1) % Tlen T c) then 0 else 1) (Tlen T c))) := by
  have hC := h.1.2.1 c hc
  have hL := hC.1
  have hl : ∀ n i k, i + n = Tlen T c → n < k → X12_code_b48 (A2 b) dt b (wI c) (wI 3) (wI (Tlen T c)) k (wI (q_sum (fun i => if Tch T c i = Tch T c ((i + 1) % Tlen T c) then 0 else 1) i)) (wI i) = some (wI (q_sum (fun i => if Tch T c i = Tch T c ((i + 1) % Tlen T c) then 0 else 1) (Tlen T c))) := by
    intro n
    induction n with
    | zero =>
      intro i k h1 h2 
      obtain ⟨k, rfl⟩ : ∃ m, k = m + 1 := ⟨k - 1, by omega⟩
      have e : i = Tlen T c := by omega
      simp (disch := omega) only [X12_code_b48, wI_le]
      rw [if_pos (by omega), e]
    | succ n ih =>
      intro i k h1 h2 
      obtain ⟨k, rfl⟩ : ∃ m, k = m + 1 := ⟨k - 1, by omega⟩
      have hi : i < Tlen T c := by omega
      have hih := ih (i + 1) k (by omega) (by omega)
      rw [q_sum_s] at hih
      have hj := Nat.mod_lt (i + 1) (show 0 < Tlen T c by omega)
      have hb := hC.2 i hi
      have hb2 := hC.2 _ hj
      simp (disch := omega) only [X12_code_b48, wI_le, M_chip h hc hi, q_b1, wI_lit, wI_add, ← Int.natCast_add, wI_mod, ← Int.natCast_emod, M_chip h hc hj, wI_eq, X12_code_b96, X12_code_b93]
      rw [if_neg (by omega), if_neg (by omega), if_neg (by omega)]
      by_cases hw : Tch T c i = Tch T c ((i + 1) % Tlen T c)
      · rw [if_pos hw]
        rw [if_pos hw, Int.add_zero] at hih
        exact hih
      · rw [if_neg hw]
        rw [if_neg hw] at hih
        exact hih
  exact hl (Tlen T c) 0 q_FU (by omega) (by unfold q_FU; omega)
