/-! level two: a text cut, the check -/
def qk_mx (b L : Nat) (B : Nat → Int) (dt : q_Dt) : Prop := L ≤ 2000 ∧ dt.1 b 4 = wI L ∧ (∀ i, i < L → (0 ≤ B i ∧ B i ≤ 255) ∧ dt.1 (b + 2) i = wI (q_sgb (B i))) ∧ ∀ i, i < 11 → dt.2.1 (b + 7) i = wJ (q_key i)
def qk_by (B : Nat → Int) (L i : Nat) : Int := if i < L then B i else 0
theorem qk_sgb {z : Int} (h : 0 ≤ z ∧ z ≤ 255) : wI (q_sgb z) &&& 255 = wI z := by
  have e : ∀ n : Nat, n < 256 → wI (q_sgb (n : Int)) &&& 255 = wI (n : Int) := by decide +kernel
  obtain ⟨n, rfl⟩ := Int.eq_ofNat_of_zero_le h.1
  exact e n (by omega)
theorem qk_by_b {B : Nat → Int} {L : Nat} (h : ∀ i, i < L → 0 ≤ B i ∧ B i ≤ 255) (i : Nat) : 0 ≤ qk_by B L i ∧ qk_by B L i ≤ 255 := by
  unfold qk_by
  by_cases g : i < L
  · rw [if_pos g]; exact h i g
  · rw [if_neg g]; omega
theorem k_byte {b L i : Nat} {B : Nat → Int} {dt : q_Dt} (h : qk_mx b L B dt) (hi : i < 1000000) : X12_byteAt (A2 b) dt b (wI i) = some (wI (qk_by B L i)) := by
  have hL := h.1
  unfold X12_byteAt qk_by
  rw [m3, n3, h.2.1]
  simp (disch := omega) only [wI_lit, wI_le, wI_lt, wI_nat, Int.toNat_natCast]
  by_cases g : i < L
  · have h2 := h.2.2.1 i g
    have h3 := qk_sgb h2.1
    rw [if_neg (by omega), if_neg (by omega), if_pos g, h2.2, ← h3]
    rfl
  · rw [if_pos (by omega), if_neg g]
    rfl
theorem k_let {c : Int} (h : 0 ≤ c ∧ c ≤ 255) : X12_isLetter (wI c) = some (if qk_cl c = 1 then 1 else 0) := c_let h
theorem k_dig {c : Int} (h : 0 ≤ c ∧ c ≤ 255) : X12_isDigit (wI c) = some (if qk_cl c = 2 then 1 else 0) := c_dig h
theorem qk_bl_f (B : Nat → Int) (L : Nat) : ∀ n i m, L - i ≤ n → L - i ≤ m → qk_bl B L n i = qk_bl B L m i := by
  intro n
  induction n with
  | zero =>
    intro i m h1 h2
    cases m with
    | zero => rfl
    | succ m =>
      have e : qk_bl B L (m + 1) i = i := if_neg (fun q => absurd q.1 (by omega))
      rw [e]
      rfl
  | succ n ih =>
    intro i m h1 h2
    cases m with
    | zero =>
      have e : qk_bl B L (n + 1) i = i := if_neg (fun q => absurd q.1 (by omega))
      rw [e]
      rfl
    | succ m =>
      show (if i < L ∧ (B i = 9 ∨ B i = 10 ∨ B i = 13 ∨ B i = 32) then qk_bl B L n (i + 1) else i) = (if i < L ∧ (B i = 9 ∨ B i = 10 ∨ B i = 13 ∨ B i = 32) then qk_bl B L m (i + 1) else i)
      by_cases h : i < L ∧ (B i = 9 ∨ B i = 10 ∨ B i = 13 ∨ B i = 32)
      · rw [if_pos h, if_pos h]
        exact ih (i + 1) m (by omega) (by omega)
      · rw [if_neg h, if_neg h]
/-- a kind as the check has it -/
def qk_mk (k : Nat) (v : Int) : Int := if k = 6 then 20 + v else if k = 1 then 3 else if k = 2 then 1 else if k = 3 then 2 else k
def qk_tk (b : Nat) (d : q_Dt) (m : Nat) (kd pl vl : Int32) (nm : Int64) : q_Dt := q_pI (q_pJ (q_pI (q_pI (q_pI d (b + 3) m kd) (b + 4) m pl) (b + 5) m vl) (b + 6) m nm) b 10 (wI (m + 1 : Nat))
theorem k_token {b m : Nat} {d : q_Dt} {kd pl vl : Int32} {nm : Int64} (hm : d.1 b 10 = wI m) (hm2 : m ≤ 400) : X12_token (A2 b) d b kd pl vl nm = some (qk_tk b d m kd pl vl nm) := by
  have ei : wI m + 1 = wI (m + 1 : Nat) := wI_add m 1
  have q1 : ∀ (d : q_Dt) (v : Int32) (a k : Nat), b ≠ a → (q_pI d a k v).1 b 10 = d.1 b 10 := fun d v a k ha => congrFun (q_pI_o ha) 10
  unfold X12_token qk_tk
  rw [m5, n5, m6, n6, m7, n7, m8, n8]
  simp only [o1s, q_pJ_1, q1 _ _ _ _ (show b ≠ b + 3 by omega), q1 _ _ _ _ (show b ≠ b + 4 by omega), q1 _ _ _ _ (show b ≠ b + 5 by omega), hm]
  simp (disch := omega) only [wI_lit, wI_lt, wI_nat, Int.toNat_natCast]
  rw [if_neg (by omega), if_neg (by omega), if_neg (by omega), if_neg (by omega), ← ei]
  rfl
def qk_CM (b : Nat) (K P : Nat → Nat) (V : Nat → Int) (N : Nat) (dt : q_Dt) : Prop := ∀ j, j < N → dt.1 (b + 3) j = wI (qk_mk (K j) (V j)) ∧ dt.1 (b + 4) j = wI (P j) ∧ (K j = 3 → dt.1 (b + 5) j = wI (V j)) ∧ (K j = 2 → dt.2.1 (b + 6) j = wJ (V j))
def qk_fm (b : Nat) (dt d : q_Dt) : Prop := (∀ x, x ≠ b → x ≠ b + 3 → x ≠ b + 4 → x ≠ b + 5 → d.1 x = dt.1 x) ∧ (∀ j, j ≠ 10 → d.1 b j = dt.1 b j) ∧ (∀ x, x ≠ b + 6 → d.2.1 x = dt.2.1 x) ∧ d.2.2 = dt.2.2
theorem qk_fm_r {b : Nat} {dt : q_Dt} : qk_fm b dt dt := ⟨fun _ _ _ _ _ => rfl, fun _ _ => rfl, fun _ _ => rfl, rfl⟩
theorem qk_fm_t {b : Nat} {dt d e : q_Dt} (h : qk_fm b dt d) (h' : qk_fm b d e) : qk_fm b dt e := ⟨fun x h1 h2 h3 h4 => (h'.1 x h1 h2 h3 h4).trans (h.1 x h1 h2 h3 h4), fun j hj => (h'.2.1 j hj).trans (h.2.1 j hj), fun x hx => (h'.2.2.1 x hx).trans (h.2.2.1 x hx), h'.2.2.2.trans h.2.2.2⟩
theorem qk_fm_k {b m : Nat} {d : q_Dt} {kd pl vl : Int32} {nm : Int64} : qk_fm b d (qk_tk b d m kd pl vl nm) := by
  unfold qk_tk
  refine ⟨fun x h1 h2 h3 h4 => ?_, fun j hj => ?_, fun x hx => ?_, rfl⟩
  · rw [q_pI_o h1, q_pJ_1, q_pI_o h4, q_pI_o h3, q_pI_o h2]
  · rw [q_pI_k hj, q_pJ_1, q_pI_o (by omega), q_pI_o (by omega), q_pI_o (by omega)]
  · rw [q_pI_2, q_pJ_o hx]; rfl
theorem qk_mx_f {b L : Nat} {B : Nat → Int} {dt d : q_Dt} (h : qk_mx b L B dt) (hf : qk_fm b dt d) : qk_mx b L B d := by
  refine ⟨h.1, by rw [hf.2.1 4 (by omega)]; exact h.2.1, fun i hi => ?_, fun i hi => ?_⟩
  · rw [hf.1 (b + 2) (by omega) (by omega) (by omega) (by omega)]; exact h.2.2.1 i hi
  · rw [hf.2.2.1 (b + 7) (by omega)]; exact h.2.2.2 i hi
theorem qk_CM_s {b m : Nat} {d : q_Dt} {K P : Nat → Nat} {V : Nat → Int} {kd pl vl : Int32} {nm : Int64} (h : qk_CM b K P V m d) (h1 : kd = wI (qk_mk (K m) (V m))) (h2 : pl = wI (P m)) (h3 : K m = 3 → vl = wI (V m)) (h4 : K m = 2 → nm = wJ (V m)) : qk_CM b K P V (m + 1) (qk_tk b d m kd pl vl nm) := by
  intro j hj
  unfold qk_tk
  rw [q_pI_o (show b + 3 ≠ b by omega), q_pI_o (show b + 4 ≠ b by omega), q_pI_o (show b + 5 ≠ b by omega), q_pJ_1, q_pI_2]
  by_cases g : j = m
  · rw [g, q_pI_o (show b + 3 ≠ b + 5 by omega), q_pI_o (show b + 3 ≠ b + 4 by omega), q_pI_s, q_pI_o (show b + 4 ≠ b + 5 by omega), q_pI_s, q_pI_s, q_pJ_s]
    exact ⟨h1, h2, h3, h4⟩
  · rw [q_pI_o (show b + 3 ≠ b + 5 by omega), q_pI_o (show b + 3 ≠ b + 4 by omega), q_pI_k g, q_pI_o (show b + 4 ≠ b + 5 by omega), q_pI_k g, q_pI_o (show b + 4 ≠ b + 3 by omega), q_pI_k g, q_pI_o (show b + 5 ≠ b + 4 by omega), q_pI_o (show b + 5 ≠ b + 3 by omega), q_pJ_k g]
    exact h j (by omega)
theorem qk_gv_lo {B : Nat → Int} {s : Nat} : ∀ n, (∀ j, j < n + 1 → qk_cl (B (s + j)) = 1) → ((27 ^ n : Nat) : Int) ≤ qk_gv B s (n + 1) := by
  intro n
  induction n with
  | zero =>
    intro h
    have h2 := h 0 (by omega)
    have h3 := (qk_cl_1 _).mp h2
    have e : qk_gv B s 1 = 27 * qk_gv B s 0 + (B (s + 0) - 96) := if_neg (fun q => absurd (h2.symm.trans q) (by omega))
    have e0 : qk_gv B s 0 = 0 := rfl
    rw [e, e0]
    show ((1 : Nat) : Int) ≤ _
    omega
  | succ n ih =>
    intro h
    have h1 := ih (fun j hj => h j (by omega))
    have h2 := h (n + 1) (by omega)
    have h3 := (qk_cl_1 _).mp h2
    have e : qk_gv B s (n + 1 + 1) = 27 * qk_gv B s (n + 1) + (B (s + (n + 1)) - 96) := if_neg (by omega)
    rw [e, Nat.pow_succ]
    omega
theorem k_keys {b s : Nat} {v : Int} {d : q_Dt} {x3 : Int32} {kk : Int32 → q_Dt → Option q_Dt} (h : ∀ i, i < 11 → d.2.1 (b + 7) i = wJ (q_key i)) (hv : 0 ≤ v ∧ v < 282429536481) : X12_cut_b146 (A2 b) kk b (wI s) x3 (wJ v) q_FU (wI (1 : Nat)) (wI (0 : Nat)) d = X12_cut_b179 (A2 b) kk b (wI s) x3 (wJ v) (if qk_wd v = 11 then wI (1 : Nat) else wI (20 + (qk_wd v : Int))) d := by
  have hl : ∀ n i k : Nat, i + n = 11 → n < k → ∀ x6, X12_cut_b146 (A2 b) kk b (wI s) x3 (wJ v) k x6 (wI i) d = X12_cut_b179 (A2 b) kk b (wI s) x3 (wJ v) (if qk_wf v n i = 11 then x6 else wI (20 + (qk_wf v n i : Int))) d := by
    intro n
    induction n with
    | zero =>
      intro i k z1 z2 
      obtain ⟨k, rfl⟩ : ∃ m, k = m + 1 := ⟨k - 1, by omega⟩
      have e : i = 11 := by omega
      intro x6
      have e2 : qk_wf v 0 i = 11 := e
      rw [X12_cut_b146.eq_2, e2, if_pos rfl]
      simp (disch := omega) only [wI_lit, wI_le]
      rw [if_pos (by omega)]
    | succ n ih =>
      intro i k z1 z2 
      obtain ⟨k, rfl⟩ : ∃ m, k = m + 1 := ⟨k - 1, by omega⟩
      have hi : i < 11 := by omega
      intro x6
      have hih := ih (i + 1) k (by omega) (by omega)
      have hk := qk_key_b hi
      have ei : wI i + 1 = wI (i + 1 : Nat) := wI_add i 1
      rw [X12_cut_b146.eq_2, m9, n9]
      unfold X12_cut_b173
      rw [ei, hih, hih]
      simp (disch := omega) only [wI_lit, wI_lt, wI_le, wI_nat, Int.toNat_natCast, h i hi, wJ_eq, wI_add]
      rw [if_neg (by omega), if_neg (by omega)]
      by_cases u : q_key i = v
      · have e1 : qk_wf v (n + 1) i = i := if_pos u
        have g := qk_wf_b v n (i + 1)
        have e3 : qk_wf v n (i + 1) = 11 := by
          by_cases g2 : qk_wf v n (i + 1) < i + 1 + n
          · have g3 := g.2.2.1 g2
            have g4 := qk_key_u hi (show qk_wf v n (i + 1) < 11 by omega) (u.trans g3.symm)
            omega
          · omega
        rw [if_pos u, e1, e3, if_pos rfl, if_neg (show ¬ i = 11 by omega)]
        rfl
      · have e1 : qk_wf v (n + 1) i = qk_wf v n (i + 1) := if_neg u
        rw [if_neg u, e1]
  exact hl 11 0 q_FU (by omega) (by unfold q_FU; omega) (wI (1 : Nat))
theorem qk_by_i {B : Nat → Int} {L i : Nat} (h : i < L) : qk_by B L i = B i := if_pos h
theorem qk_by_o {B : Nat → Int} {L i : Nat} (h : ¬ i < L) : qk_by B L i = 0 := if_neg h
theorem qk_end {B : Nat → Int} {L s q : Nat} (h : s < L) (hq : qk_cl (B s) = q) (hq0 : q ≠ 0) : qk_cl (qk_by B L (qk_en B L s)) ≠ q := by
  have hE := qk_en_b (B := B) h
  by_cases g : qk_en B L s < L
  · rw [qk_by_i g, ← hq]
    exact hE.2.2.2 (by omega) g
  · rw [qk_by_o g]
    have e : qk_cl 0 = 0 := rfl
    omega
theorem qk_m8 {i : Nat} (h : i < 8) : (if i + 1 < 8 then i + 1 else 8) = i + 1 := by
  by_cases g2 : i + 1 < 8
  · rw [if_pos g2]
  · rw [if_neg g2]; omega
theorem qk_m4 {i : Nat} (h : i < 4) : (if i + 1 < 4 then i + 1 else 4) = i + 1 := by
  by_cases g2 : i + 1 < 4
  · rw [if_pos g2]
  · rw [if_neg g2]; omega
theorem qk_z8 {z : Nat} (h : z ≤ 8) : (if z < 8 then z else 8) = z := by
  by_cases g2 : z < 8
  · rw [if_pos g2]
  · rw [if_neg g2]; omega
theorem qk_z4 {z : Nat} (h : z ≤ 4) : (if z < 4 then z else 4) = z := by
  by_cases g2 : z < 4
  · rw [if_pos g2]
  · rw [if_neg g2]; omega
theorem k_name {b L s m : Nat} {B : Nat → Int} {d : q_Dt} {kk : Int32 → q_Dt → Option q_Dt} (h : qk_mx b L B d) (hs : s < L) (hc : qk_cl (B s) = 1) (hm : d.1 b 10 = wI m) (hm2 : m ≤ 400) : ∃ (vl : Int32) (nm : Int64), X12_cut_b85 (A2 b) kk b (wI s) q_FU 0 0 d = kk (wI (qk_en B L s)) (qk_tk b d m (wI (qk_mk (qk_k B L s) (qk_v B L s))) (wI s) vl nm) ∧ (qk_k B L s = 2 → nm = wJ (qk_v B L s)) := by
  have hL := h.1
  have hE := qk_en_b (B := B) hs
  obtain ⟨z, hz⟩ : ∃ z, z = qk_en B L s - s := ⟨_, rfl⟩
  have hrun : ∀ j, j < z → qk_cl (B (s + j)) = 1 := fun j hj => (qk_run hs j (by omega)).trans hc
  have hby := qk_by_b (fun i hi => (h.2.2.1 i hi).1)
  have e179 : ∀ kd nm, X12_cut_b179 (A2 b) kk b (wI s) (wI z) nm kd d = kk (wI (qk_en B L s)) (qk_tk b d m kd (wI s) 0 nm) := by
    intro kd nm
    unfold X12_cut_b179 X12_cut_b291
    rw [k_token hm hm2]
    simp only [b1s]
    rw [wI_add, show (s : Int) + z = (qk_en B L s : Nat) by omega]
  have hmin : ∀ j, j < z → j < 8 → qk_gv B s (j + 1) = 27 * qk_gv B s j + (B (s + j) - 96) := fun j hj _ => if_neg (by have := hrun j hj; omega)
  have hl : ∀ n i k : Nat, i + n = z → n < k → X12_cut_b85 (A2 b) kk b (wI s) k (wI i) (wJ (qk_gv B s (if i < 8 then i else 8))) d = X12_cut_b135 (A2 b) kk b (wI s) (wI z) (wJ (qk_gv B s (if z < 8 then z else 8))) (if z ≤ 8 then wI (1 : Nat) else wI (3 : Nat)) d := by
    intro n
    induction n with
    | zero =>
      intro i k z1 z2 
      obtain ⟨k, rfl⟩ : ∃ m, k = m + 1 := ⟨k - 1, by omega⟩
      have e : i = z := by omega
      rw [X12_cut_b85.eq_2, wI_add, show (s : Int) + i = (qk_en B L s : Nat) by omega, k_byte h (by omega)]
      simp only [b1s]
      rw [k_let (hby _), if_neg (qk_end hs hc (by omega)), e]
      simp (disch := omega) only [b1s, wI_lit, wI_le]
      rw [if_pos trivial]
      by_cases g : z ≤ 8
      · rw [if_pos (by omega), if_pos g]
      · rw [if_neg (by omega), if_neg g]
    | succ n ih =>
      intro i k z1 z2 
      obtain ⟨k, rfl⟩ : ∃ m, k = m + 1 := ⟨k - 1, by omega⟩
      have hi : i < z := by omega
      have hih := ih (i + 1) k (by omega) (by omega)
      have hr := hrun i hi
      have hB := (h.2.2.1 (s + i) (by omega)).1
      have hB1 := (qk_cl_1 _).mp hr
      have ei : wI i + 1 = wI (i + 1 : Nat) := wI_add i 1
      rw [X12_cut_b85.eq_2, wI_add, ← Int.natCast_add, k_byte h (by omega), qk_by_i (by omega)]
      simp only [b1s]
      rw [k_let hB, if_pos hr]
      simp (disch := omega) only [b1s, X12_appends, X12_cut_b118, wI_lit, wI_le, wI_eq, wI_add, ← Int.natCast_add]
      rw [if_neg (by omega)]
      by_cases g : i < 8
      · have e1 := hmin i hi g
        rw [if_neg (by omega), if_neg (by omega)]
        simp (disch := omega) only [b1s, wI_sub, wI_add, wI_wJ, wJ_lit, wJ_mul, wJ_add, ← Int.natCast_add]
        rw [if_pos g] 
        rw [qk_m8 g, e1] at hih
        rw [← hih]
        congr 2
        omega
      · rw [if_neg g]
        rw [if_neg (show ¬ i + 1 < 8 by omega)] at hih
        rw [if_pos (by omega)]
        exact hih
  have h2 := hl z 0 q_FU (by omega) (by unfold q_FU; omega)
  refine ⟨0, wJ (qk_gv B s (if z < 8 then z else 8)), ?_, ?_⟩
  · refine Eq.trans h2 ?_
    unfold X12_cut_b135
    simp (disch := omega) only [wI_lit, wI_lt]
    have ek : qk_k B L s = (if 8 < z then 1 else if qk_wd (qk_gv B s z) = 11 then 2 else 6) := by
      unfold qk_k
      rw [if_neg (by omega), if_pos hc, hz]
    by_cases g : 8 < z
    · rw [if_pos g] at ek
      rw [if_pos (by omega), if_neg (show ¬ z ≤ 8 by omega), e179, ek]
      rfl
    · rw [if_neg g] at ek
      have g2 := qk_gv_8 hrun (show z ≤ 8 by omega)
      rw [qk_z8 (show z ≤ 8 by omega)]
      rw [if_pos (show z ≤ 8 by omega)]
      by_cases g4 : z = 8
      · have g5 : ((27 ^ 7 : Nat) : Int) ≤ qk_gv B s 8 := qk_gv_lo (B := B) (s := s) 7 (fun j hj => hrun j (by omega))
        have g6 : qk_wd (qk_gv B s z) = 11 := by
          have g7 := qk_wf_b (qk_gv B s z) 11 0
          by_cases g8 : qk_wf (qk_gv B s z) 11 0 < 11
          · have g9 := g7.2.2.1 (by omega)
            have g10 := (qk_key_b g8).2
            rw [g9, g4] at g10
            exfalso
            have : ((27 ^ 7 : Nat) : Int) = 10460353203 := by decide
            omega
          · show qk_wf (qk_gv B s z) 11 0 = 11
            omega
        rw [if_pos g6] at ek
        rw [if_pos (by omega), e179, ek]
        rfl
      · rw [if_neg (by omega), k_keys h.2.2.2 g2, e179, ek]
        by_cases g6 : qk_wd (qk_gv B s z) = 11
        · rw [if_pos g6, if_pos g6]; rfl
        · rw [if_neg g6, if_neg g6]
          rw [if_neg g6] at ek
          have ev : qk_v B L s = qk_wd (qk_gv B s z) := by
            unfold qk_v
            rw [if_pos ek, ← hz]
          rw [ev]
          rfl
  · intro h3
    have g1 := qk_k_6 (Or.inr h3)
    have ev : qk_v B L s = qk_gv B s z := by
      unfold qk_v
      rw [if_neg (by omega), ← hz]
    rw [ev, qk_z8 (show z ≤ 8 by omega)]
theorem k_int {b L s m : Nat} {B : Nat → Int} {d : q_Dt} {kk : Int32 → q_Dt → Option q_Dt} (h : qk_mx b L B d) (hs : s < L) (hc : qk_cl (B s) = 2) (hm : d.1 b 10 = wI m) (hm2 : m ≤ 400) : ∃ (vl : Int32) (nm : Int64), X12_cut_b208 (A2 b) kk b (wI s) q_FU 0 0 d = kk (wI (qk_en B L s)) (qk_tk b d m (wI (qk_mk (qk_k B L s) (qk_v B L s))) (wI s) vl nm) ∧ (qk_k B L s = 3 → vl = wI (qk_v B L s)) := by
  have hL := h.1
  have hE := qk_en_b (B := B) hs
  obtain ⟨z, hz⟩ : ∃ z, z = qk_en B L s - s := ⟨_, rfl⟩
  have hrun : ∀ j, j < z → qk_cl (B (s + j)) = 2 := fun j hj => (qk_run hs j (by omega)).trans hc
  have hby := qk_by_b (fun i hi => (h.2.2.1 i hi).1)
  have e261 : ∀ kd vl, X12_cut_b261 (A2 b) kk b (wI s) (wI z) vl b kd d = kk (wI (qk_en B L s)) (qk_tk b d m kd (wI s) vl 0) := by
    intro kd vl
    unfold X12_cut_b261 X12_cut_b291
    rw [k_token hm hm2]
    simp only [b1s]
    rw [wI_add, show (s : Int) + z = (qk_en B L s : Nat) by omega]
  have hmin : ∀ j, j < z → qk_gv B s (j + 1) = 10 * qk_gv B s j + (B (s + j) - 48) := fun j hj => if_pos (hrun j hj)
  have ek : qk_k B L s = (if 4 < z then 1 else 3) := by
    unfold qk_k
    rw [if_neg (by omega), if_neg (by omega), if_pos hc, hz]
  have hl : ∀ n i k : Nat, i + n = z → n < k → X12_cut_b208 (A2 b) kk b (wI s) k (wI i) (wI (qk_gv B s (if i < 4 then i else 4))) d = kk (wI (qk_en B L s)) (qk_tk b d m (wI (qk_mk (qk_k B L s) (qk_v B L s))) (wI s) (wI (qk_gv B s (if z < 4 then z else 4))) 0) := by
    intro n
    induction n with
    | zero =>
      intro i k z1 z2 
      obtain ⟨k, rfl⟩ : ∃ m, k = m + 1 := ⟨k - 1, by omega⟩
      have e : i = z := by omega
      rw [X12_cut_b208.eq_2, wI_add, show (s : Int) + i = (qk_en B L s : Nat) by omega, k_byte h (by omega)]
      simp only [b1s]
      rw [k_dig (hby _), if_neg (qk_end hs hc (by omega)), e]
      simp (disch := omega) only [b1s, wI_lit, wI_le]
      rw [if_pos trivial, e261, e261, ek]
      by_cases g : 4 < z
      · rw [if_neg (by omega), if_pos g]; rfl
      · rw [if_pos (by omega), if_neg g]; rfl
    | succ n ih =>
      intro i k z1 z2 
      obtain ⟨k, rfl⟩ : ∃ m, k = m + 1 := ⟨k - 1, by omega⟩
      have hi : i < z := by omega
      have hih := ih (i + 1) k (by omega) (by omega)
      have hr := hrun i hi
      have hB := (h.2.2.1 (s + i) (by omega)).1
      have ei : wI i + 1 = wI (i + 1 : Nat) := wI_add i 1
      rw [X12_cut_b208.eq_2, wI_add, ← Int.natCast_add, k_byte h (by omega), qk_by_i (by omega)]
      simp only [b1s]
      rw [k_dig hB, if_pos hr]
      simp (disch := omega) only [b1s, X12_cut_b244, wI_lit, wI_le, wI_eq, wI_mul, wI_add, wI_sub, ← Int.natCast_add]
      rw [if_neg (by omega)]
      by_cases g : i < 4
      · have e1 := hmin i hi
        rw [if_neg (by omega)]
        rw [if_pos g] 
        rw [qk_m4 g, e1] at hih
        rw [← hih]
        congr 2
        omega
      · rw [if_neg g]
        rw [if_neg (show ¬ i + 1 < 4 by omega)] at hih
        rw [if_pos (by omega)]
        exact hih
  refine ⟨_, 0, hl z 0 q_FU (by omega) (by unfold q_FU; omega), fun h3 => ?_⟩
  have g1 := qk_k_3 h3
  have ev : qk_v B L s = qk_gv B s z := by
    unfold qk_v
    rw [if_neg (by omega), ← hz]
  rw [ev, qk_z4 (show z ≤ 4 by omega)]
theorem k_cut {b L : Nat} {B : Nat → Int} {dt : q_Dt} (h : qk_mx b L B dt) : ∃ d, X12_cut (A2 b) dt b = some d ∧ qk_CM b (fun n => qk_k B L (qk_st B L n)) (qk_st B L) (fun n => qk_v B L (qk_st B L n)) (qk_N (fun n => qk_k B L (qk_st B L n)) 400 0 + 1) d ∧ qk_fm b dt d := by
  have hN := qk_tok_i B h.1
  have hL := h.1
  obtain ⟨N, hNe⟩ : ∃ N, N = qk_N (fun n => qk_k B L (qk_st B L n)) 400 0 := ⟨_, rfl⟩
  rw [← hNe] at hN ⊢
  have hby := qk_by_b (fun i hi => (h.2.2.1 i hi).1)
  have hend : ∀ k m d, m ≤ 401 → qk_st B L m = L → d.1 b 10 = wI m → qk_CM b (fun n => qk_k B L (qk_st B L n)) (qk_st B L) (fun n => qk_v B L (qk_st B L n)) m d → qk_fm b dt d → ∃ d', X12_cut_b7 (A2 b) b (k + 1) (wI L) d = some d' ∧ qk_CM b (fun n => qk_k B L (qk_st B L n)) (qk_st B L) (fun n => qk_v B L (qk_st B L n)) (N + 1) d' ∧ qk_fm b dt d' := by
    intro k m d h4 es h6 h7 h8
    have hd := qk_mx_f h h8
    have e4 : ((400 : Int32) < wI (m : Int)) = (((400 : Nat) : Int) < m) := wI_lt (a := ((400 : Nat) : Int)) (by omega) (by omega) (by omega) (by omega)
    have e5 : (wI (L : Int) < wI (L : Int)) = ((L : Int) < L) := wI_lt (by omega) (by omega) (by omega) (by omega)
    rw [X12_cut_b7.eq_2, h6, k_byte hd (by omega), hd.2.1]
    simp only [b1s, e4, e5]
    by_cases g : m = 401
    · rw [if_pos (by omega)]
      exact ⟨d, rfl, fun j hj => h7 j (by have := hN.1; omega), h8⟩
    · rw [if_neg (by omega), if_neg (by omega)]
      have ek : qk_k B L (qk_st B L m) = 0 := by
        unfold qk_k
        rw [if_pos (by omega)]
      have hNm : N ≤ m := by
        by_cases g2 : m < N
        · have g3 : 2 ≤ qk_k B L (qk_st B L m) := hN.2.1 m g2
          omega
        · omega
      rw [k_token h6 (by omega)]
      simp only [b1s]
      refine ⟨_, rfl, fun j hj => qk_CM_s h7 ?_ ?_ ?_ ?_ j (by omega), qk_fm_t h8 qk_fm_k⟩
      · show _ = wI (qk_mk (qk_k B L (qk_st B L m)) _)
        rw [ek]
        rfl
      · rw [es]
      · intro q
        have q2 : qk_k B L (qk_st B L m) = 3 := q
        omega
      · intro q
        have q2 : qk_k B L (qk_st B L m) = 2 := q
        omega
  have hl : ∀ n i k m d, L - i ≤ n → n + 1 < k → i ≤ L → m ≤ 401 → qk_st B L m = qk_bl B L (L - i) i → d.1 b 10 = wI m → qk_CM b (fun n => qk_k B L (qk_st B L n)) (qk_st B L) (fun n => qk_v B L (qk_st B L n)) m d → qk_fm b dt d → ∃ d', X12_cut_b7 (A2 b) b k (wI i) d = some d' ∧ qk_CM b (fun n => qk_k B L (qk_st B L n)) (qk_st B L) (fun n => qk_v B L (qk_st B L n)) (N + 1) d' ∧ qk_fm b dt d' := by
    intro n
    induction n with
    | zero =>
      intro i k m d h1 h2 h3 h4 h5 h6 h7 h8
      obtain ⟨k, rfl⟩ : ∃ k', k = k' + 1 := ⟨k - 1, by omega⟩
      obtain rfl : i = L := by omega
      exact hend k m d h4 (by rw [h5, Nat.sub_self]; rfl) h6 h7 h8
    | succ n ih =>
      intro i k m d h1 h2 h3 h4 h5 h6 h7 h8
      obtain ⟨k, rfl⟩ : ∃ k', k = k' + 1 := ⟨k - 1, by omega⟩
      by_cases hiL : i = L
      · subst hiL
        exact hend k m d h4 (by rw [h5, Nat.sub_self]; rfl) h6 h7 h8
      · have hi : i < L := by omega
        have hd := qk_mx_f h h8
        have hB := (hd.2.2.1 i hi).1
        have ei : wI i + 1 = wI (i + 1 : Nat) := wI_add i 1
        have e9 : qk_bl B L (L - i) i = if i < L ∧ (B i = 9 ∨ B i = 10 ∨ B i = 13 ∨ B i = 32) then qk_bl B L (L - (i + 1)) (i + 1) else i := by
          rw [show L - i = (L - (i + 1)) + 1 by omega]
          rfl
        have e4 : ((400 : Int32) < wI (m : Int)) = (((400 : Nat) : Int) < m) := wI_lt (a := ((400 : Nat) : Int)) (by omega) (by omega) (by omega) (by omega)
        have e5 : (wI (i : Int) < wI (L : Int)) = ((i : Int) < L) := wI_lt (by omega) (by omega) (by omega) (by omega)
        have e6 : ∀ z : Nat, z < 100 → (wI (B i) = wI (z : Int)) = (B i = z) := fun z hz => wI_eq (by omega) (by omega) (by omega) (by omega)
        have e69 : (wI (B i) = 9) = (B i = ((9 : Nat) : Int)) := e6 9 (by omega)
        have e610 : (wI (B i) = 10) = (B i = ((10 : Nat) : Int)) := e6 10 (by omega)
        have e613 : (wI (B i) = 13) = (B i = ((13 : Nat) : Int)) := e6 13 (by omega)
        have e632 : (wI (B i) = 32) = (B i = ((32 : Nat) : Int)) := e6 32 (by omega)
        rw [X12_cut_b7.eq_2, h6, k_byte hd (by omega), hd.2.1, qk_by_i hi]
        simp only [b1s, e4, e5, e69, e610, e613, e632]
        by_cases g : m = 401
        · rw [if_pos (by omega)]
          exact ⟨d, rfl, fun j hj => h7 j (by have := hN.1; omega), h8⟩
        · rw [if_neg (by omega), if_pos (by omega)]
          by_cases gb : B i = 9 ∨ B i = 10 ∨ B i = 13 ∨ B i = 32
          · rw [if_pos ⟨hi, gb⟩] at e9
            have hih := ih (i + 1) k m d (by omega) (by omega) (by omega) h4 (h5.trans e9) h6 h7 h8
            unfold X12_cut_b67 X12_cut_b291
            rw [ei]
            rcases gb with gb | gb | gb | gb
            · rw [if_pos (by omega)]; exact hih
            · rw [if_neg (by omega), if_pos (by omega)]; exact hih
            · rw [if_neg (by omega), if_neg (by omega), if_pos (by omega)]; exact hih
            · rw [if_neg (by omega), if_neg (by omega), if_neg (by omega), if_pos (by omega)]; exact hih
          · rw [if_neg (fun q => gb q.2)] at e9
            have es : qk_st B L m = i := h5.trans e9
            have hE := qk_en_b (B := B) hi
            have eps : qk_ps B L (m + 1) = qk_en B L i := by
              show qk_en B L (qk_st B L m) = _
              rw [es]
            have est : qk_st B L (m + 1) = qk_bl B L (L - qk_en B L i) (qk_en B L i) := by
              show qk_bl B L L (qk_ps B L (m + 1)) = _
              rw [eps]
              exact qk_bl_f B L _ _ _ (by omega) (by omega)
            have step : ∀ kd vl nm, kd = wI (qk_mk (qk_k B L i) (qk_v B L i)) → (qk_k B L i = 3 → vl = wI (qk_v B L i)) → (qk_k B L i = 2 → nm = wJ (qk_v B L i)) → ∃ d', X12_cut_b7 (A2 b) b k (wI (qk_en B L i)) (qk_tk b d m kd (wI i) vl nm) = some d' ∧ qk_CM b (fun n => qk_k B L (qk_st B L n)) (qk_st B L) (fun n => qk_v B L (qk_st B L n)) (N + 1) d' ∧ qk_fm b dt d' := by
              intro kd vl nm u1 u2 u3
              refine ih (qk_en B L i) k (m + 1) _ (by omega) (by omega) hE.2.1 (by omega) est (by unfold qk_tk; rw [q_pI_s]) (qk_CM_s h7 ?_ ?_ ?_ ?_) (qk_fm_t h8 qk_fm_k)
              · show _ = wI (qk_mk (qk_k B L (qk_st B L m)) (qk_v B L (qk_st B L m)))
                rw [es]; exact u1
              · rw [es]
              · show qk_k B L (qk_st B L m) = 3 → _ = wI (qk_v B L (qk_st B L m))
                rw [es]; exact u2
              · show qk_k B L (qk_st B L m) = 2 → _ = wJ (qk_v B L (qk_st B L m))
                rw [es]; exact u3
            rw [if_neg (by omega), if_neg (by omega), if_neg (by omega), if_neg (by omega), k_let hB]
            rcases qk_cl_3 (B i) with u | u | u
            · rw [if_neg (by omega)]
              simp only [b1s]
              rw [if_pos trivial, k_dig hB, if_neg (by omega)]
              simp only [b1s]
              rw [if_pos trivial, ei, k_byte hd (by omega)]
              simp (disch := omega) only [b1s, X12_sign, wI_lit, wI_eq, X12_sign_b22, k_token h6 (show m ≤ 400 by omega), b2s, X12_cut_b291]
              have een : qk_en B L i = i + 1 := by
                unfold qk_en
                rw [if_neg (by omega), if_pos u]
              have ek : qk_k B L i = (if B i = 59 then 4 else if B i = 45 then 5 else 1) := by
                unfold qk_k
                rw [if_neg (by omega), if_neg (by omega), if_neg (by omega)]
              have h59 : ∀ z : Nat, qk_k B L i = z → z = 4 ∨ z = 5 ∨ z = 1 → ∃ d', X12_cut_b7 (A2 b) b k (wI (i + 1 : Nat)) (qk_tk b d m (wI (qk_mk z 0)) (wI i) (wI (0 : Nat)) 0) = some d' ∧ qk_CM b (fun n => qk_k B L (qk_st B L n)) (qk_st B L) (fun n => qk_v B L (qk_st B L n)) (N + 1) d' ∧ qk_fm b dt d' := by
                intro z hz hz2
                rw [← een]
                refine step _ _ _ ?_ (fun q => by omega) (fun q => by omega)
                rw [hz]
                rcases hz2 with rfl | rfl | rfl <;> rfl
              by_cases g1 : B i = 59
              · rw [if_pos g1] at ek
                rw [if_pos (by omega)]
                simp only [b1s, b2s]
                rw [show wI i + wI (1 : Nat) = wI (i + 1 : Nat) from ei]
                exact h59 4 ek (by omega)
              · rw [if_neg g1] at ek
                rw [if_neg (by omega)]
                by_cases g2 : B i = 45
                · rw [if_pos g2] at ek
                  rw [if_pos (by omega)]
                  simp only [b1s, b2s]
                  rw [show wI i + wI (1 : Nat) = wI (i + 1 : Nat) from ei]
                  exact h59 5 ek (by omega)
                · rw [if_neg g2] at ek
                  rw [if_neg (by omega)]
                  simp only [b1s, b2s]
                  rw [show wI i + wI (1 : Nat) = wI (i + 1 : Nat) from ei]
                  exact h59 1 ek (by omega)
            · rw [if_pos u]
              simp only [b1s]
              rw [if_neg (by decide)]
              obtain ⟨vl, nm, v1, v2⟩ := k_name (kk := X12_cut_b7 (A2 b) b k) hd hi u h6 (by omega)
              obtain ⟨d', w1, w2⟩ := step _ vl nm rfl (fun q => by have := qk_k_3 q; omega) v2
              exact ⟨d', v1.trans w1, w2⟩
            · rw [if_neg (by omega)]
              simp only [b1s]
              rw [if_pos trivial, k_dig hB, if_pos u]
              simp only [b1s]
              rw [if_neg (by decide)]
              obtain ⟨vl, nm, v1, v2⟩ := k_int (kk := X12_cut_b7 (A2 b) b k) hd hi u h6 (by omega)
              obtain ⟨d', w1, w2⟩ := step _ vl nm rfl v2 (fun q => by have := qk_k_6 (Or.inr q); omega)
              exact ⟨d', v1.trans w1, w2⟩
  obtain ⟨d0, hd0⟩ : ∃ z, z = q_pI dt b 10 0 := ⟨_, rfl⟩
  have f0 : qk_fm b dt d0 := by
    rw [hd0]
    exact ⟨fun x h1 _ _ _ => q_pI_o h1, fun j hj => q_pI_k hj, fun _ _ => rfl, rfl⟩
  obtain ⟨d', v1, v2, v3⟩ := hl L 0 q_FU 0 d0 (by omega) (by unfold q_FU; omega) (by omega) (by omega) (by rw [Nat.sub_zero]; rfl) (by rw [hd0, q_pI_s]; rfl) (fun j hj => absurd hj (by omega)) f0
  refine ⟨d', ?_, v2, v3⟩
  unfold X12_cut
  simp only [o1s]
  rw [← hd0]
  exact v1
