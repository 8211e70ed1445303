/-! level two: the syntax of a text -/
def ky_go (s : Nat × Nat) : Nat × Nat := if s.2 = 0 then (if s.1 < 400 then (s.1 + 1, 0) else (s.1, 2)) else s
def ky_mu (K : Nat → Nat) (k : Nat) (s : Nat × Nat) : Nat × Nat := if s.2 = 0 then (if K s.1 = k then ky_go s else (s.1, 1)) else s
def ky_op (K : Nat → Nat) (s : Nat × Nat) : Nat × Nat := if s.2 = 0 ∧ K s.1 = 5 then ky_go s else s
def ky_dr (K : Nat → Nat) (V : Nat → Int) (s : Nat × Nat) : Nat × Nat := if s.2 = 0 ∧ K s.1 = 6 ∧ V s.1 = 10 then ky_mu K 3 (ky_go s) else s
def ky_pt (K : Nat → Nat) (V : Nat → Int) (c : Nat) (s : Nat × Nat) : Nat × Nat := if c = 45 then ky_op K s else if c = 100 then ky_dr K V s else if c = 105 then ky_mu K 3 s else if c = 110 then ky_mu K 2 s else ky_mu K 4 s
def ky_sh (w : Nat) : List Nat := [[110, 105, 105, 105, 59], [110, 105, 105, 59], [110, 105, 105, 59], [110, 110, 110, 105, 59], [110, 105, 105, 105, 59], [110, 110, 105, 105, 105, 105, 100, 59], [110, 105, 45, 105, 59], [105, 105, 105, 105, 59], [105, 105, 59], [105, 59]].getD w []
def ky_run (K : Nat → Nat) (V : Nat → Int) (l : List Nat) (s : Nat × Nat) : Nat × Nat := l.foldl (fun s c => ky_pt K V c s) s
def ky_rm (w : Nat) : Nat := if w < 3 then 3 else w
def ky_mo (r : Nat) : Nat := [0, 0, 0, 8, 6, 6, 6, 4].getD r 0
def ky_tell (K : Nat → Nat) (V : Nat → Int) (c : Nat → Nat) (a : Nat) : Nat × Nat := if K a = 6 ∧ V a ≠ 10 then (if V a ≤ 7 ∧ c (ky_rm (V a).toNat) = ky_mo (ky_rm (V a).toNat) then (a, 2) else ky_run K V (ky_sh (V a).toNat) (ky_go (a, 0))) else (a, 1)
def ky_ci (c : Nat → Nat) (w : Nat) : Nat → Nat := fun r => if r = ky_rm w ∧ w ≤ 7 then c r + 1 else c r
def ky_all (K : Nat → Nat) (V : Nat → Int) : Nat → (Nat → Nat) → Nat → Nat × Nat
  | 0, _, a => (a, 0)
  | n + 1, c, a => if K a = 0 then (a, 0) else if (ky_tell K V c a).2 = 0 then ky_all K V n (ky_ci c (V a).toNat) (ky_tell K V c a).1 else ky_tell K V c a
def ky_ok (K : Nat → Nat) (N : Nat) (s : Nat × Nat) : Prop := s.1 ≤ N ∧ s.2 ≤ 2
theorem ky_go_b {K P : Nat → Nat} {V : Nat → Int} {N : Nat} (hN : qk_tok K P V N) {s : Nat × Nat} (hs : ky_ok K N s) (hk : s.2 = 0 → 2 ≤ K s.1) : ky_ok K N (ky_go s) ∧ s.1 ≤ (ky_go s).1 ∧ ((ky_go s).2 = 0 → s.1 < (ky_go s).1) := by
  unfold ky_go
  by_cases h : s.2 = 0
  · rw [if_pos h]
    by_cases h2 : s.1 < 400
    · rw [if_pos h2]
      have h3 : s.1 < N := by
        by_cases h4 : s.1 = N
        · have := hN.2.2.1 (by omega)
          have := hk h
          rw [h4] at this
          omega
        · have := hs.1; omega
      exact ⟨⟨h3, by show (0 : Nat) ≤ 2; omega⟩, by show s.1 ≤ s.1 + 1; omega, fun _ => by show s.1 < s.1 + 1; omega⟩
    · rw [if_neg h2]
      exact ⟨⟨hs.1, Nat.le_refl _⟩, Nat.le_refl _, fun h => (nomatch h)⟩
  · rw [if_neg h]
    exact ⟨hs, Nat.le_refl _, fun h2 => absurd h2 h⟩
theorem ky_mu_b {K P : Nat → Nat} {V : Nat → Int} {N : Nat} (hN : qk_tok K P V N) {s : Nat × Nat} {k : Nat} (hs : ky_ok K N s) (hk : 2 ≤ k) : ky_ok K N (ky_mu K k s) ∧ s.1 ≤ (ky_mu K k s).1 ∧ ((ky_mu K k s).2 = 0 → s.1 < (ky_mu K k s).1) := by
  unfold ky_mu
  by_cases h : s.2 = 0
  · rw [if_pos h]
    by_cases h2 : K s.1 = k
    · rw [if_pos h2]
      exact ky_go_b hN hs (fun _ => by omega)
    · rw [if_neg h2]
      exact ⟨⟨hs.1, by show (1 : Nat) ≤ 2; omega⟩, Nat.le_refl _, fun h => (nomatch h)⟩
  · rw [if_neg h]
    exact ⟨hs, Nat.le_refl _, fun h2 => absurd h2 h⟩
theorem ky_op_b {K P : Nat → Nat} {V : Nat → Int} {N : Nat} (hN : qk_tok K P V N) {s : Nat × Nat} (hs : ky_ok K N s) : ky_ok K N (ky_op K s) ∧ s.1 ≤ (ky_op K s).1 := by
  unfold ky_op
  by_cases h : s.2 = 0 ∧ K s.1 = 5
  · rw [if_pos h]
    have := ky_go_b hN hs (fun _ => by omega)
    exact ⟨this.1, this.2.1⟩
  · rw [if_neg h]
    exact ⟨hs, Nat.le_refl _⟩
theorem ky_dr_b {K P : Nat → Nat} {V : Nat → Int} {N : Nat} (hN : qk_tok K P V N) {s : Nat × Nat} (hs : ky_ok K N s) : ky_ok K N (ky_dr K V s) ∧ s.1 ≤ (ky_dr K V s).1 := by
  unfold ky_dr
  by_cases h : s.2 = 0 ∧ K s.1 = 6 ∧ V s.1 = 10
  · rw [if_pos h]
    have h1 := ky_go_b hN hs (fun _ => by omega)
    have h2 := ky_mu_b hN h1.1 (k := 3) (by omega)
    exact ⟨h2.1, by omega⟩
  · rw [if_neg h]
    exact ⟨hs, Nat.le_refl _⟩
theorem ky_pt_b {K P : Nat → Nat} {V : Nat → Int} {N : Nat} (hN : qk_tok K P V N) {s : Nat × Nat} (hs : ky_ok K N s) (c : Nat) : ky_ok K N (ky_pt K V c s) ∧ s.1 ≤ (ky_pt K V c s).1 := by
  unfold ky_pt
  repeat' split
  · exact ky_op_b hN hs
  · exact ky_dr_b hN hs
  · have := ky_mu_b hN hs (k := 3) (by omega); exact ⟨this.1, this.2.1⟩
  · have := ky_mu_b hN hs (k := 2) (by omega); exact ⟨this.1, this.2.1⟩
  · have := ky_mu_b hN hs (k := 4) (by omega); exact ⟨this.1, this.2.1⟩
theorem ky_run_b {K P : Nat → Nat} {V : Nat → Int} {N : Nat} (hN : qk_tok K P V N) : ∀ (l : List Nat) (s : Nat × Nat), ky_ok K N s → ky_ok K N (ky_run K V l s) ∧ s.1 ≤ (ky_run K V l s).1 := by
  intro l
  induction l with
  | nil => intro s hs; exact ⟨hs, Nat.le_refl _⟩
  | cons c l ih =>
    intro s hs
    have h1 := ky_pt_b hN hs c
    have h2 := ih _ h1.1
    show ky_ok K N (ky_run K V l (ky_pt K V c s)) ∧ s.1 ≤ (ky_run K V l (ky_pt K V c s)).1
    exact ⟨h2.1, by omega⟩
theorem ky_go_f {s : Nat × Nat} (h : s.2 ≠ 0) : ky_go s = s := if_neg h
theorem ky_mu_f {K : Nat → Nat} {k : Nat} {s : Nat × Nat} (h : s.2 ≠ 0) : ky_mu K k s = s := if_neg h
theorem ky_pt_f {K : Nat → Nat} {V : Nat → Int} {c : Nat} {s : Nat × Nat} (h : s.2 ≠ 0) : ky_pt K V c s = s := by
  unfold ky_pt ky_op ky_dr
  rw [ky_mu_f h, ky_mu_f h, ky_mu_f h, if_neg (show ¬ (s.2 = 0 ∧ K s.1 = 5) from fun q => h q.1), if_neg (show ¬ (s.2 = 0 ∧ K s.1 = 6 ∧ V s.1 = 10) from fun q => h q.1)]
  repeat' split
  all_goals rfl
theorem ky_run_f {K : Nat → Nat} {V : Nat → Int} : ∀ (l : List Nat) (s : Nat × Nat), s.2 ≠ 0 → ky_run K V l s = s := by
  intro l
  induction l with
  | nil => intro s _; rfl
  | cons c l ih =>
    intro s h
    show ky_run K V l (ky_pt K V c s) = s
    rw [ky_pt_f h]
    exact ih s h
theorem ky_run_s {K P : Nat → Nat} {V : Nat → Int} {N : Nat} (hN : qk_tok K P V N) {w : Nat} (hw : w < 10) {s : Nat × Nat} (hs : ky_ok K N s) (h : (ky_run K V (ky_sh w) s).2 = 0) : s.1 < (ky_run K V (ky_sh w) s).1 := by
  have e : ∀ w, w < 10 → ky_sh w = (ky_sh w).dropLast ++ [59] := by decide
  rw [e w hw] at h ⊢
  have e2 : ky_run K V ((ky_sh w).dropLast ++ [59]) s = ky_mu K 4 (ky_run K V (ky_sh w).dropLast s) := by
    unfold ky_run
    rw [List.foldl_append]
    rfl
  rw [e2] at h ⊢
  have h1 := ky_run_b hN (ky_sh w).dropLast s hs
  have h2 := ky_mu_b hN h1.1 (k := 4) (by omega)
  have h3 := h2.2.2 h
  omega
theorem ky_tell_b {K P : Nat → Nat} {V : Nat → Int} {N : Nat} (hN : qk_tok K P V N) {c : Nat → Nat} {a : Nat} (ha : a ≤ N) : ky_ok K N (ky_tell K V c a) ∧ a ≤ (ky_tell K V c a).1 ∧ ((ky_tell K V c a).2 = 0 → a + 2 ≤ (ky_tell K V c a).1 ∧ K a = 6 ∧ 0 ≤ V a ∧ V a ≤ 9) := by
  unfold ky_tell
  by_cases h : K a = 6 ∧ V a ≠ 10
  · rw [if_pos h]
    have h5 := (hN.2.2.2.2.2 a).2.1 h.1
    by_cases h2 : V a ≤ 7 ∧ c (ky_rm (V a).toNat) = ky_mo (ky_rm (V a).toNat)
    · rw [if_pos h2]
      exact ⟨⟨ha, Nat.le_refl _⟩, Nat.le_refl _, fun q => (nomatch q)⟩
    · rw [if_neg h2]
      have h3 := ky_go_b hN (s := (a, 0)) ⟨ha, by show (0 : Nat) ≤ 2; omega⟩ (fun _ => by show 2 ≤ K a; omega)
      have h4 := ky_run_b hN (ky_sh (V a).toNat) _ h3.1
      have h6 : a ≤ (ky_go (a, 0)).1 := h3.2.1
      have h9 := h.2
      refine ⟨h4.1, by omega, fun q => ⟨?_, h.1, h5.1, by omega⟩⟩
      have h8 := ky_run_s hN (w := (V a).toNat) (by omega) h3.1 q
      by_cases g : (ky_go (a, 0)).2 = 0
      · have h7 : a < (ky_go (a, 0)).1 := h3.2.2 g
        omega
      · rw [ky_run_f _ _ g] at q
        exact absurd q g
  · rw [if_neg h]
    exact ⟨⟨ha, by show (1 : Nat) ≤ 2; omega⟩, Nat.le_refl _, fun q => (nomatch q)⟩
/-- the class's place in the text -/
def ky_S (b : Nat) (d : q_Dt) (s : Nat × Nat) : Prop := d.1 (b + 2) 7 = wI s.1 ∧ d.1 (b + 2) 8 = wI s.2
def ky_fs (b : Nat) (dt d : q_Dt) : Prop := (∀ x, x ≠ b + 2 → d.1 x = dt.1 x) ∧ (∀ j, j ≠ 7 → j ≠ 8 → j ≠ 9 → d.1 (b + 2) j = dt.1 (b + 2) j) ∧ d.2.2 = dt.2.2 ∧ ∀ x, x ≠ b + 14 → d.2.1 x = dt.2.1 x
theorem ky_fs_r {b : Nat} {dt : q_Dt} : ky_fs b dt dt := ⟨fun _ _ => rfl, fun _ _ _ _ => rfl, rfl, fun _ _ => rfl⟩
theorem ky_fs_t {b : Nat} {dt d e : q_Dt} (h : ky_fs b dt d) (h' : ky_fs b d e) : ky_fs b dt e := ⟨fun x hx => (h'.1 x hx).trans (h.1 x hx), fun j h1 h2 h3 => (h'.2.1 j h1 h2 h3).trans (h.2.1 j h1 h2 h3), h'.2.2.1.trans h.2.2.1, fun x hx => (h'.2.2.2 x hx).trans (h.2.2.2 x hx)⟩
theorem ky_fs_I {b k : Nat} {d : q_Dt} {v : Int32} (hk : k = 7 ∨ k = 8 ∨ k = 9) : ky_fs b d (q_pI d (b + 2) k v) := ⟨fun x hx => q_pI_o hx, fun j h1 h2 h3 => q_pI_k (by omega), rfl, fun _ _ => rfl⟩
theorem ky_C_f {b N : Nat} {K P : Nat → Nat} {V : Nat → Int} {dt d : q_Dt} (h : qk_C b K P V N dt) (hf : ky_fs b dt d) : qk_C b K P V N d := by
  intro j hj
  rw [hf.2.2.2 (b + 6) (by omega), hf.2.2.2 (b + 8) (by omega), hf.2.2.2 (b + 10) (by omega)]
  exact h j hj
/-- the same but for the room left -/
def ky_fa (b : Nat) (dt d : q_Dt) : Prop := ky_fs b dt d ∧ d.2.1 = dt.2.1
theorem ky_fa_r {b : Nat} {dt : q_Dt} : ky_fa b dt dt := ⟨ky_fs_r, rfl⟩
theorem ky_fa_t {b : Nat} {dt d e : q_Dt} (h : ky_fa b dt d) (h' : ky_fa b d e) : ky_fa b dt e := ⟨ky_fs_t h.1 h'.1, h'.2.trans h.2⟩
theorem ky_fa_I {b k : Nat} {d : q_Dt} {v : Int32} (hk : k = 7 ∨ k = 8 ∨ k = 9) : ky_fa b d (q_pI d (b + 2) k v) := ⟨ky_fs_I hk, rfl⟩
theorem y_go {b : Nat} {d : q_Dt} {s : Nat × Nat} (h : ky_S b d s) (h1 : s.1 ≤ 400) (h0 : s.2 = 0) : ∃ d', X9_goOn (A1 b) d (b + 2) = some d' ∧ ky_S b d' (ky_go s) ∧ ky_fa b d d' := by
  unfold X9_goOn ky_go
  rw [if_pos h0, h.1]
  simp (disch := omega) only [wI_lit, wI_lt, o1s, wI_add, ← Int.natCast_add]
  by_cases g : s.1 < 400
  · rw [if_pos (by omega), if_pos g]
    refine ⟨_, rfl, ⟨q_pI_s, ?_⟩, ky_fa_I (Or.inl rfl)⟩
    rw [q_pI_k (by omega), h.2, h0]
  · rw [if_neg (by omega), if_neg g]
    refine ⟨_, rfl, ⟨?_, q_pI_s⟩, ky_fa_I (Or.inr (Or.inl rfl))⟩
    rw [q_pI_k (by omega), h.1]
theorem y_kind {b N : Nat} {K P : Nat → Nat} {V : Nat → Int} {d : q_Dt} (hC : qk_C b K P V (N + 1) d) (hN : N ≤ 400) {a : Nat} (ha : a ≤ N) : X5_at (A1 b) d ((A1 b).2.2 (b + 2) 1) (wI a) = some (wJ (K a)) := by
  rw [s2_1, r_at (s5_0 b) (l6 b) (by omega) (by omega), (hC a (by omega)).1]
theorem y_val {b N : Nat} {K P : Nat → Nat} {V : Nat → Int} {d : q_Dt} (hC : qk_C b K P V (N + 1) d) (hN : N ≤ 400) {a : Nat} (ha : a ≤ N) : X5_at (A1 b) d ((A1 b).2.2 (b + 2) 3) (wI a) = some (wJ (V a)) := by
  rw [s2_3, r_at (s9_0 b) (l10 b) (by omega) (by omega), (hC a (by omega)).2.2]
theorem y_must {b N : Nat} {K P : Nat → Nat} {V : Nat → Int} {d : q_Dt} (hC : qk_C b K P V (N + 1) d) (hN : qk_tok K P V N) {s : Nat × Nat} (h : ky_S b d s) (hs : ky_ok K N s) (h0 : s.2 = 0) {k : Nat} (hk : k ≤ 6) : ∃ d', X9_must (A1 b) d (b + 2) (wI k) = some d' ∧ ky_S b d' (ky_mu K k s) ∧ ky_fa b d d' := by
  have hKb := (hN.2.2.2.1 s.1).1
  have hN4 := hN.1
  unfold X9_must ky_mu
  rw [if_pos h0, h.1, y_kind hC hN.1 hs.1]
  simp (disch := omega) only [b1s, wI_wJ, wJ_eq]
  by_cases g : K s.1 = k
  · obtain ⟨d', r1, r2, r3⟩ := y_go h (by have := hs.1; omega) h0
    rw [if_pos (by omega), if_pos g, r1]
    exact ⟨d', rfl, r2, r3⟩
  · rw [if_neg (by omega), if_neg g]
    simp only [o1s]
    refine ⟨_, rfl, ⟨?_, q_pI_s⟩, ky_fa_I (Or.inr (Or.inl rfl))⟩
    rw [q_pI_k (by omega), h.1]
theorem y_part {b N : Nat} {K P : Nat → Nat} {V : Nat → Int} {d : q_Dt} (hC : qk_C b K P V (N + 1) d) (hN : qk_tok K P V N) {s : Nat × Nat} (h : ky_S b d s) (hs : ky_ok K N s) (h0 : s.2 = 0) {c : Nat} (hc : c < 128) : ∃ d', X9_part (A1 b) d (b + 2) (wI c) = some d' ∧ ky_S b d' (ky_pt K V c s) ∧ ky_fa b d d' := by
  have hKb := (hN.2.2.2.1 s.1).1
  have hN4 := hN.1
  have hVb := hN.2.2.2.2.2 s.1
  obtain ⟨dg, r1, r2, r3⟩ := y_go h (by have := hs.1; omega) h0
  obtain ⟨d3, p1, p2, p3⟩ := y_must hC hN h hs h0 (k := 3) (by omega)
  obtain ⟨d2, u1, u2, u3⟩ := y_must hC hN h hs h0 (k := 2) (by omega)
  obtain ⟨d4, v1, v2, v3⟩ := y_must hC hN h hs h0 (k := 4) (by omega)
  unfold X9_part ky_pt
  rw [h.1, y_kind hC hN.1 hs.1, y_val hC hN.1 hs.1, r1, show (2 : Int32) = wI (2 : Nat) from rfl, show (4 : Int32) = wI (4 : Nat) from rfl, u1, v1]
  have e3 : X9_must (A1 b) d (b + 2) 3 = some d3 := p1
  rw [e3]
  simp (disch := omega) only [b1s, wI_lit, wI_eq, wJ_lit, wJ_eq]
  by_cases g1 : c = 45
  · rw [if_pos (by omega), if_pos g1]
    unfold ky_op
    by_cases g2 : K s.1 = 5
    · rw [if_pos (by omega), if_pos ⟨h0, g2⟩]
      exact ⟨dg, rfl, r2, r3⟩
    · rw [if_neg (by omega), if_neg (fun q => g2 q.2)]
      exact ⟨d, rfl, h, ky_fa_r⟩
  · rw [if_neg (by omega), if_neg g1]
    by_cases g2 : c = 100
    · rw [if_pos (by omega), if_pos g2]
      unfold ky_dr
      by_cases g3 : K s.1 = 6
      · have hv := hVb.2.1 g3
        rw [if_pos (by omega)]
        by_cases g4 : V s.1 = 10
        · rw [if_pos (by omega), r2.2, if_pos (show s.2 = 0 ∧ K s.1 = 6 ∧ V s.1 = 10 from ⟨h0, g3, g4⟩)]
          have hgb := (ky_go_b hN hs (fun _ => by omega)).1
          have hg2 := hgb.2
          simp (disch := omega) only [wI_eq]
          by_cases g5 : (ky_go s).2 = 0
          · rw [if_pos (by omega)]
            obtain ⟨d5, w1, w2, w3⟩ := y_must (ky_C_f hC r3.1) hN r2 hgb g5 (k := 3) (by omega)
            rw [w1]
            exact ⟨d5, rfl, w2, ky_fa_t r3 w3⟩
          · rw [if_neg (by omega), ky_mu_f g5]
            exact ⟨dg, rfl, r2, r3⟩
        · rw [if_neg (by omega), if_neg (fun q => g4 q.2.2)]
          exact ⟨d, rfl, h, ky_fa_r⟩
      · rw [if_neg (by omega), if_neg (fun q => g3 q.2.1)]
        exact ⟨d, rfl, h, ky_fa_r⟩
    · rw [if_neg (by omega), if_neg g2]
      by_cases g3 : c = 105
      · rw [if_pos (by omega), if_pos g3]
        exact ⟨d3, rfl, p2, p3⟩
      · rw [if_neg (by omega), if_neg g3]
        by_cases g4 : c = 110
        · rw [if_pos (by omega), if_pos g4]
          exact ⟨d2, rfl, u2, u3⟩
        · rw [if_neg (by omega), if_neg g4]
          exact ⟨d4, rfl, v2, v3⟩
def ky_ix (w : Nat) : Nat := [1, 2, 2, 3, 1, 4, 5, 6, 7, 8].getD w 0
theorem ky_sh_l : ∀ w, w < 10 → ky_ix w < 9 ∧ q_slen (ky_ix w) = wI (ky_sh w).length ∧ q_sl.getD (ky_ix w) 0 = (ky_sh w).length ∧ (ky_sh w).length < 10 ∧ ∀ j, j < 10 → j < (ky_sh w).length → q_sch (ky_ix w) (wI j) = wI ((ky_sh w).getD j 0) ∧ (ky_sh w).getD j 0 < 128 := by decide +kernel
theorem ky_drop {l : List Nat} {i : Nat} (h : i < l.length) : l.drop i = l.getD i 0 :: l.drop (i + 1) := by
  rw [List.drop_eq_getElem_cons h, List.getD_eq_getElem?_getD, List.getElem?_eq_getElem h]
  rfl
theorem y_shape {b N w : Nat} {K P : Nat → Nat} {V : Nat → Int} {dt : q_Dt} (hC : qk_C b K P V (N + 1) dt) (hN : qk_tok K P V N) (hw : w < 10) {s : Nat × Nat} (h : ky_S b dt s) (hs : ky_ok K N s) : ∃ d', X9_tell_b67 (A1 b) (b + 2) (ky_ix w) q_FU 0 dt = some d' ∧ ky_S b d' (ky_run K V (ky_sh w) s) ∧ ky_fa b dt d' := by
  obtain ⟨w1, w2, w3, w4, w5⟩ := ky_sh_l w hw
  have hl : ∀ n i k : Nat, i + n = (ky_sh w).length → n < k → ∀ d s, ky_S b d s → ky_ok K N s → ky_fa b dt d → ∃ d', X9_tell_b67 (A1 b) (b + 2) (ky_ix w) k (wI i) d = some d' ∧ ky_S b d' (ky_run K V ((ky_sh w).drop i) s) ∧ ky_fa b dt d' := by
    intro n
    induction n with
    | zero =>
      intro i k z1 z2 
      obtain ⟨k, rfl⟩ : ∃ m, k = m + 1 := ⟨k - 1, by omega⟩
      have e : i = (ky_sh w).length := by omega
      intro d s h1 h2 h3
      rw [X9_tell_b67.eq_2, w2, if_neg (by omega), e, List.drop_length]
      simp (disch := omega) only [wI_le]
      rw [if_pos (by omega)]
      exact ⟨d, rfl, h1, h3⟩
    | succ n ih =>
      intro i k z1 z2 
      obtain ⟨k, rfl⟩ : ∃ m, k = m + 1 := ⟨k - 1, by omega⟩
      have hi : i < (ky_sh w).length := by omega
      intro d s h1 h2 h3
      have h4 := h2.2
      rw [X9_tell_b67.eq_2, w2, w3, if_neg (by omega), h1.2, (w5 i (by omega) hi).1, ky_drop hi]
      simp (disch := omega) only [wI_le, wI_lit, wI_eq, wI_lt, wI_nat, Int.toNat_natCast]
      rw [if_neg (by omega)]
      show ∃ d', _ = some d' ∧ ky_S b d' (ky_run K V ((ky_sh w).drop (i + 1)) (ky_pt K V ((ky_sh w).getD i 0) s)) ∧ _
      by_cases g : s.2 = 0
      · obtain ⟨d1, r1, r2, r3⟩ := y_part (ky_C_f hC h3.1) hN h1 h2 g (w5 i (by omega) hi).2
        obtain ⟨d', v1, v2, v3⟩ := ih (i + 1) k (by omega) (by omega) d1 _ r2 (ky_pt_b hN h2 _).1 (ky_fa_t h3 r3)
        rw [if_pos (by omega), if_neg (by omega), if_neg (by omega), r1]
        refine ⟨d', ?_, v2, v3⟩
        simp only [b1s]
        rw [show wI i + wI (1 : Nat) = wI (i + 1 : Nat) from wI_add i 1]
        exact v1
      · rw [if_neg (by omega), ky_pt_f g, ky_run_f _ _ g]
        exact ⟨d, rfl, h1, h3⟩
  exact hl (ky_sh w).length 0 q_FU (by omega) (by unfold q_FU; omega) dt s h hs ky_fa_r
/-- the room left -/
def ky_R (b : Nat) (d : q_Dt) (c : Nat → Nat) : Prop := ∀ r, 3 ≤ r → r < 8 → c r ≤ ky_mo r ∧ d.2.1 (b + 14) r = wJ ((ky_mo r : Int) - c r)
theorem ky_mo_b : ∀ r, r < 8 → ky_mo r ≤ 8 := by decide
theorem y_room {b w : Nat} {d : q_Dt} {c : Nat → Nat} (hR : ky_R b d c) (hw : w < 10) : ∃ r d', X9_takesRoom (A1 b) d (b + 2) (wI w) = some (r, d') ∧ (r = 0 ↔ (w ≤ 7 ∧ c (ky_rm w) = ky_mo (ky_rm w))) ∧ (r ≠ 0 → ky_R b d' (ky_ci c w)) ∧ ky_fs b d d' ∧ d'.1 = d.1 := by
  unfold X9_takesRoom
  rw [s2_5]
  simp (disch := omega) only [wI_lit, wI_le]
  by_cases g : w ≤ 7
  · have hrm : 3 ≤ ky_rm w ∧ ky_rm w < 8 := by unfold ky_rm; split <;> omega
    have hm := ky_mo_b (ky_rm w) hrm.2
    have h1 := hR (ky_rm w) hrm.1 hrm.2
    have em : q_max (wI w) (wI (3 : Nat)) = wI (ky_rm w) := by
      unfold q_max ky_rm
      simp (disch := omega) only [wI_lt]
      by_cases g2 : w < 3
      · rw [if_pos (by omega), if_pos g2]
      · rw [if_neg (by omega), if_neg g2]
    rw [if_pos (by omega), em, r_inc (s13_0 b) (l14 b) (by omega) hrm.2, h1.2, show (-1 : Int64) = wJ (-1) from rfl, wJ_add]
    simp only [b1s]
    rw [r_at (s13_0 b) (l14 b) (by omega) hrm.2, q_pJ_s]
    simp (disch := omega) only [b1s, wJ_lit, wJ_lt]
    have hf : ky_fs b d (q_pJ d (b + 14) (ky_rm w) (wJ ((ky_mo (ky_rm w) : Int) - c (ky_rm w) + -1))) := ⟨fun _ _ => rfl, fun _ _ _ _ => rfl, rfl, fun x hx => q_pJ_o hx⟩
    by_cases g2 : c (ky_rm w) = ky_mo (ky_rm w)
    · rw [if_pos (by omega)]
      exact ⟨0, _, rfl, ⟨fun _ => ⟨g, g2⟩, fun _ => rfl⟩, fun q => absurd rfl q, hf, rfl⟩
    · rw [if_neg (by omega)]
      refine ⟨1, _, rfl, ⟨fun q => (nomatch q), fun q => absurd q.2 g2⟩, fun _ r hr1 hr2 => ?_, hf, rfl⟩
      unfold ky_ci
      by_cases g3 : r = ky_rm w
      · rw [if_pos ⟨g3, g⟩, g3, q_pJ_s]
        exact ⟨by omega, by congr 1; omega⟩
      · rw [if_neg (fun q => g3 q.1), q_pJ_k g3]
        exact hR r hr1 hr2
  · rw [if_neg (by omega)]
    refine ⟨1, d, rfl, ⟨fun q => (nomatch q), fun q => absurd q.1 g⟩, fun _ r hr1 hr2 => ?_, ky_fs_r, rfl⟩
    unfold ky_ci
    rw [if_neg (fun q => g q.2)]
    exact hR r hr1 hr2
theorem y_tell {b N a : Nat} {K P : Nat → Nat} {V : Nat → Int} {d : q_Dt} {c : Nat → Nat} (hC : qk_C b K P V (N + 1) d) (hN : qk_tok K P V N) (h : ky_S b d (a, 0)) (ha : a ≤ N) (hR : ky_R b d c) : ∃ d', X9_tell (A1 b) d (b + 2) = some d' ∧ ky_S b d' (ky_tell K V c a) ∧ ((ky_tell K V c a).2 = 0 → ky_R b d' (ky_ci c (V a).toNat)) ∧ ky_fs b d d' := by
  have hN4 := hN.1
  have hKb := (hN.2.2.2.1 a).1
  have hVb := hN.2.2.2.2.2 a
  have h1 : d.1 (b + 2) 7 = wI a := h.1
  have e1 : X5_small (A1 b) d ((A1 b).2.2 (b + 2) 3) (wI a) = some (wI (V a)) := by
    rw [s2_3, r_small (s9_0 b) (l10 b) (by omega) (by omega), (hC a (by omega)).2.2, wJ_wI]
  have ebad : ∃ d', X9_tell_b36 (A1 b) (b + 2) d = some d' ∧ ky_S b d' (a, 1) ∧ ky_fs b d d' := by
    unfold X9_tell_b36
    simp only [o1s]
    refine ⟨_, rfl, ⟨?_, q_pI_s⟩, ky_fs_I (Or.inr (Or.inl rfl))⟩
    rw [q_pI_k (by omega)]
    exact h1
  obtain ⟨db, b1, b2, b3⟩ := ebad
  unfold X9_tell ky_tell
  rw [h1, e1, y_kind hC hN4 ha, b1]
  simp (disch := omega) only [b1s, wJ_lit, wJ_eq]
  by_cases g : K a = 6
  · have hv := hVb.2.1 g
    rw [if_pos (by omega)]
    simp (disch := omega) only [wI_lit, wI_eq]
    by_cases g2 : V a = 10
    · rw [if_pos (by omega), if_neg (fun q => q.2 g2)]
      exact ⟨db, rfl, b2, fun q => (nomatch q), b3⟩
    · rw [if_neg (by omega), if_pos ⟨g, g2⟩]
      obtain ⟨w, hw⟩ := Int.eq_ofNat_of_zero_le hv.1
      have hw10 : w < 10 := by omega
      rw [hw, Int.toNat_natCast]
      obtain ⟨r, d1, r1, r2, r3, r4, r5⟩ := y_room hR hw10
      rw [r1]
      simp only [b2s]
      by_cases g3 : w ≤ 7 ∧ c (ky_rm w) = ky_mo (ky_rm w)
      · rw [if_pos (show (w : Int) ≤ 7 ∧ _ from ⟨by omega, g3.2⟩), if_pos (show r = wI ((0 : Nat) : Int) from r2.mpr g3)]
        simp only [o1s]
        refine ⟨_, rfl, ⟨?_, q_pI_s⟩, fun q => (nomatch q), ky_fs_t r4 (ky_fs_I (Or.inr (Or.inl rfl)))⟩
        rw [q_pI_k (by omega), r5]
        exact h1
      · rw [if_neg (show ¬ ((w : Int) ≤ 7 ∧ _) from fun q => g3 ⟨by omega, q.2⟩), if_neg (show ¬ r = wI ((0 : Nat) : Int) from fun q => g3 (r2.mp q))]
        have h2 : ky_S b d1 (a, 0) := by
          unfold ky_S
          rw [r5]
          exact h
        obtain ⟨dg, p1, p2, p3⟩ := y_go h2 (by show a ≤ 400; omega) rfl
        have hgb := ky_go_b hN (s := (a, 0)) ⟨ha, by show (0 : Nat) ≤ 2; omega⟩ (fun _ => by show 2 ≤ K a; omega)
        obtain ⟨d', v1, v2, v3⟩ := y_shape (ky_C_f hC (ky_fs_t r4 p3.1)) hN hw10 p2 hgb.1
        have esh : X9_shapeOf (A1 b) d1 (wI w) = some (ky_ix w) := by
          unfold X9_shapeOf
          simp (disch := omega) only [wI_lit, wI_eq]
          have hw9 : w = 0 ∨ w = 1 ∨ w = 2 ∨ w = 3 ∨ w = 4 ∨ w = 5 ∨ w = 6 ∨ w = 7 ∨ w = 8 ∨ w = 9 := by omega
          rcases hw9 with rfl | rfl | rfl | rfl | rfl | rfl | rfl | rfl | rfl | rfl <;> rfl
        rw [esh]
        simp only [b1s]
        rw [p1]
        simp only [b1s]
        have hR2 : ky_R b d' (ky_ci c w) := by
          intro r hr1 hr2
          rw [v3.2, p3.2]
          exact r3 (fun q => g3 (r2.mp q)) r hr1 hr2
        exact ⟨d', v1, v2, fun _ => hR2, ky_fs_t r4 (ky_fs_t p3.1 v3.1)⟩
  · rw [if_neg (by omega), if_neg (fun q => g q.1)]
    exact ⟨db, rfl, b2, fun q => (nomatch q), b3⟩
/-- the class's whole syntax pass -/
theorem y_loop {b N : Nat} {K P : Nat → Nat} {V : Nat → Int} (hN : qk_tok K P V N) : ∀ (n i k a : Nat) (c : Nat → Nat) (d : q_Dt), i + n = 400 → n + 1 < k → 2 * i ≤ a → a ≤ N → qk_C b K P V (N + 1) d → ky_S b d (a, 0) → ky_R b d c → ∃ d0, X9_take_b25 (A1 b) (b + 2) k (wI i) d = X9_take_b65 (A1 b) (b + 2) d0 ∧ ky_S b d0 (ky_all K V n c a) ∧ ky_ok K N (ky_all K V n c a) ∧ ky_fs b d d0 := by
  intro n
  have hN4 := hN.1
  induction n with
  | zero => intro i k a c d h1 h2 h3 h4; exfalso; omega
  | succ n ih =>
    intro i k a c d h1 h2 h3 h4 hC hS hR
    obtain ⟨k, rfl⟩ : ∃ k', k = k' + 1 := ⟨k - 1, by omega⟩
    have hKb := (hN.2.2.2.1 a).1
    have e7 : d.1 (b + 2) 7 = wI a := hS.1
    have e8 : d.1 (b + 2) 8 = wI (0 : Nat) := hS.2
    have ea : ky_all K V (n + 1) c a = if K a = 0 then (a, 0) else if (ky_tell K V c a).2 = 0 then ky_all K V n (ky_ci c (V a).toNat) (ky_tell K V c a).1 else ky_tell K V c a := rfl
    rw [ea, X9_take_b25.eq_2, e7, e8, y_kind hC hN4 h4]
    simp (disch := omega) only [wI_lit, wI_le, wI_eq, b1s, wJ_lit, wJ_eq]
    rw [if_neg (by omega), if_pos trivial]
    by_cases g : K a = 0
    · rw [if_pos (by omega), if_pos g]
      exact ⟨d, rfl, hS, ⟨h4, by show (0 : Nat) ≤ 2; omega⟩, ky_fs_r⟩
    · rw [if_neg (by omega), if_neg g]
      obtain ⟨d1, r1, r2, r3, r4⟩ := y_tell hC hN hS h4 hR
      have hb := ky_tell_b hN (c := c) h4
      rw [r1]
      simp only [b1s]
      rw [show wI i + wI (1 : Nat) = wI (i + 1 : Nat) from wI_add i 1]
      by_cases g2 : (ky_tell K V c a).2 = 0
      · rw [if_pos g2]
        have hb2 := hb.2.2 g2
        have r5 : ky_S b d1 ((ky_tell K V c a).1, 0) := by
          unfold ky_S at r2 ⊢
          rw [g2] at r2
          exact r2
        obtain ⟨d0, v1, v2, v3, v4⟩ := ih (i + 1) k (ky_tell K V c a).1 _ d1 (by omega) (by omega) (by omega) hb.1.1 (ky_C_f hC r4) r5 (r3 g2)
        exact ⟨d0, v1, v2, v3, ky_fs_t r4 v4⟩
      · rw [if_neg g2]
        obtain ⟨k, rfl⟩ : ∃ k', k = k' + 1 := ⟨k - 1, by omega⟩
        refine ⟨d1, ?_, r2, hb.1, r4⟩
        have hb3 := hb.1.2
        rw [X9_take_b25.eq_2, r2.2]
        simp (disch := omega) only [wI_lit, wI_le, wI_eq]
        by_cases g3 : 400 ≤ i + 1
        · rw [if_pos (by omega)]
        · rw [if_neg (by omega), if_neg (by omega)]
theorem y_take {b L : Nat} {B : Nat → Int} {dt : q_Dt} (h : qk_tx b L B dt) {K P : Nat → Nat} {V : Nat → Int} {N : Nat} (hK : K = fun n => qk_k B L (qk_st B L n)) (hP : P = qk_st B L) (hV : V = fun n => qk_v B L (qk_st B L n)) (hNe : N = qk_N K 400 0) : ∃ d', X9_take (A1 b) dt (b + 2) = some (wI (ky_all K V 400 (fun _ => 0) 0).2, d') ∧ qk_C b K P V (N + 1) d' ∧ d'.1 (b + 2) 6 = 0 ∧ d'.1 (b + 2) 7 = wI (ky_all K V 400 (fun _ => 0) 0).1 ∧ d'.1 (b + 2) 9 = (if (ky_all K V 400 (fun _ => 0) 0).2 = 0 then wI (-1) else wI (P (ky_all K V 400 (fun _ => 0) 0).1)) ∧ (∀ x, x ≠ b + 2 → d'.1 x = dt.1 x) ∧ d'.2.2 = dt.2.2 ∧ ∀ x, x ≠ b + 6 → x ≠ b + 8 → x ≠ b + 10 → x ≠ b + 14 → d'.2.1 x = dt.2.1 x := by
  have hN := qk_tok_i B h.1
  obtain ⟨d1, r1, r2, r3⟩ := c_cut h
  rw [← hK, ← hV, ← hP, ← hNe] at hN r2
  have hN4 := hN.1
  obtain ⟨d2, hd2⟩ : ∃ z, z = q_pI (q_pI (q_pI d1 (b + 2) 6 0) (b + 2) 8 0) (b + 2) 7 0 := ⟨_, rfl⟩
  obtain ⟨d3, hd3⟩ : ∃ z, z = q_pJ (q_pJ (q_pJ (q_pJ (q_pJ d2 (b + 14) 3 8) (b + 14) 4 6) (b + 14) 5 6) (b + 14) 6 6) (b + 14) 7 4 := ⟨_, rfl⟩
  have er : X9_makeRoom (A1 b) d2 (b + 2) = some d3 := by
    have rp : ∀ (d : q_Dt) (i : Nat) (v : Int64), i < 8 → X5_put (A1 b) d (b + 13) (wI i) v = some (q_pJ d (b + 14) i v) := fun d i v hi => r_put (s13_0 b) (l14 b) (by omega) hi
    unfold X9_makeRoom
    rw [s2_5, show (3 : Int32) = wI (3 : Nat) from rfl, show (4 : Int32) = wI (4 : Nat) from rfl, show (5 : Int32) = wI (5 : Nat) from rfl, show (6 : Int32) = wI (6 : Nat) from rfl, show (7 : Int32) = wI (7 : Nat) from rfl, rp d2 3 8 (by omega)]
    simp only [b1s]
    rw [rp _ 4 6 (by omega)]
    simp only [b1s]
    rw [rp _ 5 6 (by omega)]
    simp only [b1s]
    rw [rp _ 6 6 (by omega)]
    simp only [b1s]
    rw [rp _ 7 4 (by omega)]
    simp only [b1s]
    rw [← hd3]
  have hC3 : qk_C b K P V (N + 1) d3 := by
    intro j hj
    rw [hd3, q_pJ_o (show b + 6 ≠ b + 14 by omega), q_pJ_o (show b + 6 ≠ b + 14 by omega), q_pJ_o (show b + 6 ≠ b + 14 by omega), q_pJ_o (show b + 6 ≠ b + 14 by omega), q_pJ_o (show b + 6 ≠ b + 14 by omega), q_pJ_o (show b + 8 ≠ b + 14 by omega), q_pJ_o (show b + 8 ≠ b + 14 by omega), q_pJ_o (show b + 8 ≠ b + 14 by omega), q_pJ_o (show b + 8 ≠ b + 14 by omega), q_pJ_o (show b + 8 ≠ b + 14 by omega), q_pJ_o (show b + 10 ≠ b + 14 by omega), q_pJ_o (show b + 10 ≠ b + 14 by omega), q_pJ_o (show b + 10 ≠ b + 14 by omega), q_pJ_o (show b + 10 ≠ b + 14 by omega), q_pJ_o (show b + 10 ≠ b + 14 by omega), hd2]
    exact r2 j hj
  have hS3 : ky_S b d3 (0, 0) := by
    rw [hd3, hd2]
    refine ⟨?_, ?_⟩
    · show (q_pI (q_pI (q_pI d1 (b + 2) 6 0) (b + 2) 8 0) (b + 2) 7 0).1 (b + 2) 7 = _
      rw [q_pI_s]; rfl
    · show (q_pI (q_pI (q_pI d1 (b + 2) 6 0) (b + 2) 8 0) (b + 2) 7 0).1 (b + 2) 8 = _
      rw [q_pI_k (by omega), q_pI_s]; rfl
  have hR3 : ky_R b d3 (fun _ => 0) := by
    intro r hr1 hr2
    refine ⟨Nat.zero_le _, ?_⟩
    rw [hd3]
    have hr3 : r = 3 ∨ r = 4 ∨ r = 5 ∨ r = 6 ∨ r = 7 := by omega
    rcases hr3 with rfl | rfl | rfl | rfl | rfl
    · rw [q_pJ_k (by omega), q_pJ_k (by omega), q_pJ_k (by omega), q_pJ_k (by omega), q_pJ_s]; rfl
    · rw [q_pJ_k (by omega), q_pJ_k (by omega), q_pJ_k (by omega), q_pJ_s]; rfl
    · rw [q_pJ_k (by omega), q_pJ_k (by omega), q_pJ_s]; rfl
    · rw [q_pJ_k (by omega), q_pJ_s]; rfl
    · rw [q_pJ_s]; rfl
  obtain ⟨d0, v1, v2, v3, v4⟩ := y_loop hN 400 0 q_FU 0 (fun _ => 0) d3 (by omega) (by unfold q_FU; omega) (by omega) (by omega) hC3 hS3 hR3
  obtain ⟨s, hs⟩ : ∃ z, z = ky_all K V 400 (fun _ => 0) 0 := ⟨_, rfl⟩
  rw [← hs] at v2 v3 ⊢
  have hv3 := v3.1
  have hv4 := v3.2
  have hC0 := ky_C_f hC3 v4
  have e6 : d0.1 (b + 2) 6 = 0 := by
    rw [v4.2.1 6 (by omega) (by omega) (by omega), hd3, hd2]
    show (q_pI (q_pI (q_pI d1 (b + 2) 6 0) (b + 2) 8 0) (b + 2) 7 0).1 (b + 2) 6 = _
    rw [q_pI_k (by omega), q_pI_k (by omega), q_pI_s]
  have fx : ∀ x, x ≠ b + 2 → d0.1 x = dt.1 x := by
    intro x hx
    rw [v4.1 x hx, hd3, hd2]
    show (q_pI (q_pI (q_pI d1 (b + 2) 6 0) (b + 2) 8 0) (b + 2) 7 0).1 x = _
    rw [q_pI_o hx, q_pI_o hx, q_pI_o hx, r3.1]
  have fr : d0.2.2 = dt.2.2 := by
    rw [v4.2.2.1, hd3, hd2]
    exact r3.2.1
  have fj : ∀ x, x ≠ b + 6 → x ≠ b + 8 → x ≠ b + 10 → x ≠ b + 14 → d0.2.1 x = dt.2.1 x := by
    intro x h1 h2 h3 h4
    rw [v4.2.2.2 x h4, hd3, q_pJ_o h4, q_pJ_o h4, q_pJ_o h4, q_pJ_o h4, q_pJ_o h4, hd2]
    exact r3.2.2 x h1 h2 h3
  refine ⟨q_pI d0 (b + 2) 9 (if s.2 = 0 then wI (-1) else wI (P s.1)), ?_, fun j hj => hC0 j hj, ?_, ?_, q_pI_s, fun x hx => (q_pI_o hx).trans (fx x hx), fr, fj⟩
  · unfold X9_take
    rw [r1]
    simp only [b1s, o1s]
    rw [← hd2, er]
    simp only [b1s]
    refine Eq.trans v1 ?_
    unfold X9_take_b65 X9_take_b88
    rw [v2.1, v2.2, s2_2, r_small (s7_0 b) (l8 b) (by omega) (by omega), (hC0 s.1 (by omega)).2.1, wJ_wI]
    simp (disch := omega) only [o1s, b1s, wI_lit, wI_eq]
    by_cases g : s.2 = 0
    · rw [if_pos (by omega), if_pos g, q_pI_k (by omega), v2.2]
      rfl
    · rw [if_neg (by omega), if_neg g, q_pI_k (by omega), v2.2]
  · rw [q_pI_k (by omega)]
    exact e6
  · rw [q_pI_k (by omega)]
    exact v2.1
