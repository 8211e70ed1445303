/-! level two: the class's steps through a text told -/
def kn_sw (s : Nat) : Nat := [0, 4, 5].getD s 0
theorem kn_sw_i : ∀ s, s ≤ 2 → kn_sw s ≤ 5 ∧ ∀ s2, s2 ≤ 2 → kn_sw s = kn_sw s2 → s = s2 := by decide
def kn_add (M : q_Nm) (v : Int) (s z : Nat) : q_Nm := (M.1 + 1, fun k => if k = M.1 then v else M.2.1 k, fun k => if k = M.1 then s else M.2.2.1 k, fun k => if k = M.1 then z else M.2.2.2 k)
theorem kn_add_wf {M : q_Nm} {v : Int} {s z : Nat} (h : kn_wf M) (hn : M.1 < 20) (hv : 0 ≤ v ∧ v < 282429536481) (hs : s ≤ 2) (hz : z ≤ 7) : kn_wf (kn_add M v s z) := by
  refine ⟨by show M.1 + 1 ≤ 20; omega, fun k hk => ?_⟩
  have hk2 : k < M.1 + 1 := hk
  show (0 ≤ (if k = M.1 then v else M.2.1 k) ∧ (if k = M.1 then v else M.2.1 k) < 282429536481) ∧ (if k = M.1 then s else M.2.2.1 k) ≤ 2 ∧ (if k = M.1 then z else M.2.2.2 k) ≤ 7
  by_cases g : k = M.1
  · rw [if_pos g, if_pos g, if_pos g]; exact ⟨hv, hs, hz⟩
  · rw [if_neg g, if_neg g, if_neg g]; exact h.2 k (by omega)
theorem ky_num_f {F : Nat × Nat} {lo hi v : Int} {p : Nat} (h : F.1 ≠ 0) : ky_num F lo hi v p = F := if_neg (fun q => h q.1)
theorem ky_bad_f {F : Nat × Nat} {k p : Nat} (h : F.1 ≠ 0) : ky_bad F k p = F := if_neg h
theorem ky_num_g {F : Nat × Nat} {lo hi v : Int} {p : Nat} (h : lo ≤ v ∧ v ≤ hi) : ky_num F lo hi v p = F := if_neg (fun q => q.2 h)
theorem ky_num_0 {F : Nat × Nat} {lo hi v : Int} {p : Nat} (h : (ky_num F lo hi v p).1 = 0) : F.1 = 0 ∧ (lo ≤ v ∧ v ≤ hi) := by
  unfold ky_num at h
  by_cases g : F.1 = 0 ∧ ¬ (lo ≤ v ∧ v ≤ hi)
  · rw [if_pos g] at h; exact nomatch h
  · rw [if_neg g] at h
    refine ⟨h, ?_⟩
    by_cases g2 : lo ≤ v ∧ v ≤ hi
    · exact g2
    · exact absurd ⟨h, g2⟩ g
theorem ky_num_b {F : Nat × Nat} {lo hi v : Int} {p : Nat} (h : ¬ (lo ≤ v ∧ v ≤ hi)) : (ky_num F lo hi v p).1 ≠ 0 := fun q => h (ky_num_0 q).2
theorem ky_bad_n {F : Nat × Nat} {k p : Nat} (hk : k ≠ 0) : (ky_bad F k p).1 ≠ 0 := by
  unfold ky_bad
  by_cases g : F.1 = 0
  · rw [if_pos g]; exact hk
  · rw [if_neg g]; exact g
/-- the place of a fault -/
def kd_7 (z : Int32) (F : Nat × Nat) : Prop := (F.1 ≠ 0 → z = wI F.2) ∧ (F.1 = 0 → z = wI (-1))
/-- the class's place among the tokens, its fault, its names -/
def kd_Y (b N : Nat) (K P : Nat → Nat) (V : Nat → Int) (d : q_Dt) (a : Nat) (F : Nat × Nat) (M : q_Nm) : Prop := qk_C b K P V (N + 1) d ∧ d.1 (b + 1) 5 = wI a ∧ d.1 (b + 1) 6 = wI F.1 ∧ kd_7 (d.1 (b + 1) 7) F ∧ d.1 (b + 1) 4 = wI M.1 ∧ ∀ k, k < M.1 → d.2.1 (b + 16) k = wJ (M.2.1 k) ∧ d.2.1 (b + 18) k = wJ (kn_sw (M.2.2.1 k)) ∧ d.2.1 (b + 20) k = wJ (M.2.2.2 k)
def kd_fr (b t : Nat) (dt d : q_Dt) : Prop := ∀ x, x ≠ b + 1 → x ≠ b + 16 → x ≠ b + 18 → x ≠ b + 20 → (x < t ∨ t + 72 ≤ x) → d.1 x = dt.1 x ∧ d.2.1 x = dt.2.1 x ∧ d.2.2 x = dt.2.2 x
/-- nothing but the class's names changes -/
def kd_fn (b : Nat) (dt d : q_Dt) : Prop := (∀ x, x ≠ b + 1 → d.1 x = dt.1 x) ∧ (∀ x, x ≠ b + 16 → x ≠ b + 18 → x ≠ b + 20 → d.2.1 x = dt.2.1 x) ∧ d.2.2 = dt.2.2
theorem kd_fr_r {b t : Nat} {dt : q_Dt} : kd_fr b t dt dt := fun _ _ _ _ _ _ => ⟨rfl, rfl, rfl⟩
theorem kd_fr_t {b t : Nat} {dt d e : q_Dt} (h : kd_fr b t dt d) (h' : kd_fr b t d e) : kd_fr b t dt e := fun x h1 h2 h3 h4 h5 => ⟨(h' x h1 h2 h3 h4 h5).1.trans (h x h1 h2 h3 h4 h5).1, (h' x h1 h2 h3 h4 h5).2.1.trans (h x h1 h2 h3 h4 h5).2.1, (h' x h1 h2 h3 h4 h5).2.2.trans (h x h1 h2 h3 h4 h5).2.2⟩
theorem kd_fn_r {b : Nat} {dt : q_Dt} : kd_fn b dt dt := ⟨fun _ _ => rfl, fun _ _ _ _ => rfl, rfl⟩
theorem kd_fn_t {b : Nat} {dt d e : q_Dt} (h : kd_fn b dt d) (h' : kd_fn b d e) : kd_fn b dt e := ⟨fun x hx => (h'.1 x hx).trans (h.1 x hx), fun x h1 h2 h3 => (h'.2.1 x h1 h2 h3).trans (h.2.1 x h1 h2 h3), h'.2.2.trans h.2.2⟩
theorem kd_fn_fr {b t : Nat} {dt d : q_Dt} (h : kd_fn b dt d) : kd_fr b t dt d := fun x h1 h2 h3 h4 _ => ⟨h.1 x h1, h.2.1 x h2 h3 h4, by rw [h.2.2]⟩
theorem kd_TT {b t : Nat} {dt d : q_Dt} {T : q_Tl} (h : q_TT b t dt T) (hf : kd_fn b dt d) : q_TT b t d T := T_keep h (fun x h1 h2 => by
  have ht := h.2.1
  exact ⟨hf.1 x (by omega), hf.2.1 x (by omega) (by omega) (by omega), by rw [hf.2.2]⟩)
theorem kd_C_n {b N : Nat} {K P : Nat → Nat} {V : Nat → Int} {dt d : q_Dt} (h : qk_C b K P V N dt) (hf : kd_fn b dt d) : qk_C b K P V N d := by
  intro j hj
  rw [hf.2.1 (b + 6) (by omega) (by omega) (by omega), hf.2.1 (b + 8) (by omega) (by omega) (by omega), hf.2.1 (b + 10) (by omega) (by omega) (by omega)]
  exact h j hj
theorem y_refuse {b N : Nat} {K P : Nat → Nat} {V : Nat → Int} {d : q_Dt} {a : Nat} {F : Nat × Nat} {M : q_Nm} (h : kd_Y b N K P V d a F M) (hF : F.1 ≤ 5) {k p : Nat} (hk : 1 ≤ k ∧ k ≤ 5) : ∃ d', X3_refuse (A1 b) d (b + 1) (wI k) (wI p) = some d' ∧ kd_Y b N K P V d' a (ky_bad F k p) M ∧ kd_fn b d d' ∧ (ky_bad F k p).1 ≤ 5 := by
  obtain ⟨h1, h2, h3, h4, h5, h6⟩ := h
  unfold X3_refuse ky_bad
  rw [h3]
  simp (disch := omega) only [wI_lit, wI_eq, o1s]
  by_cases g : F.1 = 0
  · rw [if_pos (by omega), if_pos g]
    refine ⟨_, rfl, ⟨h1, ?_, ?_, ⟨fun _ => q_pI_s, fun q => absurd q (show ¬ k = 0 by omega)⟩, ?_, h6⟩, ⟨fun x hx => ?_, fun _ _ _ _ => rfl, rfl⟩, hk.2⟩
    · rw [q_pI_k (by omega), q_pI_k (by omega)]; exact h2
    · rw [q_pI_k (by omega), q_pI_s]
    · rw [q_pI_k (by omega), q_pI_k (by omega)]; exact h5
    · rw [q_pI_o hx, q_pI_o hx]
  · rw [if_neg (by omega), if_neg g]
    exact ⟨d, rfl, ⟨h1, h2, h3, h4, h5, h6⟩, kd_fn_r, hF⟩
theorem y_place {b N : Nat} {K P : Nat → Nat} {V : Nat → Int} {d : q_Dt} (hC : qk_C b K P V (N + 1) d) (hN : N ≤ 400) {a : Nat} (ha : a ≤ N) : X5_small (A1 b) d ((A1 b).2.2 ((A1 b).2.2 (b + 1) 0) 2) (wI a) = some (wI (P a)) := by
  rw [s1_0, s2_2, r_small (s7_0 b) (l8 b) (by omega) (by omega), (hC a (by omega)).2.1, wJ_wI]
theorem y_valm {b N : Nat} {K P : Nat → Nat} {V : Nat → Int} {d : q_Dt} (hC : qk_C b K P V (N + 1) d) (hN : N ≤ 400) {a : Nat} (ha : a ≤ N) : X5_at (A1 b) d ((A1 b).2.2 ((A1 b).2.2 (b + 1) 0) 3) (wI a) = some (wJ (V a)) := by
  rw [s1_0]
  exact y_val hC hN ha
theorem y_kindm {b N : Nat} {K P : Nat → Nat} {V : Nat → Int} {d : q_Dt} (hC : qk_C b K P V (N + 1) d) (hN : N ≤ 400) {a : Nat} (ha : a ≤ N) : X5_at (A1 b) d ((A1 b).2.2 ((A1 b).2.2 (b + 1) 0) 1) (wI a) = some (wJ (K a)) := by
  rw [s1_0]
  exact y_kind hC hN ha
theorem y_step {b N : Nat} {K P : Nat → Nat} {V : Nat → Int} {d : q_Dt} {a a2 : Nat} {F : Nat × Nat} {M : q_Nm} (h : kd_Y b N K P V d a F M) : kd_Y b N K P V (q_pI d (b + 1) 5 (wI a2)) a2 F M ∧ kd_fn b d (q_pI d (b + 1) 5 (wI a2)) := by
  obtain ⟨h1, h2, h3, h4, h5, h6⟩ := h
  refine ⟨⟨h1, q_pI_s, ?_, ?_, ?_, h6⟩, ⟨fun x hx => q_pI_o hx, fun _ _ _ _ => rfl, rfl⟩⟩
  · rw [q_pI_k (by omega)]; exact h3
  · rw [q_pI_k (by omega)]; exact h4
  · rw [q_pI_k (by omega)]; exact h5
theorem y_number {b N : Nat} {K P : Nat → Nat} {V : Nat → Int} {d : q_Dt} {a : Nat} {F : Nat × Nat} {M : q_Nm} (h : kd_Y b N K P V d a F M) (hN : qk_tok K P V N) (hF : F.1 ≤ 5) (ha : a ≤ N) {a2 : Nat} (ea : a2 = a + 1) (hk : K a = 3) {lo hi : Int} (hlo : 0 ≤ lo ∧ lo ≤ 9999) (hhi : -2 ≤ hi ∧ hi ≤ 9999) : ∃ (v : Int) (d' : q_Dt), X3_number (A1 b) d (b + 1) (wI lo) (wI hi) = some (wI v, d') ∧ kd_Y b N K P V d' a2 (ky_num F lo hi (V a) (P a)) M ∧ kd_fn b d d' ∧ (ky_num F lo hi (V a) (P a)).1 ≤ 5 ∧ v = (if lo ≤ V a ∧ V a ≤ hi then V a else lo) := by
  subst ea
  have hN4 := hN.1
  have hv := (hN.2.2.2.2.2 a).1 hk
  have hP := (hN.2.2.2.1 a).2
  have hb51 : ∀ (e : q_Dt) (F2 : Nat × Nat) (z : Int), kd_Y b N K P V e a F2 M → ∃ d', X3_number_b51 (A1 b) (b + 1) (wJ z) e = some (wI z, d') ∧ kd_Y b N K P V d' (a + 1) F2 M ∧ kd_fn b e d' := by
    intro e F2 z he
    unfold X3_number_b51
    simp only [o1s]
    rw [he.2.1, wJ_wI, show wI a + 1 = wI (a + 1 : Nat) from wI_add a 1]
    have h2 := y_step (a2 := a + 1) he
    exact ⟨_, rfl, h2.1, h2.2⟩
  have hb29 : ¬ (lo ≤ V a ∧ V a ≤ hi) → ∃ d', X3_number_b29 (A1 b) (b + 1) (wI lo) d = some (wI lo, d') ∧ kd_Y b N K P V d' (a + 1) (ky_num F lo hi (V a) (P a)) M ∧ kd_fn b d d' ∧ (ky_num F lo hi (V a) (P a)).1 ≤ 5 := by
    intro g
    have e3 : ky_num F lo hi (V a) (P a) = ky_bad F 5 (P a) := by
      unfold ky_num ky_bad
      by_cases g4 : F.1 = 0
      · rw [if_pos ⟨g4, g⟩, if_pos g4]
      · rw [if_neg (fun q => g4 q.1), if_neg g4]
    obtain ⟨d1, r1, r2, r3, r4⟩ := y_refuse (p := P a) h hF (k := 5) (by omega)
    obtain ⟨d2, p1, p2, p3⟩ := hb51 d1 _ lo r2
    unfold X3_number_b29
    rw [h.2.1, y_place h.1 hN4 ha]
    simp only [b1s]
    rw [show (5 : Int32) = wI (5 : Nat) from rfl, r1]
    simp only [b1s]
    rw [wI_wJ (by omega) (by omega), p1, e3]
    exact ⟨d2, rfl, p2, kd_fn_t r3 p3, r4⟩
  unfold X3_number
  rw [h.2.1, y_valm h.1 hN4 ha]
  simp (disch := omega) only [b1s, wI_wJ, wJ_lt, wJ_le]
  by_cases g : lo ≤ V a ∧ V a ≤ hi
  · rw [if_neg (by omega), if_pos (by omega)]
    obtain ⟨d2, p1, p2, p3⟩ := hb51 d F (V a) h
    rw [p1, ky_num_g g]
    exact ⟨V a, d2, rfl, p2, p3, hF, by rw [if_pos g]⟩
  · obtain ⟨d2, p1, p2, p3, p4⟩ := hb29 g
    refine ⟨lo, d2, ?_, p2, p3, p4, by rw [if_neg g]⟩
    by_cases g2 : V a < lo
    · rw [if_pos g2]; exact p1
    · rw [if_neg g2, if_neg (by omega)]; exact p1
def kn_ix (M : q_Nm) (v : Int) : Nat → Nat → Int
  | 0, _ => -1
  | n + 1, i => if M.2.1 i = v then (i : Int) else kn_ix M v n (i + 1)
theorem kn_ix_b {M : q_Nm} {v : Int} : ∀ n i, (kn_ix M v n i = -1 ∧ ∀ j, i ≤ j → j < i + n → M.2.1 j ≠ v) ∨ ∃ j : Nat, kn_ix M v n i = j ∧ i ≤ j ∧ j < i + n ∧ M.2.1 j = v ∧ ∀ j2, i ≤ j2 → j2 < j → M.2.1 j2 ≠ v := by
  intro n
  induction n with
  | zero => intro i; exact Or.inl ⟨rfl, fun j h1 h2 => absurd h2 (by omega)⟩
  | succ n ih =>
    intro i
    by_cases g : M.2.1 i = v
    · have e : kn_ix M v (n + 1) i = i := if_pos g
      exact Or.inr ⟨i, e, by omega, by omega, g, fun j2 h1 h2 => absurd h2 (by omega)⟩
    · have e : kn_ix M v (n + 1) i = kn_ix M v n (i + 1) := if_neg g
      rw [e]
      rcases ih (i + 1) with h | ⟨j, h1, h2, h3, h4, h5⟩
      · refine Or.inl ⟨h.1, fun j h1 h2 => ?_⟩
        by_cases g2 : j = i
        · rw [g2]; exact g
        · exact h.2 j (by omega) (by omega)
      · refine Or.inr ⟨j, h1, by omega, by omega, h4, fun j2 h6 h7 => ?_⟩
        by_cases g2 : j2 = i
        · rw [g2]; exact g
        · exact h5 j2 (by omega) h7
theorem y_index {b N : Nat} {K P : Nat → Nat} {V : Nat → Int} {d : q_Dt} {a : Nat} {F : Nat × Nat} {M : q_Nm} (h : kd_Y b N K P V d a F M) (hM : kn_wf M) {v : Int} (hv : 0 ≤ v ∧ v < 282429536481) : X3_nameIndex (A1 b) d (b + 1) (wJ v) = some (wI (kn_ix M v M.1 0)) := by
  have hM20 := hM.1
  have hl : ∀ n i k : Nat, i + n = M.1 → n < k → X3_nameIndex_b2 (A1 b) d (b + 1) (wJ v) k (wI i) = some (wI (kn_ix M v n i)) := by
    intro n
    induction n with
    | zero =>
      intro i k z1 z2 
      obtain ⟨k, rfl⟩ : ∃ m, k = m + 1 := ⟨k - 1, by omega⟩
      have e : i = M.1 := by omega
      rw [X3_nameIndex_b2.eq_2, h.2.2.2.2.1]
      simp (disch := omega) only [wI_le]
      rw [if_pos (by omega)]
      rfl
    | succ n ih =>
      intro i k z1 z2 
      obtain ⟨k, rfl⟩ : ∃ m, k = m + 1 := ⟨k - 1, by omega⟩
      have hi : i < M.1 := by omega
      have hih := ih (i + 1) k (by omega) (by omega)
      have hMi := (hM.2 i hi).1
      have ei : wI i + 1 = wI (i + 1 : Nat) := wI_add i 1
      rw [X3_nameIndex_b2.eq_2, h.2.2.2.2.1, s1_1, r_at (s15_0 b) (l16 b) (by omega) (by omega), (h.2.2.2.2.2 i hi).1, ei, hih]
      simp (disch := omega) only [wI_le, b1s, wJ_eq]
      rw [if_neg (by omega)]
      by_cases g : M.2.1 i = v
      · have e : kn_ix M v (n + 1) i = i := if_pos g
        rw [if_pos g, e]
      · have e : kn_ix M v (n + 1) i = kn_ix M v n (i + 1) := if_neg g
        rw [if_neg g, e]
  exact hl M.1 0 q_FU (by omega) (by unfold q_FU; omega)
/-- a new name: what becomes of the fault -/
def kz_du (P : Nat → Nat) (V : Nat → Int) (M : q_Nm) (F : Nat × Nat) (a : Nat) : Nat × Nat := if kn_has M (V a) M.1 0 = true then ky_bad F 3 (P a) else F
theorem kz_du_f {P : Nat → Nat} {V : Nat → Int} {M : q_Nm} {F : Nat × Nat} {a : Nat} (h : F.1 ≠ 0) : kz_du P V M F a = F := by
  unfold kz_du
  rw [ky_bad_f h, ite_self]
theorem kz_du_0 {P : Nat → Nat} {V : Nat → Int} {M : q_Nm} {F : Nat × Nat} {a : Nat} (h : (kz_du P V M F a).1 = 0) : F.1 = 0 ∧ ¬ kn_has M (V a) M.1 0 = true := by
  unfold kz_du at h
  by_cases g : kn_has M (V a) M.1 0 = true
  · rw [if_pos g] at h; exact absurd h (ky_bad_n (by omega))
  · rw [if_neg g] at h; exact ⟨h, g⟩
theorem y_newName {b N : Nat} {K P : Nat → Nat} {V : Nat → Int} {d : q_Dt} {a : Nat} {F : Nat × Nat} {M : q_Nm} (h : kd_Y b N K P V d a F M) (hN : qk_tok K P V N) (hM : kn_wf M) (hM2 : M.1 < 20) (hF : F.1 ≤ 5) (ha : a ≤ N) {a2 : Nat} (ea : a2 = a + 1) (hk : K a = 2) {s z : Nat} (hs : s ≤ 2) (hz : z ≤ 7) : ∃ d', X3_newName (A1 b) d (b + 1) (wI (kn_sw s)) (wI z) = some d' ∧ kd_Y b N K P V d' a2 (kz_du P V M F a) (kn_add M (V a) s z) ∧ kd_fn b d d' ∧ (kz_du P V M F a).1 ≤ 5 := by
  subst ea
  have hN4 := hN.1
  have hv := (hN.2.2.2.2.2 a).2.2 hk
  have hsw := (kn_sw_i s hs).1
  have hb43 : ∀ (e : q_Dt) (F2 : Nat × Nat), kd_Y b N K P V e a F2 M → ∃ d', X3_newName_b43 (A1 b) (b + 1) (wI (kn_sw s)) (wI z) (wJ (V a)) e = some d' ∧ kd_Y b N K P V d' (a + 1) F2 (kn_add M (V a) s z) ∧ kd_fn b e d' := by
    intro e F2 he
    obtain ⟨h1, h2, h3, h4, h5, h6⟩ := he
    unfold X3_newName_b43
    rw [h5, s1_1, r_put (s15_0 b) (l16 b) (by omega) hM2]
    simp only [b1s, q_pJ_1]
    rw [h5, s1_2, r_put (s17_0 b) (l18 b) (by omega) hM2]
    simp only [b1s, q_pJ_1]
    rw [h5, s1_3, r_put (s19_0 b) (l20 b) (by omega) hM2]
    simp only [b1s, q_pJ_1, o1s]
    have e5 : (q_pI (q_pJ (q_pJ (q_pJ e (b + 16) M.1 (wJ (V a))) (b + 18) M.1 (wI (kn_sw s)).toInt64) (b + 20) M.1 (wI z).toInt64) (b + 1) 4 (wI M.1 + 1)).1 (b + 1) 5 = wI a := by
      rw [q_pI_k (by omega)]; exact h2
    rw [h5, e5, show wI a + 1 = wI (a + 1 : Nat) from wI_add a 1, show wI M.1 + 1 = wI (M.1 + 1 : Nat) from wI_add M.1 1, wI_wJ (by omega) (by omega), wI_wJ (by omega) (by omega)]
    refine ⟨_, rfl, ⟨fun j hj => ?_, q_pI_s, ?_, ?_, ?_, fun k hk => ?_⟩, ⟨fun x hx => ?_, fun x x1 x2 x3 => ?_, rfl⟩⟩
    · rw [q_pI_2, q_pI_2, q_pJ_o (show b + 6 ≠ b + 20 by omega), q_pJ_o (show b + 6 ≠ b + 18 by omega), q_pJ_o (show b + 6 ≠ b + 16 by omega), q_pJ_o (show b + 8 ≠ b + 20 by omega), q_pJ_o (show b + 8 ≠ b + 18 by omega), q_pJ_o (show b + 8 ≠ b + 16 by omega), q_pJ_o (show b + 10 ≠ b + 20 by omega), q_pJ_o (show b + 10 ≠ b + 18 by omega), q_pJ_o (show b + 10 ≠ b + 16 by omega)]
      exact h1 j hj
    · rw [q_pI_k (by omega), q_pI_k (by omega)]; exact h3
    · rw [q_pI_k (by omega), q_pI_k (by omega)]; exact h4
    · rw [q_pI_k (by omega), q_pI_s]; rfl
    · have hk2 : k < M.1 + 1 := hk
      rw [q_pI_2, q_pI_2, q_pJ_o (show b + 16 ≠ b + 20 by omega), q_pJ_o (show b + 16 ≠ b + 18 by omega), q_pJ_o (show b + 18 ≠ b + 20 by omega)]
      show _ = wJ (if k = M.1 then V a else M.2.1 k) ∧ _ = wJ (kn_sw (if k = M.1 then s else M.2.2.1 k)) ∧ _ = wJ ((if k = M.1 then z else M.2.2.2 k : Nat) : Int)
      by_cases g : k = M.1
      · rw [if_pos g, if_pos g, if_pos g, g, q_pJ_s, q_pJ_s, q_pJ_s]
        exact ⟨rfl, rfl, rfl⟩
      · rw [if_neg g, if_neg g, if_neg g, q_pJ_k g, q_pJ_k g, q_pJ_o (show b + 18 ≠ b + 16 by omega), q_pJ_k g, q_pJ_o (show b + 20 ≠ b + 18 by omega), q_pJ_o (show b + 20 ≠ b + 16 by omega)]
        exact h6 k (by omega)
    · rw [q_pI_o hx, q_pI_o hx]; rfl
    · rw [q_pI_2, q_pI_2, q_pJ_o x3, q_pJ_o x2, q_pJ_o x1]
  unfold X3_newName
  rw [h.2.1, y_valm h.1 hN4 ha]
  simp only [b1s]
  rw [y_index h hM hv]
  simp only [b1s]
  rw [y_place h.1 hN4 ha]
  simp only [b1s]
  have hhas := kn_has_i (M := M) (v := V a) M.1 0
  unfold kz_du
  rcases kn_ix_b (M := M) (v := V a) M.1 0 with g | ⟨j, g1, g2, g3, g4, g5⟩
  · rw [g.1, if_pos (show wI (-1) = -1 from rfl)]
    have gh : ¬ kn_has M (V a) M.1 0 = true := by
      rw [hhas]
      rintro ⟨j, j1, j2, j3⟩
      exact g.2 j j1 j2 j3
    rw [if_neg gh]
    obtain ⟨d', p1, p2, p3⟩ := hb43 d F h
    exact ⟨d', p1, p2, p3, hF⟩
  · have gh : kn_has M (V a) M.1 0 = true := hhas.mpr ⟨j, g2, g3, g4⟩
    obtain ⟨d1, r1, r2, r3, r4⟩ := y_refuse (p := P a) h hF (k := 3) (by omega)
    obtain ⟨d', p1, p2, p3⟩ := hb43 d1 _ r2
    rw [g1, if_neg (show ¬ wI (j : Int) = -1 by rw [show (-1 : Int32) = wI (-1) from rfl, wI_eq (by omega) (by omega) (by omega) (by omega)]; omega), if_pos gh, show (3 : Int32) = wI (3 : Nat) from rfl, r1]
    simp only [b1s]
    exact ⟨d', p1, p2, kd_fn_t r3 p3, r4⟩
/-- names told once each -/
def kn_un (M : q_Nm) : Prop := ∀ i j, i < M.1 → j < M.1 → M.2.1 i = M.2.1 j → i = j
theorem kn_un_add {M : q_Nm} {v : Int} {s z : Nat} (h : kn_un M) (h2 : ¬ kn_has M v M.1 0 = true) : kn_un (kn_add M v s z) := by
  intro i j hi hj
  have hi2 : i < M.1 + 1 := hi
  have hj2 : j < M.1 + 1 := hj
  rw [kn_has_i] at h2
  show (if i = M.1 then v else M.2.1 i) = (if j = M.1 then v else M.2.1 j) → i = j
  by_cases g : i = M.1
  · by_cases g2 : j = M.1
    · intro _; omega
    · rw [if_pos g, if_neg g2]
      intro q
      exact absurd ⟨j, by omega, by omega, q.symm⟩ h2
  · by_cases g2 : j = M.1
    · rw [if_neg g, if_pos g2]
      intro q
      exact absurd ⟨i, by omega, by omega, q⟩ h2
    · rw [if_neg g, if_neg g2]
      exact h i j (by omega) (by omega)
/-- the number found, and nothing else when it is the only one -/
theorem y_numNamed {b N : Nat} {K P : Nat → Nat} {V : Nat → Int} {d : q_Dt} {a : Nat} {F : Nat × Nat} {M : q_Nm} (h : kd_Y b N K P V d a F M) (hN : qk_tok K P V N) (hM : kn_wf M) (ha : a ≤ N) {a2 : Nat} (ea : a2 = a + 1) (hk : K a = 2) {s : Nat} (hs : s ≤ 2) : ∃ (r : Int) (d' : q_Dt), X3_numberNamed (A1 b) d (b + 1) (wI (kn_sw s)) = some (wI r, d') ∧ kd_Y b N K P V d' a2 F M ∧ kd_fn b d d' ∧ (-1 ≤ r ∧ r ≤ 7) ∧ (kn_un M → r = ky_oi (kn_fd M (V a) s M.1 0)) := by
  subst ea
  have hN4 := hN.1
  have hv := (hN.2.2.2.2.2 a).2.2 hk
  have hsw := kn_sw_i s hs
  obtain ⟨y1, y2⟩ := y_step (a2 := a + 1) h
  unfold X3_numberNamed
  rw [h.2.1, y_valm h.1 hN4 ha]
  simp only [b1s]
  rw [y_index h hM hv]
  simp only [b1s, o1s]
  rw [show wI a + 1 = wI (a + 1 : Nat) from wI_add a 1]
  rcases kn_ix_b (M := M) (v := V a) M.1 0 with g | ⟨j, g1, g2, g3, g4, g5⟩
  · rw [g.1, if_pos (show wI (-1) = -1 from rfl)]
    refine ⟨-1, _, rfl, y1, y2, by omega, fun _ => ?_⟩
    cases e : kn_fd M (V a) s M.1 0 with
    | none => rfl
    | some c =>
      obtain ⟨j, j1, j2, j3, j4⟩ := kn_fd_b _ _ _ e
      exact absurd j3 (g.2 j j1 j2)
  · have hMj := hM.2 j (by omega)
    have hMd := y1.2.2.2.2.2 j (by omega)
    have hM20 := hM.1
    have hsj := kn_sw_i (M.2.2.1 j) hMj.2.1
    rw [g1, if_neg (show ¬ wI (j : Int) = -1 by rw [show (-1 : Int32) = wI (-1) from rfl, wI_eq (by omega) (by omega) (by omega) (by omega)]; omega), s1_2, r_at (s17_0 b) (l18 b) (by omega) (by omega), hMd.2.1]
    simp only [b1s]
    rw [wI_wJ (by omega) (by omega)]
    have e9 : (wJ ((kn_sw (M.2.2.1 j) : Nat) : Int) = wJ ((kn_sw s : Nat) : Int)) = (((kn_sw (M.2.2.1 j) : Nat) : Int) = ((kn_sw s : Nat) : Int)) := wJ_eq (by omega) (by omega) (by omega) (by omega)
    simp only [e9]
    by_cases g6 : M.2.2.1 j = s
    · rw [if_pos (by rw [g6]), s1_3, r_small (s19_0 b) (l20 b) (by omega) (by omega), hMd.2.2, wJ_wI]
      simp only [b1s]
      refine ⟨M.2.2.2 j, _, rfl, y1, y2, by omega, fun hu => ?_⟩
      cases e : kn_fd M (V a) s M.1 0 with
      | none => exact absurd ⟨g4, g6⟩ (kn_fd_n _ _ e j g2 g3)
      | some c =>
        obtain ⟨j9, j1, j2, j3, j4, j5⟩ := kn_fd_b _ _ _ e
        have := hu j j9 (by omega) (by omega) (g4.trans j3.symm)
        rw [← this] at j5
        rw [j5]
        rfl
    · rw [if_neg (fun q => g6 (hsj.2 s hs (by omega)))]
      refine ⟨-1, _, rfl, y1, y2, by omega, fun hu => ?_⟩
      cases e : kn_fd M (V a) s M.1 0 with
      | none => rfl
      | some c =>
        obtain ⟨j9, j1, j2, j3, j4, j5⟩ := kn_fd_b _ _ _ e
        have := hu j j9 (by omega) (by omega) (g4.trans j3.symm)
        rw [← this] at j4
        exact absurd j4 g6
