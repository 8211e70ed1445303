/-! level two: the check's steps through a text -/
def ky_num (F : Nat × Nat) (lo hi v : Int) (p : Nat) : Nat × Nat := if F.1 = 0 ∧ ¬ (lo ≤ v ∧ v ≤ hi) then (5, p) else F
def ky_bad (F : Nat × Nat) (n p : Nat) : Nat × Nat := if F.1 = 0 then (n, p) else F
/-- names told: how many, what, of which kind, with which number -/
abbrev q_Nm : Type := Nat × (Nat → Int) × (Nat → Nat) × (Nat → Nat)
def kn_has (M : q_Nm) (v : Int) : Nat → Nat → Bool
  | 0, _ => false
  | n + 1, i => if M.2.1 i = v then true else kn_has M v n (i + 1)
def kn_fd (M : q_Nm) (v : Int) (s : Nat) : Nat → Nat → Option Nat
  | 0, _ => none
  | n + 1, i => if M.2.1 i = v ∧ M.2.2.1 i = s then some (M.2.2.2 i) else kn_fd M v s n (i + 1)
def kn_wf (M : q_Nm) : Prop := M.1 ≤ 20 ∧ ∀ k, k < M.1 → (0 ≤ M.2.1 k ∧ M.2.1 k < 282429536481) ∧ M.2.2.1 k ≤ 2 ∧ M.2.2.2 k ≤ 7
def kn_T (b : Nat) (d : q_Dt) (M : q_Nm) : Prop := d.1 b 20 = wI M.1 ∧ ∀ k, k < M.1 → d.2.1 (b + 8) k = wJ (M.2.1 k) ∧ d.1 (b + 9) k = wI (M.2.2.1 k) ∧ d.1 (b + 10) k = wI (M.2.2.2 k)
def ky_Z (b : Nat) (P : Nat → Nat) (d : q_Dt) (s F : Nat × Nat) : Prop := d.1 b 11 = wI s.1 ∧ d.1 b 13 = wI s.2 ∧ (s.2 ≠ 0 → d.1 b 14 = wI (P s.1)) ∧ d.1 b 15 = wI F.1 ∧ (F.1 ≠ 0 → d.1 b 16 = wI F.2)
def ky_fz (b : Nat) (dt d : q_Dt) : Prop := (∀ x, x ≠ b → d.1 x = dt.1 x) ∧ (∀ j, j ≠ 11 → j ≠ 13 → j ≠ 14 → j ≠ 15 → j ≠ 16 → j ≠ 50 → d.1 b j = dt.1 b j) ∧ d.2 = dt.2
theorem ky_fz_r {b : Nat} {dt : q_Dt} : ky_fz b dt dt := ⟨fun _ _ => rfl, fun _ _ _ _ _ _ _ => rfl, rfl⟩
theorem ky_fz_t {b : Nat} {dt d e : q_Dt} (h : ky_fz b dt d) (h' : ky_fz b d e) : ky_fz b dt e := ⟨fun x hx => (h'.1 x hx).trans (h.1 x hx), fun j h1 h2 h3 h4 h5 h6 => (h'.2.1 j h1 h2 h3 h4 h5 h6).trans (h.2.1 j h1 h2 h3 h4 h5 h6), h'.2.2.trans h.2.2⟩
theorem ky_fz_I {b k : Nat} {d : q_Dt} {v : Int32} (hk : k = 11 ∨ k = 13 ∨ k = 14 ∨ k = 15 ∨ k = 16 ∨ k = 50) : ky_fz b d (q_pI d b k v) := ⟨fun x hx => q_pI_o hx, fun j h1 h2 h3 h4 h5 h6 => q_pI_k (by omega), rfl⟩
theorem ky_CM_z {b N : Nat} {K P : Nat → Nat} {V : Nat → Int} {dt d : q_Dt} (h : qk_CM b K P V N dt) (hf : ky_fz b dt d) : qk_CM b K P V N d := by
  intro j hj
  rw [hf.1 (b + 3) (by omega), hf.1 (b + 4) (by omega), hf.1 (b + 5) (by omega), hf.2.2]
  exact h j hj
theorem kn_T_z {b : Nat} {M : q_Nm} {dt d : q_Dt} (h : kn_T b dt M) (hf : ky_fz b dt d) : kn_T b d M := by
  unfold kn_T
  rw [hf.2.1 20 (by omega) (by omega) (by omega) (by omega) (by omega) (by omega), hf.1 (b + 9) (by omega), hf.1 (b + 10) (by omega), hf.2.2]
  exact h
theorem qk_mk_i {k : Nat} {v : Int} (hk : k ≤ 6) (hv : k = 6 → 0 ≤ v ∧ v ≤ 10) : (qk_mk k v = 1 ↔ k = 2) ∧ (qk_mk k v = 2 ↔ k = 3) ∧ (qk_mk k v = 4 ↔ k = 4) ∧ (qk_mk k v = 5 ↔ k = 5) ∧ (qk_mk k v = 0 ↔ k = 0) ∧ (qk_mk k v = 30 ↔ k = 6 ∧ v = 10) ∧ 0 ≤ qk_mk k v ∧ qk_mk k v ≤ 30 ∧ (k = 6 → qk_mk k v = 20 + v) ∧ (k ≠ 6 → qk_mk k v ≤ 5) := by
  unfold qk_mk
  by_cases h6 : k = 6
  · rw [if_pos h6]
    have := hv h6
    refine ⟨?_, ?_, ?_, ?_, ?_, ?_, ?_, ?_, ?_, ?_⟩ <;> omega
  · rw [if_neg h6]
    by_cases h1 : k = 1
    · rw [if_pos h1]
      refine ⟨?_, ?_, ?_, ?_, ?_, ?_, ?_, ?_, ?_, ?_⟩ <;> omega
    · rw [if_neg h1]
      by_cases h2 : k = 2
      · rw [if_pos h2]
        refine ⟨?_, ?_, ?_, ?_, ?_, ?_, ?_, ?_, ?_, ?_⟩ <;> omega
      · rw [if_neg h2]
        by_cases h3 : k = 3
        · rw [if_pos h3]
          refine ⟨?_, ?_, ?_, ?_, ?_, ?_, ?_, ?_, ?_, ?_⟩ <;> omega
        · rw [if_neg h3]
          refine ⟨?_, ?_, ?_, ?_, ?_, ?_, ?_, ?_, ?_, ?_⟩ <;> omega
theorem qk_mk_t {K P : Nat → Nat} {V : Nat → Int} {N : Nat} (hN : qk_tok K P V N) (a : Nat) : (qk_mk (K a) (V a) = 1 ↔ K a = 2) ∧ (qk_mk (K a) (V a) = 2 ↔ K a = 3) ∧ (qk_mk (K a) (V a) = 4 ↔ K a = 4) ∧ (qk_mk (K a) (V a) = 5 ↔ K a = 5) ∧ (qk_mk (K a) (V a) = 0 ↔ K a = 0) ∧ (qk_mk (K a) (V a) = 30 ↔ K a = 6 ∧ V a = 10) ∧ 0 ≤ qk_mk (K a) (V a) ∧ qk_mk (K a) (V a) ≤ 30 ∧ (K a = 6 → qk_mk (K a) (V a) = 20 + V a) ∧ (K a ≠ 6 → qk_mk (K a) (V a) ≤ 5) := qk_mk_i (hN.2.2.2.1 a).1 (hN.2.2.2.2.2 a).2.1
theorem k_is {b N : Nat} {K P : Nat → Nat} {V : Nat → Int} {d : q_Dt} {s F : Nat × Nat} (hC : qk_CM b K P V (N + 1) d) (hN : qk_tok K P V N) (h : ky_Z b P d s F) (hs : ky_ok K N s) {k : Nat} (hk : k ≤ 100) : X12_is (A2 b) d b (wI k) = some (if s.2 = 0 ∧ qk_mk (K s.1) (V s.1) = k then wI (1 : Nat) else wI (0 : Nat)) := by
  have hN4 := hN.1
  have h1 := hs.1
  have h2 := hs.2
  have hm := qk_mk_t hN s.1
  unfold X12_is
  rw [h.1, h.2.1, m5, n5]
  simp (disch := omega) only [wI_lit, wI_lt, wI_eq, wI_nat, Int.toNat_natCast, (hC s.1 (by omega)).1]
  by_cases g : s.2 = 0
  · rw [if_pos (by omega), if_neg (by omega)]
    by_cases g2 : qk_mk (K s.1) (V s.1) = k
    · rw [if_pos (by omega), if_pos ⟨g, g2⟩]
    · rw [if_neg (by omega), if_neg (fun q => g2 q.2)]
  · rw [if_neg (by omega), if_neg (fun q => g q.1)]
theorem k_fail {b N : Nat} {K P : Nat → Nat} {V : Nat → Int} {d : q_Dt} {s F : Nat × Nat} (hC : qk_CM b K P V (N + 1) d) (hN : qk_tok K P V N) (h : ky_Z b P d s F) (hs : ky_ok K N s) {k : Nat} (hk : 1 ≤ k ∧ k ≤ 2) : ∃ d', X12_fail (A2 b) d b (wI k) = some d' ∧ ky_Z b P d' (if s.2 = 0 then (s.1, k) else s) F ∧ ky_fz b d d' ∧ d'.1 b 50 = d.1 b 50 := by
  have hN4 := hN.1
  have h1 := hs.1
  have h2 := hs.2
  unfold X12_fail
  rw [h.2.1]
  simp (disch := omega) only [wI_lit, wI_le]
  by_cases g : s.2 = 0
  · rw [if_pos (by omega), if_pos g]
    have e11 : (q_pI d b 13 (wI k)).1 b 11 = wI s.1 := (q_pI_k (by omega)).trans h.1
    simp only [o1s, e11]
    rw [m6, n6, q_pI_o (show b + 4 ≠ b by omega)]
    simp (disch := omega) only [wI_lt, wI_nat, Int.toNat_natCast, (hC s.1 (by omega)).2.1]
    rw [if_neg (by omega)]
    refine ⟨_, rfl, ⟨?_, ?_, fun _ => q_pI_s, ?_, fun q => ?_⟩, ky_fz_t (ky_fz_I (by omega)) (ky_fz_I (by omega)), ?_⟩
    · rw [q_pI_k (by omega)]; exact e11
    · rw [q_pI_k (by omega), q_pI_s]
    · rw [q_pI_k (by omega), q_pI_k (by omega)]; exact h.2.2.2.1
    · rw [q_pI_k (by omega), q_pI_k (by omega)]; exact h.2.2.2.2 q
    · rw [q_pI_k (by omega), q_pI_k (by omega)]
  · rw [if_neg (by omega), if_neg g]
    exact ⟨d, rfl, h, ky_fz_r, rfl⟩
theorem k_goes {b N : Nat} {K P : Nat → Nat} {V : Nat → Int} {d : q_Dt} {s F : Nat × Nat} (hC : qk_CM b K P V (N + 1) d) (hN : qk_tok K P V N) (h : ky_Z b P d s F) (hs : ky_ok K N s) (h0 : s.2 = 0) : ∃ d', X12_goesOn (A2 b) d b = some d' ∧ ky_Z b P d' (ky_go s) F ∧ ky_fz b d d' ∧ d'.1 b 50 = d.1 b 50 := by
  have hN4 := hN.1
  have h1 := hs.1
  obtain ⟨d2, r1, r2, r3, r4⟩ := k_fail hC hN h hs (k := 2) (by omega)
  rw [if_pos h0] at r2
  unfold X12_goesOn ky_go
  rw [if_pos h0, show (2 : Int32) = wI (2 : Nat) from rfl, r1, h.1]
  simp (disch := omega) only [wI_lit, wI_eq, b1s, o1s, wI_add, ← Int.natCast_add]
  by_cases g : s.1 < 400
  · rw [if_neg (by omega), if_pos g]
    refine ⟨_, rfl, ⟨q_pI_s, ?_, fun q => absurd rfl q, ?_, fun q => ?_⟩, ky_fz_I (by omega), ?_⟩
    · rw [q_pI_k (by omega), h.2.1, h0]
    · rw [q_pI_k (by omega)]; exact h.2.2.2.1
    · rw [q_pI_k (by omega)]; exact h.2.2.2.2 q
    · rw [q_pI_k (by omega)]
  · rw [if_pos (by omega), if_neg g]
    exact ⟨d2, rfl, r2, r3, r4⟩
theorem k_must {b N : Nat} {K P : Nat → Nat} {V : Nat → Int} {d : q_Dt} {s F : Nat × Nat} (hC : qk_CM b K P V (N + 1) d) (hN : qk_tok K P V N) (h : ky_Z b P d s F) (hs : ky_ok K N s) {k k2 : Nat} (hk : k ≤ 100) (hkk : qk_mk (K s.1) (V s.1) = k ↔ K s.1 = k2) : ∃ d', X12_must (A2 b) d b (wI k) = some d' ∧ ky_Z b P d' (ky_mu K k2 s) F ∧ ky_fz b d d' := by
  unfold X12_must ky_mu
  rw [k_is hC hN h hs hk, show (1 : Int32) = wI (1 : Nat) from rfl]
  obtain ⟨d1, r1, r2, r3, r4⟩ := k_fail hC hN h hs (k := 1) (by omega)
  rw [r1]
  simp only [b1s]
  by_cases g : s.2 = 0
  · rw [if_pos g] at r2 ⊢
    by_cases g2 : K s.1 = k2
    · obtain ⟨d2, p1, p2, p3, p4⟩ := k_goes hC hN h hs g
      rw [if_pos (show s.2 = 0 ∧ qk_mk (K s.1) (V s.1) = k from ⟨g, hkk.mpr g2⟩), if_neg (show ¬ wI ((1 : Nat) : Int) = 0 by decide), if_pos g2, p1]
      exact ⟨d2, rfl, p2, p3⟩
    · rw [if_neg (show ¬ (s.2 = 0 ∧ qk_mk (K s.1) (V s.1) = k) from fun q => g2 (hkk.mp q.2)), if_pos (show wI ((0 : Nat) : Int) = 0 from rfl), if_neg g2]
      exact ⟨d1, rfl, r2, r3⟩
  · rw [if_neg g] at r2 ⊢
    rw [if_neg (show ¬ (s.2 = 0 ∧ qk_mk (K s.1) (V s.1) = k) from fun q => g q.1), if_pos (show wI ((0 : Nat) : Int) = 0 from rfl)]
    exact ⟨d1, rfl, r2, r3⟩
theorem k_amiss {b N tk : Nat} {K P : Nat → Nat} {V : Nat → Int} {d : q_Dt} {s F : Nat × Nat} (hC : qk_CM b K P V (N + 1) d) (hN : qk_tok K P V N) (h : ky_Z b P d s F) (hs : ky_ok K N s) {k : Nat} (hk : 1 ≤ k ∧ k ≤ 5) (htk : tk ≤ N) (hF : F.1 ≤ 5 ∧ F.2 ≤ 2000) (ho : s.2 = 0 → F.1 ≠ 0 → F.2 < P tk ∨ (F.2 = P tk ∧ F.1 ≤ k)) : ∃ d', X12_amiss (A2 b) d b (wI k) (wI tk) = some d' ∧ ky_Z b P d' s (if s.2 = 0 then ky_bad F k (P tk) else F) ∧ ky_fz b d d' ∧ d'.1 b 50 = d.1 b 50 := by
  have hN4 := hN.1
  have h2 := hs.2
  have hPb := (hN.2.2.2.1 tk).2
  unfold X12_amiss ky_bad
  rw [m6, n6]
  simp (disch := omega) only [wI_lit, wI_lt, wI_nat, Int.toNat_natCast, (hC tk (by omega)).2.1, o1s, h.2.1, h.2.2.2.1, wI_eq]
  rw [if_neg (by omega)]
  by_cases g : s.2 = 0
  · rw [if_neg (by omega), if_pos g]
    have hset : ∃ d', X12_amiss_b46 (A2 b) b (wI k) (wI (P tk)) d = some d' ∧ ky_Z b P d' s (k, P tk) ∧ ky_fz b d d' ∧ d'.1 b 50 = d.1 b 50 := by
      unfold X12_amiss_b46
      simp only [o1s]
      refine ⟨_, rfl, ⟨?_, ?_, fun q => absurd g q, ?_, fun _ => q_pI_s⟩, ky_fz_t (ky_fz_I (by omega)) (ky_fz_I (by omega)), ?_⟩
      · rw [q_pI_k (by omega), q_pI_k (by omega)]; exact h.1
      · rw [q_pI_k (by omega), q_pI_k (by omega)]; exact h.2.1
      · rw [q_pI_k (by omega), q_pI_s]
      · rw [q_pI_k (by omega), q_pI_k (by omega)]
    by_cases g2 : F.1 = 0
    · rw [if_pos (by omega), if_pos g2]
      exact hset
    · rw [if_neg (by omega), if_neg g2, h.2.2.2.2 g2]
      simp (disch := omega) only [wI_lt, wI_eq]
      by_cases g3 : F.2 < P tk
      · rw [if_pos (by omega)]
        exact ⟨d, rfl, h, ky_fz_r, rfl⟩
      · have g4 := ho g g2
        rw [if_neg (by omega), if_pos (by omega), if_neg (by omega)]
        exact ⟨d, rfl, h, ky_fz_r, rfl⟩
  · rw [if_pos (by omega), if_neg g]
    exact ⟨d, rfl, h, ky_fz_r, rfl⟩
theorem ky_bad_b {F : Nat × Nat} {k p : Nat} (hF : F.1 ≤ 5 ∧ F.2 ≤ 2000) (hk : k ≤ 5) (hp : p ≤ 2000) : (ky_bad F k p).1 ≤ 5 ∧ (ky_bad F k p).2 ≤ 2000 := by
  unfold ky_bad
  by_cases g : F.1 = 0
  · rw [if_pos g]; exact ⟨hk, hp⟩
  · rw [if_neg g]; exact hF
/-- a fault found stands ahead of what comes next -/
def ky_FO (P : Nat → Nat) (s F : Nat × Nat) : Prop := (F.1 ≤ 5 ∧ F.2 ≤ 2000) ∧ (s.2 = 0 → F.1 ≠ 0 → F.2 < P s.1)
theorem ky_go_s {s : Nat × Nat} (h : (ky_go s).2 = 0) : s.2 = 0 ∧ ky_go s = (s.1 + 1, 0) ∧ s.1 < 400 := by
  by_cases g : s.2 = 0
  · unfold ky_go at h ⊢
    rw [if_pos g] at h ⊢
    by_cases g2 : s.1 < 400
    · rw [if_pos g2]; exact ⟨g, rfl, g2⟩
    · rw [if_neg g2] at h; exact nomatch h
  · rw [ky_go_f g] at h; exact absurd h g
theorem ky_mu_s {K : Nat → Nat} {k : Nat} {s : Nat × Nat} (h : (ky_mu K k s).2 = 0) : s.2 = 0 ∧ K s.1 = k ∧ ky_mu K k s = (s.1 + 1, 0) ∧ s.1 < 400 := by
  by_cases g : s.2 = 0
  · unfold ky_mu at h ⊢
    rw [if_pos g] at h ⊢
    by_cases g2 : K s.1 = k
    · rw [if_pos g2] at h ⊢
      have := ky_go_s h
      exact ⟨g, g2, this.2.1, this.2.2⟩
    · rw [if_neg g2] at h; exact nomatch h
  · rw [ky_mu_f g] at h; exact absurd h g
theorem ky_ltN {K P : Nat → Nat} {V : Nat → Int} {N : Nat} (hN : qk_tok K P V N) {a : Nat} (ha : a ≤ N) (hk : 2 ≤ K a) (h4 : a < 400) : a < N := by
  by_cases h : a = N
  · have := hN.2.2.1 (by omega)
    rw [h] at hk
    omega
  · omega
/-- one INT read: what becomes of the fault -/
def ky_n1 (K P : Nat → Nat) (V : Nat → Int) (lo hi : Int) (s F : Nat × Nat) : Nat × Nat := if s.2 = 0 ∧ K s.1 = 3 then ky_num F lo hi (V s.1) (P s.1) else F
theorem ky_FO_mu {K P : Nat → Nat} {V : Nat → Int} {N : Nat} (hN : qk_tok K P V N) {s F F2 : Nat × Nat} {k : Nat} (hs : ky_ok K N s) (hk : 2 ≤ k) (h : ky_FO P s F) (h2 : F2 = F ∨ (F.1 = 0 ∧ F2.1 ≤ 5 ∧ F2.2 = P s.1)) : ky_FO P (ky_mu K k s) F2 := by
  have hP := (hN.2.2.2.1 s.1).2
  refine ⟨?_, fun h3 h4 => ?_⟩
  · rcases h2 with rfl | h2
    · exact h.1
    · omega
  · have h5 := ky_mu_s h3
    have h6 := ky_ltN hN hs.1 (by omega) h5.2.2.2
    have h7 := hN.2.2.2.2.1 s.1 h6
    rw [h5.2.2.1]
    show F2.2 < P (s.1 + 1)
    rcases h2 with rfl | h2
    · have := h.2 h5.1 h4; omega
    · omega
theorem ky_num_c {F : Nat × Nat} {lo hi v : Int} {p : Nat} : ky_num F lo hi v p = F ∨ (F.1 = 0 ∧ (ky_num F lo hi v p).1 ≤ 5 ∧ (ky_num F lo hi v p).2 = p) := by
  unfold ky_num
  by_cases g : F.1 = 0 ∧ ¬ (lo ≤ v ∧ v ≤ hi)
  · rw [if_pos g]; exact Or.inr ⟨g.1, by show 5 ≤ 5; omega, rfl⟩
  · rw [if_neg g]; exact Or.inl rfl
theorem ky_bad_c {F : Nat × Nat} {k p : Nat} (hk : k ≤ 5) : ky_bad F k p = F ∨ (F.1 = 0 ∧ (ky_bad F k p).1 ≤ 5 ∧ (ky_bad F k p).2 = p) := by
  unfold ky_bad
  by_cases g : F.1 = 0
  · rw [if_pos g]; exact Or.inr ⟨g, hk, rfl⟩
  · rw [if_neg g]; exact Or.inl rfl
theorem ky_n1_c {K P : Nat → Nat} {V : Nat → Int} {lo hi : Int} {s F : Nat × Nat} : ky_n1 K P V lo hi s F = F ∨ (F.1 = 0 ∧ (ky_n1 K P V lo hi s F).1 ≤ 5 ∧ (ky_n1 K P V lo hi s F).2 = P s.1) := by
  unfold ky_n1
  by_cases g : s.2 = 0 ∧ K s.1 = 3
  · rw [if_pos g]; exact ky_num_c
  · rw [if_neg g]; exact Or.inl rfl
theorem k_bounded {b N : Nat} {K P : Nat → Nat} {V : Nat → Int} {d : q_Dt} {s F : Nat × Nat} (hC : qk_CM b K P V (N + 1) d) (hN : qk_tok K P V N) (h : ky_Z b P d s F) (hs : ky_ok K N s) (hF : ky_FO P s F) {lo hi : Int} (hlo : 0 ≤ lo ∧ lo ≤ 9999) (hhi : -2 ≤ hi ∧ hi ≤ 9999) : ∃ (v : Int) (d' : q_Dt), X12_bounded (A2 b) d b (wI lo) (wI hi) = some (wI v, d') ∧ ky_Z b P d' (ky_mu K 3 s) (ky_n1 K P V lo hi s F) ∧ ky_fz b d d' ∧ (0 ≤ v ∧ v ≤ 9999) ∧ (s.2 = 0 ∧ K s.1 = 3 → v = V s.1) ∧ ((d'.1 b 50 = 1 ∧ s.2 = 0 ∧ K s.1 = 3 ∧ lo ≤ v ∧ v ≤ hi) ∨ (d'.1 b 50 = 0 ∧ (s.2 = 0 ∧ K s.1 = 3 → ¬ (lo ≤ v ∧ v ≤ hi)))) ∧ ky_FO P (ky_mu K 3 s) (ky_n1 K P V lo hi s F) := by
  have hN4 := hN.1
  have h1 := hs.1
  have h2 := hs.2
  have hm := qk_mk_t hN s.1
  have hO := ky_FO_mu hN hs (k := 3) (by omega) hF (ky_n1_c (K := K) (V := V) (lo := lo) (hi := hi))
  obtain ⟨d1, r1, r2, r3, r4⟩ := k_fail hC hN h hs (k := 1) (by omega)
  have hb15 : ¬ (s.2 = 0 ∧ K s.1 = 3) → ∃ (v : Int) (d' : q_Dt), X12_bounded_b15 (A2 b) b (wI lo) d = some (wI v, d') ∧ ky_Z b P d' (ky_mu K 3 s) (ky_n1 K P V lo hi s F) ∧ ky_fz b d d' ∧ (0 ≤ v ∧ v ≤ 9999) ∧ (s.2 = 0 ∧ K s.1 = 3 → v = V s.1) ∧ ((d'.1 b 50 = 1 ∧ s.2 = 0 ∧ K s.1 = 3 ∧ lo ≤ v ∧ v ≤ hi) ∨ (d'.1 b 50 = 0 ∧ (s.2 = 0 ∧ K s.1 = 3 → ¬ (lo ≤ v ∧ v ≤ hi)))) := by
    intro g
    unfold X12_bounded_b15
    rw [show (1 : Int32) = wI (1 : Nat) from rfl, r1]
    simp only [b1s, o1s]
    rw [if_pos (Or.inl trivial)]
    have e1 : ky_mu K 3 s = (if s.2 = 0 then (s.1, 1) else s) := by
      unfold ky_mu
      by_cases g2 : s.2 = 0
      · rw [if_pos g2, if_pos g2, if_neg (fun q => g ⟨g2, q⟩)]
      · rw [if_neg g2, if_neg g2]
    have e2 : ky_n1 K P V lo hi s F = F := if_neg g
    rw [e1, e2]
    refine ⟨lo, _, rfl, ⟨?_, ?_, fun q => ?_, ?_, fun q => ?_⟩, ky_fz_t r3 (ky_fz_I (by omega)), ⟨hlo.1, hlo.2⟩, fun q => absurd q g, Or.inr ⟨q_pI_s, fun q => absurd q g⟩⟩
    · rw [q_pI_k (by omega)]; exact r2.1
    · rw [q_pI_k (by omega)]; exact r2.2.1
    · rw [q_pI_k (by omega)]; exact r2.2.2.1 q
    · rw [q_pI_k (by omega)]; exact r2.2.2.2.1
    · rw [q_pI_k (by omega)]; exact r2.2.2.2.2 q
  suffices hx : ∃ (v : Int) (d' : q_Dt), X12_bounded (A2 b) d b (wI lo) (wI hi) = some (wI v, d') ∧ ky_Z b P d' (ky_mu K 3 s) (ky_n1 K P V lo hi s F) ∧ ky_fz b d d' ∧ (0 ≤ v ∧ v ≤ 9999) ∧ (s.2 = 0 ∧ K s.1 = 3 → v = V s.1) ∧ ((d'.1 b 50 = 1 ∧ s.2 = 0 ∧ K s.1 = 3 ∧ lo ≤ v ∧ v ≤ hi) ∨ (d'.1 b 50 = 0 ∧ (s.2 = 0 ∧ K s.1 = 3 → ¬ (lo ≤ v ∧ v ≤ hi)))) by
    obtain ⟨v, d', x1, x2, x3, x4, x5, x6⟩ := hx
    exact ⟨v, d', x1, x2, x3, x4, x5, x6, hO⟩
  unfold X12_bounded
  rw [show (2 : Int32) = wI (2 : Nat) from rfl, k_is hC hN h hs (by omega), h.2.1]
  simp (disch := omega) only [wI_lit, wI_lt, b1s]
  by_cases g : s.2 = 0
  · rw [if_neg (by omega)]
    by_cases g2 : K s.1 = 3
    · rw [if_pos (show s.2 = 0 ∧ qk_mk (K s.1) (V s.1) = (2 : Nat) from ⟨g, hm.2.1.mpr g2⟩), if_neg (show ¬ wI ((1 : Nat) : Int) = wI ((0 : Nat) : Int) by decide), h.1, m7, n7]
      have hv := (hN.2.2.2.2.2 s.1).1 g2
      simp (disch := omega) only [wI_lt, wI_nat, Int.toNat_natCast, (hC s.1 (by omega)).2.2.1 g2, o1s]
      rw [if_neg (by omega)]
      have e0 : ky_n1 K P V lo hi s F = ky_num F lo hi (V s.1) (P s.1) := if_pos ⟨g, g2⟩
      have e9 : ky_mu K 3 s = ky_go s := by
        unfold ky_mu
        rw [if_pos g, if_pos g2]
      have hZ : ∀ v : Int32, ky_Z b P (q_pI d b 50 v) s F := by
        intro v
        refine ⟨?_, ?_, fun q => ?_, ?_, fun q => ?_⟩
        · rw [q_pI_k (by omega)]; exact h.1
        · rw [q_pI_k (by omega)]; exact h.2.1
        · rw [q_pI_k (by omega)]; exact h.2.2.1 q
        · rw [q_pI_k (by omega)]; exact h.2.2.2.1
        · rw [q_pI_k (by omega)]; exact h.2.2.2.2 q
      rw [e0, e9]
      by_cases g3 : lo ≤ V s.1 ∧ V s.1 ≤ hi
      · rw [if_neg (by omega), if_neg (by omega)]
        have e3 : ky_num F lo hi (V s.1) (P s.1) = F := if_neg (fun q => q.2 g3)
        rw [e3]
        obtain ⟨d2, p1, p2, p3, p4⟩ := k_goes (ky_CM_z hC (ky_fz_I (by omega))) hN (hZ (wI (1 : Nat))) hs g
        unfold X12_bounded_b53 X12_bounded_b72
        rw [if_pos (show wI ((1 : Nat) : Int) = 0 ∨ wI ((1 : Nat) : Int) = 1 from Or.inr rfl)]
        simp only [o1s]
        rw [q_pI_s, if_neg (show ¬ wI ((1 : Nat) : Int) = 0 by decide), p1]
        simp only [b1s]
        refine ⟨V s.1, d2, rfl, p2, ky_fz_t (ky_fz_I (by omega)) p3, by omega, fun _ => rfl, Or.inl ⟨?_, g, g2, g3.1, g3.2⟩⟩
        rw [p4, q_pI_s]
      · have e3 : ky_num F lo hi (V s.1) (P s.1) = ky_bad F 5 (P s.1) := by
          unfold ky_num ky_bad
          by_cases g4 : F.1 = 0
          · rw [if_pos ⟨g4, g3⟩, if_pos g4]
          · rw [if_neg (fun q => g4 q.1), if_neg g4]
        rw [e3]
        have hP := (hN.2.2.2.1 s.1).2
        obtain ⟨d2, p1, p2, p3, p4⟩ := k_amiss (tk := s.1) (ky_CM_z hC (ky_fz_I (by omega))) hN (hZ (wI (0 : Nat))) hs (k := 5) (by omega) h1 hF.1 (fun q1 q2 => Or.inl (hF.2 q1 q2))
        rw [if_pos g] at p2
        obtain ⟨d3, u1, u2, u3, u4⟩ := k_goes (ky_CM_z hC (ky_fz_t (ky_fz_I (by omega)) p3)) hN p2 hs g
        have eb : X12_bounded_b53 (A2 b) b (wI (V s.1)) b (wI (0 : Nat)) d = some (wI (V s.1), d3) := by
          unfold X12_bounded_b53 X12_bounded_b72
          rw [if_pos (show wI ((0 : Nat) : Int) = 0 ∨ wI ((0 : Nat) : Int) = 1 from Or.inl rfl)]
          simp only [o1s]
          rw [q_pI_s, if_pos (show wI ((0 : Nat) : Int) = 0 from rfl), q_pI_k (by omega), h.1, show (5 : Int32) = wI (5 : Nat) from rfl, p1]
          simp only [b1s]
          rw [u1]
          simp only [b1s]
        unfold X12_bounded_b52
        rw [show (0 : Int32) = wI (0 : Nat) from rfl, eb]
        refine ⟨V s.1, d3, ?_, u2, ky_fz_t (ky_fz_t (ky_fz_I (by omega)) p3) u3, by omega, fun _ => rfl, Or.inr ⟨?_, fun _ => g3⟩⟩
        · by_cases g5 : V s.1 < lo
          · rw [if_pos g5]
          · rw [if_neg g5, if_pos (by omega)]
        · rw [u4, p4, q_pI_s]
    · rw [if_neg (show ¬ (s.2 = 0 ∧ qk_mk (K s.1) (V s.1) = (2 : Nat)) from fun q => g2 (hm.2.1.mp q.2)), if_pos (show wI ((0 : Nat) : Int) = wI ((0 : Nat) : Int) from rfl)]
      exact hb15 (fun q => g2 q.2)
  · rw [if_pos (by omega)]
    exact hb15 (fun q => g q.1)

theorem k_hang0 {b N : Nat} {K P : Nat → Nat} {V : Nat → Int} {d : q_Dt} {s F : Nat × Nat} (hC : qk_CM b K P V (N + 1) d) (hN : qk_tok K P V N) (h : ky_Z b P d s F) (hs : ky_ok K N s) (hF : ky_FO P s F) (lo hi : Int32) : ∃ (v : Int) (d' : q_Dt), X12_hangs (A2 b) d b 0 lo hi = some (wI v, d') ∧ ky_Z b P d' (ky_mu K 3 s) F ∧ ky_fz b d d' ∧ (0 ≤ v ∧ v ≤ 9999) ∧ ((d'.1 b 50 = 1 ∧ s.2 = 0 ∧ K s.1 = 3) ∨ (d'.1 b 50 = 0)) ∧ ky_FO P (ky_mu K 3 s) F := by
  obtain ⟨v, d', r1, r2, r3, r4, r5, r6, r7⟩ := k_bounded hC hN h hs hF (lo := 0) (hi := 9999) (by omega) (by omega)
  have e : ky_n1 K P V 0 9999 s F = F := by
    unfold ky_n1 ky_num
    by_cases g : s.2 = 0 ∧ K s.1 = 3
    · have := (hN.2.2.2.2.2 s.1).1 g.2
      rw [if_pos g, if_neg (fun q => q.2 this)]
    · rw [if_neg g]
  rw [e] at r2 r7
  refine ⟨v, d', ?_, r2, r3, r4, ?_, r7⟩
  · unfold X12_hangs
    rw [if_pos rfl, show X12_bounded (A2 b) d b 0 9999 = some (wI v, d') from r1]
    simp only [b2s]
  · rcases r6 with r6 | r6
    · exact Or.inl ⟨r6.1, r6.2.1, r6.2.2.1⟩
    · exact Or.inr r6.1
theorem k_hang1 {b N : Nat} {K P : Nat → Nat} {V : Nat → Int} {d : q_Dt} {s F : Nat × Nat} (hC : qk_CM b K P V (N + 1) d) (hN : qk_tok K P V N) (h : ky_Z b P d s F) (hs : ky_ok K N s) (hF : ky_FO P s F) {lo hi : Int} (hlo : 0 ≤ lo ∧ lo ≤ 9999) (hhi : -2 ≤ hi ∧ hi ≤ 9999) : ∃ (v : Int) (d' : q_Dt), X12_hangs (A2 b) d b 1 (wI lo) (wI hi) = some (wI v, d') ∧ ky_Z b P d' (ky_mu K 3 s) (ky_n1 K P V lo hi s F) ∧ ky_fz b d d' ∧ (0 ≤ v ∧ v ≤ 9999) ∧ (s.2 = 0 ∧ K s.1 = 3 → v = V s.1) ∧ ((d'.1 b 50 = 1 ∧ s.2 = 0 ∧ K s.1 = 3 ∧ lo ≤ v ∧ v ≤ hi) ∨ (d'.1 b 50 = 0 ∧ (s.2 = 0 ∧ K s.1 = 3 → ¬ (lo ≤ v ∧ v ≤ hi)))) ∧ ky_FO P (ky_mu K 3 s) (ky_n1 K P V lo hi s F) := by
  obtain ⟨v, d', r1, r2⟩ := k_bounded hC hN h hs hF hlo hhi
  refine ⟨v, d', ?_, r2⟩
  unfold X12_hangs
  rw [if_neg (by decide), r1]
  simp only [b2s]
theorem k_room {b N : Nat} {K P : Nat → Nat} {V : Nat → Int} {d : q_Dt} {a : Nat} {F : Nat × Nat} (hC : qk_CM b K P V (N + 1) d) (hN : qk_tok K P V N) (h : ky_Z b P d (a, 0) F) (ha : a ≤ N) {x m : Nat} (hx : x ≤ 100) (hm : m ≤ 100) : ∃ d', X12_room (A2 b) d b (wI x) (wI m) = some d' ∧ ky_Z b P d' (if x = m then (a, 2) else ky_go (a, 0)) F ∧ ky_fz b d d' := by
  have hs : ky_ok K N (a, 0) := ⟨ha, by show (0 : Nat) ≤ 2; omega⟩
  unfold X12_room X12_room_b10
  simp (disch := omega) only [wI_eq]
  by_cases g : x = m
  · obtain ⟨d1, r1, r2, r3, r4⟩ := k_fail hC hN h hs (k := 2) (by omega)
    rw [if_pos (show (a, 0).2 = 0 from rfl)] at r2
    have r5 : d1.1 b 13 = wI (2 : Nat) := r2.2.1
    rw [if_pos (by omega), if_pos g, show (2 : Int32) = wI (2 : Nat) from rfl, r1]
    simp only [b1s]
    rw [r5, if_neg (show ¬ wI ((2 : Nat) : Int) = 0 by decide)]
    exact ⟨d1, rfl, r2, r3⟩
  · obtain ⟨d1, r1, r2, r3, r4⟩ := k_goes hC hN h hs rfl
    have r5 : d.1 b 13 = wI (0 : Nat) := h.2.1
    rw [if_neg (by omega), if_neg g, r5, if_pos (show wI ((0 : Nat) : Int) = 0 from rfl), r1]
    exact ⟨d1, rfl, r2, r3⟩
/-- a new name: what becomes of the fault -/
def ky_d1 (K P : Nat → Nat) (V : Nat → Int) (M : q_Nm) (s F : Nat × Nat) : Nat × Nat := if (ky_mu K 2 s).2 = 0 ∧ kn_has M (V s.1) M.1 0 = true then ky_bad F 3 (P s.1) else F
theorem ky_d1_c {K P : Nat → Nat} {V : Nat → Int} {M : q_Nm} {s F : Nat × Nat} : ky_d1 K P V M s F = F ∨ (F.1 = 0 ∧ (ky_d1 K P V M s F).1 ≤ 5 ∧ (ky_d1 K P V M s F).2 = P s.1) := by
  unfold ky_d1
  by_cases g : (ky_mu K 2 s).2 = 0 ∧ kn_has M (V s.1) M.1 0 = true
  · rw [if_pos g]; exact ky_bad_c (by omega)
  · rw [if_neg g]; exact Or.inl rfl
theorem ky_bad_2 {F : Nat × Nat} {k p : Nat} (hk : k ≠ 0) : ky_bad (ky_bad F k p) k p = ky_bad F k p := by
  unfold ky_bad
  by_cases g : F.1 = 0
  · rw [if_pos g, if_neg hk]
  · rw [if_neg g, if_neg g]
theorem k_named {b N : Nat} {K P : Nat → Nat} {V : Nat → Int} {d : q_Dt} {s F : Nat × Nat} {M : q_Nm} (hC : qk_CM b K P V (N + 1) d) (hN : qk_tok K P V N) (h : ky_Z b P d s F) (hs : ky_ok K N s) (hF : ky_FO P s F) (hM : kn_T b d M) (hMw : kn_wf M) : ∃ d', X12_named (A2 b) d b = some (wI s.1, d') ∧ ky_Z b P d' (ky_mu K 2 s) (ky_d1 K P V M s F) ∧ ky_fz b d d' ∧ ky_FO P (ky_mu K 2 s) (ky_d1 K P V M s F) := by
  have hN4 := hN.1
  have hM20 := hMw.1
  have hm := qk_mk_t hN s.1
  have hO := ky_FO_mu hN hs (k := 2) (by omega) hF (ky_d1_c (K := K) (V := V) (M := M))
  obtain ⟨d1, r1, r2, r3⟩ := k_must hC hN h hs (k := 1) (k2 := 2) (by omega) hm.1
  have hs2 := (ky_mu_b hN hs (k := 2) (by omega)).1
  have hs22 := hs2.2
  suffices hx : ∃ d', X12_named_b12 (A2 b) b (wI s.1) q_FU 0 d1 = some (wI s.1, d') ∧ ky_Z b P d' (ky_mu K 2 s) (ky_d1 K P V M s F) ∧ ky_fz b d d' by
    obtain ⟨d', x1, x2, x3⟩ := hx
    refine ⟨d', ?_, x2, x3, hO⟩
    unfold X12_named
    rw [show (1 : Int32) = wI (1 : Nat) from rfl, r1]
    simp only [b1s]
    rw [h.1]
    exact x1
  by_cases g : (ky_mu K 2 s).2 = 0
  · have g2 := ky_mu_s g
    have hPs := (hN.2.2.2.1 s.1).2
    have hsN := ky_ltN hN hs.1 (by omega) g2.2.2.2
    have hVs := (hN.2.2.2.2.2 s.1).2.2 g2.2.1
    have hnm := fun j (hj : j < N + 1) => (hC j hj).2.2.2
    have hl : ∀ n i k : Nat, i + n = M.1 → n < k → ∀ d2 F2, ky_Z b P d2 (ky_mu K 2 s) F2 → ky_fz b d d2 → (F2 = F ∨ F2 = ky_bad F 3 (P s.1)) → ∃ d', X12_named_b12 (A2 b) b (wI s.1) k (wI i) d2 = some (wI s.1, d') ∧ ky_Z b P d' (ky_mu K 2 s) (if kn_has M (V s.1) n i = true then ky_bad F2 3 (P s.1) else F2) ∧ ky_fz b d d' := by
      intro n
      induction n with
      | zero =>
        intro i k z1 z2 
        obtain ⟨k, rfl⟩ : ∃ m, k = m + 1 := ⟨k - 1, by omega⟩
        have e : i = M.1 := by omega
        intro d2 F2 u1 u2 u3
        have hM2 := kn_T_z hM u2
        rw [X12_named_b12.eq_2, hM2.1]
        simp (disch := omega) only [wI_le]
        rw [if_pos (by omega)]
        exact ⟨d2, rfl, u1, u2⟩
      | succ n ih =>
        intro i k z1 z2 
        obtain ⟨k, rfl⟩ : ∃ m, k = m + 1 := ⟨k - 1, by omega⟩
        have hi : i < M.1 := by omega
        intro d2 F2 u1 u2 u3
        have hM2 := kn_T_z hM u2
        have hC2 := ky_CM_z hC u2
        have hMv := (hMw.2 i hi).1
        have ei : wI i + 1 = wI (i + 1 : Nat) := wI_add i 1
        rw [X12_named_b12.eq_2, hM2.1, u1.2.1, m21, n21, m8, n8]
        unfold X12_named_b49
        simp (disch := omega) only [wI_lit, wI_le, wI_eq, wI_lt, wI_nat, Int.toNat_natCast, (hM2.2 i hi).1, (hC2 s.1 (by omega)).2.2.2 g2.2.1, wJ_eq]
        rw [if_neg (by omega), if_pos (by omega), if_neg (by omega), if_neg (by omega)]
        by_cases g3 : M.2.1 i = V s.1
        · have hb := ky_bad_b (F := F) (k := 3) (p := P s.1) hF.1 (by omega) hPs
          have hF2 : F2.1 ≤ 5 ∧ F2.2 ≤ 2000 := by
            rcases u3 with u3 | u3
            · rw [u3]; exact hF.1
            · rw [u3]; exact hb
          obtain ⟨d3, p1, p2, p3, p4⟩ := k_amiss (tk := s.1) hC2 hN u1 hs2 (k := 3) (by omega) hs.1 hF2 (by
            intro _ q2
            rcases u3 with u3 | u3
            · rw [u3] at q2 ⊢
              exact Or.inl (hF.2 g2.1 q2)
            · rw [u3] at q2 ⊢
              unfold ky_bad at q2 ⊢
              by_cases g4 : F.1 = 0
              · rw [if_pos g4]; exact Or.inr ⟨rfl, Nat.le_refl _⟩
              · rw [if_neg g4]; exact Or.inl (hF.2 g2.1 g4))
          rw [if_pos g] at p2
          obtain ⟨d', v1, v2, v3⟩ := ih (i + 1) k (by omega) (by omega) d3 _ p2 (ky_fz_t u2 p3) (by
            rcases u3 with u3 | u3
            · rw [u3]; exact Or.inr rfl
            · rw [u3, ky_bad_2 (by omega)]; exact Or.inr rfl)
          rw [if_pos g3, p1]
          simp only [b1s]
          rw [show wI i + wI (1 : Nat) = wI (i + 1 : Nat) from ei]
          have eh : kn_has M (V s.1) (n + 1) i = true := if_pos g3
          rw [if_pos eh]
          refine ⟨d', v1, ?_, v3⟩
          rw [ky_bad_2 (by omega), ite_self] at v2
          exact v2
        · obtain ⟨d', v1, v2, v3⟩ := ih (i + 1) k (by omega) (by omega) d2 F2 u1 u2 u3
          rw [if_neg g3, show wI i + wI (1 : Nat) = wI (i + 1 : Nat) from ei]
          have eh : kn_has M (V s.1) (n + 1) i = kn_has M (V s.1) n (i + 1) := if_neg g3
          rw [eh]
          exact ⟨d', v1, v2, v3⟩
    obtain ⟨d', v1, v2, v3⟩ := hl M.1 0 q_FU (by omega) (by unfold q_FU; omega) d1 F r2 r3 (Or.inl rfl)
    refine ⟨d', v1, ?_, v3⟩
    unfold ky_d1
    by_cases g5 : kn_has M (V s.1) M.1 0 = true
    · rw [if_pos g5] at v2
      rw [if_pos ⟨g, g5⟩]
      exact v2
    · rw [if_neg g5] at v2
      rw [if_neg (fun q => g5 q.2)]
      exact v2
  · have e : ky_d1 K P V M s F = F := if_neg (fun q => g q.1)
    rw [e]
    refine ⟨d1, ?_, r2, r3⟩
    have hM2 := kn_T_z hM r3
    rw [show q_FU = 1999999 + 1 from rfl, X12_named_b12.eq_2, hM2.1, r2.2.1]
    simp (disch := omega) only [wI_lit, wI_le, wI_eq]
    by_cases g3 : M.1 = 0
    · rw [if_pos (by omega)]
      rfl
    · rw [if_neg (by omega), if_neg (by omega)]
      rfl
/-- a name looked up -/
def ky_kn (K : Nat → Nat) (V : Nat → Int) (M : q_Nm) (so : Nat) (s : Nat × Nat) : Option Nat := if (ky_mu K 2 s).2 = 0 then kn_fd M (V s.1) so M.1 0 else none
def ky_k1 (K P : Nat → Nat) (V : Nat → Int) (M : q_Nm) (so : Nat) (s F : Nat × Nat) : Nat × Nat := if (ky_mu K 2 s).2 = 0 ∧ kn_fd M (V s.1) so M.1 0 = none then ky_bad F 4 (P s.1) else F
theorem ky_k1_c {K P : Nat → Nat} {V : Nat → Int} {M : q_Nm} {so : Nat} {s F : Nat × Nat} : ky_k1 K P V M so s F = F ∨ (F.1 = 0 ∧ (ky_k1 K P V M so s F).1 ≤ 5 ∧ (ky_k1 K P V M so s F).2 = P s.1) := by
  unfold ky_k1
  by_cases g : (ky_mu K 2 s).2 = 0 ∧ kn_fd M (V s.1) so M.1 0 = none
  · rw [if_pos g]; exact ky_bad_c (by omega)
  · rw [if_neg g]; exact Or.inl rfl
def ky_oi (o : Option Nat) : Int := match o with
  | none => -1
  | some c => c
theorem k_known {b N : Nat} {K P : Nat → Nat} {V : Nat → Int} {d : q_Dt} {s F : Nat × Nat} {M : q_Nm} {so : Nat} (hC : qk_CM b K P V (N + 1) d) (hN : qk_tok K P V N) (h : ky_Z b P d s F) (hs : ky_ok K N s) (hF : ky_FO P s F) (hM : kn_T b d M) (hMw : kn_wf M) (hso : so ≤ 2) : ∃ d', X12_known (A2 b) d b (wI so) = some (wI (ky_oi (ky_kn K V M so s)), d') ∧ ky_Z b P d' (ky_mu K 2 s) (ky_k1 K P V M so s F) ∧ ky_fz b d d' ∧ ky_FO P (ky_mu K 2 s) (ky_k1 K P V M so s F) := by
  have hN4 := hN.1
  have hM20 := hMw.1
  have hm := qk_mk_t hN s.1
  have hO := ky_FO_mu hN hs (k := 2) (by omega) hF (ky_k1_c (K := K) (V := V) (M := M) (so := so))
  obtain ⟨d1, r1, r2, r3⟩ := k_must hC hN h hs (k := 1) (k2 := 2) (by omega) hm.1
  have hs2 := (ky_mu_b hN hs (k := 2) (by omega)).1
  have hs22 := hs2.2
  suffices hx : ∃ d', (if (d1.1 b 13) ≤ 0 then (X12_known_b21 (A2 b) b (wI so) (wI s.1) q_FU 0 d1) else (some ((-1), d1))) = some (wI (ky_oi (ky_kn K V M so s)), d') ∧ ky_Z b P d' (ky_mu K 2 s) (ky_k1 K P V M so s F) ∧ ky_fz b d d' by
    obtain ⟨d', x1, x2, x3⟩ := hx
    refine ⟨d', ?_, x2, x3, hO⟩
    unfold X12_known
    rw [show (1 : Int32) = wI (1 : Nat) from rfl, r1]
    simp only [b1s]
    rw [h.1]
    exact x1
  rw [r2.2.1]
  simp (disch := omega) only [wI_lit, wI_le]
  unfold ky_kn ky_k1
  by_cases g : (ky_mu K 2 s).2 = 0
  · rw [if_pos (by omega), if_pos g]
    have g2 := ky_mu_s g
    have hPs := (hN.2.2.2.1 s.1).2
    have hsN := ky_ltN hN hs.1 (by omega) g2.2.2.2
    have hVs := (hN.2.2.2.2.2 s.1).2.2 g2.2.1
    have hM2 := kn_T_z hM r3
    have hC2 := ky_CM_z hC r3
    have hl : ∀ n i k : Nat, i + n = M.1 → n < k → ∃ d', X12_known_b21 (A2 b) b (wI so) (wI s.1) k (wI i) d1 = some (wI (ky_oi (kn_fd M (V s.1) so n i)), d') ∧ ky_Z b P d' (ky_mu K 2 s) (if kn_fd M (V s.1) so n i = none then ky_bad F 4 (P s.1) else F) ∧ ky_fz b d d' := by
      intro n
      induction n with
      | zero =>
        intro i k z1 z2 
        obtain ⟨k, rfl⟩ : ∃ m, k = m + 1 := ⟨k - 1, by omega⟩
        have e : i = M.1 := by omega
        obtain ⟨d3, p1, p2, p3, p4⟩ := k_amiss (tk := s.1) hC2 hN r2 hs2 (k := 4) (by omega) hs.1 hF.1 (fun _ q2 => Or.inl (hF.2 g2.1 q2))
        rw [if_pos g] at p2
        rw [X12_known_b21.eq_2, hM2.1]
        simp (disch := omega) only [wI_le]
        rw [if_pos (by omega), show (4 : Int32) = wI (4 : Nat) from rfl, p1]
        exact ⟨d3, rfl, p2, ky_fz_t r3 p3⟩
      | succ n ih =>
        intro i k z1 z2 
        obtain ⟨k, rfl⟩ : ∃ m, k = m + 1 := ⟨k - 1, by omega⟩
        have hi : i < M.1 := by omega
        obtain ⟨d', v1, v2, v3⟩ := ih (i + 1) k (by omega) (by omega)
        have hMv := hMw.2 i hi
        have hMi := hM2.2 i hi
        have ei : wI i + 1 = wI (i + 1 : Nat) := wI_add i 1
        rw [X12_known_b21.eq_2, hM2.1, m21, n21, m22, n22, m23, n23, m8, n8]
        unfold X12_known_b62
        simp (disch := omega) only [wI_lit, wI_le, wI_eq, wI_lt, wI_nat, Int.toNat_natCast, hMi.1, hMi.2.1, hMi.2.2, (hC2 s.1 (by omega)).2.2.2 g2.2.1, wJ_eq]
        rw [if_neg (by omega), if_neg (by omega), if_neg (by omega), show wI i + wI (1 : Nat) = wI (i + 1 : Nat) from ei, v1]
        by_cases g3 : M.2.1 i = V s.1
        · rw [if_pos g3, if_neg (by omega)]
          by_cases g4 : M.2.2.1 i = so
          · have eh : kn_fd M (V s.1) so (n + 1) i = some (M.2.2.2 i) := if_pos ⟨g3, g4⟩
            rw [if_pos (by omega), if_neg (by omega), eh]
            refine ⟨d1, rfl, ?_, r3⟩
            rw [if_neg (fun q => nomatch q)]
            exact r2
          · have eh : kn_fd M (V s.1) so (n + 1) i = kn_fd M (V s.1) so n (i + 1) := if_neg (fun q => g4 q.2)
            rw [if_neg (by omega), eh]
            exact ⟨d', rfl, v2, v3⟩
        · have eh : kn_fd M (V s.1) so (n + 1) i = kn_fd M (V s.1) so n (i + 1) := if_neg (fun q => g3 q.1)
          rw [if_neg g3, eh]
          exact ⟨d', rfl, v2, v3⟩
    obtain ⟨d', v1, v2, v3⟩ := hl M.1 0 q_FU (by omega) (by unfold q_FU; omega)
    refine ⟨d', v1, ?_, v3⟩
    by_cases g5 : kn_fd M (V s.1) so M.1 0 = none
    · rw [if_pos g5] at v2
      rw [if_pos ⟨g, g5⟩]
      exact v2
    · rw [if_neg g5] at v2
      rw [if_neg (fun q => g5 q.2)]
      exact v2
  · rw [if_neg (by omega), if_neg g, if_neg (fun q => g q.1)]
    exact ⟨d1, rfl, r2, r3⟩
theorem kn_fd_b {M : q_Nm} {v : Int} {so : Nat} : ∀ n i c, kn_fd M v so n i = some c → ∃ j, i ≤ j ∧ j < i + n ∧ M.2.1 j = v ∧ M.2.2.1 j = so ∧ M.2.2.2 j = c := by
  intro n
  induction n with
  | zero => intro i c h; exact absurd h (fun q => nomatch q)
  | succ n ih =>
    intro i c h
    by_cases g : M.2.1 i = v ∧ M.2.2.1 i = so
    · have e : kn_fd M v so (n + 1) i = some (M.2.2.2 i) := if_pos g
      rw [e] at h
      exact ⟨i, by omega, by omega, g.1, g.2, Option.some.inj h⟩
    · have e : kn_fd M v so (n + 1) i = kn_fd M v so n (i + 1) := if_neg g
      rw [e] at h
      obtain ⟨j, j1, j2, j3⟩ := ih (i + 1) c h
      exact ⟨j, by omega, by omega, j3⟩
theorem kn_fd_n {M : q_Nm} {v : Int} {so : Nat} : ∀ n i, kn_fd M v so n i = none → ∀ j, i ≤ j → j < i + n → ¬ (M.2.1 j = v ∧ M.2.2.1 j = so) := by
  intro n
  induction n with
  | zero => intro i h j h1 h2; omega
  | succ n ih =>
    intro i h j h1 h2
    by_cases g : M.2.1 i = v ∧ M.2.2.1 i = so
    · have e : kn_fd M v so (n + 1) i = some (M.2.2.2 i) := if_pos g
      rw [e] at h
      exact nomatch h
    · have e : kn_fd M v so (n + 1) i = kn_fd M v so n (i + 1) := if_neg g
      rw [e] at h
      by_cases g2 : j = i
      · rw [g2]; exact g
      · exact ih (i + 1) h j (by omega) (by omega)
theorem kn_has_i {M : q_Nm} {v : Int} : ∀ n i, kn_has M v n i = true ↔ ∃ j, i ≤ j ∧ j < i + n ∧ M.2.1 j = v := by
  intro n
  induction n with
  | zero =>
    intro i
    constructor
    · intro h
      exact nomatch h
    · rintro ⟨j, h1, h2, h3⟩
      omega
  | succ n ih =>
    intro i
    by_cases g : M.2.1 i = v
    · have e : kn_has M v (n + 1) i = true := if_pos g
      rw [e]
      exact ⟨fun _ => ⟨i, by omega, by omega, g⟩, fun _ => rfl⟩
    · have e : kn_has M v (n + 1) i = kn_has M v n (i + 1) := if_neg g
      rw [e, ih (i + 1)]
      constructor
      · rintro ⟨j, h1, h2, h3⟩
        exact ⟨j, by omega, by omega, h3⟩
      · rintro ⟨j, h1, h2, h3⟩
        by_cases g2 : j = i
        · rw [g2] at h3; exact absurd h3 g
        · exact ⟨j, by omega, by omega, h3⟩
