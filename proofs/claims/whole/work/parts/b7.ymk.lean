/-! level two: what a tell that goes on looks like -/
theorem ky_p1 {K : Nat → Nat} {V : Nat → Int} {s : Nat × Nat} : ky_pt K V 110 s = ky_mu K 2 s := rfl
theorem ky_p2 {K : Nat → Nat} {V : Nat → Int} {s : Nat × Nat} : ky_pt K V 105 s = ky_mu K 3 s := rfl
theorem ky_p3 {K : Nat → Nat} {V : Nat → Int} {s : Nat × Nat} : ky_pt K V 59 s = ky_mu K 4 s := rfl
theorem ky_p4 {K : Nat → Nat} {V : Nat → Int} {s : Nat × Nat} : ky_pt K V 100 s = ky_dr K V s := rfl
theorem ky_p5 {K : Nat → Nat} {V : Nat → Int} {s : Nat × Nat} : ky_pt K V 45 s = ky_op K s := rfl
theorem ky_run_c {K : Nat → Nat} {V : Nat → Int} {c : Nat} {l : List Nat} {s : Nat × Nat} : ky_run K V (c :: l) s = ky_run K V l (ky_pt K V c s) := rfl
theorem ky_run_n {K : Nat → Nat} {V : Nat → Int} {s : Nat × Nat} : ky_run K V [] s = s := rfl
theorem ky_w0 {K : Nat → Nat} {V : Nat → Int} {a : Nat} (h : (ky_run K V (ky_sh 0) (ky_go (a, 0))).2 = 0) : K (a + 1) = 2 ∧ K (a + 2) = 3 ∧ K (a + 3) = 3 ∧ K (a + 4) = 3 ∧ K (a + 5) = 4 ∧ ky_run K V (ky_sh 0) (ky_go (a, 0)) = (a + 6, 0) := by
  have e : ∀ s, ky_run K V (ky_sh 0) s = ky_mu K 4 (ky_mu K 3 (ky_mu K 3 (ky_mu K 3 (ky_mu K 2 (s))))) := by
    intro s
    show ky_run K V [110, 105, 105, 105, 59] s = _
    simp only [ky_run_c, ky_run_n, ky_p1, ky_p2, ky_p3, ky_p4, ky_p5]
  rw [e] at h ⊢
  obtain ⟨h5, k5, e5, -⟩ := ky_mu_s h
  obtain ⟨h4, k4, e4, -⟩ := ky_mu_s h5
  obtain ⟨h3, k3, e3, -⟩ := ky_mu_s h4
  obtain ⟨h2, k2, e2, -⟩ := ky_mu_s h3
  obtain ⟨h1, k1, e1, -⟩ := ky_mu_s h2
  obtain ⟨-, e0, -⟩ := ky_go_s h1
  rw [e0] at k1 e1
  rw [e0, e1] at k2 e2
  rw [e0, e1, e2] at k3 e3
  rw [e0, e1, e2, e3] at k4 e4
  rw [e0, e1, e2, e3, e4] at k5 e5
  rw [e0, e1, e2, e3, e4, e5]
  exact ⟨k1, k2, k3, k4, k5, rfl⟩
theorem ky_w1 {K : Nat → Nat} {V : Nat → Int} {a : Nat} (h : (ky_run K V (ky_sh 1) (ky_go (a, 0))).2 = 0) : K (a + 1) = 2 ∧ K (a + 2) = 3 ∧ K (a + 3) = 3 ∧ K (a + 4) = 4 ∧ ky_run K V (ky_sh 1) (ky_go (a, 0)) = (a + 5, 0) := by
  have e : ∀ s, ky_run K V (ky_sh 1) s = ky_mu K 4 (ky_mu K 3 (ky_mu K 3 (ky_mu K 2 (s)))) := by
    intro s
    show ky_run K V [110, 105, 105, 59] s = _
    simp only [ky_run_c, ky_run_n, ky_p1, ky_p2, ky_p3, ky_p4, ky_p5]
  rw [e] at h ⊢
  obtain ⟨h4, k4, e4, -⟩ := ky_mu_s h
  obtain ⟨h3, k3, e3, -⟩ := ky_mu_s h4
  obtain ⟨h2, k2, e2, -⟩ := ky_mu_s h3
  obtain ⟨h1, k1, e1, -⟩ := ky_mu_s h2
  obtain ⟨-, e0, -⟩ := ky_go_s h1
  rw [e0] at k1 e1
  rw [e0, e1] at k2 e2
  rw [e0, e1, e2] at k3 e3
  rw [e0, e1, e2, e3] at k4 e4
  rw [e0, e1, e2, e3, e4]
  exact ⟨k1, k2, k3, k4, rfl⟩
theorem ky_w2 {K : Nat → Nat} {V : Nat → Int} {a : Nat} (h : (ky_run K V (ky_sh 2) (ky_go (a, 0))).2 = 0) : K (a + 1) = 2 ∧ K (a + 2) = 3 ∧ K (a + 3) = 3 ∧ K (a + 4) = 4 ∧ ky_run K V (ky_sh 2) (ky_go (a, 0)) = (a + 5, 0) := by
  have e : ∀ s, ky_run K V (ky_sh 2) s = ky_mu K 4 (ky_mu K 3 (ky_mu K 3 (ky_mu K 2 (s)))) := by
    intro s
    show ky_run K V [110, 105, 105, 59] s = _
    simp only [ky_run_c, ky_run_n, ky_p1, ky_p2, ky_p3, ky_p4, ky_p5]
  rw [e] at h ⊢
  obtain ⟨h4, k4, e4, -⟩ := ky_mu_s h
  obtain ⟨h3, k3, e3, -⟩ := ky_mu_s h4
  obtain ⟨h2, k2, e2, -⟩ := ky_mu_s h3
  obtain ⟨h1, k1, e1, -⟩ := ky_mu_s h2
  obtain ⟨-, e0, -⟩ := ky_go_s h1
  rw [e0] at k1 e1
  rw [e0, e1] at k2 e2
  rw [e0, e1, e2] at k3 e3
  rw [e0, e1, e2, e3] at k4 e4
  rw [e0, e1, e2, e3, e4]
  exact ⟨k1, k2, k3, k4, rfl⟩
theorem ky_w3 {K : Nat → Nat} {V : Nat → Int} {a : Nat} (h : (ky_run K V (ky_sh 3) (ky_go (a, 0))).2 = 0) : K (a + 1) = 2 ∧ K (a + 2) = 2 ∧ K (a + 3) = 2 ∧ K (a + 4) = 3 ∧ K (a + 5) = 4 ∧ ky_run K V (ky_sh 3) (ky_go (a, 0)) = (a + 6, 0) := by
  have e : ∀ s, ky_run K V (ky_sh 3) s = ky_mu K 4 (ky_mu K 3 (ky_mu K 2 (ky_mu K 2 (ky_mu K 2 (s))))) := by
    intro s
    show ky_run K V [110, 110, 110, 105, 59] s = _
    simp only [ky_run_c, ky_run_n, ky_p1, ky_p2, ky_p3, ky_p4, ky_p5]
  rw [e] at h ⊢
  obtain ⟨h5, k5, e5, -⟩ := ky_mu_s h
  obtain ⟨h4, k4, e4, -⟩ := ky_mu_s h5
  obtain ⟨h3, k3, e3, -⟩ := ky_mu_s h4
  obtain ⟨h2, k2, e2, -⟩ := ky_mu_s h3
  obtain ⟨h1, k1, e1, -⟩ := ky_mu_s h2
  obtain ⟨-, e0, -⟩ := ky_go_s h1
  rw [e0] at k1 e1
  rw [e0, e1] at k2 e2
  rw [e0, e1, e2] at k3 e3
  rw [e0, e1, e2, e3] at k4 e4
  rw [e0, e1, e2, e3, e4] at k5 e5
  rw [e0, e1, e2, e3, e4, e5]
  exact ⟨k1, k2, k3, k4, k5, rfl⟩
theorem ky_w4 {K : Nat → Nat} {V : Nat → Int} {a : Nat} (h : (ky_run K V (ky_sh 4) (ky_go (a, 0))).2 = 0) : K (a + 1) = 2 ∧ K (a + 2) = 3 ∧ K (a + 3) = 3 ∧ K (a + 4) = 3 ∧ K (a + 5) = 4 ∧ ky_run K V (ky_sh 4) (ky_go (a, 0)) = (a + 6, 0) := by
  have e : ∀ s, ky_run K V (ky_sh 4) s = ky_mu K 4 (ky_mu K 3 (ky_mu K 3 (ky_mu K 3 (ky_mu K 2 (s))))) := by
    intro s
    show ky_run K V [110, 105, 105, 105, 59] s = _
    simp only [ky_run_c, ky_run_n, ky_p1, ky_p2, ky_p3, ky_p4, ky_p5]
  rw [e] at h ⊢
  obtain ⟨h5, k5, e5, -⟩ := ky_mu_s h
  obtain ⟨h4, k4, e4, -⟩ := ky_mu_s h5
  obtain ⟨h3, k3, e3, -⟩ := ky_mu_s h4
  obtain ⟨h2, k2, e2, -⟩ := ky_mu_s h3
  obtain ⟨h1, k1, e1, -⟩ := ky_mu_s h2
  obtain ⟨-, e0, -⟩ := ky_go_s h1
  rw [e0] at k1 e1
  rw [e0, e1] at k2 e2
  rw [e0, e1, e2] at k3 e3
  rw [e0, e1, e2, e3] at k4 e4
  rw [e0, e1, e2, e3, e4] at k5 e5
  rw [e0, e1, e2, e3, e4, e5]
  exact ⟨k1, k2, k3, k4, k5, rfl⟩
theorem ky_w7 {K : Nat → Nat} {V : Nat → Int} {a : Nat} (h : (ky_run K V (ky_sh 7) (ky_go (a, 0))).2 = 0) : K (a + 1) = 3 ∧ K (a + 2) = 3 ∧ K (a + 3) = 3 ∧ K (a + 4) = 3 ∧ K (a + 5) = 4 ∧ ky_run K V (ky_sh 7) (ky_go (a, 0)) = (a + 6, 0) := by
  have e : ∀ s, ky_run K V (ky_sh 7) s = ky_mu K 4 (ky_mu K 3 (ky_mu K 3 (ky_mu K 3 (ky_mu K 3 (s))))) := by
    intro s
    show ky_run K V [105, 105, 105, 105, 59] s = _
    simp only [ky_run_c, ky_run_n, ky_p1, ky_p2, ky_p3, ky_p4, ky_p5]
  rw [e] at h ⊢
  obtain ⟨h5, k5, e5, -⟩ := ky_mu_s h
  obtain ⟨h4, k4, e4, -⟩ := ky_mu_s h5
  obtain ⟨h3, k3, e3, -⟩ := ky_mu_s h4
  obtain ⟨h2, k2, e2, -⟩ := ky_mu_s h3
  obtain ⟨h1, k1, e1, -⟩ := ky_mu_s h2
  obtain ⟨-, e0, -⟩ := ky_go_s h1
  rw [e0] at k1 e1
  rw [e0, e1] at k2 e2
  rw [e0, e1, e2] at k3 e3
  rw [e0, e1, e2, e3] at k4 e4
  rw [e0, e1, e2, e3, e4] at k5 e5
  rw [e0, e1, e2, e3, e4, e5]
  exact ⟨k1, k2, k3, k4, k5, rfl⟩
theorem ky_w8 {K : Nat → Nat} {V : Nat → Int} {a : Nat} (h : (ky_run K V (ky_sh 8) (ky_go (a, 0))).2 = 0) : K (a + 1) = 3 ∧ K (a + 2) = 3 ∧ K (a + 3) = 4 ∧ ky_run K V (ky_sh 8) (ky_go (a, 0)) = (a + 4, 0) := by
  have e : ∀ s, ky_run K V (ky_sh 8) s = ky_mu K 4 (ky_mu K 3 (ky_mu K 3 (s))) := by
    intro s
    show ky_run K V [105, 105, 59] s = _
    simp only [ky_run_c, ky_run_n, ky_p1, ky_p2, ky_p3, ky_p4, ky_p5]
  rw [e] at h ⊢
  obtain ⟨h3, k3, e3, -⟩ := ky_mu_s h
  obtain ⟨h2, k2, e2, -⟩ := ky_mu_s h3
  obtain ⟨h1, k1, e1, -⟩ := ky_mu_s h2
  obtain ⟨-, e0, -⟩ := ky_go_s h1
  rw [e0] at k1 e1
  rw [e0, e1] at k2 e2
  rw [e0, e1, e2] at k3 e3
  rw [e0, e1, e2, e3]
  exact ⟨k1, k2, k3, rfl⟩
theorem ky_w9 {K : Nat → Nat} {V : Nat → Int} {a : Nat} (h : (ky_run K V (ky_sh 9) (ky_go (a, 0))).2 = 0) : K (a + 1) = 3 ∧ K (a + 2) = 4 ∧ ky_run K V (ky_sh 9) (ky_go (a, 0)) = (a + 3, 0) := by
  have e : ∀ s, ky_run K V (ky_sh 9) s = ky_mu K 4 (ky_mu K 3 (s)) := by
    intro s
    show ky_run K V [105, 59] s = _
    simp only [ky_run_c, ky_run_n, ky_p1, ky_p2, ky_p3, ky_p4, ky_p5]
  rw [e] at h ⊢
  obtain ⟨h2, k2, e2, -⟩ := ky_mu_s h
  obtain ⟨h1, k1, e1, -⟩ := ky_mu_s h2
  obtain ⟨-, e0, -⟩ := ky_go_s h1
  rw [e0] at k1 e1
  rw [e0, e1] at k2 e2
  rw [e0, e1, e2]
  exact ⟨k1, k2, rfl⟩
theorem ky_w5 {K : Nat → Nat} {V : Nat → Int} {a : Nat} (h : (ky_run K V (ky_sh 5) (ky_go (a, 0))).2 = 0) : K (a + 1) = 2 ∧ K (a + 2) = 2 ∧ K (a + 3) = 3 ∧ K (a + 4) = 3 ∧ K (a + 5) = 3 ∧ K (a + 6) = 3 ∧ (K (a + 7) = 6 → V (a + 7) = 10 ∧ K (a + 8) = 3) ∧ K (if K (a + 7) = 6 then a + 9 else a + 7) = 4 ∧ ky_run K V (ky_sh 5) (ky_go (a, 0)) = ((if K (a + 7) = 6 then a + 9 else a + 7) + 1, 0) := by
  have e : ∀ s, ky_run K V (ky_sh 5) s = ky_mu K 4 (ky_dr K V (ky_mu K 3 (ky_mu K 3 (ky_mu K 3 (ky_mu K 3 (ky_mu K 2 (ky_mu K 2 s))))))) := by
    intro s
    show ky_run K V [110, 110, 105, 105, 105, 105, 100, 59] s = _
    simp only [ky_run_c, ky_run_n, ky_p1, ky_p2, ky_p3, ky_p4, ky_p5]
  rw [e] at h ⊢
  obtain ⟨h8, k8, e8, -⟩ := ky_mu_s h
  have hd : (ky_mu K 3 (ky_mu K 3 (ky_mu K 3 (ky_mu K 3 (ky_mu K 2 (ky_mu K 2 (ky_go (a, 0)))))))).2 = 0 := by
    by_cases g : (ky_mu K 3 (ky_mu K 3 (ky_mu K 3 (ky_mu K 3 (ky_mu K 2 (ky_mu K 2 (ky_go (a, 0)))))))).2 = 0
    · exact g
    · unfold ky_dr at h8
      rw [if_neg (fun q => g q.1)] at h8
      exact h8
  obtain ⟨h6, k6, e6, -⟩ := ky_mu_s hd
  obtain ⟨h5, k5, e5, -⟩ := ky_mu_s h6
  obtain ⟨h4, k4, e4, -⟩ := ky_mu_s h5
  obtain ⟨h3, k3, e3, -⟩ := ky_mu_s h4
  obtain ⟨h2, k2, e2, -⟩ := ky_mu_s h3
  obtain ⟨h1, k1, e1, -⟩ := ky_mu_s h2
  obtain ⟨-, e0, -⟩ := ky_go_s h1
  rw [e0] at k1 e1
  rw [e0, e1] at k2 e2
  rw [e0, e1, e2] at k3 e3
  rw [e0, e1, e2, e3] at k4 e4
  rw [e0, e1, e2, e3, e4] at k5 e5
  rw [e0, e1, e2, e3, e4, e5] at k6 e6
  rw [e0, e1, e2, e3, e4, e5, e6] at h8 k8 e8
  rw [e0, e1, e2, e3, e4, e5, e6, e8]
  have hx : ∀ x : Nat × Nat, x = (a + 7, 0) → (ky_dr K V x).2 = 0 → K (ky_dr K V x).1 = 4 → (K (a + 7) = 6 → V (a + 7) = 10 ∧ K (a + 8) = 3) ∧ (ky_dr K V x).1 = (if K (a + 7) = 6 then a + 9 else a + 7) := by
    intro x hx g1 g2
    rw [hx] at g1 g2 ⊢
    unfold ky_dr at g1 g2 ⊢
    by_cases g : K (a + 7) = 6
    · by_cases g3 : V (a + 7) = 10
      · rw [if_pos (show ((a + 7, 0) : Nat × Nat).2 = 0 ∧ K (a + 7, 0).1 = 6 ∧ V (a + 7, 0).1 = 10 from ⟨rfl, g, g3⟩)] at g1 g2 ⊢
        obtain ⟨j1, j2, j3, -⟩ := ky_mu_s g1
        obtain ⟨-, j4, -⟩ := ky_go_s j1
        rw [j4] at j2 j3 ⊢
        rw [j3, if_pos g]
        exact ⟨fun _ => ⟨g3, j2⟩, rfl⟩
      · rw [if_neg (show ¬ (((a + 7, 0) : Nat × Nat).2 = 0 ∧ K (a + 7, 0).1 = 6 ∧ V (a + 7, 0).1 = 10) from fun q => g3 q.2.2)] at g2
        have g4 : K (a + 7) = 4 := g2
        omega
    · rw [if_neg (show ¬ (((a + 7, 0) : Nat × Nat).2 = 0 ∧ K (a + 7, 0).1 = 6 ∧ V (a + 7, 0).1 = 10) from fun q => g q.2.1), if_neg g]
      exact ⟨fun q => absurd q g, rfl⟩
  have h9 := hx _ rfl h8 k8
  refine ⟨k1, k2, k3, k4, k5, k6, h9.1, ?_, ?_⟩
  · rw [← h9.2]; exact k8
  · rw [← h9.2]
theorem ky_w6 {K : Nat → Nat} {V : Nat → Int} {a : Nat} (h : (ky_run K V (ky_sh 6) (ky_go (a, 0))).2 = 0) : K (a + 1) = 2 ∧ K (a + 2) = 3 ∧ K (a + 3 + kz_e K a) = 3 ∧ K (a + 4 + kz_e K a) = 4 ∧ ky_run K V (ky_sh 6) (ky_go (a, 0)) = (a + 4 + kz_e K a + 1, 0) := by
  have e : ∀ s, ky_run K V (ky_sh 6) s = ky_mu K 4 (ky_mu K 3 (ky_op K (ky_mu K 3 (ky_mu K 2 s)))) := by
    intro s
    show ky_run K V [110, 105, 45, 105, 59] s = _
    simp only [ky_run_c, ky_run_n, ky_p1, ky_p2, ky_p3, ky_p4, ky_p5]
  rw [e] at h ⊢
  obtain ⟨h5, k5, e5, -⟩ := ky_mu_s h
  obtain ⟨h4, k4, e4, -⟩ := ky_mu_s h5
  have hd : (ky_mu K 3 (ky_mu K 2 (ky_go (a, 0)))).2 = 0 := by
    by_cases g : (ky_mu K 3 (ky_mu K 2 (ky_go (a, 0)))).2 = 0
    · exact g
    · unfold ky_op at h4
      rw [if_neg (fun q => g q.1)] at h4
      exact h4
  obtain ⟨h2, k2, e2, -⟩ := ky_mu_s hd
  obtain ⟨h1, k1, e1, -⟩ := ky_mu_s h2
  obtain ⟨-, e0, -⟩ := ky_go_s h1
  rw [e0] at k1 e1
  rw [e0, e1] at k2 e2
  have hx : ∀ x : Nat × Nat, x = (a + 3, 0) → (ky_op K x).2 = 0 → ky_op K x = (a + 3 + kz_e K a, 0) := by
    intro x hx g1
    rw [hx] at g1 ⊢
    unfold ky_op at g1 ⊢
    unfold kz_e
    by_cases g : K (a + 3) = 5
    · rw [if_pos (show ((a + 3, 0) : Nat × Nat).2 = 0 ∧ K (a + 3, 0).1 = 5 from ⟨rfl, g⟩)] at g1 ⊢
      obtain ⟨-, j4, -⟩ := ky_go_s g1
      rw [j4, if_pos g]
    · rw [if_neg (show ¬ (((a + 3, 0) : Nat × Nat).2 = 0 ∧ K (a + 3, 0).1 = 5) from fun q => g q.2), if_neg g]
  rw [e0, e1, e2] at h4 k4 e4
  have h9 := hx _ rfl h4
  rw [h9] at k4 e4
  rw [e0, e1, e2, h9, e4] at k5 e5
  rw [e0, e1, e2, h9, e4, e5]
  refine ⟨k1, k2, k4, ?_, ?_⟩
  · have k6 : K (a + 3 + kz_e K a + 1) = 4 := k5
    rw [show a + 4 + kz_e K a = a + 3 + kz_e K a + 1 by omega]
    exact k6
  · show (a + 3 + kz_e K a + 1 + 1, 0) = _
    rw [show a + 4 + kz_e K a = a + 3 + kz_e K a + 1 by omega]
/-! what one tell means -/
def kz_F (K P : Nat → Nat) (V : Nat → Int) (M : q_Nm) (T : q_Tl) (a : Nat) (F : Nat × Nat) : Nat × Nat := if (V a).toNat = 0 then kz_F0 P V M a F else if (V a).toNat = 1 then kz_F1 P V M a F else if (V a).toNat = 2 then kz_F2 P V M a F else if (V a).toNat = 3 then kz_F3 P V M T a F else if (V a).toNat = 4 then kz_F4 P V M a F else if (V a).toNat = 5 then kz_F5 K P V M T a F else if (V a).toNat = 6 then kz_F6 K P V M a F else if (V a).toNat = 7 then kz_F7 P V a F else if (V a).toNat = 8 then kz_F8 P V a F else kz_F9 P V a F
def kz_T (K : Nat → Nat) (V : Nat → Int) (M : q_Nm) (T : q_Tl) (a : Nat) : q_Tl := if (V a).toNat = 0 then kz_T0 V T a else if (V a).toNat = 1 then kz_T1 V T a else if (V a).toNat = 2 then kz_T2 V T a else if (V a).toNat = 3 then kz_T3 V M T a else if (V a).toNat = 4 then kz_T4 V T a else if (V a).toNat = 5 then kz_T5 K V M T a else if (V a).toNat = 6 then kz_T6 K V M T a else if (V a).toNat = 7 then kz_T7 V T a else if (V a).toNat = 8 then kz_T8 V T a else kz_T9 V T a
def kz_M (V : Nat → Int) (M : q_Nm) (T : q_Tl) (a : Nat) : q_Nm := if (V a).toNat ≤ 3 then kn_add M (V (a + 1)) 0 (Tnc T) else if (V a).toNat = 4 then kn_add M (V (a + 1)) 1 (Tnh T) else if (V a).toNat = 5 then kn_add M (V (a + 1)) 2 (Tns T) else M
def ky_c (T : q_Tl) : Nat → Nat := fun r => if r = 3 then Tnc T else if r = 4 then Tnh T else if r = 5 then Tns T else if r = 6 then Tne T else if r = 7 then Tnj T else 0
theorem ky_tell_s {K P : Nat → Nat} {V : Nat → Int} {N : Nat} (hN : qk_tok K P V N) {c : Nat → Nat} {a : Nat} (ha : a ≤ N) (h : (ky_tell K V c a).2 = 0) : ∃ w : Nat, w < 10 ∧ V a = w ∧ K a = 6 ∧ ¬ (w ≤ 7 ∧ c (ky_rm w) = ky_mo (ky_rm w)) ∧ ky_tell K V c a = ky_run K V (ky_sh w) (ky_go (a, 0)) := by
  have hb := (ky_tell_b hN (c := c) ha).2.2 h
  obtain ⟨w, hw⟩ := Int.eq_ofNat_of_zero_le hb.2.2.1
  have hw2 : (V a).toNat = w := by omega
  refine ⟨w, by omega, hw, hb.2.1, ?_, ?_⟩
  · intro g
    unfold ky_tell at h
    rw [hw2, if_pos ⟨hb.2.1, by omega⟩, if_pos ⟨by omega, g.2⟩] at h
    exact nomatch h
  · unfold ky_tell at h ⊢
    rw [hw2, if_pos ⟨hb.2.1, by omega⟩] at h ⊢
    by_cases g : V a ≤ 7 ∧ c (ky_rm w) = ky_mo (ky_rm w)
    · rw [if_pos g] at h; exact nomatch h
    · rw [if_neg g]
theorem kz_F_f {K P : Nat → Nat} {V : Nat → Int} {M : q_Nm} {T : q_Tl} {a : Nat} {F : Nat × Nat} (h : F.1 ≠ 0) : kz_F K P V M T a F = F := by
  have hd : ∀ a, (kz_du P V M F a) = F := fun a => kz_du_f h
  have hn : ∀ lo hi a, kz_nu P V lo hi F a = F := fun lo hi a => kz_nu_f h
  have hu : ∀ s a, kz_un P V M s F a = F := fun s a => kz_un_f h
  have hb : ∀ k p, ky_bad F k p = F := fun k p => ky_bad_f h
  unfold kz_F kz_F0 kz_F1 kz_F2 kz_F3 kz_F4 kz_F5 kz_F5a kz_F6 kz_F7 kz_F8 kz_F9
  simp only [hd, hn, hu, hb, ite_self]
theorem kz_c_step {K P : Nat → Nat} {V : Nat → Int} {M : q_Nm} {T : q_Tl} {a w : Nat} (hw : V a = w) (hw2 : w < 10) : ky_c (kz_T K V M T a) = ky_ci (ky_c T) w := by
  have hw3 : (V a).toNat = w := by omega
  have h10 : w = 0 ∨ w = 1 ∨ w = 2 ∨ w = 3 ∨ w = 4 ∨ w = 5 ∨ w = 6 ∨ w = 7 ∨ w = 8 ∨ w = 9 := by omega
  funext r
  unfold kz_T kz_T0 kz_T1 kz_T2 kz_T3 kz_T4 kz_T5 kz_T6 kz_T7 kz_T8 kz_T9 ky_c ky_ci ky_rm
  rw [hw3]
  rcases h10 with rfl | rfl | rfl | rfl | rfl | rfl | rfl | rfl | rfl | rfl <;> simp [kt_code_Tnc, kt_code_Tnh, kt_code_Tns, kt_code_Tne, kt_code_Tnj, kt_hop_Tnc, kt_hop_Tnh, kt_hop_Tns, kt_hop_Tne, kt_hop_Tnj, kt_send_Tnc, kt_send_Tnh, kt_send_Tns, kt_send_Tne, kt_send_Tnj, kt_echo_Tnc, kt_echo_Tnh, kt_echo_Tns, kt_echo_Tne, kt_echo_Tnj, kt_jam_Tnc, kt_jam_Tnh, kt_jam_Tns, kt_jam_Tne, kt_jam_Tnj, kt_noise_Tnc, kt_noise_Tnh, kt_noise_Tns, kt_noise_Tne, kt_noise_Tnj, kt_samp_Tnc, kt_samp_Tnh, kt_samp_Tns, kt_samp_Tne, kt_samp_Tnj] <;> (try (by_cases g3 : r = 3 <;> by_cases g4 : r = 4 <;> by_cases g5 : r = 5 <;> by_cases g6 : r = 6 <;> by_cases g7 : r = 7 <;> simp [g3, g4, g5, g6, g7] <;> omega))
/-- the room there is -/
def ky_cw (T : q_Tl) : Prop := Tnc T ≤ 8 ∧ Tnh T ≤ 6 ∧ Tns T ≤ 6 ∧ Tne T ≤ 6 ∧ Tnj T ≤ 4
theorem ky_room_c {T : q_Tl} (hT : ky_cw T) {w : Nat} (hw : w < 10) (h : ¬ (w ≤ 7 ∧ ky_c T (ky_rm w) = ky_mo (ky_rm w))) : (w ≤ 3 → Tnc T < 8) ∧ (w = 4 → Tnh T < 6) ∧ (w = 5 → Tns T < 6) ∧ (w = 6 → Tne T < 6) ∧ (w = 7 → Tnj T < 4) := by
  obtain ⟨h1, h2, h3, h4, h5⟩ := hT
  have h10 : w = 0 ∨ w = 1 ∨ w = 2 ∨ w = 3 ∨ w = 4 ∨ w = 5 ∨ w = 6 ∨ w = 7 ∨ w = 8 ∨ w = 9 := by omega
  rcases h10 with rfl | rfl | rfl | rfl | rfl | rfl | rfl | rfl | rfl | rfl <;> simp [ky_c, ky_rm, ky_mo] at h ⊢ <;> omega
/-- names after one tell -/
theorem kz_M_ok {K P : Nat → Nat} {V : Nat → Int} {N : Nat} {M : q_Nm} {T : q_Tl} {a w : Nat} (hN : qk_tok K P V N) (hw : V a = w) (hw2 : w < 10) (hk : w ≤ 5 → K (a + 1) = 2) (hM : kn_wf M) (hr : kn_r M T) (hc : ky_cw T) (hrm : (w ≤ 3 → Tnc T < 8) ∧ (w = 4 → Tnh T < 6) ∧ (w = 5 → Tns T < 6) ∧ (w = 6 → Tne T < 6) ∧ (w = 7 → Tnj T < 4)) : kn_wf (kz_M V M T a) ∧ kn_r (kz_M V M T a) (kz_T K V M T a) ∧ ky_cw (kz_T K V M T a) ∧ (w ≤ 5 → M.1 < 20) := by
  have hw3 : (V a).toNat = w := by omega
  obtain ⟨r1, r2⟩ := hr
  obtain ⟨c1, c2, c3, c4, c5⟩ := hc
  have hM20 : w ≤ 5 → M.1 < 20 := by
    intro h
    by_cases g : w ≤ 3
    · have := hrm.1 g; omega
    · by_cases g2 : w = 4
      · have := hrm.2.1 g2; omega
      · have := hrm.2.2.1 (by omega); omega
  have hv : w ≤ 5 → 0 ≤ V (a + 1) ∧ V (a + 1) < 282429536481 := fun h => (hN.2.2.2.2.2 (a + 1)).2.2 (hk h)
  have hrn : ∀ (s z : Nat) (T2 : q_Tl), Tnc T2 + Tnh T2 + Tns T2 = M.1 + 1 → Tnc T ≤ Tnc T2 → Tns T ≤ Tns T2 → (s = 0 → z < Tnc T2) → (s = 2 → z < Tns T2) → kn_r (kn_add M (V (a + 1)) s z) T2 := by
    intro s z T2 h1 h2 h3 h4 h5
    refine ⟨by show M.1 + 1 = _; omega, fun k hk => ?_⟩
    have hk2 : k < M.1 + 1 := hk
    show ((if k = M.1 then s else M.2.2.1 k) = 0 → (if k = M.1 then z else M.2.2.2 k) < Tnc T2) ∧ ((if k = M.1 then s else M.2.2.1 k) = 2 → (if k = M.1 then z else M.2.2.2 k) < Tns T2)
    by_cases g : k = M.1
    · simp only [if_pos g]
      exact ⟨h4, h5⟩
    · simp only [if_neg g]
      have h6 := r2 k (by omega)
      exact ⟨fun q => by have := h6.1 q; omega, fun q => by have := h6.2 q; omega⟩
  have h10 : w ≤ 3 ∨ w = 4 ∨ w = 5 ∨ w = 6 ∨ w = 7 ∨ w = 8 ∨ w = 9 := by omega
  rcases h10 with g | rfl | rfl | rfl | rfl | rfl | rfl
  · have e1 : kz_M V M T a = kn_add M (V (a + 1)) 0 (Tnc T) := by
      unfold kz_M
      rw [hw3, if_pos g]
    have e2 : ∃ l ch, kz_T K V M T a = kt_code T l ch := by
      unfold kz_T kz_T0 kz_T1 kz_T2 kz_T3
      rw [hw3]
      have g4 : w = 0 ∨ w = 1 ∨ w = 2 ∨ w = 3 := by omega
      rcases g4 with rfl | rfl | rfl | rfl <;> exact ⟨_, _, rfl⟩
    obtain ⟨l, ch, e2⟩ := e2
    have h8 := hrm.1 g
    rw [e1, e2]
    refine ⟨kn_add_wf hM (hM20 (by omega)) (hv (by omega)) (by omega) (by omega), hrn _ _ _ ?_ ?_ ?_ (fun _ => ?_) (fun q => absurd q (by omega)), ?_, hM20⟩
    · rw [kt_code_Tnc, kt_code_Tnh, kt_code_Tns]; omega
    · rw [kt_code_Tnc]; omega
    · rw [kt_code_Tns]; omega
    · rw [kt_code_Tnc]; omega
    · unfold ky_cw
      rw [kt_code_Tnc, kt_code_Tnh, kt_code_Tns, kt_code_Tne, kt_code_Tnj]; omega
  · have e1 : kz_M V M T a = kn_add M (V (a + 1)) 1 (Tnh T) := by
      unfold kz_M
      rw [hw3]
      rfl
    have e2 : ∃ x y z, kz_T K V M T a = kt_hop T x y z := by
      unfold kz_T kz_T4
      rw [hw3]
      exact ⟨_, _, _, rfl⟩
    obtain ⟨x, y, z, e2⟩ := e2
    have h8 := hrm.2.1 rfl
    rw [e1, e2]
    refine ⟨kn_add_wf hM (hM20 (by omega)) (hv (by omega)) (by omega) (by omega), hrn _ _ _ ?_ ?_ ?_ (fun q => absurd q (by omega)) (fun q => absurd q (by omega)), ?_, hM20⟩
    · rw [kt_hop_Tnc, kt_hop_Tnh, kt_hop_Tns]; omega
    · rw [kt_hop_Tnc]; omega
    · rw [kt_hop_Tns]; omega
    · unfold ky_cw
      rw [kt_hop_Tnc, kt_hop_Tnh, kt_hop_Tns, kt_hop_Tne, kt_hop_Tnj]; omega
  · have e1 : kz_M V M T a = kn_add M (V (a + 1)) 2 (Tns T) := by
      unfold kz_M
      rw [hw3]
      rfl
    have e2 : ∃ x1 x2 x3 x4 x5 x6, kz_T K V M T a = kt_send T x1 x2 x3 x4 x5 x6 := by
      unfold kz_T kz_T5
      rw [hw3]
      exact ⟨_, _, _, _, _, _, rfl⟩
    obtain ⟨x1, x2, x3, x4, x5, x6, e2⟩ := e2
    have h8 := hrm.2.2.1 rfl
    rw [e1, e2]
    refine ⟨kn_add_wf hM (hM20 (by omega)) (hv (by omega)) (by omega) (by omega), hrn _ _ _ ?_ ?_ ?_ (fun q => absurd q (by omega)) (fun q => ?_), ?_, hM20⟩
    · rw [kt_send_Tnc, kt_send_Tnh, kt_send_Tns]; omega
    · rw [kt_send_Tnc]; omega
    · rw [kt_send_Tns]; omega
    · rw [kt_send_Tns]; omega
    · unfold ky_cw
      rw [kt_send_Tnc, kt_send_Tnh, kt_send_Tns, kt_send_Tne, kt_send_Tnj]; omega
  · have e1 : kz_M V M T a = M := by
      unfold kz_M
      rw [hw3]
      rfl
    have e2 : ∃ x y z, kz_T K V M T a = kt_echo T x y z := by
      unfold kz_T kz_T6
      rw [hw3]
      exact ⟨_, _, _, rfl⟩
    obtain ⟨x, y, z, e2⟩ := e2
    have h8 := hrm.2.2.2.1 rfl
    rw [e1, e2]
    refine ⟨hM, ?_, ?_, hM20⟩
    · unfold kn_r
      rw [kt_echo_Tnc, kt_echo_Tnh, kt_echo_Tns]
      exact ⟨r1, r2⟩
    · unfold ky_cw
      rw [kt_echo_Tnc, kt_echo_Tnh, kt_echo_Tns, kt_echo_Tne, kt_echo_Tnj]; omega
  · have e1 : kz_M V M T a = M := by
      unfold kz_M
      rw [hw3]
      rfl
    have e2 : ∃ x y z u, kz_T K V M T a = kt_jam T x y z u := by
      unfold kz_T kz_T7
      rw [hw3]
      exact ⟨_, _, _, _, rfl⟩
    obtain ⟨x, y, z, u, e2⟩ := e2
    have h8 := hrm.2.2.2.2 rfl
    rw [e1, e2]
    refine ⟨hM, ?_, ?_, hM20⟩
    · unfold kn_r
      rw [kt_jam_Tnc, kt_jam_Tnh, kt_jam_Tns]
      exact ⟨r1, r2⟩
    · unfold ky_cw
      rw [kt_jam_Tnc, kt_jam_Tnh, kt_jam_Tns, kt_jam_Tne, kt_jam_Tnj]; omega
  · have e1 : kz_M V M T a = M := by
      unfold kz_M
      rw [hw3]
      rfl
    have e2 : ∃ x y, kz_T K V M T a = kt_noise T x y := by
      unfold kz_T kz_T8
      rw [hw3]
      exact ⟨_, _, rfl⟩
    obtain ⟨x, y, e2⟩ := e2
    rw [e1, e2]
    refine ⟨hM, ?_, ?_, hM20⟩
    · unfold kn_r
      rw [kt_noise_Tnc, kt_noise_Tnh, kt_noise_Tns]
      exact ⟨r1, r2⟩
    · unfold ky_cw
      rw [kt_noise_Tnc, kt_noise_Tnh, kt_noise_Tns, kt_noise_Tne, kt_noise_Tnj]; omega
  · have e1 : kz_M V M T a = M := by
      unfold kz_M
      rw [hw3]
      rfl
    have e2 : ∃ x, kz_T K V M T a = kt_samp T x := by
      unfold kz_T kz_T9
      rw [hw3]
      exact ⟨_, rfl⟩
    obtain ⟨x, e2⟩ := e2
    rw [e1, e2]
    refine ⟨hM, ?_, ?_, hM20⟩
    · unfold kn_r
      rw [kt_samp_Tnc, kt_samp_Tnh, kt_samp_Tns]
      exact ⟨r1, r2⟩
    · unfold ky_cw
      rw [kt_samp_Tnc, kt_samp_Tnh, kt_samp_Tns, kt_samp_Tne, kt_samp_Tnj]; omega
/-- names stay told once each as long as there is no fault -/
theorem kz_M_un {K P : Nat → Nat} {V : Nat → Int} {M : q_Nm} {T : q_Tl} {a w : Nat} {F : Nat × Nat} (hw : V a = w) (hw2 : w < 10) (hu : kn_un M) (h : (kz_F K P V M T a F).1 = 0) : kn_un (kz_M V M T a) := by
  have hw3 : (V a).toNat = w := by omega
  have h10 : w = 0 ∨ w = 1 ∨ w = 2 ∨ w = 3 ∨ w = 4 ∨ w = 5 ∨ 6 ≤ w := by omega
  have hbad : ∀ (x : Nat × Nat) (k p : Nat) (c : Prop) [Decidable c], k ≠ 0 → (if c then x else ky_bad x k p).1 = 0 → x.1 = 0 := by
    intro x k p c _ hk hx
    by_cases g : c
    · rw [if_pos g] at hx; exact hx
    · rw [if_neg g] at hx; exact absurd hx (ky_bad_n hk)
  have hbad2 : ∀ (x : Nat × Nat) (k p : Nat) (c : Prop) [Decidable c], k ≠ 0 → (if c then ky_bad x k p else x).1 = 0 → x.1 = 0 := by
    intro x k p c _ hk hx
    by_cases g : c
    · rw [if_pos g] at hx; exact absurd hx (ky_bad_n hk)
    · rw [if_neg g] at hx; exact hx
  unfold kz_F at h
  unfold kz_M
  rw [hw3] at h ⊢
  rcases h10 with rfl | rfl | rfl | rfl | rfl | rfl | g
  · exact kn_un_add hu (kz_du_0 (kz_nu_0 (kz_nu_0 (kz_nu_0 h).1).1).1).2
  · exact kn_un_add hu (kz_du_0 (kz_nu_0 (kz_nu_0 h).1).1).2
  · exact kn_un_add hu (kz_du_0 (kz_nu_0 (kz_nu_0 h).1).1).2
  · have h1 : (kz_F3 P V M T a F).1 = 0 := h
    unfold kz_F3 at h1
    have h2 := hbad _ _ _ _ (by omega) (kz_nu_0 h1).1
    exact kn_un_add hu (kz_du_0 (kz_un_0 (kz_un_0 h2).1).1).2
  · have h1 : (kz_F4 P V M a F).1 = 0 := h
    unfold kz_F4 at h1
    have h2 := hbad2 _ _ _ _ (by omega) (kz_nu_0 (kz_nu_0 h1).1).1
    exact kn_un_add hu (kz_du_0 (kz_nu_0 h2).1).2
  · have h1 : (kz_F5 K P V M T a F).1 = 0 := h
    have h2 : (kz_F5a P V M T a F).1 = 0 := by
      unfold kz_F5 at h1
      by_cases g : K (a + 7) = 6
      · rw [if_pos g] at h1; exact (kz_nu_0 h1).1
      · rw [if_neg g] at h1; exact h1
    unfold kz_F5a at h2
    exact kn_un_add hu (kz_du_0 (kz_un_0 (kz_nu_0 (kz_nu_0 (kz_nu_0 (kz_nu_0 h2).1).1).1).1).1).2
  · rw [if_neg (by omega), if_neg (by omega), if_neg (by omega)]
    exact hu
