/-! level two: the check's tells of rows, whole -/
theorem kq_R_c {b sd N : Nat} {K P : Nat → Nat} {V : Nat → Int} {d e : q_Dt} {s F F2 : Nat × Nat} {M M2 : q_Nm} {T T2 : q_Tl} (h : kq_R b sd N K P V d e s F M T) (h2 : s.2 = 0 → F = F2 ∧ M = M2 ∧ T = T2) : kq_R b sd N K P V d e s F2 M2 T2 := by
  refine ⟨h.1, h.2.1, h.2.2.1, fun q => ?_⟩
  obtain ⟨rfl, rfl, rfl⟩ := h2 q
  exact h.2.2.2 q
theorem kq_R_fz {b sd N : Nat} {K P : Nat → Nat} {V : Nat → Int} {d d1 e : q_Dt} {s F : Nat × Nat} {M : q_Nm} {T : q_Tl} (hf : ky_fz b d d1) (h : kq_R b sd N K P V d1 e s F M T) : kq_R b sd N K P V d e s F M T := ⟨kq_fr_t (kq_fr_z hf) h.1, h.2⟩
theorem kq_W_fz {b sd : Nat} {d e : q_Dt} {T : q_Tl} (h : kq_W b sd d T) (hf : ky_fz b d e) : kq_W b sd e T := by
  obtain ⟨h1, h2, h3, h4⟩ := h
  refine ⟨h1, ?_, ?_, fun j hj => ?_⟩
  · rw [hf.2.1 19 (by omega) (by omega) (by omega) (by omega) (by omega) (by omega)]; exact h2
  · rw [hf.1 (b + 11) (by omega), hf.1 (b + 14) (by omega), hf.1 (b + 18) (by omega), hf.1 (b + 25) (by omega), hf.1 (b + 29) (by omega)]; exact h3
  · rw [hf.1 (b + 12) (by omega)]; exact h4 j hj
theorem kq_S_x {b sd : Nat} {d e : q_Dt} {T : q_Tl} (h : kq_S b sd d T) (f : ∀ o, 12 ≤ o → o ≤ 36 → e.1 (b + o) = d.1 (b + o)) : kq_S b sd e T := by
  obtain ⟨hw, h0, hC, hH, hS, hE, hJ⟩ := h
  refine ⟨hw, ?_, ?_, ?_, ?_, ?_, ?_⟩
  · rw [f 34 (by omega) (by omega), f 35 (by omega) (by omega), f 36 (by omega) (by omega)]; exact h0
  · unfold q_MC; rw [f 12 (by omega) (by omega), f 13 (by omega) (by omega)]; exact hC
  · unfold q_MH; rw [f 15 (by omega) (by omega), f 16 (by omega) (by omega), f 17 (by omega) (by omega)]; exact hH
  · unfold q_MS; rw [f 19 (by omega) (by omega), f 20 (by omega) (by omega), f 21 (by omega) (by omega), f 22 (by omega) (by omega), f 23 (by omega) (by omega), f 24 (by omega) (by omega)]; exact hS
  · unfold q_ME; rw [f 26 (by omega) (by omega), f 27 (by omega) (by omega), f 28 (by omega) (by omega)]; exact hE
  · unfold q_MJ; rw [f 30 (by omega) (by omega), f 31 (by omega) (by omega), f 32 (by omega) (by omega), f 33 (by omega) (by omega)]; exact hJ
theorem kq_S_fz {b sd : Nat} {d e : q_Dt} {T : q_Tl} (h : kq_S b sd d T) (hf : ky_fz b d e) : kq_S b sd e T := kq_S_x h (fun o h1 h2 => hf.1 (b + o) (by omega))
theorem kz_w {V : Nat → Int} {a w : Nat} (h : V a = w) : (V a).toNat = w := by omega
theorem ky_r0 {K : Nat → Nat} {V : Nat → Int} {s : Nat × Nat} : ky_run K V (ky_sh 0) s = ky_mu K 4 (ky_mu K 3 (ky_mu K 3 (ky_mu K 3 (ky_mu K 2 s)))) := by
  show ky_run K V [110, 105, 105, 105, 59] s = _
  simp only [ky_run_c, ky_run_n, ky_p1, ky_p2, ky_p3]
theorem ky_r1 {K : Nat → Nat} {V : Nat → Int} {s : Nat × Nat} : ky_run K V (ky_sh 1) s = ky_mu K 4 (ky_mu K 3 (ky_mu K 3 (ky_mu K 2 s))) := by
  show ky_run K V [110, 105, 105, 59] s = _
  simp only [ky_run_c, ky_run_n, ky_p1, ky_p2, ky_p3]
theorem ky_r2 {K : Nat → Nat} {V : Nat → Int} {s : Nat × Nat} : ky_run K V (ky_sh 2) s = ky_mu K 4 (ky_mu K 3 (ky_mu K 3 (ky_mu K 2 s))) := by
  show ky_run K V [110, 105, 105, 59] s = _
  simp only [ky_run_c, ky_run_n, ky_p1, ky_p2, ky_p3]
theorem ky_r3 {K : Nat → Nat} {V : Nat → Int} {s : Nat × Nat} : ky_run K V (ky_sh 3) s = ky_mu K 4 (ky_mu K 3 (ky_mu K 2 (ky_mu K 2 (ky_mu K 2 s)))) := by
  show ky_run K V [110, 110, 110, 105, 59] s = _
  simp only [ky_run_c, ky_run_n, ky_p1, ky_p2, ky_p3]
/-- positions when a tell goes on from its name -/
theorem ky_g1 {K : Nat → Nat} {s : Nat × Nat} {a : Nat} (hs : s = ky_go (a, 0)) (h : (ky_mu K 2 s).2 = 0) : s.1 = a + 1 ∧ K s.1 = 2 ∧ (ky_mu K 2 s).1 = a + 2 := by
  have h1 := ky_mu_s h
  rw [hs] at h1
  have h2 := ky_go_s h1.1
  have e : s.1 = a + 1 := by rw [hs, h2.2.1]
  refine ⟨e, ?_, ?_⟩
  · rw [hs]; exact h1.2.1
  · rw [hs, h1.2.2.1, ← hs, e]
theorem k_tcode {b sd N a w : Nat} {K P : Nat → Nat} {V : Nat → Int} {d : q_Dt} {F : Nat × Nat} {M : q_Nm} {T : q_Tl} (hw : w ≤ 3) (hV : V a = w) (h : kq_P b N K P V d (ky_go (a, 0)) F M) (hN : qk_tok K P V N) (ha : a ≤ N) (hK : K a = 6) (hM : kn_wf M) (hr : kn_r M T) (hW : kq_W b sd d T) (hc : Tnc T < 8) (hM20 : M.1 < 20) (hS : F.1 = 0 → kq_S b sd d T) : ∃ e, X12_tellCode (A2 b) d b (wI (20 + w : Nat)) = some e ∧ kq_R b sd N K P V d e (ky_run K V (ky_sh w) (ky_go (a, 0))) (kz_F K P V M T a F) (kz_M V M T a) (kz_T K V M T a) := by
  have hN4 := hN.1
  have hg0 : ky_ok K N (a, 0) := ⟨ha, by show (0 : Nat) ≤ 2; omega⟩
  have hs := (ky_go_b hN hg0 (fun _ => by show 2 ≤ K a; omega)).1
  obtain ⟨s, hse⟩ : ∃ s, s = ky_go (a, 0) := ⟨_, rfl⟩
  rw [← hse] at h hs ⊢
  have hs1 := (ky_mu_b hN hs (k := 2) (by omega)).1
  have hs2 := (ky_mu_b hN hs1 (k := 3) (by omega)).1
  have hs3 := (ky_mu_b hN hs2 (k := 3) (by omega)).1
  have hs4 := (ky_mu_b hN hs3 (k := 3) (by omega)).1
  obtain ⟨hsd, h19, hcn, hl⟩ := hW
  obtain ⟨d1, F1, r1, r2, r3, r4, r5⟩ := kq_named h hN hs hM
  have hW1 := kq_W_fz ⟨hsd, h19, hcn, hl⟩ r3
  have hS1 : F.1 = 0 → kq_S b sd d1 T := fun q => kq_S_fz (hS q) r3
  have hi16 : 8 * sd + Tnc T < 16 := by omega
  have hV3 := kz_w hV
  unfold X12_tellCode
  rw [h19, m24, n24, if_neg (kz_ixn hsd (by omega)), kz_nat (by omega), hcn.1, kz_ix8]
  simp only [o1s]
  rw [r1]
  simp only [b2s]
  have h4 : w = 0 ∨ w = 1 ∨ w = 2 ∨ w = 3 := by omega
  rcases h4 with rfl | rfl | rfl | rfl
  · rw [if_pos (show wI ((20 + 0 : Nat) : Int) = 20 from rfl), ky_r0]
    obtain ⟨e0, F3, p1, p2, p3, p4⟩ := k_cr (wI s.1) r2 hN hs1 hi16
    rw [p1]
    have hpos : (ky_mu K 3 (ky_mu K 3 (ky_mu K 3 (ky_mu K 2 s)))).2 = 0 → s.1 = a + 1 ∧ K s.1 = 2 ∧ (ky_mu K 2 s).1 = a + 2 ∧ F1 = kz_du P V M F (a + 1) := by
      intro q
      have q1 := (ky_mu_s (ky_mu_s (ky_mu_s q).1).1).1
      have g := ky_g1 hse q1
      have g2 := r4 q1
      rw [g.1] at g2
      exact ⟨g.1, g.2.1, g.2.2, g2⟩
    obtain ⟨e, q1, q2⟩ := kq_code (F0 := F) hW1 hc p4 p2 hN hs4 hM20 hs.1 (fun q => (hpos (ky_mu_s q).1).2.1) (fun q h0 => by
      obtain ⟨g1, g2, g3, g4⟩ := hpos q
      rw [p3 q, g4] at h0
      exact (kz_du_0 (kz_nu_0 (kz_nu_0 (kz_nu_0 h0).1).1).1).1) hS1 (fun q h0 => by
      obtain ⟨g1, g2, g3, g4⟩ := hpos q
      rw [p3 q] at h0
      have j := (kz_nu_0 (kz_nu_0 (kz_nu_0 h0).1).1).2
      have hn : 2 ≤ kz_n V (ky_mu K 2 s).1 ∧ kz_n V (ky_mu K 2 s).1 ≤ 7 := by unfold kz_n; omega
      have hp7 : (2 : Nat) ^ kz_n V (ky_mu K 2 s).1 ≤ 2 ^ 7 := Nat.pow_le_pow_right (by omega) hn.2
      have hp4 : (2 : Nat) ^ 2 ≤ 2 ^ kz_n V (ky_mu K 2 s).1 := Nat.pow_le_pow_right (by omega) hn.1
      exact ⟨by omega, fun i _ => kc_sg_2 _⟩)
    refine ⟨e, q1, kq_R_c (kq_R_fz r3 q2) (fun q => ?_)⟩
    have q0 := (ky_mu_s q).1
    obtain ⟨g1, g2, g3, g4⟩ := hpos q0
    have e3 := p3 q0
    rw [g3, g4] at e3
    unfold kz_F kz_M kz_T
    rw [hV3, g1, g3]
    exact ⟨e3, rfl, rfl⟩
  · rw [if_neg (show ¬ wI ((20 + 1 : Nat) : Int) = 20 by decide), if_pos (show wI ((20 + 1 : Nat) : Int) = 21 from rfl), ky_r1]
    obtain ⟨e0, F3, p1, p2, p3, p4⟩ := k_cw (wI s.1) r2 hN hs1 hi16
    rw [p1]
    have hpos : (ky_mu K 3 (ky_mu K 3 (ky_mu K 2 s))).2 = 0 → s.1 = a + 1 ∧ K s.1 = 2 ∧ (ky_mu K 2 s).1 = a + 2 ∧ F1 = kz_du P V M F (a + 1) := by
      intro q
      have q1 := (ky_mu_s (ky_mu_s q).1).1
      have g := ky_g1 hse q1
      have g2 := r4 q1
      rw [g.1] at g2
      exact ⟨g.1, g.2.1, g.2.2, g2⟩
    obtain ⟨e, q1, q2⟩ := kq_code (F0 := F) hW1 hc p4 p2 hN hs3 hM20 hs.1 (fun q => (hpos (ky_mu_s q).1).2.1) (fun q h0 => by
      obtain ⟨g1, g2, g3, g4⟩ := hpos q
      rw [p3 q, g4] at h0
      exact (kz_du_0 (kz_nu_0 (kz_nu_0 h0).1).1).1) hS1 (fun q h0 => by
      obtain ⟨g1, g2, g3, g4⟩ := hpos q
      rw [p3 q] at h0
      have j := (kz_nu_0 (kz_nu_0 h0).1).2
      have hn : 1 ≤ kz_n V (ky_mu K 2 s).1 ∧ kz_n V (ky_mu K 2 s).1 ≤ 6 := by unfold kz_n; omega
      have hp7 : (2 : Nat) ^ kz_n V (ky_mu K 2 s).1 ≤ 2 ^ 6 := Nat.pow_le_pow_right (by omega) hn.2
      have hp4 := Nat.two_pow_pos (kz_n V (ky_mu K 2 s).1)
      exact ⟨by omega, fun i _ => kc_sg_2 _⟩)
    refine ⟨e, q1, kq_R_c (kq_R_fz r3 q2) (fun q => ?_)⟩
    have q0 := (ky_mu_s q).1
    obtain ⟨g1, g2, g3, g4⟩ := hpos q0
    have e3 := p3 q0
    rw [g3, g4] at e3
    unfold kz_F kz_M kz_T
    rw [hV3, g1, g3]
    exact ⟨e3, rfl, rfl⟩
  · rw [if_neg (show ¬ wI ((20 + 2 : Nat) : Int) = 20 by decide), if_neg (show ¬ wI ((20 + 2 : Nat) : Int) = 21 by decide), if_pos (show wI ((20 + 2 : Nat) : Int) = 22 from rfl), ky_r2]
    obtain ⟨e0, F3, p1, p2, p3, p4⟩ := k_cb (wI s.1) r2 hN hs1 hi16
    rw [p1]
    have hpos : (ky_mu K 3 (ky_mu K 3 (ky_mu K 2 s))).2 = 0 → s.1 = a + 1 ∧ K s.1 = 2 ∧ (ky_mu K 2 s).1 = a + 2 ∧ F1 = kz_du P V M F (a + 1) := by
      intro q
      have q1 := (ky_mu_s (ky_mu_s q).1).1
      have g := ky_g1 hse q1
      have g2 := r4 q1
      rw [g.1] at g2
      exact ⟨g.1, g.2.1, g.2.2, g2⟩
    obtain ⟨e, q1, q2⟩ := kq_code (F0 := F) hW1 hc p4 p2 hN hs3 hM20 hs.1 (fun q => (hpos (ky_mu_s q).1).2.1) (fun q h0 => by
      obtain ⟨g1, g2, g3, g4⟩ := hpos q
      rw [p3 q, g4] at h0
      exact (kz_du_0 (kz_nu_0 (kz_nu_0 h0).1).1).1) hS1 (fun q h0 => by
      obtain ⟨g1, g2, g3, g4⟩ := hpos q
      rw [p3 q] at h0
      have j := (kz_nu_0 (kz_nu_0 h0).1).2
      have hn : 1 ≤ kz_n V (ky_mu K 2 s).1 ∧ kz_n V (ky_mu K 2 s).1 ≤ 13 := by unfold kz_n; omega
      exact ⟨by omega, fun i _ => kc_sg_2 _⟩)
    refine ⟨e, q1, kq_R_c (kq_R_fz r3 q2) (fun q => ?_)⟩
    have q0 := (ky_mu_s q).1
    obtain ⟨g1, g2, g3, g4⟩ := hpos q0
    have e3 := p3 q0
    rw [g3, g4] at e3
    unfold kz_F kz_M kz_T
    rw [hV3, g1, g3]
    exact ⟨e3, rfl, rfl⟩
  · rw [if_neg (show ¬ wI ((20 + 3 : Nat) : Int) = 20 by decide), if_neg (show ¬ wI ((20 + 3 : Nat) : Int) = 21 by decide), if_neg (show ¬ wI ((20 + 3 : Nat) : Int) = 22 by decide), ky_r3]
    have hL1 : F1.1 = 0 → q_wC T ∧ q_MC b sd d1 T := fun q => ⟨(hS1 (r5 q)).1.2.1, (hS1 (r5 q)).2.2.1⟩
    obtain ⟨e0, F3, p1, p2, p3, p4⟩ := k_ct r2 hN hs1 hM hr hsd hW1.2.1 hc rfl hW1.2.2.2 hL1
    rw [p1]
    simp only [b1s]
    have hb2 := (ky_mu_b hN hs1 (k := 2) (by omega)).1
    have hb3 := (ky_mu_b hN hb2 (k := 2) (by omega)).1
    have hb4 := (ky_mu_b hN hb3 (k := 3) (by omega)).1
    have hpos : (ky_mu K 3 (ky_mu K 2 (ky_mu K 2 (ky_mu K 2 s)))).2 = 0 → s.1 = a + 1 ∧ K s.1 = 2 ∧ (ky_mu K 2 s).1 = a + 2 ∧ F1 = kz_du P V M F (a + 1) := by
      intro q
      have q1 := (ky_mu_s (ky_mu_s (ky_mu_s q).1).1).1
      have g := ky_g1 hse q1
      have g2 := r4 q1
      rw [g.1] at g2
      exact ⟨g.1, g.2.1, g.2.2, g2⟩
    have hbad : ∀ (x : Nat × Nat) (k p : Nat) (c : Prop) [Decidable c], k ≠ 0 → (if c then x else ky_bad x k p).1 = 0 → x.1 = 0 := by
      intro x k p c _ hk hx
      by_cases g : c
      · rw [if_pos g] at hx; exact hx
      · rw [if_neg g] at hx; exact absurd hx (ky_bad_n hk)
    have hun : (ky_mu K 3 (ky_mu K 2 (ky_mu K 2 (ky_mu K 2 s)))).2 = 0 → F3.1 = 0 → F1.1 = 0 ∧ kn_fd M (V (ky_mu K 2 s).1) 0 M.1 0 = some (kz_c V M 0 (ky_mu K 2 s).1) ∧ kn_fd M (V ((ky_mu K 2 s).1 + 1)) 0 M.1 0 = some (kz_c V M 0 ((ky_mu K 2 s).1 + 1)) := by
      intro q h0
      rw [p3 q] at h0
      unfold kz_B at h0
      have j1 := hbad _ _ _ _ (by omega) (kz_nu_0 h0).1
      have j2 := kz_un_0 j1
      have j3 := kz_un_0 j2.1
      exact ⟨j3.1, j3.2, j2.2⟩
    obtain ⟨e, q1, q2⟩ := kq_code (F0 := F) hW1 hc p4 p2 hN hb4 hM20 hs.1 (fun q => (hpos (ky_mu_s q).1).2.1) (fun q h0 => r5 (hun q h0).1) hS1 (fun q h0 => by
      obtain ⟨g1, g2, g3⟩ := hun q h0
      have hwC := (hL1 g1).1
      have c1 := hwC _ (kn_r_fd hr g2)
      have c2 := hwC _ (kn_r_fd hr g3)
      refine ⟨c1.1, fun i hi => ?_⟩
      have h2 := c1.2 i hi
      have h3 := c2.2 ((i + kz_n V ((ky_mu K 2 s).1 + 2)) % Tlen T (kz_c V M 0 ((ky_mu K 2 s).1 + 1))) (Nat.mod_lt _ (by omega))
      unfold kc_bo
      rcases h2 with h2 | h2 <;> rcases h3 with h3 | h3 <;> rw [h2, h3] <;> decide)
    refine ⟨e, q1, kq_R_c (kq_R_fz r3 q2) (fun q => ?_)⟩
    have q0 := (ky_mu_s q).1
    obtain ⟨g1, g2, g3, g4⟩ := hpos q0
    have e3 := p3 q0
    rw [g3, g4] at e3
    unfold kz_F kz_M kz_T
    rw [hV3, g1, g3]
    exact ⟨e3, rfl, rfl⟩
