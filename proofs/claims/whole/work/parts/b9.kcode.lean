/-! level two: the check's tells of rows -/
def kq_P (b N : Nat) (K P : Nat → Nat) (V : Nat → Int) (d : q_Dt) (s F : Nat × Nat) (M : q_Nm) : Prop := qk_CM b K P V (N + 1) d ∧ ky_Z b P d s F ∧ ky_FO P s F ∧ kn_T b d M
theorem kq_P_z {b N : Nat} {K P : Nat → Nat} {V : Nat → Int} {d e : q_Dt} {s F s2 F2 : Nat × Nat} {M : q_Nm} (h : kq_P b N K P V d s F M) (hf : ky_fz b d e) (h1 : ky_Z b P e s2 F2) (h2 : ky_FO P s2 F2) : kq_P b N K P V e s2 F2 M := ⟨ky_CM_z h.1 hf, h1, h2, kn_T_z h.2.2.2 hf⟩
theorem kq_P_x {b N : Nat} {K P : Nat → Nat} {V : Nat → Int} {d e : q_Dt} {s F : Nat × Nat} {M : q_Nm} (h : kq_P b N K P V d s F M) (h1 : ∀ x, x < b + 11 → e.1 x = d.1 x) (h2 : e.2 = d.2) : kq_P b N K P V e s F M := by
  obtain ⟨g1, g2, g3, g4⟩ := h
  refine ⟨fun j hj => ?_, ?_, g3, ?_⟩
  · rw [h1 (b + 3) (by omega), h1 (b + 4) (by omega), h1 (b + 5) (by omega), h2]
    exact g1 j hj
  · unfold ky_Z
    rw [h1 b (by omega)]
    exact g2
  · unfold kn_T
    rw [h1 b (by omega), h1 (b + 9) (by omega), h1 (b + 10) (by omega), h2]
    exact g4
theorem kq_bounded {b N : Nat} {K P : Nat → Nat} {V : Nat → Int} {d : q_Dt} {s F : Nat × Nat} {M : q_Nm} (h : kq_P b N K P V d s F M) (hN : qk_tok K P V N) (hs : ky_ok K N s) {lo hi : Int} (hlo : 0 ≤ lo ∧ lo ≤ 9999) (hhi : -2 ≤ hi ∧ hi ≤ 9999) : ∃ (v : Int) (d' : q_Dt) (F' : Nat × Nat), X12_bounded (A2 b) d b (wI lo) (wI hi) = some (wI v, d') ∧ kq_P b N K P V d' (ky_mu K 3 s) F' M ∧ ky_fz b d d' ∧ (0 ≤ v ∧ v ≤ 9999) ∧ (s.2 = 0 ∧ K s.1 = 3 → v = V s.1 ∧ F' = kz_nu P V lo hi F s.1) ∧ ((d'.1 b 50 = 1 ∧ s.2 = 0 ∧ K s.1 = 3 ∧ lo ≤ v ∧ v ≤ hi) ∨ (d'.1 b 50 = 0 ∧ (s.2 = 0 ∧ K s.1 = 3 → ¬ (lo ≤ v ∧ v ≤ hi)))) := by
  obtain ⟨v, d', r1, r2, r3, r4, r5, r6, r7⟩ := k_bounded h.1 hN h.2.1 hs h.2.2.1 hlo hhi
  refine ⟨v, d', _, r1, kq_P_z h r3 r2 r7, r3, r4, fun q => ⟨r5 q, ?_⟩, r6⟩
  unfold ky_n1
  rw [if_pos q]
  rfl
theorem kq_hang0 {b N : Nat} {K P : Nat → Nat} {V : Nat → Int} {d : q_Dt} {s F : Nat × Nat} {M : q_Nm} (h : kq_P b N K P V d s F M) (hN : qk_tok K P V N) (hs : ky_ok K N s) (lo hi : Int32) : ∃ (v : Int) (d' : q_Dt), X12_hangs (A2 b) d b 0 lo hi = some (wI v, d') ∧ kq_P b N K P V d' (ky_mu K 3 s) F M ∧ ky_fz b d d' ∧ (0 ≤ v ∧ v ≤ 9999) ∧ ((d'.1 b 50 = 1) ∨ (d'.1 b 50 = 0)) := by
  obtain ⟨v, d', r1, r2, r3, r4, r5, r6⟩ := k_hang0 h.1 hN h.2.1 hs h.2.2.1 lo hi
  refine ⟨v, d', r1, kq_P_z h r3 r2 r6, r3, r4, ?_⟩
  rcases r5 with r5 | r5
  · exact Or.inl r5.1
  · exact Or.inr r5
theorem kq_hang1 {b N : Nat} {K P : Nat → Nat} {V : Nat → Int} {d : q_Dt} {s F : Nat × Nat} {M : q_Nm} (h : kq_P b N K P V d s F M) (hN : qk_tok K P V N) (hs : ky_ok K N s) {lo hi : Int} (hlo : 0 ≤ lo ∧ lo ≤ 9999) (hhi : -2 ≤ hi ∧ hi ≤ 9999) : ∃ (v : Int) (d' : q_Dt) (F' : Nat × Nat), X12_hangs (A2 b) d b 1 (wI lo) (wI hi) = some (wI v, d') ∧ kq_P b N K P V d' (ky_mu K 3 s) F' M ∧ ky_fz b d d' ∧ (0 ≤ v ∧ v ≤ 9999) ∧ (s.2 = 0 ∧ K s.1 = 3 → v = V s.1 ∧ F' = kz_nu P V lo hi F s.1) ∧ ((d'.1 b 50 = 1 ∧ s.2 = 0 ∧ K s.1 = 3 ∧ lo ≤ v ∧ v ≤ hi) ∨ (d'.1 b 50 = 0 ∧ (s.2 = 0 ∧ K s.1 = 3 → ¬ (lo ≤ v ∧ v ≤ hi)))) := by
  obtain ⟨v, d', r1, r2, r3, r4, r5, r6, r7⟩ := k_hang1 h.1 hN h.2.1 hs h.2.2.1 hlo hhi
  refine ⟨v, d', _, r1, kq_P_z h r3 r2 r7, r3, r4, fun q => ⟨r5 q, ?_⟩, r6⟩
  unfold ky_n1
  rw [if_pos q]
  rfl
theorem kq_must4 {b N : Nat} {K P : Nat → Nat} {V : Nat → Int} {d : q_Dt} {s F : Nat × Nat} {M : q_Nm} (h : kq_P b N K P V d s F M) (hN : qk_tok K P V N) (hs : ky_ok K N s) : ∃ d', X12_must (A2 b) d b 4 = some d' ∧ kq_P b N K P V d' (ky_mu K 4 s) F M ∧ ky_fz b d d' := by
  obtain ⟨d', r1, r2, r3⟩ := k_must h.1 hN h.2.1 hs (k := 4) (k2 := 4) (by omega) (qk_mk_t hN s.1).2.2.1
  exact ⟨d', r1, kq_P_z h r3 r2 (ky_FO_mu hN hs (by omega) h.2.2.1 (Or.inl rfl)), r3⟩
/-- a row made, or not -/
def kq_mk (b i : Nat) (d e : q_Dt) (good : Prop) (len : Nat) (ch : Nat → Int) : Prop := (∀ x, x ≠ b → x ≠ b + 12 → x ≠ b + 13 → e.1 x = d.1 x) ∧ (∀ j, j ≠ 11 → j ≠ 13 → j ≠ 14 → j ≠ 15 → j ≠ 16 → j ≠ 50 → e.1 b j = d.1 b j) ∧ e.2 = d.2 ∧ (∀ j, j ≠ i → e.1 (b + 12) j = d.1 (b + 12) j) ∧ (∀ j, j < 128 * i ∨ 128 * i + 128 ≤ j → e.1 (b + 13) j = d.1 (b + 13) j) ∧ ((∃ n : Nat, n ≤ 127 ∧ e.1 (b + 12) i = wI n) ∨ e.1 (b + 12) i = d.1 (b + 12) i) ∧ (good → e.1 (b + 12) i = wI len ∧ ∀ k, k < len → e.1 (b + 13) (128 * i + k) = wI (ch k))
theorem kq_mk_no {b i : Nat} {d e : q_Dt} {good : Prop} {len : Nat} {ch : Nat → Int} (hf : ky_fz b d e) (h : ¬ good) : kq_mk b i d e good len ch := ⟨fun x h1 _ _ => hf.1 x h1, hf.2.1, hf.2.2, fun j _ => by rw [hf.1 (b + 12) (by omega)], fun j _ => by rw [hf.1 (b + 13) (by omega)], Or.inr (by rw [hf.1 (b + 12) (by omega)]), fun q => absurd q h⟩
theorem kq_mk_yes {b i : Nat} {d e : q_Dt} {good : Prop} {len : Nat} {ch : Nat → Int} (hf : ky_fz b d e) (hl : len ≤ 127) : kq_mk b i d (kc_L2 b e i len ch) good len ch := by
  unfold kc_L2
  refine ⟨fun x h1 h2 h3 => ?_, fun j h1 h2 h3 h4 h5 h6 => ?_, hf.2.2, fun j hj => ?_, fun j hj => ?_, Or.inl ⟨len, hl, kc_L2_len⟩, fun _ => ⟨kc_L2_len, fun k hk => q_irow_i hk⟩⟩
  · rw [q_irow_o h3, q_pI_o h2, hf.1 x h1]
  · rw [q_irow_o (by omega), q_pI_o (by omega), hf.2.1 j h1 h2 h3 h4 h5 h6]
  · rw [q_irow_o (by omega), q_pI_k hj, hf.1 (b + 12) (by omega)]
  · rw [q_irow_u (by omega), q_pI_o (by omega), hf.1 (b + 13) (by omega)]
theorem kq_P_L {b N : Nat} {K P : Nat → Nat} {V : Nat → Int} {d : q_Dt} {s F : Nat × Nat} {M : q_Nm} {i len : Nat} {ch : Nat → Int} (h : kq_P b N K P V d s F M) : kq_P b N K P V (kc_L2 b d i len ch) s F M := kq_P_x h (fun x hx => by unfold kc_L2; rw [q_irow_o (by omega), q_pI_o (by omega)]) rfl
theorem kq_iw {z : Int32} (h : z = 1 ∨ z = 0) : ¬ z = 0 → z = 1 := by
  intro g
  rcases h with h | h
  · exact h
  · exact absurd h g
theorem kq_10 : ¬ (1 : Int32) = 0 := by decide
theorem kq_nk {K : Nat → Nat} {k : Nat} {s : Nat × Nat} (h : ¬ (s.2 = 0 ∧ K s.1 = k)) : (ky_mu K k s).2 ≠ 0 := fun q => h ⟨(ky_mu_s q).1, (ky_mu_s q).2.1⟩
theorem k_cr {b N i : Nat} {K P : Nat → Nat} {V : Nat → Int} {d : q_Dt} {s F : Nat × Nat} {M : q_Nm} (tok : Int32) (h : kq_P b N K P V d s F M) (hN : qk_tok K P V N) (hs : ky_ok K N s) (hi : i < 16) : ∃ (e : q_Dt) (F3 : Nat × Nat), q_b2 (X12_bounded (A2 b) d b 2 7) (fun v dt => if (dt.1 b 50) = 0 then (X12_tellCode_b57 (A2 b) b (wI i) tok v (dt.1 b 50) 2 dt) else (X12_tellCode_b57 (A2 b) b (wI i) tok v (dt.1 b 50) (1 <<< (v &&& 31)) dt)) = X12_tellCode_b282 (A2 b) b tok e ∧ kq_P b N K P V e (ky_mu K 3 (ky_mu K 3 (ky_mu K 3 s))) F3 M ∧ ((ky_mu K 3 (ky_mu K 3 (ky_mu K 3 s))).2 = 0 → F3 = kz_nu P V 1 ((2 ^ kz_n V s.1 : Nat) - 1) (kz_nu P V 1 ((2 ^ kz_n V s.1 : Nat) - 1) (kz_nu P V 2 7 F s.1) (s.1 + 1)) (s.1 + 2)) ∧ kq_mk b i d e ((ky_mu K 3 (ky_mu K 3 (ky_mu K 3 s))).2 = 0 ∧ F3.1 = 0) (2 ^ kz_n V s.1 - 1) (kc_rg (kz_n V s.1) (kz_n V (s.1 + 1)) (kz_n V (s.1 + 2))) := by
  have hs1 := (ky_mu_b hN hs (k := 3) (by omega)).1
  have hs2 := (ky_mu_b hN hs1 (k := 3) (by omega)).1
  obtain ⟨v1, d1, F1, p1, p2, p3, p4, p5, p6⟩ := kq_bounded h hN hs (lo := 2) (hi := 7) (by omega) (by omega)
  have p1' : X12_bounded (A2 b) d b 2 7 = some (wI v1, d1) := p1
  rw [p1']
  simp only [b2s]
  -- what the positions are when all goes on
  have hpos : (ky_mu K 3 (ky_mu K 3 (ky_mu K 3 s))).2 = 0 → (s.2 = 0 ∧ K s.1 = 3) ∧ ((ky_mu K 3 s).2 = 0 ∧ K (ky_mu K 3 s).1 = 3) ∧ ((ky_mu K 3 (ky_mu K 3 s)).2 = 0 ∧ K (ky_mu K 3 (ky_mu K 3 s)).1 = 3) ∧ (ky_mu K 3 s).1 = s.1 + 1 ∧ (ky_mu K 3 (ky_mu K 3 s)).1 = s.1 + 2 := by
    intro q
    have q1 := ky_mu_s q
    have q2 := ky_mu_s q1.1
    have q3 := ky_mu_s q2.1
    refine ⟨⟨q3.1, q3.2.1⟩, ⟨q2.1, q2.2.1⟩, ⟨q1.1, q1.2.1⟩, by rw [q3.2.2.1], ?_⟩
    rw [q2.2.2.1, q3.2.2.1]
  rcases p6 with ⟨w1, w2, w3, w4, w5⟩ | ⟨w1, w2⟩
  · obtain ⟨n, rfl⟩ := Int.eq_ofNat_of_zero_le p4.1
    have hv := (p5 ⟨w2, w3⟩).1
    have hF1 := (p5 ⟨w2, w3⟩).2
    have en : kz_n V s.1 = n := by unfold kz_n; omega
    have hp7 : (2 : Nat) ^ n ≤ 2 ^ 7 := Nat.pow_le_pow_right (by omega) (by omega)
    have hp4 : (2 : Nat) ^ 2 ≤ 2 ^ n := Nat.pow_le_pow_right (by omega) (by omega)
    rw [w1, if_neg kq_10, wI_shl (by omega), en]
    unfold X12_tellCode_b57
    rw [show (1 : Int32) = wI 1 from rfl, wI_sub]
    obtain ⟨v2, d2, F2, q1, q2, q3, q4, q5, q6⟩ := kq_hang1 p2 hN hs1 (lo := 1) (hi := (2 ^ n : Nat) - 1) (by omega) (by omega)
    have q1' : X12_hangs (A2 b) d1 b (wI 1) (wI 1) (wI ((2 ^ n : Nat) - 1 : Int)) = some (wI v2, d2) := q1
    rw [q1']
    simp only [b2s]
    rw [if_neg (show ¬ wI 1 = 0 by decide)]
    have hb89 : ∀ w : Int32, (w = 1 ∧ d2.1 b 50 = 1) ∨ (w = 0 ∧ d2.1 b 50 = 0) → ∃ (e : q_Dt) (F3 : Nat × Nat), X12_tellCode_b89 (A2 b) b (wI i) tok (wI n) (wI (2 ^ n : Nat)) (wI v2) w d2 = X12_tellCode_b282 (A2 b) b tok e ∧ kq_P b N K P V e (ky_mu K 3 (ky_mu K 3 (ky_mu K 3 s))) F3 M ∧ ((ky_mu K 3 (ky_mu K 3 (ky_mu K 3 s))).2 = 0 → F3 = kz_nu P V 1 ((2 ^ n : Nat) - 1) (kz_nu P V 1 ((2 ^ n : Nat) - 1) (kz_nu P V 2 7 F s.1) (s.1 + 1)) (s.1 + 2)) ∧ kq_mk b i d e ((ky_mu K 3 (ky_mu K 3 (ky_mu K 3 s))).2 = 0 ∧ F3.1 = 0) (2 ^ n - 1) (kc_rg n (kz_n V (s.1 + 1)) (kz_n V (s.1 + 2))) := by
      intro w hw
      obtain ⟨v3, d3, F3, u1, u2, u3, u4, u5, u6⟩ := kq_hang1 q2 hN hs2 (lo := 1) (hi := (2 ^ n : Nat) - 1) (by omega) (by omega)
      have u1' : X12_hangs (A2 b) d2 b 1 1 (wI ((2 ^ n : Nat) - 1 : Int)) = some (wI v3, d3) := u1
      have fz := ky_fz_t (ky_fz_t p3 q3) u3
      have hFF : (ky_mu K 3 (ky_mu K 3 (ky_mu K 3 s))).2 = 0 → F3 = kz_nu P V 1 ((2 ^ n : Nat) - 1) (kz_nu P V 1 ((2 ^ n : Nat) - 1) (kz_nu P V 2 7 F s.1) (s.1 + 1)) (s.1 + 2) ∧ v2 = V (s.1 + 1) ∧ v3 = V (s.1 + 2) := by
        intro q
        obtain ⟨j1, j2, j3, j4, j5⟩ := hpos q
        have e2 := q5 j2
        have e3 := u5 j3
        rw [j4] at e2
        rw [j5] at e3
        rw [e3.2, e2.2, hF1]
        exact ⟨rfl, e2.1, e3.1⟩
      unfold X12_tellCode_b89 X12_tellCode_b103 X12_tellCode_b136
      rw [show (1 : Int32) = wI 1 from rfl, wI_sub, if_neg (by rw [show (2 : Int32) = wI 2 from rfl, wI_le (by omega) (by omega) (by omega) (by omega)]; omega), show X12_hangs (A2 b) d2 b (wI 1) (wI 1) (wI ((2 ^ n : Nat) - 1 : Int)) = some (wI v3, d3) from u1]
      simp only [b2s]
      by_cases gw : w = 0
      · rw [if_pos gw]
        refine ⟨d3, F3, rfl, u2, fun q => (hFF q).1, kq_mk_no fz (fun q => ?_)⟩
        have h9 := hFF q.1
        rw [h9.1] at q
        have h8 := (kz_nu_0 (kz_nu_0 q.2).1).2
        obtain ⟨j1, j2, j3, j4, j5⟩ := hpos q.1
        rcases hw with hw | hw
        · rw [hw.1] at gw; exact absurd gw (by decide)
        · rcases q6 with q6 | q6
          · rw [hw.2] at q6; exact absurd q6.1 (by decide)
          · exact q6.2 j2 (by rw [h9.2.1]; exact h8)
      · rw [if_neg gw]
        have hw1 : d2.1 b 50 = 1 := by
          rcases hw with hw | hw
          · exact hw.2
          · exact absurd hw.1 gw
        rcases u6 with ⟨x1, x2, x3, x4, x5⟩ | ⟨x1, x2⟩
        · have q7 : 1 ≤ v2 ∧ v2 ≤ (2 ^ n : Nat) - 1 := by
            rcases q6 with q6 | q6
            · exact q6.2.2.2
            · rw [hw1] at q6; exact absurd q6.1 (by decide)
          obtain ⟨ta, rfl⟩ := Int.eq_ofNat_of_zero_le q4.1
          obtain ⟨st, rfl⟩ := Int.eq_ofNat_of_zero_le u4.1
          rw [x1, if_neg kq_10, k_reg hi (by omega) (by omega) (by omega)]
          simp only [b1s]
          refine ⟨_, F3, rfl, kq_P_L u2, fun q => (hFF q).1, ?_⟩
          by_cases gg : (ky_mu K 3 (ky_mu K 3 (ky_mu K 3 s))).2 = 0 ∧ F3.1 = 0
          · have h9 := hFF gg.1
            have e1 : kz_n V (s.1 + 1) = ta := by unfold kz_n; omega
            have e2 : kz_n V (s.1 + 2) = st := by unfold kz_n; omega
            rw [e1, e2]
            exact kq_mk_yes fz (by omega)
          · have h8 := kq_mk_yes (b := b) (i := i) (good := False) (ch := kc_rg n ta st) fz (show 2 ^ n - 1 ≤ 127 by omega)
            exact ⟨h8.1, h8.2.1, h8.2.2.1, h8.2.2.2.1, h8.2.2.2.2.1, h8.2.2.2.2.2.1, fun q => absurd q gg⟩
        · rw [x1, if_pos rfl]
          refine ⟨d3, F3, rfl, u2, fun q => (hFF q).1, kq_mk_no fz (fun q => ?_)⟩
          have h9 := hFF q.1
          rw [h9.1] at q
          have h8 := (kz_nu_0 q.2).2
          obtain ⟨j1, j2, j3, j4, j5⟩ := hpos q.1
          exact x2 j3 (by rw [h9.2.2]; exact h8)
    rcases q6 with q6 | q6
    · rw [q6.1, if_neg kq_10]
      exact hb89 1 (Or.inl ⟨rfl, q6.1⟩)
    · rw [q6.1, if_pos rfl]
      unfold X12_tellCode_b88
      exact hb89 0 (Or.inr ⟨rfl, q6.1⟩)
  · rw [w1, if_pos rfl]
    unfold X12_tellCode_b57
    obtain ⟨v2, d2, q1, q2, q3, q4, q5⟩ := kq_hang0 p2 hN hs1 1 (2 - 1)
    rw [q1]
    simp only [b2s]
    rw [if_pos trivial]
    obtain ⟨v3, d3, u1, u2, u3, u4, u5⟩ := kq_hang0 q2 hN hs2 1 (2 - 1)
    unfold X12_tellCode_b88 X12_tellCode_b89 X12_tellCode_b103 X12_tellCode_b136
    rw [if_pos (show (2 : Int32) ≤ 2 by decide), u1]
    simp only [b2s]
    rw [if_pos trivial]
    have fz := ky_fz_t (ky_fz_t p3 q3) u3
    have hFF : (ky_mu K 3 (ky_mu K 3 (ky_mu K 3 s))).2 = 0 → F1.1 ≠ 0 ∧ F1 = kz_nu P V 1 ((2 ^ kz_n V s.1 : Nat) - 1) (kz_nu P V 1 ((2 ^ kz_n V s.1 : Nat) - 1) (kz_nu P V 2 7 F s.1) (s.1 + 1)) (s.1 + 2) := by
      intro q
      obtain ⟨j1, -⟩ := hpos q
      have h9 := p5 j1
      have h8 := w2 j1
      rw [h9.1] at h8
      have h7 : (kz_nu P V 2 7 F s.1).1 ≠ 0 := kz_nu_b h8
      rw [h9.2, kz_nu_f h7, kz_nu_f h7]
      exact ⟨h7, rfl⟩
    exact ⟨d3, F1, rfl, u2, fun q => (hFF q).2, kq_mk_no fz (fun q => (hFF q.1).1 q.2)⟩
theorem k_cw {b N i : Nat} {K P : Nat → Nat} {V : Nat → Int} {d : q_Dt} {s F : Nat × Nat} {M : q_Nm} (tok : Int32) (h : kq_P b N K P V d s F M) (hN : qk_tok K P V N) (hs : ky_ok K N s) (hi : i < 16) : ∃ (e : q_Dt) (F3 : Nat × Nat), q_b2 (X12_bounded (A2 b) d b 1 6) (fun v dt => if (dt.1 b 50) = 0 then (X12_tellCode_b179 (A2 b) b (wI i) tok v (dt.1 b 50) b (dt.1 b 50) 0 0 dt) else (X12_tellCode_b179 (A2 b) b (wI i) tok v (dt.1 b 50) b (dt.1 b 50) 0 ((1 <<< (v &&& 31)) - 1) dt)) = X12_tellCode_b282 (A2 b) b tok e ∧ kq_P b N K P V e (ky_mu K 3 (ky_mu K 3 s)) F3 M ∧ ((ky_mu K 3 (ky_mu K 3 s)).2 = 0 → F3 = kz_nu P V 0 ((2 ^ kz_n V s.1 : Nat) - 1) (kz_nu P V 1 6 F s.1) (s.1 + 1)) ∧ kq_mk b i d e ((ky_mu K 3 (ky_mu K 3 s)).2 = 0 ∧ F3.1 = 0) (2 ^ kz_n V s.1) (kc_wa (kz_n V (s.1 + 1))) := by
  have hs1 := (ky_mu_b hN hs (k := 3) (by omega)).1
  obtain ⟨v1, d1, F1, p1, p2, p3, p4, p5, p6⟩ := kq_bounded h hN hs (lo := 1) (hi := 6) (by omega) (by omega)
  have p1' : X12_bounded (A2 b) d b 1 6 = some (wI v1, d1) := p1
  rw [p1']
  simp only [b2s]
  have hpos : (ky_mu K 3 (ky_mu K 3 s)).2 = 0 → (s.2 = 0 ∧ K s.1 = 3) ∧ ((ky_mu K 3 s).2 = 0 ∧ K (ky_mu K 3 s).1 = 3) ∧ (ky_mu K 3 s).1 = s.1 + 1 := by
    intro q
    have q2 := ky_mu_s q
    have q3 := ky_mu_s q2.1
    exact ⟨⟨q3.1, q3.2.1⟩, ⟨q2.1, q2.2.1⟩, by rw [q3.2.2.1]⟩
  rcases p6 with ⟨w1, w2, w3, w4, w5⟩ | ⟨w1, w2⟩
  · obtain ⟨n, rfl⟩ := Int.eq_ofNat_of_zero_le p4.1
    have hv := (p5 ⟨w2, w3⟩).1
    have hF1 := (p5 ⟨w2, w3⟩).2
    have en : kz_n V s.1 = n := by unfold kz_n; omega
    have hp7 : (2 : Nat) ^ n ≤ 2 ^ 6 := Nat.pow_le_pow_right (by omega) (by omega)
    have hp4 := Nat.two_pow_pos n
    rw [w1, if_neg kq_10, wI_2n (by omega), en]
    unfold X12_tellCode_b179 X12_tellCode_b205
    obtain ⟨v2, d2, F2, q1, q2, q3, q4, q5, q6⟩ := kq_hang1 p2 hN hs1 (lo := 0) (hi := (2 ^ n : Nat) - 1) (by omega) (by omega)
    have q1' : X12_hangs (A2 b) d1 b 1 0 (wI ((2 ^ n : Nat) - 1 : Int)) = some (wI v2, d2) := q1
    rw [q1']
    simp only [b2s]
    rw [if_neg kq_10]
    have fz := ky_fz_t p3 q3
    have hFF : (ky_mu K 3 (ky_mu K 3 s)).2 = 0 → F2 = kz_nu P V 0 ((2 ^ n : Nat) - 1) (kz_nu P V 1 6 F s.1) (s.1 + 1) ∧ v2 = V (s.1 + 1) := by
      intro q
      obtain ⟨j1, j2, j4⟩ := hpos q
      have e2 := q5 j2
      rw [j4] at e2
      rw [e2.2, hF1]
      exact ⟨rfl, e2.1⟩
    rcases q6 with ⟨x1, x2, x3, x4, x5⟩ | ⟨x1, x2⟩
    · obtain ⟨ta, rfl⟩ := Int.eq_ofNat_of_zero_le q4.1
      rw [x1, if_neg kq_10, k_wal hi (by omega) (show ta < 128 by omega)]
      simp only [b1s]
      refine ⟨_, F2, rfl, kq_P_L q2, fun q => (hFF q).1, ?_⟩
      by_cases gg : (ky_mu K 3 (ky_mu K 3 s)).2 = 0 ∧ F2.1 = 0
      · have h9 := hFF gg.1
        have e1 : kz_n V (s.1 + 1) = ta := by unfold kz_n; omega
        rw [e1]
        exact kq_mk_yes fz (by omega)
      · have h8 := kq_mk_yes (b := b) (i := i) (good := False) (ch := kc_wa ta) fz (show 2 ^ n ≤ 127 by omega)
        exact ⟨h8.1, h8.2.1, h8.2.2.1, h8.2.2.2.1, h8.2.2.2.2.1, h8.2.2.2.2.2.1, fun q => absurd q gg⟩
    · rw [x1, if_pos rfl]
      refine ⟨d2, F2, rfl, q2, fun q => (hFF q).1, kq_mk_no fz (fun q => ?_)⟩
      have h9 := hFF q.1
      rw [h9.1] at q
      have h8 := (kz_nu_0 q.2).2
      obtain ⟨j1, j2, j4⟩ := hpos q.1
      exact x2 j2 (by rw [h9.2]; exact h8)
  · rw [w1, if_pos rfl]
    unfold X12_tellCode_b179 X12_tellCode_b205
    obtain ⟨v2, d2, q1, q2, q3, q4, q5⟩ := kq_hang0 p2 hN hs1 0 0
    rw [q1]
    simp only [b2s]
    rw [if_pos trivial]
    have fz := ky_fz_t p3 q3
    have hFF : (ky_mu K 3 (ky_mu K 3 s)).2 = 0 → F1.1 ≠ 0 ∧ F1 = kz_nu P V 0 ((2 ^ kz_n V s.1 : Nat) - 1) (kz_nu P V 1 6 F s.1) (s.1 + 1) := by
      intro q
      obtain ⟨j1, -⟩ := hpos q
      have h9 := p5 j1
      have h8 := w2 j1
      rw [h9.1] at h8
      have h7 : (kz_nu P V 1 6 F s.1).1 ≠ 0 := kz_nu_b h8
      rw [h9.2, kz_nu_f h7]
      exact ⟨h7, rfl⟩
    exact ⟨d2, F1, rfl, q2, fun q => (hFF q).2, kq_mk_no fz (fun q => (hFF q.1).1 q.2)⟩
theorem k_cb {b N i : Nat} {K P : Nat → Nat} {V : Nat → Int} {d : q_Dt} {s F : Nat × Nat} {M : q_Nm} (tok : Int32) (h : kq_P b N K P V d s F M) (hN : qk_tok K P V N) (hs : ky_ok K N s) (hi : i < 16) : ∃ (e : q_Dt) (F3 : Nat × Nat), q_b2 (X12_bounded (A2 b) d b 1 13) (fun v dt => if (dt.1 b 50) = 0 then (X12_tellCode_b248 (A2 b) b (wI i) tok v (dt.1 b 50) b (dt.1 b 50) 0 0 dt) else (X12_tellCode_b248 (A2 b) b (wI i) tok v (dt.1 b 50) b (dt.1 b 50) 0 ((1 <<< (v &&& 31)) - 1) dt)) = X12_tellCode_b282 (A2 b) b tok e ∧ kq_P b N K P V e (ky_mu K 3 (ky_mu K 3 s)) F3 M ∧ ((ky_mu K 3 (ky_mu K 3 s)).2 = 0 → F3 = kz_nu P V 0 ((2 ^ kz_n V s.1 : Nat) - 1) (kz_nu P V 1 13 F s.1) (s.1 + 1)) ∧ kq_mk b i d e ((ky_mu K 3 (ky_mu K 3 s)).2 = 0 ∧ F3.1 = 0) (kz_n V s.1) (kc_bi (kz_n V (s.1 + 1))) := by
  have hs1 := (ky_mu_b hN hs (k := 3) (by omega)).1
  obtain ⟨v1, d1, F1, p1, p2, p3, p4, p5, p6⟩ := kq_bounded h hN hs (lo := 1) (hi := 13) (by omega) (by omega)
  have p1' : X12_bounded (A2 b) d b 1 13 = some (wI v1, d1) := p1
  rw [p1']
  simp only [b2s]
  have hpos : (ky_mu K 3 (ky_mu K 3 s)).2 = 0 → (s.2 = 0 ∧ K s.1 = 3) ∧ ((ky_mu K 3 s).2 = 0 ∧ K (ky_mu K 3 s).1 = 3) ∧ (ky_mu K 3 s).1 = s.1 + 1 := by
    intro q
    have q2 := ky_mu_s q
    have q3 := ky_mu_s q2.1
    exact ⟨⟨q3.1, q3.2.1⟩, ⟨q2.1, q2.2.1⟩, by rw [q3.2.2.1]⟩
  rcases p6 with ⟨w1, w2, w3, w4, w5⟩ | ⟨w1, w2⟩
  · obtain ⟨n, rfl⟩ := Int.eq_ofNat_of_zero_le p4.1
    have hv := (p5 ⟨w2, w3⟩).1
    have hF1 := (p5 ⟨w2, w3⟩).2
    have en : kz_n V s.1 = n := by unfold kz_n; omega
    have hp7 : (2 : Nat) ^ n ≤ 2 ^ 13 := Nat.pow_le_pow_right (by omega) (by omega)
    have hp4 := Nat.two_pow_pos n
    rw [w1, if_neg kq_10, wI_2n (by omega), en]
    unfold X12_tellCode_b248 X12_tellCode_b274
    obtain ⟨v2, d2, F2, q1, q2, q3, q4, q5, q6⟩ := kq_hang1 p2 hN hs1 (lo := 0) (hi := (2 ^ n : Nat) - 1) (by omega) (by omega)
    have q1' : X12_hangs (A2 b) d1 b 1 0 (wI ((2 ^ n : Nat) - 1 : Int)) = some (wI v2, d2) := q1
    rw [q1']
    simp only [b2s]
    rw [if_neg kq_10]
    have fz := ky_fz_t p3 q3
    have hFF : (ky_mu K 3 (ky_mu K 3 s)).2 = 0 → F2 = kz_nu P V 0 ((2 ^ n : Nat) - 1) (kz_nu P V 1 13 F s.1) (s.1 + 1) ∧ v2 = V (s.1 + 1) := by
      intro q
      obtain ⟨j1, j2, j4⟩ := hpos q
      have e2 := q5 j2
      rw [j4] at e2
      rw [e2.2, hF1]
      exact ⟨rfl, e2.1⟩
    rcases q6 with ⟨x1, x2, x3, x4, x5⟩ | ⟨x1, x2⟩
    · obtain ⟨ta, rfl⟩ := Int.eq_ofNat_of_zero_le q4.1
      rw [x1, if_neg kq_10, k_bits hi (show n ≤ 13 by omega) (show ta < 2147483648 by omega)]
      simp only [b1s]
      refine ⟨_, F2, rfl, kq_P_L q2, fun q => (hFF q).1, ?_⟩
      by_cases gg : (ky_mu K 3 (ky_mu K 3 s)).2 = 0 ∧ F2.1 = 0
      · have h9 := hFF gg.1
        have e1 : kz_n V (s.1 + 1) = ta := by unfold kz_n; omega
        rw [e1]
        exact kq_mk_yes fz (by omega)
      · have h8 := kq_mk_yes (b := b) (i := i) (good := False) (ch := kc_bi ta) fz (show n ≤ 127 by omega)
        exact ⟨h8.1, h8.2.1, h8.2.2.1, h8.2.2.2.1, h8.2.2.2.2.1, h8.2.2.2.2.2.1, fun q => absurd q gg⟩
    · rw [x1, if_pos rfl]
      refine ⟨d2, F2, rfl, q2, fun q => (hFF q).1, kq_mk_no fz (fun q => ?_)⟩
      have h9 := hFF q.1
      rw [h9.1] at q
      have h8 := (kz_nu_0 q.2).2
      obtain ⟨j1, j2, j4⟩ := hpos q.1
      exact x2 j2 (by rw [h9.2]; exact h8)
  · rw [w1, if_pos rfl]
    unfold X12_tellCode_b248 X12_tellCode_b274
    obtain ⟨v2, d2, q1, q2, q3, q4, q5⟩ := kq_hang0 p2 hN hs1 0 0
    rw [q1]
    simp only [b2s]
    rw [if_pos trivial]
    have fz := ky_fz_t p3 q3
    have hFF : (ky_mu K 3 (ky_mu K 3 s)).2 = 0 → F1.1 ≠ 0 ∧ F1 = kz_nu P V 0 ((2 ^ kz_n V s.1 : Nat) - 1) (kz_nu P V 1 13 F s.1) (s.1 + 1) := by
      intro q
      obtain ⟨j1, -⟩ := hpos q
      have h9 := p5 j1
      have h8 := w2 j1
      rw [h9.1] at h8
      have h7 : (kz_nu P V 1 13 F s.1).1 ≠ 0 := kz_nu_b h8
      rw [h9.2, kz_nu_f h7]
      exact ⟨h7, rfl⟩
    exact ⟨d2, F1, rfl, q2, fun q => (hFF q).2, kq_mk_no fz (fun q => (hFF q.1).1 q.2)⟩
