/-! level two: the check's tells of jams, noise, samples; any tell -/
theorem kz_ix4 {sd c : Nat} : 4 * wI sd + wI c = wI (4 * sd + c : Nat) := by
  rw [show (4 : Int32) = wI (4 : Nat) from rfl, wI_mul, wI_add]
  rfl
/-- positions when a tell goes on from its first number -/
theorem ky_g3 {K : Nat → Nat} {s : Nat × Nat} {a : Nat} (hs : s = ky_go (a, 0)) (h : s.2 = 0) : s.1 = a + 1 := by
  rw [hs] at h ⊢
  have h2 := ky_go_s h
  rw [h2.2.1]
set_option maxHeartbeats 16000000 in
theorem k_tjam {b sd N a : Nat} {K P : Nat → Nat} {V : Nat → Int} {d : q_Dt} {F : Nat × Nat} {M : q_Nm} {T : q_Tl} (hV : V a = (7 : Nat)) (h : kq_P b N K P V d (ky_go (a, 0)) F M) (hN : qk_tok K P V N) (ha : a ≤ N) (hK : K a = 6) (hW : kq_W b sd d T) (hc : Tnj T < 4) (hS : F.1 = 0 → kq_S b sd d T) : ∃ e, X12_tellJam (A2 b) d b = some e ∧ kq_R b sd N K P V d e (ky_run K V (ky_sh 7) (ky_go (a, 0))) (kz_F K P V M T a F) (kz_M V M T a) (kz_T K V M T a) := by
  have hN4 := hN.1
  have hg0 : ky_ok K N (a, 0) := ⟨ha, by show (0 : Nat) ≤ 2; omega⟩
  have hs := (ky_go_b hN hg0 (fun _ => by show 2 ≤ K a; omega)).1
  obtain ⟨s, hse⟩ : ∃ s, s = ky_go (a, 0) := ⟨_, rfl⟩
  rw [ky_r7, ← hse]
  rw [← hse] at h hs
  obtain ⟨s1, e1⟩ : ∃ x, x = ky_mu K 3 s := ⟨_, rfl⟩
  obtain ⟨s2, e2⟩ : ∃ x, x = ky_mu K 3 s1 := ⟨_, rfl⟩
  obtain ⟨s3, e3⟩ : ∃ x, x = ky_mu K 3 s2 := ⟨_, rfl⟩
  obtain ⟨s4, e4⟩ : ∃ x, x = ky_mu K 3 s3 := ⟨_, rfl⟩
  rw [← e1, ← e2, ← e3, ← e4]
  have hs1 := (ky_mu_b hN hs (k := 3) (by omega)).1; rw [← e1] at hs1
  have hs2 := (ky_mu_b hN hs1 (k := 3) (by omega)).1; rw [← e2] at hs2
  have hs3 := (ky_mu_b hN hs2 (k := 3) (by omega)).1; rw [← e3] at hs3
  have hs4 := (ky_mu_b hN hs3 (k := 3) (by omega)).1; rw [← e4] at hs4
  obtain ⟨hsd, h19, hcn, hl⟩ := hW
  have hV3 := kz_w hV
  obtain ⟨i, hi⟩ : ∃ i, i = 4 * sd + Tnj T := ⟨_, rfl⟩
  have hi8 : i < 8 := by omega
  have hid : i / 4 = sd := by omega
  have hin := kz_ixn hi8 (by omega)
  have him := kz_ixm hi8 (by omega)
  have hinat := kz_nat (n := i) (by omega)
  have hpos : (ky_mu K 4 s4).2 = 0 → (s.1 = a + 1 ∧ s.2 = 0 ∧ K s.1 = 3) ∧ (s1.1 = a + 2 ∧ s1.2 = 0 ∧ K s1.1 = 3) ∧ (s2.1 = a + 3 ∧ s2.2 = 0 ∧ K s2.1 = 3) ∧ (s3.1 = a + 4 ∧ s3.2 = 0 ∧ K s3.1 = 3) := by
    intro q
    have q4 := ky_mu_s q
    have t4 := ky_mu_s (by have x := q4.1; rw [e4] at x; exact x)
    have t3 := ky_mu_s (by have x := t4.1; rw [e3] at x; exact x)
    have t2 := ky_mu_s (by have x := t3.1; rw [e2] at x; exact x)
    have t1 := ky_mu_s (by have x := t2.1; rw [e1] at x; exact x)
    have g := ky_g3 (K := K) hse t1.1
    have p1 : s1.1 = a + 2 := by rw [e1, t1.2.2.1, g]
    have p2 : s2.1 = a + 3 := by rw [e2, t2.2.2.1, p1]
    have p3 : s3.1 = a + 4 := by rw [e3, t3.2.2.1, p2]
    exact ⟨⟨g, t1.1, t1.2.1⟩, ⟨p1, t2.1, t2.2.1⟩, ⟨p2, t3.1, t3.2.1⟩, ⟨p3, t4.1, t4.2.1⟩⟩
  obtain ⟨v1, d1, F1, p1, p2, p3, p4, p5, p6⟩ := kq_bounded h hN hs (lo := 0) (hi := 511) (by omega) (by omega)
  rw [← e1] at p2
  have p1' : X12_bounded (A2 b) d b 0 511 = some (wI v1, d1) := p1
  obtain ⟨d2, hd2⟩ : ∃ z, z = q_pI d1 (b + 30) i (wI v1) := ⟨_, rfl⟩
  have hP2 : kq_P b N K P V d2 s1 F1 M := by rw [hd2]; exact kq_P_I p2 (by omega)
  have f2 : kv_G b 30 33 i d d2 := by
    rw [hd2]
    exact kv_G_t (kv_G_z p3 (by omega)) (kv_G_I (by omega) (by omega) (by omega))
  have h50 : d2.1 b 50 = d1.1 b 50 := by rw [hd2, q_pI_o (by omega)]
  have h30 : d2.1 (b + 30) i = wI v1 := by rw [hd2, q_pI_s]
  have hG1 : (ky_mu K 4 s4).2 = 0 → F1 = kz_nu P V 0 511 F (a + 1) ∧ v1 = V (a + 1) := by
    intro q
    obtain ⟨g1, -⟩ := hpos q
    have x1 := p5 g1.2
    rw [g1.1] at x1
    exact ⟨x1.2, x1.1⟩
  have hmain : ∀ (fl lo2 : Int32) (v2 : Int) (d3 : q_Dt) (F2 : Nat × Nat), X12_hangs (A2 b) d2 b fl lo2 511 = some (wI v2, d3) → kq_P b N K P V d3 s2 F2 M → ky_fz b d2 d3 → ((ky_mu K 4 s4).2 = 0 → F2 = kz_nu P V (V (a + 1)) 511 (kz_nu P V 0 511 F (a + 1)) (a + 2) ∧ (F2.1 = 0 → v2 = V (a + 2))) → ∃ e, X12_tellJam_b57 (A2 b) b (wI i) (b + 31) (wI i) b fl lo2 d2 = some e ∧ kq_R b sd N K P V d e (ky_mu K 4 s4) (kz_F K P V M T a F) (kz_M V M T a) (kz_T K V M T a) := by
    intro fl lo2 v2 d3 F2 u1 u2 u3 hF2
    obtain ⟨d4, hd4⟩ : ∃ z, z = q_pI d3 (b + 31) i (wI v2) := ⟨_, rfl⟩
    have hP4 : kq_P b N K P V d4 s2 F2 M := by rw [hd4]; exact kq_P_I u2 (by omega)
    obtain ⟨v3, d5, F3, w1, w2, w3, w4, w5, w6⟩ := kq_bounded hP4 hN hs2 (lo := 1) (hi := 99) (by omega) (by omega)
    rw [← e3] at w2
    have w1' : X12_bounded (A2 b) d4 b 1 99 = some (wI v3, d5) := w1
    obtain ⟨d6, hd6⟩ : ∃ z, z = q_pI d5 (b + 32) i (wI v3) := ⟨_, rfl⟩
    have hP6 : kq_P b N K P V d6 s3 F3 M := by rw [hd6]; exact kq_P_I w2 (by omega)
    obtain ⟨v4, d7, F4, x1, x2, x3, x4, x5, x6⟩ := kq_bounded hP6 hN hs3 (lo := 1) (hi := 99) (by omega) (by omega)
    rw [← e4] at x2
    have x1' : X12_bounded (A2 b) d6 b 1 99 = some (wI v4, d7) := x1
    obtain ⟨d8, hd8⟩ : ∃ z, z = q_pI d7 (b + 33) i (wI v4) := ⟨_, rfl⟩
    have hP8 : kq_P b N K P V d8 s4 F4 M := by rw [hd8]; exact kq_P_I x2 (by omega)
    have f8 : kv_G b 30 33 i d d8 := by
      rw [hd8]
      rw [hd4] at w3
      rw [hd6] at x3
      exact kv_G_t (kv_G_t (kv_G_t (kv_G_t (kv_G_t (kv_G_t f2 (kv_G_z u3 (by omega))) (kv_G_I (by omega) (by omega) (by omega))) (kv_G_z w3 (by omega))) (kv_G_I (by omega) (by omega) (by omega))) (kv_G_z x3 (by omega))) (kv_G_I (by omega) (by omega) (by omega))
    have g8 : d8.1 (b + 30) i = wI v1 ∧ d8.1 (b + 31) i = wI v2 ∧ d8.1 (b + 32) i = wI v3 ∧ d8.1 (b + 33) i = wI v4 := by
      rw [hd8]
      refine ⟨?_, ?_, ?_, q_pI_s⟩
      · rw [q_pI_o (by omega), x3.1 _ (by omega), hd6, q_pI_o (by omega), w3.1 _ (by omega), hd4, q_pI_o (by omega), u3.1 _ (by omega)]; exact h30
      · rw [q_pI_o (by omega), x3.1 _ (by omega), hd6, q_pI_o (by omega), w3.1 _ (by omega), hd4, q_pI_s]
      · rw [q_pI_o (by omega), x3.1 _ (by omega), hd6, q_pI_s]
    have g19 : d8.1 b 19 = wI sd := by rw [f8.2.1 19 (by omega) (by omega) (by omega) (by omega) (by omega) (by omega)]; exact h19
    have g29 : d8.1 (b + 29) sd = wI (Tnj T) := by rw [f8.1 (b + 29) (by omega) (by omega)]; exact hcn.2.2.2.2
    obtain ⟨e, z1, z2, z3, z4⟩ := kq_end2 (o := 29) hP8 hN hs4 (by omega) hsd g19 g29
    have fr2 : kq_fr b sd d8 e := kv_G_fr z4 (fun o o1 o2 => by rw [show o = 29 by omega]; exact Nat.div_one sd) (by omega) (by omega)
    have fr1 : kq_fr b sd d d8 := kv_G_fr f8 (fun o o1 o2 => by
      have h9 : o = 30 ∨ o = 31 ∨ o = 32 ∨ o = 33 := by omega
      rcases h9 with rfl | rfl | rfl | rfl <;> exact hid) (by omega) (by omega)
    have fo : ∀ o, 11 ≤ o → o ≤ 36 → (o < 29 ∨ 34 ≤ o) → e.1 (b + o) = d.1 (b + o) := fun o o1 o2 o3 => by
      rw [z4.1 (b + o) (by omega) (by omega), f8.1 (b + o) (by omega) (by omega)]
    have hl2 : kq_l b e := fun j hj2 => by rw [fo 12 (by omega) (by omega) (by omega)]; exact hl j hj2
    refine ⟨e, ?_, kq_fr_t fr1 fr2, hl2, fun q => ⟨F4, z2.2.1⟩, fun q => ?_⟩
    · unfold X12_tellJam_b57
      rw [u1]
      simp only [b2s]
      rw [n44, if_neg hin, hinat]
      simp only [o1s]
      rw [← hd4, w1']
      simp only [b2s]
      rw [m45, n45, m46, n46, if_neg him, ← hd6, x1']
      simp only [b2s]
      rw [if_neg him, ← hd8, m42, n42]
      exact z1
    obtain ⟨g1, g2, g3, g4⟩ := hpos q
    have y3 := w5 g3.2
    rw [g3.1, (hF2 q).1] at y3
    have y4 := x5 g4.2
    rw [g4.1, y3.2] at y4
    have eT : kz_T K V M T a = kz_T7 V T a := by unfold kz_T; rw [hV3]; rfl
    have eM : kz_M V M T a = M := by unfold kz_M; rw [hV3]; rfl
    have eF : kz_F K P V M T a F = F4 := by
      unfold kz_F
      rw [hV3, y4.2]
      rfl
    rw [eT, eM, eF]
    unfold kz_T7
    refine ⟨z2, ⟨hsd, ?_, ⟨?_, ?_, ?_, ?_, ?_⟩, hl2⟩, fun h0 => ?_⟩
    · rw [z4.2.1 19 (by omega) (by omega) (by omega) (by omega) (by omega) (by omega)]; exact g19
    · rw [kt_jam_Tnc, fo 11 (by omega) (by omega) (by omega)]; exact hcn.1
    · rw [kt_jam_Tnh, fo 14 (by omega) (by omega) (by omega)]; exact hcn.2.1
    · rw [kt_jam_Tns, fo 18 (by omega) (by omega) (by omega)]; exact hcn.2.2.1
    · rw [kt_jam_Tne, fo 25 (by omega) (by omega) (by omega)]; exact hcn.2.2.2.1
    · rw [kt_jam_Tnj]; exact z3 q
    · rw [y4.2] at h0
      have j1 := kz_nu_0 h0
      have j2 := kz_nu_0 j1.1
      have j3 := kz_nu_0 j2.1
      have j4 := kz_nu_0 j3.1
      have k2 := (hF2 q).2 (by rw [(hF2 q).1]; exact j2.1)
      have k1 := (hG1 q).2
      have n1 : ((kz_n V (a + 1) : Nat) : Int) = v1 := by unfold kz_n; omega
      have n2 : ((kz_n V (a + 2) : Nat) : Int) = v2 := by unfold kz_n; omega
      have n3 : ((kz_n V (a + 3) : Nat) : Int) = v3 := by unfold kz_n; omega
      have n4 : ((kz_n V (a + 4) : Nat) : Int) = v4 := by unfold kz_n; omega
      refine S_addjam (hS j4.1) hc (by omega) (by omega) (by omega) (by omega) ⟨?_, ?_, ?_, ?_⟩ (fun o o1 o2 j hj2 => ?_) (fun o o1 o2 o3 => fo o (by omega) o2 o3)
      · rw [z4.1 (b + 30) (by omega) (by omega), ← hi, g8.1, n1]
      · rw [z4.1 (b + 31) (by omega) (by omega), ← hi, g8.2.1, n2]
      · rw [z4.1 (b + 32) (by omega) (by omega), ← hi, g8.2.2.1, n3]
      · rw [z4.1 (b + 33) (by omega) (by omega), ← hi, g8.2.2.2, n4]
      · rw [z4.1 (b + o) (by omega) (by omega)]
        exact f8.2.2.2 o o1 o2 j (by omega)
  unfold X12_tellJam
  rw [h19, m42, n42, if_neg (kz_ixn hsd (by omega)), kz_nat (by omega), hcn.2.2.2.2, kz_ix4, ← hi]
  simp only [o1s]
  rw [p1']
  simp only [b2s]
  rw [m43, n43, m44, if_neg hin, hinat, ← hd2, h50]
  rcases p6 with ⟨w1, w2, w3, w4, w5⟩ | ⟨w1, w2⟩
  · rw [w1, if_neg kq_10, if_neg him, h30]
    obtain ⟨v2, d3, F2, u1, u2, u3, u4, u5, u6⟩ := kq_hang1 hP2 hN hs1 (lo := v1) (hi := 511) (by omega) (by omega)
    rw [← e2] at u2
    refine hmain 1 (wI v1) v2 d3 F2 u1 u2 u3 (fun q => ?_)
    obtain ⟨g1, g2, -⟩ := hpos q
    have y2 := u5 g2.2
    rw [g2.1, (hG1 q).1, (hG1 q).2] at y2
    exact ⟨y2.2, fun _ => y2.1⟩
  · rw [w1, if_pos rfl]
    obtain ⟨v2, d3, u1, u2, u3, u4, u5⟩ := kq_hang0 hP2 hN hs1 0 511
    rw [← e2] at u2
    refine hmain 0 0 v2 d3 F1 u1 u2 u3 (fun q => ?_)
    obtain ⟨g1, g2, -⟩ := hpos q
    have hb : (kz_nu P V 0 511 F (a + 1)).1 ≠ 0 := kz_nu_b (by rw [← (hG1 q).2]; exact w2 g1.2)
    rw [(hG1 q).1, kz_nu_f hb]
    exact ⟨rfl, fun x => absurd x hb⟩
theorem k_tnoise {b sd N a : Nat} {K P : Nat → Nat} {V : Nat → Int} {d : q_Dt} {F : Nat × Nat} {M : q_Nm} {T : q_Tl} (hV : V a = (8 : Nat)) (h : kq_P b N K P V d (ky_go (a, 0)) F M) (hN : qk_tok K P V N) (ha : a ≤ N) (hK : K a = 6) (hW : kq_W b sd d T) (hS : F.1 = 0 → kq_S b sd d T) : ∃ e, q_b2 (X12_bounded (A2 b) d b 0 50) (fun v dt => q_b2 (X12_bounded (A2 b) dt b 0 9999) (fun w dt => q_b1 (X12_must (A2 b) dt b 4) (fun dt => if (dt.1 b 19) < 0 ∨ 2 ≤ Int32.toNatClampNeg (dt.1 b 19) then none else (q_o (q_pI dt (b + 34) (Int32.toNatClampNeg (dt.1 b 19)) v) (fun dt => if (dt.1 b 19) < 0 ∨ 2 ≤ Int32.toNatClampNeg (dt.1 b 19) then none else (q_o (q_pI dt (b + 35) (Int32.toNatClampNeg (dt.1 b 19)) w) (fun dt => some dt))))))) = some e ∧ kq_R b sd N K P V d e (ky_run K V (ky_sh 8) (ky_go (a, 0))) (kz_F K P V M T a F) (kz_M V M T a) (kz_T K V M T a) := by
  have hN4 := hN.1
  have hg0 : ky_ok K N (a, 0) := ⟨ha, by show (0 : Nat) ≤ 2; omega⟩
  have hs := (ky_go_b hN hg0 (fun _ => by show 2 ≤ K a; omega)).1
  obtain ⟨s, hse⟩ : ∃ s, s = ky_go (a, 0) := ⟨_, rfl⟩
  rw [ky_r8, ← hse]
  rw [← hse] at h hs
  have hs1 := (ky_mu_b hN hs (k := 3) (by omega)).1
  have hs2 := (ky_mu_b hN hs1 (k := 3) (by omega)).1
  obtain ⟨hsd, h19, hcn, hl⟩ := hW
  have hV3 := kz_w hV
  obtain ⟨v1, d1, F1, p1, p2, p3, p4, p5, p6⟩ := kq_bounded h hN hs (lo := 0) (hi := 50) (by omega) (by omega)
  have p1' : X12_bounded (A2 b) d b 0 50 = some (wI v1, d1) := p1
  obtain ⟨v2, d2, F2, q1, q2, q3, q4, q5, q6⟩ := kq_bounded p2 hN hs1 (lo := 0) (hi := 9999) (by omega) (by omega)
  have q1' : X12_bounded (A2 b) d1 b 0 9999 = some (wI v2, d2) := q1
  obtain ⟨d3, u1, u2, u3⟩ := kq_must4 q2 hN hs2
  have fz := ky_fz_t (ky_fz_t p3 q3) u3
  have g19 : d3.1 b 19 = wI sd := by rw [fz.2.1 19 (by omega) (by omega) (by omega) (by omega) (by omega) (by omega)]; exact h19
  rw [p1']
  simp only [b2s]
  rw [q1']
  simp only [b2s]
  rw [u1]
  simp only [b1s]
  rw [g19, if_neg (kz_ixn hsd (by omega)), kz_nat (by omega)]
  simp only [o1s]
  have g19' : (q_pI d3 (b + 34) sd (wI v1)).1 b 19 = wI sd := by rw [q_pI_o (by omega)]; exact g19
  rw [g19', if_neg (kz_ixn hsd (by omega)), kz_nat (by omega)]
  obtain ⟨e, he⟩ : ∃ e, e = q_pI (q_pI d3 (b + 34) sd (wI v1)) (b + 35) sd (wI v2) := ⟨_, rfl⟩
  rw [← he]
  have fo : ∀ o, 11 ≤ o → o ≤ 36 → (o < 34 ∨ 36 ≤ o) → e.1 (b + o) = d.1 (b + o) := fun o o1 o2 o3 => by
    rw [he, q_pI_o (by omega), q_pI_o (by omega), fz.1 (b + o) (by omega)]
  have hl2 : kq_l b e := fun j hj2 => by rw [fo 12 (by omega) (by omega) (by omega)]; exact hl j hj2
  have hPe : kq_P b N K P V e (ky_mu K 4 (ky_mu K 3 (ky_mu K 3 s))) F2 M := by rw [he]; exact kq_P_I (kq_P_I u2 (by omega)) (by omega)
  refine ⟨e, rfl, ?_, hl2, fun q => ⟨F2, hPe.2.1⟩, fun q => ?_⟩
  · rw [he]
    exact kq_fr_t (kq_fr_t (kq_fr_z fz) (kq_fr_I (by omega) (by omega) (Nat.div_one sd))) (kq_fr_I (by omega) (by omega) (Nat.div_one sd))
  have t3 := ky_mu_s q
  have t2 := ky_mu_s t3.1
  have t1 := ky_mu_s t2.1
  have g := ky_g3 (K := K) hse t1.1
  have x1 := p5 ⟨t1.1, t1.2.1⟩
  rw [g] at x1
  have x2 := q5 ⟨t2.1, t2.2.1⟩
  rw [t1.2.2.1] at x2
  have x3 : v2 = V (s.1 + 1) ∧ F2 = kz_nu P V 0 9999 F1 (s.1 + 1) := x2
  rw [g, x1.2] at x3
  have eT : kz_T K V M T a = kz_T8 V T a := by unfold kz_T; rw [hV3]; rfl
  have eM : kz_M V M T a = M := by unfold kz_M; rw [hV3]; rfl
  have eF : kz_F K P V M T a F = F2 := by
    unfold kz_F
    rw [hV3, x3.2]
    rfl
  rw [eT, eM, eF]
  unfold kz_T8
  refine ⟨hPe, ⟨hsd, ?_, ⟨?_, ?_, ?_, ?_, ?_⟩, hl2⟩, fun h0 => ?_⟩
  · rw [he, q_pI_o (by omega), q_pI_o (by omega)]; exact g19
  · rw [kt_noise_Tnc, fo 11 (by omega) (by omega) (by omega)]; exact hcn.1
  · rw [kt_noise_Tnh, fo 14 (by omega) (by omega) (by omega)]; exact hcn.2.1
  · rw [kt_noise_Tns, fo 18 (by omega) (by omega) (by omega)]; exact hcn.2.2.1
  · rw [kt_noise_Tne, fo 25 (by omega) (by omega) (by omega)]; exact hcn.2.2.2.1
  · rw [kt_noise_Tnj, fo 29 (by omega) (by omega) (by omega)]; exact hcn.2.2.2.2
  · rw [x3.2] at h0
    have j1 := kz_nu_0 h0
    have j2 := kz_nu_0 j1.1
    have n1 : ((kz_n V (a + 1) : Nat) : Int) = v1 := by unfold kz_n; omega
    have n2 : ((kz_n V (a + 2) : Nat) : Int) = v2 := by have := x3.1; have h9 : v2 = V (a + 2) := this; have h8 := j1.2; unfold kz_n; omega
    have h8 : 0 ≤ V (a + 1 + 1) ∧ V (a + 1 + 1) ≤ 9999 := j1.2
    have h9 : v2 = V (a + 1 + 1) := x3.1
    refine S_noise (hS j2.1) (by omega) (by omega) ?_ ?_ (fun o o1 o2 o3 => fo o (by omega) o2 o3)
    · rw [he, q_pI_o (by omega), q_pI_s, n1]
    · rw [he, q_pI_s, n2]
theorem k_tsamp {b sd N a : Nat} {K P : Nat → Nat} {V : Nat → Int} {d : q_Dt} {F : Nat × Nat} {M : q_Nm} {T : q_Tl} (hV : V a = (9 : Nat)) (h : kq_P b N K P V d (ky_go (a, 0)) F M) (hN : qk_tok K P V N) (ha : a ≤ N) (hK : K a = 6) (hW : kq_W b sd d T) (hS : F.1 = 0 → kq_S b sd d T) : ∃ e, q_b2 (X12_bounded (A2 b) d b 16 512) (fun v dt => if (d.1 b 19) < 0 ∨ 2 ≤ Int32.toNatClampNeg (d.1 b 19) then none else (q_o (q_pI dt (b + 36) (Int32.toNatClampNeg (d.1 b 19)) v) (fun dt => q_b1 (X12_must (A2 b) dt b 4) (fun dt => some dt)))) = some e ∧ kq_R b sd N K P V d e (ky_run K V (ky_sh 9) (ky_go (a, 0))) (kz_F K P V M T a F) (kz_M V M T a) (kz_T K V M T a) := by
  have hN4 := hN.1
  have hg0 : ky_ok K N (a, 0) := ⟨ha, by show (0 : Nat) ≤ 2; omega⟩
  have hs := (ky_go_b hN hg0 (fun _ => by show 2 ≤ K a; omega)).1
  obtain ⟨s, hse⟩ : ∃ s, s = ky_go (a, 0) := ⟨_, rfl⟩
  rw [ky_r9, ← hse]
  rw [← hse] at h hs
  have hs1 := (ky_mu_b hN hs (k := 3) (by omega)).1
  obtain ⟨hsd, h19, hcn, hl⟩ := hW
  have hV3 := kz_w hV
  obtain ⟨v1, d1, F1, p1, p2, p3, p4, p5, p6⟩ := kq_bounded h hN hs (lo := 16) (hi := 512) (by omega) (by omega)
  have p1' : X12_bounded (A2 b) d b 16 512 = some (wI v1, d1) := p1
  obtain ⟨d2, hd2⟩ : ∃ z, z = q_pI d1 (b + 36) sd (wI v1) := ⟨_, rfl⟩
  have hP2 : kq_P b N K P V d2 (ky_mu K 3 s) F1 M := by rw [hd2]; exact kq_P_I p2 (by omega)
  obtain ⟨e, u1, u2, u3⟩ := kq_must4 hP2 hN hs1
  rw [p1']
  simp only [b2s]
  rw [h19, if_neg (kz_ixn hsd (by omega)), kz_nat (by omega)]
  simp only [o1s]
  rw [← hd2, u1]
  simp only [b1s]
  have fo : ∀ o, 11 ≤ o → o ≤ 35 → e.1 (b + o) = d.1 (b + o) := fun o o1 o2 => by
    rw [u3.1 (b + o) (by omega), hd2, q_pI_o (by omega), p3.1 (b + o) (by omega)]
  have hl2 : kq_l b e := fun j hj2 => by rw [fo 12 (by omega) (by omega)]; exact hl j hj2
  refine ⟨e, rfl, ?_, hl2, fun q => ⟨F1, u2.2.1⟩, fun q => ?_⟩
  · rw [hd2] at u3
    exact kq_fr_t (kq_fr_t (kq_fr_z p3) (kq_fr_I (by omega) (by omega) (Nat.div_one sd))) (kq_fr_z u3)
  have t2 := ky_mu_s q
  have t1 := ky_mu_s t2.1
  have g := ky_g3 (K := K) hse t1.1
  have x1 := p5 ⟨t1.1, t1.2.1⟩
  rw [g] at x1
  have eT : kz_T K V M T a = kz_T9 V T a := by unfold kz_T; rw [hV3]; rfl
  have eM : kz_M V M T a = M := by unfold kz_M; rw [hV3]; rfl
  have eF : kz_F K P V M T a F = F1 := by
    unfold kz_F
    rw [hV3, x1.2]
    rfl
  rw [eT, eM, eF]
  unfold kz_T9
  refine ⟨u2, ⟨hsd, ?_, ⟨?_, ?_, ?_, ?_, ?_⟩, hl2⟩, fun h0 => ?_⟩
  · rw [u3.2.1 19 (by omega) (by omega) (by omega) (by omega) (by omega) (by omega), hd2, q_pI_o (by omega), p3.2.1 19 (by omega) (by omega) (by omega) (by omega) (by omega) (by omega)]; exact h19
  · rw [kt_samp_Tnc, fo 11 (by omega) (by omega)]; exact hcn.1
  · rw [kt_samp_Tnh, fo 14 (by omega) (by omega)]; exact hcn.2.1
  · rw [kt_samp_Tns, fo 18 (by omega) (by omega)]; exact hcn.2.2.1
  · rw [kt_samp_Tne, fo 25 (by omega) (by omega)]; exact hcn.2.2.2.1
  · rw [kt_samp_Tnj, fo 29 (by omega) (by omega)]; exact hcn.2.2.2.2
  · rw [x1.2] at h0
    have j1 := kz_nu_0 h0
    have n1 : ((kz_n V (a + 1) : Nat) : Int) = v1 := by unfold kz_n; omega
    refine S_samp (hS j1.1) (by omega) ?_ (fun o o1 o2 => fo o (by omega) o2)
    rw [u3.1 (b + 36) (by omega), hd2, q_pI_s, n1]
/-- room, and what stands behind it -/
theorem kq_go {b N a : Nat} {K P : Nat → Nat} {V : Nat → Int} {d e : q_Dt} {F : Nat × Nat} {M : q_Nm} (h : kq_P b N K P V d (a, 0) F M) (hN : qk_tok K P V N) (ha : a ≤ N) (hK : K a = 6) (hf : ky_fz b d e) (hz : ky_Z b P e (ky_go (a, 0)) F) : kq_P b N K P V e (ky_go (a, 0)) F M := by
  refine kq_P_z h hf hz ⟨h.2.2.1.1, fun z1 z2 => ?_⟩
  have z3 := ky_go_s z1
  rw [z3.2.1]
  have z4 := h.2.2.1.2 rfl z2
  have z5 := ky_ltN hN ha (by omega) z3.2.2
  have z6 := hN.2.2.2.2.1 _ z5
  show F.2 < P (a + 1)
  have z7 : F.2 < P a := z4
  omega
theorem kq_R_no {b sd N : Nat} {K P : Nat → Nat} {V : Nat → Int} {d e : q_Dt} {s F F2 : Nat × Nat} {M : q_Nm} {T : q_Tl} (hf : ky_fz b d e) (hl : kq_l b d) (hz : ky_Z b P e s F2) (h : s.2 ≠ 0) : kq_R b sd N K P V d e s F M T := ⟨kq_fr_z hf, fun j hj => by rw [hf.1 (b + 12) (by omega)]; exact hl j hj, fun _ => ⟨F2, hz⟩, fun q => absurd q h⟩
theorem kq_roomed {b sd N a w x m : Nat} {K P : Nat → Nat} {V : Nat → Int} {d : q_Dt} {F : Nat × Nat} {M : q_Nm} {T : q_Tl} {f : q_Dt → Option q_Dt} (h : kq_P b N K P V d (a, 0) F M) (hN : qk_tok K P V N) (ha : a ≤ N) (hK : K a = 6) (hW : kq_W b sd d T) (hS : F.1 = 0 → kq_S b sd d T) (hx : x ≤ 100) (hm : m ≤ 100) (hV : V a = w) (hw : w ≤ 7) (hxm : ky_c T (ky_rm w) = x) (hmm : ky_mo (ky_rm w) = m) (hxm2 : x ≤ m) (hf : ∀ e, x < m → kq_P b N K P V e (ky_go (a, 0)) F M → kq_W b sd e T → (F.1 = 0 → kq_S b sd e T) → ∃ e2, f e = some e2 ∧ kq_R b sd N K P V e e2 (ky_run K V (ky_sh w) (ky_go (a, 0))) (kz_F K P V M T a F) (kz_M V M T a) (kz_T K V M T a)) : ∃ e, q_b1 (X12_room (A2 b) d b (wI x) (wI m)) (fun dt => if (dt.1 b 13) = 0 then (q_b1 (f dt) (fun dt => some dt)) else (some dt)) = some e ∧ kq_R b sd N K P V d e (ky_tell K V (ky_c T) a) (kz_F K P V M T a F) (kz_M V M T a) (kz_T K V M T a) := by
  obtain ⟨d1, r1, r2, r3⟩ := k_room h.1 hN h.2.1 ha hx hm
  have hV3 := kz_w hV
  rw [r1]
  simp only [b1s]
  have et : ky_tell K V (ky_c T) a = if x = m then (a, 2) else ky_run K V (ky_sh w) (ky_go (a, 0)) := by
    unfold ky_tell
    rw [hV3, hxm, hmm, if_pos ⟨hK, by omega⟩]
    by_cases g : x = m
    · rw [if_pos g, if_pos ⟨by omega, g⟩]
    · rw [if_neg g, if_neg (fun q => g q.2)]
  rw [et]
  by_cases g : x = m
  · rw [if_pos g] at r2 ⊢
    have h13 : d1.1 b 13 = wI (2 : Nat) := r2.2.1
    rw [h13, if_neg (show ¬ wI ((2 : Nat) : Int) = 0 by decide)]
    exact ⟨d1, rfl, kq_R_no r3 hW.2.2.2 r2 (fun q => nomatch q)⟩
  · rw [if_neg g] at r2 ⊢
    have hg0 : ky_ok K N (a, 0) := ⟨ha, by show (0 : Nat) ≤ 2; omega⟩
    have hs := (ky_go_b hN hg0 (fun _ => by show 2 ≤ K a; omega)).1
    have hs22 := hs.2
    rw [r2.2.1]
    have e13 : (wI ((ky_go (a, 0)).2 : Int) = 0) = ((ky_go (a, 0)).2 = 0) := by
      rw [show (0 : Int32) = wI (0 : Nat) from rfl, wI_eq (by omega) (by omega) (by omega) (by omega)]
      exact propext ⟨fun q => by omega, fun q => by omega⟩
    simp only [e13]
    by_cases g0 : (ky_go (a, 0)).2 = 0
    · rw [if_pos g0]
      obtain ⟨e2, q1, q2⟩ := hf d1 (by omega) (kq_go h hN ha hK r3 r2) (kq_W_fz hW r3) (fun q => kq_S_fz (hS q) r3)
      rw [q1]
      exact ⟨e2, rfl, kq_R_fz r3 q2⟩
    · rw [if_neg g0, ky_run_f _ _ g0]
      exact ⟨d1, rfl, kq_R_no r3 hW.2.2.2 r2 g0⟩
set_option maxHeartbeats 8000000 in
theorem k_tell {b sd N a : Nat} {K P : Nat → Nat} {V : Nat → Int} {d : q_Dt} {F : Nat × Nat} {M : q_Nm} {T : q_Tl} (h : kq_P b N K P V d (a, 0) F M) (hN : qk_tok K P V N) (ha : a ≤ N) (hM : kn_wf M) (hr : kn_r M T) (hW : kq_W b sd d T) (hcw : ky_cw T) (hS : F.1 = 0 → kq_S b sd d T) : ∃ e, X12_tell (A2 b) d b = some e ∧ kq_R b sd N K P V d e (ky_tell K V (ky_c T) a) (kz_F K P V M T a F) (kz_M V M T a) (kz_T K V M T a) := by
  have hN4 := hN.1
  have hmk := qk_mk_t hN a
  obtain ⟨c1, c2, c3, c4, c5⟩ := hcw
  have hr1 := hr.1
  have ha0 : d.1 b 11 = wI a := h.2.1.1
  have hkd := (h.1 a (by omega)).1
  have hcn := hW.2.2.1
  have h19 := hW.2.1
  have hsd := hW.1
  have hg0 : ky_ok K N (a, 0) := ⟨ha, by show (0 : Nat) ≤ 2; omega⟩
  unfold X12_tell
  rw [ha0, m5, n5, if_neg (kz_ixn (by omega) (by omega)), kz_nat (by omega), hkd]
  simp only [o1s]
  have hfail : (∀ w : Nat, w < 10 → qk_mk (K a) (V a) ≠ 20 + w) → ky_tell K V (ky_c T) a = (a, 1) → ∃ e, q_b1 (X12_fail (A2 b) d b 1) (fun dt => some dt) = some e ∧ kq_R b sd N K P V d e (ky_tell K V (ky_c T) a) (kz_F K P V M T a F) (kz_M V M T a) (kz_T K V M T a) := by
    intro _ ht
    obtain ⟨d1, r1, r2, r3, r4⟩ := k_fail h.1 hN h.2.1 hg0 (k := 1) (by omega)
    rw [if_pos rfl] at r2
    have r1' : X12_fail (A2 b) d b 1 = some d1 := r1
    rw [r1', ht]
    exact ⟨d1, rfl, kq_R_no r3 hW.2.2.2 r2 (fun q => nomatch q)⟩
  by_cases g6 : K a = 6 ∧ V a ≠ 10
  · obtain ⟨hK, hV10⟩ := g6
    have hvb := (hN.2.2.2.2.2 a).2.1 hK
    obtain ⟨w, hw⟩ := Int.eq_ofNat_of_zero_le hvb.1
    have hw10 : w < 10 := by omega
    have hV3 := kz_w hw
    have e20 : qk_mk (K a) (V a) = ((20 + w : Nat) : Int) := by rw [hmk.2.2.2.2.2.2.2.2.1 hK, hw]; omega
    rw [e20]
    have h10 : w = 0 ∨ w = 1 ∨ w = 2 ∨ w = 3 ∨ w = 4 ∨ w = 5 ∨ w = 6 ∨ w = 7 ∨ w = 8 ∨ w = 9 := by omega
    have hcode : ∀ w : Nat, w ≤ 3 → V a = w → ∃ e, X12_tell_b64 (A2 b) b (wI (20 + w : Nat)) d = some e ∧ kq_R b sd N K P V d e (ky_tell K V (ky_c T) a) (kz_F K P V M T a F) (kz_M V M T a) (kz_T K V M T a) := by
      intro w hw3 hVw
      unfold X12_tell_b64
      rw [h19, m24, n24, if_neg (kz_ixn hsd (by omega)), kz_nat (by omega), hcn.1]
      have hrm : ky_rm w = 3 := by
        unfold ky_rm
        by_cases g : w < 3
        · rw [if_pos g]
        · rw [if_neg g]; omega
      exact kq_roomed (x := Tnc T) (m := 8) (f := fun dt => X12_tellCode (A2 b) dt b (wI (20 + w : Nat))) h hN ha hK hW hS (by omega) (by omega) hVw (by omega) (by rw [hrm]; rfl) (by rw [hrm]; rfl) (by omega) (fun e h1 h2 h3 h4 => k_tcode hw3 hVw h2 hN ha hK hM hr h3 h1 (by omega) h4)
    rcases h10 with rfl | rfl | rfl | rfl | rfl | rfl | rfl | rfl | rfl | rfl
    · rw [if_pos (show wI ((20 + 0 : Nat) : Int) = 20 from rfl)]
      exact hcode 0 (by omega) hw
    · rw [if_neg (show ¬ wI ((20 + 1 : Nat) : Int) = 20 by decide), if_pos (show wI ((20 + 1 : Nat) : Int) = 21 from rfl)]
      exact hcode 1 (by omega) hw
    · rw [if_neg (show ¬ wI ((20 + 2 : Nat) : Int) = 20 by decide), if_neg (show ¬ wI ((20 + 2 : Nat) : Int) = 21 by decide), if_pos (show wI ((20 + 2 : Nat) : Int) = 22 from rfl)]
      exact hcode 2 (by omega) hw
    · rw [if_neg (show ¬ wI ((20 + 3 : Nat) : Int) = 20 by decide), if_neg (show ¬ wI ((20 + 3 : Nat) : Int) = 21 by decide), if_neg (show ¬ wI ((20 + 3 : Nat) : Int) = 22 by decide), if_pos (show wI ((20 + 3 : Nat) : Int) = 23 from rfl)]
      exact hcode 3 (by omega) hw
    · rw [if_neg (show ¬ wI ((20 + 4 : Nat) : Int) = 20 by decide), if_neg (show ¬ wI ((20 + 4 : Nat) : Int) = 21 by decide), if_neg (show ¬ wI ((20 + 4 : Nat) : Int) = 22 by decide), if_neg (show ¬ wI ((20 + 4 : Nat) : Int) = 23 by decide), if_pos (show wI ((20 + 4 : Nat) : Int) = 24 from rfl), h19, m27, n27, if_neg (kz_ixn hsd (by omega)), kz_nat (by omega), hcn.2.1]
      exact kq_roomed (x := Tnh T) (m := 6) (f := fun dt => X12_tellHop (A2 b) dt b) h hN ha hK hW hS (by omega) (by omega) hw (by omega) rfl rfl (by omega) (fun e h1 h2 h3 h4 => k_thop hw h2 hN ha hK hM h3 h1 (by omega) h4)
    · rw [if_neg (show ¬ wI ((20 + 5 : Nat) : Int) = 20 by decide), if_neg (show ¬ wI ((20 + 5 : Nat) : Int) = 21 by decide), if_neg (show ¬ wI ((20 + 5 : Nat) : Int) = 22 by decide), if_neg (show ¬ wI ((20 + 5 : Nat) : Int) = 23 by decide), if_neg (show ¬ wI ((20 + 5 : Nat) : Int) = 24 by decide), if_pos (show wI ((20 + 5 : Nat) : Int) = 25 from rfl), h19, m31, n31, if_neg (kz_ixn hsd (by omega)), kz_nat (by omega), hcn.2.2.1]
      exact kq_roomed (x := Tns T) (m := 6) (f := fun dt => X12_tellSend (A2 b) dt b) h hN ha hK hW hS (by omega) (by omega) hw (by omega) rfl rfl (by omega) (fun e h1 h2 h3 h4 => k_tsend hw h2 hN ha hK hM hr h3 c1 h1 (by omega) h4)
    · rw [if_neg (show ¬ wI ((20 + 6 : Nat) : Int) = 20 by decide), if_neg (show ¬ wI ((20 + 6 : Nat) : Int) = 21 by decide), if_neg (show ¬ wI ((20 + 6 : Nat) : Int) = 22 by decide), if_neg (show ¬ wI ((20 + 6 : Nat) : Int) = 23 by decide), if_neg (show ¬ wI ((20 + 6 : Nat) : Int) = 24 by decide), if_neg (show ¬ wI ((20 + 6 : Nat) : Int) = 25 by decide), if_pos (show wI ((20 + 6 : Nat) : Int) = 26 from rfl), h19, m38, n38, if_neg (kz_ixn hsd (by omega)), kz_nat (by omega), hcn.2.2.2.1]
      exact kq_roomed (x := Tne T) (m := 6) (f := fun dt => X12_tellEcho (A2 b) dt b) h hN ha hK hW hS (by omega) (by omega) hw (by omega) rfl rfl (by omega) (fun e h1 h2 h3 h4 => k_techo hw h2 hN ha hK hM hr h3 c3 h1 h4)
    · rw [if_neg (show ¬ wI ((20 + 7 : Nat) : Int) = 20 by decide), if_neg (show ¬ wI ((20 + 7 : Nat) : Int) = 21 by decide), if_neg (show ¬ wI ((20 + 7 : Nat) : Int) = 22 by decide), if_neg (show ¬ wI ((20 + 7 : Nat) : Int) = 23 by decide), if_neg (show ¬ wI ((20 + 7 : Nat) : Int) = 24 by decide), if_neg (show ¬ wI ((20 + 7 : Nat) : Int) = 25 by decide), if_neg (show ¬ wI ((20 + 7 : Nat) : Int) = 26 by decide), if_pos (show wI ((20 + 7 : Nat) : Int) = 27 from rfl), h19, m42, n42, if_neg (kz_ixn hsd (by omega)), kz_nat (by omega), hcn.2.2.2.2]
      exact kq_roomed (x := Tnj T) (m := 4) (f := fun dt => X12_tellJam (A2 b) dt b) h hN ha hK hW hS (by omega) (by omega) hw (by omega) rfl rfl (by omega) (fun e h1 h2 h3 h4 => k_tjam hw h2 hN ha hK h3 h1 h4)
    · rw [if_neg (show ¬ wI ((20 + 8 : Nat) : Int) = 20 by decide), if_neg (show ¬ wI ((20 + 8 : Nat) : Int) = 21 by decide), if_neg (show ¬ wI ((20 + 8 : Nat) : Int) = 22 by decide), if_neg (show ¬ wI ((20 + 8 : Nat) : Int) = 23 by decide), if_neg (show ¬ wI ((20 + 8 : Nat) : Int) = 24 by decide), if_neg (show ¬ wI ((20 + 8 : Nat) : Int) = 25 by decide), if_neg (show ¬ wI ((20 + 8 : Nat) : Int) = 26 by decide), if_neg (show ¬ wI ((20 + 8 : Nat) : Int) = 27 by decide), if_pos (show wI ((20 + 8 : Nat) : Int) = 28 from rfl)]
      obtain ⟨d1, r1, r2, r3, r4⟩ := k_goes h.1 hN h.2.1 hg0 rfl
      obtain ⟨e, q1, q2⟩ := k_tnoise hw (kq_go h hN ha hK r3 r2) hN ha hK (kq_W_fz hW r3) (fun q => kq_S_fz (hS q) r3)
      rw [r1]
      simp only [b1s]
      have et : ky_tell K V (ky_c T) a = ky_run K V (ky_sh 8) (ky_go (a, 0)) := by
        unfold ky_tell
        rw [hV3, if_pos ⟨hK, hV10⟩, if_neg (fun q => by omega)]
      rw [et, m47, n47, m48, n48]
      exact ⟨e, q1, kq_R_fz r3 q2⟩
    · rw [if_neg (show ¬ wI ((20 + 9 : Nat) : Int) = 20 by decide), if_neg (show ¬ wI ((20 + 9 : Nat) : Int) = 21 by decide), if_neg (show ¬ wI ((20 + 9 : Nat) : Int) = 22 by decide), if_neg (show ¬ wI ((20 + 9 : Nat) : Int) = 23 by decide), if_neg (show ¬ wI ((20 + 9 : Nat) : Int) = 24 by decide), if_neg (show ¬ wI ((20 + 9 : Nat) : Int) = 25 by decide), if_neg (show ¬ wI ((20 + 9 : Nat) : Int) = 26 by decide), if_neg (show ¬ wI ((20 + 9 : Nat) : Int) = 27 by decide), if_neg (show ¬ wI ((20 + 9 : Nat) : Int) = 28 by decide), if_pos (show wI ((20 + 9 : Nat) : Int) = 29 from rfl)]
      obtain ⟨d1, r1, r2, r3, r4⟩ := k_goes h.1 hN h.2.1 hg0 rfl
      obtain ⟨e, q1, q2⟩ := k_tsamp hw (kq_go h hN ha hK r3 r2) hN ha hK (kq_W_fz hW r3) (fun q => kq_S_fz (hS q) r3)
      rw [r1]
      simp only [b1s]
      have et : ky_tell K V (ky_c T) a = ky_run K V (ky_sh 9) (ky_go (a, 0)) := by
        unfold ky_tell
        rw [hV3, if_pos ⟨hK, hV10⟩, if_neg (fun q => by omega)]
      rw [et, m49, n49]
      exact ⟨e, q1, kq_R_fz r3 q2⟩
  · have et : ky_tell K V (ky_c T) a = (a, 1) := by
      unfold ky_tell
      rw [if_neg g6]
    have hne : ∀ w : Nat, w < 10 → qk_mk (K a) (V a) ≠ 20 + w := by
      intro w hw q
      by_cases g : K a = 6
      · have h1 := hmk.2.2.2.2.2.2.2.2.1 g
        have h2 : V a = 10 := by
          by_cases g2 : V a = 10
          · exact g2
          · exact absurd ⟨g, g2⟩ g6
        omega
      · have := hmk.2.2.2.2.2.2.2.2.2 g
        omega
    have hb1 := hmk.2.2.2.2.2.2.1
    have hb2 := hmk.2.2.2.2.2.2.2.1
    have hw : ∀ w : Nat, w < 10 → ¬ wI (qk_mk (K a) (V a)) = wI ((20 + w : Nat) : Int) := by
      intro w hw q
      rw [wI_eq (by omega) (by omega) (by omega) (by omega)] at q
      exact hne w hw (by omega)
    rw [if_neg (show ¬ wI (qk_mk (K a) (V a)) = 20 from hw 0 (by omega)), if_neg (show ¬ wI (qk_mk (K a) (V a)) = 21 from hw 1 (by omega)), if_neg (show ¬ wI (qk_mk (K a) (V a)) = 22 from hw 2 (by omega)), if_neg (show ¬ wI (qk_mk (K a) (V a)) = 23 from hw 3 (by omega)), if_neg (show ¬ wI (qk_mk (K a) (V a)) = 24 from hw 4 (by omega)), if_neg (show ¬ wI (qk_mk (K a) (V a)) = 25 from hw 5 (by omega)), if_neg (show ¬ wI (qk_mk (K a) (V a)) = 26 from hw 6 (by omega)), if_neg (show ¬ wI (qk_mk (K a) (V a)) = 27 from hw 7 (by omega)), if_neg (show ¬ wI (qk_mk (K a) (V a)) = 28 from hw 8 (by omega)), if_neg (show ¬ wI (qk_mk (K a) (V a)) = 29 from hw 9 (by omega))]
    exact hfail hne et
