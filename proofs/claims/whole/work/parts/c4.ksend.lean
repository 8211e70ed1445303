/-! level two: the check's tells of senders -/
theorem S_addsend {b sd : Nat} {d e : q_Dt} {T : q_Tl} {c am dl tn dt df : Nat} (h : kq_S b sd d T) (hn : Tns T < 6) (hc : c < Tnc T) (ha : 1 ≤ am ∧ am ≤ 99) (hd : dl < Tlen T c) (ht : tn < 4) (hx : dt ≤ 9999) (hf : df ≤ 99) (e19 : e.1 (b + 19) (6 * sd + Tns T) = wI c ∧ e.1 (b + 20) (6 * sd + Tns T) = wI am ∧ e.1 (b + 21) (6 * sd + Tns T) = wI dl ∧ e.1 (b + 22) (6 * sd + Tns T) = wI tn ∧ e.1 (b + 23) (6 * sd + Tns T) = wI dt ∧ e.1 (b + 24) (6 * sd + Tns T) = wI df) (fj : ∀ o, 19 ≤ o → o ≤ 24 → ∀ j, j ≠ 6 * sd + Tns T → e.1 (b + o) j = d.1 (b + o) j) (f : ∀ o, 12 ≤ o → o ≤ 36 → (o < 18 ∨ 25 ≤ o) → e.1 (b + o) = d.1 (b + o)) : kq_S b sd e (kt_send T c am dl tn dt df) := by
  obtain ⟨hw, h0, hC, hH, hS, hE, hJ⟩ := h
  refine ⟨kt_send_wf hw hn hc ha hd ht hx hf, ?_, ?_, ?_, ?_, ?_, ?_⟩
  · simp only [kt_send_Tnc, kt_send_Tnh, kt_send_Tns, kt_send_Tne, kt_send_Tnj, kt_send_TN, kt_send_Tnm, kt_send_Tnd, kt_send_Tlen, kt_send_Thp, kt_send_Tha, kt_send_Thb, kt_send_Tsc, kt_send_Tsa, kt_send_Tsd, kt_send_Tst, kt_send_Tsx, kt_send_Tsf, kt_send_Teo, kt_send_Tel, kt_send_Tjf, kt_send_Tjt, kt_send_Tja, kt_send_Tje, kt_send_Tch, kt_send_Tea]
    rw [f 34 (by omega) (by omega) (by omega), f 35 (by omega) (by omega) (by omega), f 36 (by omega) (by omega) (by omega)]
    exact h0
  · unfold q_MC
    simp only [kt_send_Tnc, kt_send_Tnh, kt_send_Tns, kt_send_Tne, kt_send_Tnj, kt_send_TN, kt_send_Tnm, kt_send_Tnd, kt_send_Tlen, kt_send_Thp, kt_send_Tha, kt_send_Thb, kt_send_Tsc, kt_send_Tsa, kt_send_Tsd, kt_send_Tst, kt_send_Tsx, kt_send_Tsf, kt_send_Teo, kt_send_Tel, kt_send_Tjf, kt_send_Tjt, kt_send_Tja, kt_send_Tje, kt_send_Tch, kt_send_Tea]
    rw [f 12 (by omega) (by omega) (by omega), f 13 (by omega) (by omega) (by omega)]
    exact hC
  · unfold q_MH
    simp only [kt_send_Tnc, kt_send_Tnh, kt_send_Tns, kt_send_Tne, kt_send_Tnj, kt_send_TN, kt_send_Tnm, kt_send_Tnd, kt_send_Tlen, kt_send_Thp, kt_send_Tha, kt_send_Thb, kt_send_Tsc, kt_send_Tsa, kt_send_Tsd, kt_send_Tst, kt_send_Tsx, kt_send_Tsf, kt_send_Teo, kt_send_Tel, kt_send_Tjf, kt_send_Tjt, kt_send_Tja, kt_send_Tje, kt_send_Tch, kt_send_Tea]
    rw [f 15 (by omega) (by omega) (by omega), f 16 (by omega) (by omega) (by omega), f 17 (by omega) (by omega) (by omega)]
    exact hH
  · unfold q_MS
    simp only [kt_send_Tnc, kt_send_Tnh, kt_send_Tns, kt_send_Tne, kt_send_Tnj, kt_send_TN, kt_send_Tnm, kt_send_Tnd, kt_send_Tlen, kt_send_Thp, kt_send_Tha, kt_send_Thb, kt_send_Tsc, kt_send_Tsa, kt_send_Tsd, kt_send_Tst, kt_send_Tsx, kt_send_Tsf, kt_send_Teo, kt_send_Tel, kt_send_Tjf, kt_send_Tjt, kt_send_Tja, kt_send_Tje, kt_send_Tch, kt_send_Tea]
    intro q hq
    by_cases g : q = Tns T
    · simp only [if_pos g]
      rw [g]
      exact e19
    · simp only [if_neg g]
      rw [fj 19 (by omega) (by omega) _ (by omega), fj 20 (by omega) (by omega) _ (by omega), fj 21 (by omega) (by omega) _ (by omega), fj 22 (by omega) (by omega) _ (by omega), fj 23 (by omega) (by omega) _ (by omega), fj 24 (by omega) (by omega) _ (by omega)]
      exact hS q (by omega)
  · unfold q_ME
    simp only [kt_send_Tnc, kt_send_Tnh, kt_send_Tns, kt_send_Tne, kt_send_Tnj, kt_send_TN, kt_send_Tnm, kt_send_Tnd, kt_send_Tlen, kt_send_Thp, kt_send_Tha, kt_send_Thb, kt_send_Tsc, kt_send_Tsa, kt_send_Tsd, kt_send_Tst, kt_send_Tsx, kt_send_Tsf, kt_send_Teo, kt_send_Tel, kt_send_Tjf, kt_send_Tjt, kt_send_Tja, kt_send_Tje, kt_send_Tch, kt_send_Tea]
    rw [f 26 (by omega) (by omega) (by omega), f 27 (by omega) (by omega) (by omega), f 28 (by omega) (by omega) (by omega)]
    exact hE
  · unfold q_MJ
    simp only [kt_send_Tnc, kt_send_Tnh, kt_send_Tns, kt_send_Tne, kt_send_Tnj, kt_send_TN, kt_send_Tnm, kt_send_Tnd, kt_send_Tlen, kt_send_Thp, kt_send_Tha, kt_send_Thb, kt_send_Tsc, kt_send_Tsa, kt_send_Tsd, kt_send_Tst, kt_send_Tsx, kt_send_Tsf, kt_send_Teo, kt_send_Tel, kt_send_Tjf, kt_send_Tjt, kt_send_Tja, kt_send_Tje, kt_send_Tch, kt_send_Tea]
    rw [f 30 (by omega) (by omega) (by omega), f 31 (by omega) (by omega) (by omega), f 32 (by omega) (by omega) (by omega), f 33 (by omega) (by omega) (by omega)]
    exact hJ
theorem ky_r5 {K : Nat → Nat} {V : Nat → Int} {s : Nat × Nat} : ky_run K V (ky_sh 5) s = ky_mu K 4 (ky_dr K V (ky_mu K 3 (ky_mu K 3 (ky_mu K 3 (ky_mu K 3 (ky_mu K 2 (ky_mu K 2 s))))))) := by
  show ky_run K V [110, 110, 105, 105, 105, 105, 100, 59] s = _
  simp only [ky_run_c, ky_run_n, ky_p1, ky_p2, ky_p3, ky_p4]
/-- rows of a sender -/
def kv_S (b i : Nat) (d e : q_Dt) : Prop := (∀ z, z ≠ b → (z < b + 19 ∨ b + 24 < z) → e.1 z = d.1 z) ∧ (∀ j, j ≠ 11 → j ≠ 13 → j ≠ 14 → j ≠ 15 → j ≠ 16 → j ≠ 50 → e.1 b j = d.1 b j) ∧ e.2 = d.2 ∧ ∀ o, 19 ≤ o → o ≤ 24 → ∀ j, j ≠ i → e.1 (b + o) j = d.1 (b + o) j
theorem kv_S_t {b i : Nat} {d e f : q_Dt} (h : kv_S b i d e) (h' : kv_S b i e f) : kv_S b i d f := ⟨fun z h1 h2 => (h'.1 z h1 h2).trans (h.1 z h1 h2), fun j h1 h2 h3 h4 h5 h6 => (h'.2.1 j h1 h2 h3 h4 h5 h6).trans (h.2.1 j h1 h2 h3 h4 h5 h6), h'.2.2.1.trans h.2.2.1, fun o h1 h2 j h3 => (h'.2.2.2 o h1 h2 j h3).trans (h.2.2.2 o h1 h2 j h3)⟩
theorem kv_S_z {b i : Nat} {d e : q_Dt} (h : ky_fz b d e) : kv_S b i d e := ⟨fun z h1 _ => h.1 z h1, h.2.1, h.2.2, fun o _ _ j _ => by rw [h.1 (b + o) (by omega)]⟩
theorem kv_S_I {b i o : Nat} {d : q_Dt} {v : Int32} (h1 : 19 ≤ o) (h2 : o ≤ 24) : kv_S b i d (q_pI d (b + o) i v) := by
  refine ⟨fun z h3 h4 => q_pI_o (by omega), fun j _ _ _ _ _ _ => by rw [q_pI_o (by omega)], rfl, fun o2 _ _ j hj => ?_⟩
  by_cases g : o2 = o
  · rw [g, q_pI_k hj]
  · rw [q_pI_o (by omega)]
theorem kv_S_fr {b sd i : Nat} {d e : q_Dt} (h : kv_S b i d e) (hi : i / 6 = sd) : kq_fr b sd d e := by
  refine ⟨fun x h1 h2 => h.1 x h1 (by omega), fun j h1 h2 h3 h4 h5 _ h7 => h.2.1 j h1 h2 h3 h4 h5 h7, fun x _ => by rw [h.2.2.1], by rw [h.2.2.1], fun o o1 o2 j hj => ?_⟩
  by_cases g : 19 ≤ o ∧ o ≤ 24
  · have h6 : kq_w o = 6 := by
      have h9 : o = 19 ∨ o = 20 ∨ o = 21 ∨ o = 22 ∨ o = 23 ∨ o = 24 := by omega
      rcases h9 with rfl | rfl | rfl | rfl | rfl | rfl <;> rfl
    rw [h6] at hj
    exact h.2.2.2 o g.1 g.2 j (fun q => hj (by rw [q]; exact hi))
  · rw [h.1 (b + o) (by omega) (by omega)]
set_option maxHeartbeats 16000000 in
theorem k_tsend {b sd N a : Nat} {K P : Nat → Nat} {V : Nat → Int} {d : q_Dt} {F : Nat × Nat} {M : q_Nm} {T : q_Tl} (hV : V a = (5 : Nat)) (h : kq_P b N K P V d (ky_go (a, 0)) F M) (hN : qk_tok K P V N) (ha : a ≤ N) (hK : K a = 6) (hM : kn_wf M) (hr : kn_r M T) (hW : kq_W b sd d T) (hnc : Tnc T ≤ 8) (hc : Tns T < 6) (hM20 : M.1 < 20) (hS : F.1 = 0 → kq_S b sd d T) : ∃ e, X12_tellSend (A2 b) d b = some e ∧ kq_R b sd N K P V d e (ky_run K V (ky_sh 5) (ky_go (a, 0))) (kz_F K P V M T a F) (kz_M V M T a) (kz_T K V M T a) := by
  have hN4 := hN.1
  have hg0 : ky_ok K N (a, 0) := ⟨ha, by show (0 : Nat) ≤ 2; omega⟩
  have hs := (ky_go_b hN hg0 (fun _ => by show 2 ≤ K a; omega)).1
  obtain ⟨s, hse⟩ : ∃ s, s = ky_go (a, 0) := ⟨_, rfl⟩
  rw [ky_r5, ← hse]
  rw [← hse] at h hs
  obtain ⟨s1, e1⟩ : ∃ x, x = ky_mu K 2 s := ⟨_, rfl⟩
  obtain ⟨s2, e2⟩ : ∃ x, x = ky_mu K 2 s1 := ⟨_, rfl⟩
  obtain ⟨s3, e3⟩ : ∃ x, x = ky_mu K 3 s2 := ⟨_, rfl⟩
  obtain ⟨s4, e4⟩ : ∃ x, x = ky_mu K 3 s3 := ⟨_, rfl⟩
  obtain ⟨s5, e5⟩ : ∃ x, x = ky_mu K 3 s4 := ⟨_, rfl⟩
  obtain ⟨s6, e6⟩ : ∃ x, x = ky_mu K 3 s5 := ⟨_, rfl⟩
  obtain ⟨s7, e7⟩ : ∃ x, x = ky_dr K V s6 := ⟨_, rfl⟩
  rw [← e1, ← e2, ← e3, ← e4, ← e5, ← e6, ← e7]
  have hs1 := (ky_mu_b hN hs (k := 2) (by omega)).1; rw [← e1] at hs1
  have hs2 := (ky_mu_b hN hs1 (k := 2) (by omega)).1; rw [← e2] at hs2
  have hs3 := (ky_mu_b hN hs2 (k := 3) (by omega)).1; rw [← e3] at hs3
  have hs4 := (ky_mu_b hN hs3 (k := 3) (by omega)).1; rw [← e4] at hs4
  have hs5 := (ky_mu_b hN hs4 (k := 3) (by omega)).1; rw [← e5] at hs5
  have hs6 := (ky_mu_b hN hs5 (k := 3) (by omega)).1; rw [← e6] at hs6
  have hs7 := (ky_dr_b (V := V) hN hs6).1; rw [← e7] at hs7
  obtain ⟨hsd, h19, hcn, hl⟩ := hW
  have hV3 := kz_w hV
  obtain ⟨i, hi⟩ : ∃ i, i = 6 * sd + Tns T := ⟨_, rfl⟩
  have hi12 : i < 12 := by omega
  have hid : i / 6 = sd := by omega
  have hin := kz_ixn hi12 (by omega)
  have him := kz_ixm hi12 (by omega)
  have hinat := kz_nat (n := i) (by omega)
  -- positions when all goes on
  have hpos : (ky_mu K 4 s7).2 = 0 → s.1 = a + 1 ∧ K s.1 = 2 ∧ s1.1 = a + 2 ∧ s1.2 = 0 ∧ s2.2 = 0 ∧ (s2.1 = a + 3 ∧ K s2.1 = 3) ∧ (s3.1 = a + 4 ∧ s3.2 = 0 ∧ K s3.1 = 3) ∧ (s4.1 = a + 5 ∧ s4.2 = 0 ∧ K s4.1 = 3) ∧ (s5.1 = a + 6 ∧ s5.2 = 0 ∧ K s5.1 = 3) ∧ (s6.1 = a + 7 ∧ s6.2 = 0) := by
    intro q
    have q8 := ky_mu_s q
    have q6 : s6.2 = 0 := by
      by_cases g : s6.2 = 0
      · exact g
      · have : ky_dr K V s6 = s6 := if_neg (fun x => g x.1)
        rw [← e7] at this
        rw [this] at q8
        exact q8.1
    have t6 := ky_mu_s (by rw [e6] at q6; exact q6)
    have t5 := ky_mu_s (by have x := t6.1; rw [e5] at x; exact x)
    have t4 := ky_mu_s (by have x := t5.1; rw [e4] at x; exact x)
    have t3 := ky_mu_s (by have x := t4.1; rw [e3] at x; exact x)
    have t2 := ky_mu_s (by have x := t3.1; rw [e2] at x; exact x)
    have g := ky_g1 hse (by have x := t2.1; rw [e1] at x; exact x)
    rw [← e1] at g
    have p2 : s2.1 = a + 3 := by rw [e2, t2.2.2.1, g.2.2]
    have p3 : s3.1 = a + 4 := by rw [e3, t3.2.2.1, p2]
    have p4 : s4.1 = a + 5 := by rw [e4, t4.2.2.1, p3]
    have p5 : s5.1 = a + 6 := by rw [e5, t5.2.2.1, p4]
    have p6 : s6.1 = a + 7 := by rw [e6, t6.2.2.1, p5]
    exact ⟨g.1, g.2.1, g.2.2, t2.1, t3.1, ⟨p2, t3.2.1⟩, ⟨p3, t4.1, t4.2.1⟩, ⟨p4, t5.1, t5.2.1⟩, ⟨p5, t6.1, t6.2.1⟩, p6, q6⟩
  obtain ⟨d1, F1, r1, r2, r3, r4, r5⟩ := kq_named h hN hs hM
  rw [← e1] at r2 r4
  obtain ⟨d2, p1, p2, p3⟩ := kq_known r2 hN hs1 hM (so := 0) (by omega)
  rw [← e2] at p2
  have p1' : X12_known (A2 b) d1 b 0 = some (wI (ky_oi (ky_kn K V M 0 s1)), d2) := p1
  obtain ⟨o, ho⟩ : ∃ o, o = ky_kn K V M 0 s1 := ⟨_, rfl⟩
  rw [← ho] at p1'
  obtain ⟨F2, hF2⟩ : ∃ x, x = ky_k1 K P V M 0 s1 F1 := ⟨_, rfl⟩
  rw [← hF2] at p2
  have hG2 : (ky_mu K 4 s7).2 = 0 → F2 = kz_un P V M 0 (kz_du P V M F (a + 1)) (a + 2) ∧ o = kn_fd M (V (a + 2)) 0 M.1 0 := by
    intro q
    obtain ⟨g1, g2, g3, g4, g5, -⟩ := hpos q
    have k1 := ky_kn_s (P := P) (V := V) (M := M) (so := 0) (s := s1) (F := F1) (by rw [← e2]; exact g5)
    have k2 := r4 g4
    rw [g1] at k2
    rw [hF2, ho, k1.1, k1.2, g3, k2]
    exact ⟨rfl, rfl⟩
  have hoc : ∀ c, o = some c → c < Tnc T := fun c hc => by rw [ho] at hc; exact kn_r_fd hr (ky_kn_c hc).1
  obtain ⟨d3, hd3⟩ : ∃ z, z = q_pI d2 (b + 19) i (wI (ky_oi o)) := ⟨_, rfl⟩
  have hP3 : kq_P b N K P V d3 s2 F2 M := by rw [hd3]; exact kq_P_I p2 (by omega)
  obtain ⟨am, d4, F3, q1, q2, q3, q4, q5, q6⟩ := kq_bounded hP3 hN hs2 (lo := 1) (hi := 99) (by omega) (by omega)
  rw [← e3] at q2
  have q1' : X12_bounded (A2 b) d3 b 1 99 = some (wI am, d4) := q1
  obtain ⟨d5, hd5⟩ : ∃ z, z = q_pI d4 (b + 20) i (wI am) := ⟨_, rfl⟩
  have hP5 : kq_P b N K P V d5 s3 F3 M := by rw [hd5]; exact kq_P_I q2 (by omega)
  have f5 : kv_S b i d d5 := by
    rw [hd5]
    rw [hd3] at q3
    exact kv_S_t (kv_S_t (kv_S_t (kv_S_t (kv_S_z r3) (kv_S_z p3)) (kv_S_I (by omega) (by omega))) (kv_S_z q3)) (kv_S_I (by omega) (by omega))
  have g5 : d5.1 (b + 19) i = wI (ky_oi o) ∧ d5.1 (b + 20) i = wI am := by
    rw [hd5]
    exact ⟨by rw [q_pI_o (by omega), q3.1 _ (by omega), hd3, q_pI_s], q_pI_s⟩
  have hG3 : (ky_mu K 4 s7).2 = 0 → F3 = kz_nu P V 1 99 (kz_un P V M 0 (kz_du P V M F (a + 1)) (a + 2)) (a + 3) ∧ am = V (a + 3) := by
    intro q
    obtain ⟨g1, g2, g3, g4, g6, g7, -⟩ := hpos q
    have x1 := q5 ⟨g6, g7.2⟩
    rw [g7.1, (hG2 q).1] at x1
    exact ⟨x1.2, x1.1⟩
  -- the end
  have htail : ∀ (e0 : q_Dt) (F7 : Nat × Nat) (dl tn da df : Int), kq_P b N K P V e0 s7 F7 M → kv_S b i d e0 → (e0.1 (b + 19) i = wI (ky_oi o) ∧ e0.1 (b + 20) i = wI am ∧ e0.1 (b + 21) i = wI dl ∧ e0.1 (b + 22) i = wI tn ∧ e0.1 (b + 23) i = wI da ∧ e0.1 (b + 24) i = wI df) → ((ky_mu K 4 s7).2 = 0 → F7 = kz_F5 K P V M T a F ∧ (F7.1 = 0 → dl = V (a + 4) ∧ tn = V (a + 5) ∧ da = V (a + 6) ∧ df = (if K (a + 7) = 6 then V (a + 8) else 0) ∧ (0 ≤ df ∧ df ≤ 99) ∧ (0 ≤ dl ∧ dl < (Tlen T (kz_c V M 0 (a + 2)) : Int)) ∧ (0 ≤ tn ∧ tn ≤ 3) ∧ (0 ≤ da ∧ da ≤ 9999))) → ∃ e, X12_tellSend_b171 (A2 b) b (wI s.1) e0 = some e ∧ kq_R b sd N K P V d e (ky_mu K 4 s7) (kz_F K P V M T a F) (kz_M V M T a) (kz_T K V M T a) := by
    intro e0 F7 dl tn da df hP hf hv hF
    have g19 : e0.1 b 19 = wI sd := by rw [hf.2.1 19 (by omega) (by omega) (by omega) (by omega) (by omega) (by omega)]; exact h19
    have g18 : e0.1 (b + 18) sd = wI (Tns T) := by rw [hf.1 (b + 18) (by omega) (by omega)]; exact hcn.2.2.1
    obtain ⟨e, z1, z2, z3, z4, z5, z6, z7, z8⟩ := kq_end (o := 18) (so := 2) (tok := s.1) hP hN hs7 (by omega) hsd g19 g18 hM20 hs.1 (fun q => (hpos q).2.1)
    have fe : kq_fr b sd e0 e := by
      refine ⟨fun z x1 x2 => z4 z x1 (by omega) (by omega) (by omega), z5, z6, z7, fun o o1 o2 j hj2 => ?_⟩
      by_cases g : o = 18
      · rw [g] at hj2 ⊢
        have : kq_w 18 = 1 := rfl
        rw [this, Nat.div_one] at hj2
        exact z8 j hj2
      · rw [z4 (b + o) (by omega) (by omega) (by omega) (by omega)]
    have fo : ∀ o, 11 ≤ o → o ≤ 36 → (o < 18 ∨ 25 ≤ o) → e.1 (b + o) = d.1 (b + o) := fun o o1 o2 o3 => by
      rw [z4 (b + o) (by omega) (by omega) (by omega) (by omega), hf.1 (b + o) (by omega) (by omega)]
    have hl2 : kq_l b e := fun j hj2 => by rw [fo 12 (by omega) (by omega) (by omega)]; exact hl j hj2
    refine ⟨e, ?_, kq_fr_t (kv_S_fr hf hid) fe, hl2, fun q => ⟨F7, (z2 q).1.2.1⟩, fun q => ?_⟩
    · unfold X12_tellSend_b171
      rw [m31, n31]
      exact z1
    have hF' := hF q
    have hp := hpos q
    have eT : kz_T K V M T a = kz_T5 K V M T a := by unfold kz_T; rw [hV3]; rfl
    have eM : kz_M V M T a = kn_add M (V s.1) 2 (Tns T) := by unfold kz_M; rw [hV3, hp.1]; rfl
    have eF : kz_F K P V M T a F = F7 := by unfold kz_F; rw [hV3, hF'.1]; rfl
    rw [eT, eM, eF]
    unfold kz_T5
    refine ⟨(z3 q).1, ⟨hsd, ?_, ⟨?_, ?_, ?_, ?_, ?_⟩, hl2⟩, fun h0 => ?_⟩
    · rw [z5 19 (by omega) (by omega) (by omega) (by omega) (by omega) (by omega) (by omega)]; exact g19
    · rw [kt_send_Tnc, fo 11 (by omega) (by omega) (by omega)]; exact hcn.1
    · rw [kt_send_Tnh, fo 14 (by omega) (by omega) (by omega)]; exact hcn.2.1
    · rw [kt_send_Tns]; exact (z3 q).2
    · rw [kt_send_Tne, fo 25 (by omega) (by omega) (by omega)]; exact hcn.2.2.2.1
    · rw [kt_send_Tnj, fo 29 (by omega) (by omega) (by omega)]; exact hcn.2.2.2.2
    · obtain ⟨v1, v2, v3, v4, v5, v6, v7, v8⟩ := hF'.2 h0
      have h0a : (kz_F5a P V M T a F).1 = 0 := by
        rw [hF'.1] at h0
        unfold kz_F5 at h0
        by_cases g : K (a + 7) = 6
        · rw [if_pos g] at h0; exact (kz_nu_0 h0).1
        · rw [if_neg g] at h0; exact h0
      unfold kz_F5a at h0a
      have j1 := kz_nu_0 h0a
      have j2 := kz_nu_0 j1.1
      have j3 := kz_nu_0 j2.1
      have j4 := kz_nu_0 j3.1
      have j5 := kz_un_0 j4.1
      have j6 := (hG2 q).2
      rw [j5.2] at j6
      have hcc := hoc _ j6
      have n1 : ((kz_n V (a + 3) : Nat) : Int) = am := by have := (hG3 q).2; unfold kz_n; omega
      have n2 : ((kz_n V (a + 4) : Nat) : Int) = dl := by unfold kz_n; omega
      have n3 : ((kz_n V (a + 5) : Nat) : Int) = tn := by unfold kz_n; omega
      have n4 : ((kz_n V (a + 6) : Nat) : Int) = da := by unfold kz_n; omega
      have n5 : (((if K (a + 7) = 6 then kz_n V (a + 8) else 0 : Nat)) : Int) = df := by
        by_cases g : K (a + 7) = 6
        · rw [if_pos g] at v4 ⊢; unfold kz_n; omega
        · rw [if_neg g] at v4 ⊢; omega
      refine S_addsend (hS (kz_du_0 j5.1).1) hc hcc (by omega) (by omega) (by omega) (by omega) (by omega) ⟨?_, ?_, ?_, ?_, ?_, ?_⟩ (fun o o1 o2 j hj2 => ?_) (fun o o1 o2 o3 => fo o (by omega) o2 o3)
      · rw [z4 (b + 19) (by omega) (by omega) (by omega) (by omega), ← hi, hv.1, j6]; rfl
      · rw [z4 (b + 20) (by omega) (by omega) (by omega) (by omega), ← hi, hv.2.1, n1]
      · rw [z4 (b + 21) (by omega) (by omega) (by omega) (by omega), ← hi, hv.2.2.1, n2]
      · rw [z4 (b + 22) (by omega) (by omega) (by omega) (by omega), ← hi, hv.2.2.2.1, n3]
      · rw [z4 (b + 23) (by omega) (by omega) (by omega) (by omega), ← hi, hv.2.2.2.2.1, n4]
      · rw [z4 (b + 24) (by omega) (by omega) (by omega) (by omega), ← hi, hv.2.2.2.2.2, n5]
      · rw [z4 (b + o) (by omega) (by omega) (by omega) (by omega)]
        exact hf.2.2.2 o o1 o2 j (by omega)
  -- from the delay on
  have hmain : ∀ (fl lo2 hi2 : Int32) (dl : Int) (d6 : q_Dt) (F4 : Nat × Nat), X12_hangs (A2 b) d5 b fl lo2 hi2 = some (wI dl, d6) → kq_P b N K P V d6 s4 F4 M → ky_fz b d5 d6 → ((ky_mu K 4 s7).2 = 0 → F4 = kz_nu P V 0 ((Tlen T (kz_c V M 0 (a + 2)) : Int) - 1) (kz_nu P V 1 99 (kz_un P V M 0 (kz_du P V M F (a + 1)) (a + 2)) (a + 3)) (a + 4) ∧ (F4.1 = 0 → dl = V (a + 4))) → ∃ e, X12_tellSend_b101 (A2 b) b (wI i) (wI s.1) (b + 21) (wI i) b fl lo2 hi2 d5 = some e ∧ kq_R b sd N K P V d e (ky_mu K 4 s7) (kz_F K P V M T a F) (kz_M V M T a) (kz_T K V M T a) := by
    intro fl lo2 hi2 dl d6 F4 u1 u2 u3 hF4
    obtain ⟨d7, hd7⟩ : ∃ z, z = q_pI d6 (b + 21) i (wI dl) := ⟨_, rfl⟩
    have hP7 : kq_P b N K P V d7 s4 F4 M := by rw [hd7]; exact kq_P_I u2 (by omega)
    obtain ⟨tn, d8, F5, w1, w2, w3, w4, w5, w6⟩ := kq_bounded hP7 hN hs4 (lo := 0) (hi := 3) (by omega) (by omega)
    rw [← e5] at w2
    have w1' : X12_bounded (A2 b) d7 b 0 3 = some (wI tn, d8) := w1
    obtain ⟨d9, hd9⟩ : ∃ z, z = q_pI d8 (b + 22) i (wI tn) := ⟨_, rfl⟩
    have hP9 : kq_P b N K P V d9 s5 F5 M := by rw [hd9]; exact kq_P_I w2 (by omega)
    obtain ⟨da, d10, F6, x1, x2, x3, x4, x5, x6⟩ := kq_bounded hP9 hN hs5 (lo := 0) (hi := 9999) (by omega) (by omega)
    rw [← e6] at x2
    have x1' : X12_bounded (A2 b) d9 b 0 9999 = some (wI da, d10) := x1
    obtain ⟨d12, hd12⟩ : ∃ z, z = q_pI (q_pI d10 (b + 23) i (wI da)) (b + 24) i 0 := ⟨_, rfl⟩
    have hP12 : kq_P b N K P V d12 s6 F6 M := by rw [hd12]; exact kq_P_I (kq_P_I x2 (by omega)) (by omega)
    have f12 : kv_S b i d d12 := by
      rw [hd12]
      rw [hd7] at w3
      rw [hd9] at x3
      exact kv_S_t (kv_S_t (kv_S_t (kv_S_t (kv_S_t (kv_S_t (kv_S_t (kv_S_t f5 (kv_S_z u3)) (kv_S_I (by omega) (by omega))) (kv_S_z w3)) (kv_S_I (by omega) (by omega))) (kv_S_z x3)) (kv_S_I (by omega) (by omega))) (kv_S_I (by omega) (by omega))) (kv_S_z ky_fz_r)
    have g12 : d12.1 (b + 19) i = wI (ky_oi o) ∧ d12.1 (b + 20) i = wI am ∧ d12.1 (b + 21) i = wI dl ∧ d12.1 (b + 22) i = wI tn ∧ d12.1 (b + 23) i = wI da ∧ d12.1 (b + 24) i = wI (0 : Nat) := by
      rw [hd12]
      refine ⟨?_, ?_, ?_, ?_, ?_, q_pI_s⟩
      · rw [q_pI_o (by omega), q_pI_o (by omega), x3.1 _ (by omega), hd9, q_pI_o (by omega), w3.1 _ (by omega), hd7, q_pI_o (by omega), u3.1 _ (by omega)]; exact g5.1
      · rw [q_pI_o (by omega), q_pI_o (by omega), x3.1 _ (by omega), hd9, q_pI_o (by omega), w3.1 _ (by omega), hd7, q_pI_o (by omega), u3.1 _ (by omega)]; exact g5.2
      · rw [q_pI_o (by omega), q_pI_o (by omega), x3.1 _ (by omega), hd9, q_pI_o (by omega), w3.1 _ (by omega), hd7, q_pI_s]
      · rw [q_pI_o (by omega), q_pI_o (by omega), x3.1 _ (by omega), hd9, q_pI_s]
      · rw [q_pI_o (by omega), q_pI_s]
    have hG6 : (ky_mu K 4 s7).2 = 0 → F6 = kz_F5a P V M T a F ∧ (F6.1 = 0 → dl = V (a + 4) ∧ tn = V (a + 5) ∧ da = V (a + 6) ∧ (0 ≤ dl ∧ dl < (Tlen T (kz_c V M 0 (a + 2)) : Int)) ∧ (0 ≤ tn ∧ tn ≤ 3) ∧ (0 ≤ da ∧ da ≤ 9999)) := by
      intro q
      obtain ⟨g1, g2, g3, g4, g6, g7, g8, g9, g10, g11⟩ := hpos q
      have y1 := w5 g9.2
      rw [g9.1] at y1
      have y2 := x5 g10.2
      rw [g10.1, y1.2, (hF4 q).1] at y2
      refine ⟨y2.2, fun h0 => ?_⟩
      rw [y2.2] at h0
      have j1 := kz_nu_0 h0
      have j2 := kz_nu_0 j1.1
      have j3 := kz_nu_0 j2.1
      have j4 := (hF4 q).2 (by rw [(hF4 q).1]; exact j2.1)
      exact ⟨j4, y1.1, y2.1, by omega, by omega, by omega⟩
    unfold X12_tellSend_b101
    rw [u1]
    simp only [b2s]
    rw [n34, if_neg hin, hinat]
    simp only [o1s]
    rw [← hd7, w1']
    simp only [b2s]
    rw [m35, n35, m36, n36, m37, n37, if_neg him, ← hd9, x1']
    simp only [b2s]
    rw [if_neg him, if_neg him, ← hd12, hP12.2.1.2.1]
    have hs62 := hs6.2
    have e13 : (wI (s6.2 : Int) = 0) = (s6.2 = 0) := by
      rw [show (0 : Int32) = wI (0 : Nat) from rfl, wI_eq (by omega) (by omega) (by omega) (by omega)]
      exact propext ⟨fun q => by omega, fun q => by omega⟩
    simp only [e13]
    by_cases g0 : s6.2 = 0
    · have hmk := (qk_mk_t hN s6.1).2.2.2.2.2.1
      rw [if_pos g0, show (30 : Int32) = wI (30 : Nat) from rfl, k_is hP12.1 hN hP12.2.1 hs6 (by omega)]
      simp only [b1s]
      by_cases gd : K s6.1 = 6 ∧ V s6.1 = 10
      · have e7' : s7 = ky_mu K 3 (ky_go s6) := by rw [e7]; exact if_pos ⟨g0, gd⟩
        rw [if_pos (show s6.2 = 0 ∧ qk_mk (K s6.1) (V s6.1) = ((30 : Nat) : Int) from ⟨g0, hmk.mpr gd⟩), if_neg (show ¬ wI ((1 : Nat) : Int) = 0 by decide)]
        obtain ⟨d13, y1, y2, y3, y4⟩ := k_goes hP12.1 hN hP12.2.1 hs6 g0
        have hgb := ky_go_b hN hs6 (fun _ => by omega)
        have hFOg : ky_FO P (ky_go s6) F6 := by
          refine ⟨hP12.2.2.1.1, fun z1 z2 => ?_⟩
          have z3 := ky_go_s z1
          rw [z3.2.1]
          have z4 := hP12.2.2.1.2 g0 z2
          have z5 := ky_ltN hN hs6.1 (by omega) z3.2.2
          have z6 := hN.2.2.2.2.1 _ z5
          show F6.2 < P (s6.1 + 1)
          omega
        have hP13 := kq_P_z hP12 y3 y2 hFOg
        rw [y1]
        simp only [b1s]
        obtain ⟨df, d14, F7, z1, z2, z3, z4, z5, z6⟩ := kq_bounded hP13 hN hgb.1 (lo := 1) (hi := 99) (by omega) (by omega)
        rw [← e7'] at z2
        have z1' : X12_bounded (A2 b) d13 b 1 99 = some (wI df, d14) := z1
        rw [z1']
        simp only [b2s]
        rw [if_neg him]
        refine htail (q_pI d14 (b + 24) i (wI df)) F7 dl tn da df (kq_P_I z2 (by omega)) (kv_S_t (kv_S_t (kv_S_t f12 (kv_S_z y3)) (kv_S_z z3)) (kv_S_I (by omega) (by omega))) ⟨?_, ?_, ?_, ?_, ?_, q_pI_s⟩ (fun q => ?_)
        · rw [q_pI_o (by omega), z3.1 _ (by omega), y3.1 _ (by omega)]; exact g12.1
        · rw [q_pI_o (by omega), z3.1 _ (by omega), y3.1 _ (by omega)]; exact g12.2.1
        · rw [q_pI_o (by omega), z3.1 _ (by omega), y3.1 _ (by omega)]; exact g12.2.2.1
        · rw [q_pI_o (by omega), z3.1 _ (by omega), y3.1 _ (by omega)]; exact g12.2.2.2.1
        · rw [q_pI_o (by omega), z3.1 _ (by omega), y3.1 _ (by omega)]; exact g12.2.2.2.2.1
        · have g11 := (hpos q).2.2.2.2.2.2.2.2.2
          have q7 := (ky_mu_s q).1
          rw [e7'] at q7
          have t7 := ky_mu_s q7
          have tg := ky_go_s t7.1
          have a8 : (ky_go s6).1 = a + 8 := by rw [tg.2.1, g11.1]
          have k6 : K (a + 7) = 6 := by rw [← g11.1]; exact gd.1
          have yy := z5 ⟨t7.1, t7.2.1⟩
          rw [a8, (hG6 q).1] at yy
          have eF5 : kz_F5 K P V M T a F = F7 := by
            unfold kz_F5
            rw [if_pos k6, yy.2]
          refine ⟨eF5.symm, fun h0 => ?_⟩
          rw [yy.2] at h0
          have j1 := kz_nu_0 h0
          obtain ⟨l1, l2, l3, l4, l5, l6⟩ := (hG6 q).2 (by rw [(hG6 q).1]; exact j1.1)
          rw [if_pos k6]
          exact ⟨l1, l2, l3, yy.1, by omega, l4, l5, l6⟩
      · have e7' : s7 = s6 := by rw [e7]; exact if_neg (fun x => gd x.2)
        rw [if_neg (show ¬ (s6.2 = 0 ∧ qk_mk (K s6.1) (V s6.1) = ((30 : Nat) : Int)) from fun x => gd (hmk.mp x.2)), if_pos (show wI ((0 : Nat) : Int) = 0 from rfl)]
        have hP12' := hP12
        rw [← e7'] at hP12'
        refine htail d12 F6 dl tn da 0 hP12' f12 g12 (fun q => ?_)
        have g11 := (hpos q).2.2.2.2.2.2.2.2.2
        have q7 := ky_mu_s q
        have k6 : ¬ K (a + 7) = 6 := by
          rw [e7', g11.1] at q7
          omega
        have eF5 : kz_F5 K P V M T a F = F6 := by
          unfold kz_F5
          rw [if_neg k6, (hG6 q).1]
        refine ⟨eF5.symm, fun h0 => ?_⟩
        obtain ⟨l1, l2, l3, l4, l5, l6⟩ := (hG6 q).2 h0
        rw [if_neg k6]
        exact ⟨l1, l2, l3, rfl, by omega, l4, l5, l6⟩
    · rw [if_neg g0]
      have e7' : s7 = s6 := by rw [e7]; exact if_neg (fun x => g0 x.1)
      have hP12' := hP12
      rw [← e7'] at hP12'
      refine htail d12 F6 dl tn da 0 hP12' f12 g12 (fun q => absurd (hpos q).2.2.2.2.2.2.2.2.2.2 g0)
  -- not known, or a fault
  have hno : ((ky_mu K 4 s7).2 = 0 → o = none) → ∃ e, X12_tellSend_b64 (A2 b) b (wI i) (wI s.1) (wI (ky_oi o)) d5 = some e ∧ kq_R b sd N K P V d e (ky_mu K 4 s7) (kz_F K P V M T a F) (kz_M V M T a) (kz_T K V M T a) := by
    intro hbad
    obtain ⟨dl, d6, u1, u2, u3, u4, u5⟩ := kq_hang0 hP5 hN hs3 0 0
    rw [← e4] at u2
    obtain ⟨e, z1, z2⟩ := hmain 0 0 0 dl d6 F3 u1 u2 u3 (fun q => by
      have hb : (kz_un P V M 0 (kz_du P V M F (a + 1)) (a + 2)).1 ≠ 0 := by
        intro h0
        have j5 := kz_un_0 h0
        have j6 := (hG2 q).2
        rw [hbad q, j5.2] at j6
        exact nomatch j6
      have h3 := (hG3 q).1
      rw [kz_nu_f hb] at h3
      refine ⟨?_, fun h0 => absurd h0 (by rw [h3]; exact hb)⟩
      rw [kz_nu_f hb, kz_nu_f hb]
      exact h3)
    refine ⟨e, ?_, z2⟩
    unfold X12_tellSend_b64 X12_tellSend_b65
    rw [if_pos rfl, m34]
    exact z1
  unfold X12_tellSend
  rw [h19, m31, n31, if_neg (kz_ixn hsd (by omega)), kz_nat (by omega), hcn.2.2.1, kz_ix6, ← hi]
  simp only [o1s]
  rw [r1]
  simp only [b2s]
  rw [p1']
  simp only [b2s]
  rw [m32, n32, m33, n33, if_neg hin, hinat, ← hd3, q1']
  simp only [b2s]
  rw [if_neg him, ← hd5, hP5.2.1.2.1]
  have hs32 := hs3.2
  have e13 : (wI (s3.2 : Int) = 0) = (s3.2 = 0) := by
    rw [show (0 : Int32) = wI (0 : Nat) from rfl, wI_eq (by omega) (by omega) (by omega) (by omega)]
    exact propext ⟨fun q => by omega, fun q => by omega⟩
  simp only [e13]
  by_cases g0 : s3.2 = 0
  · rw [if_pos g0]
    have ho2 : o = none ∨ ∃ c, o = some c := by
      cases o with
      | none => exact Or.inl rfl
      | some c => exact Or.inr ⟨c, rfl⟩
    rcases ho2 with ho2 | ⟨c, ho2⟩
    · rw [if_pos (show wI (ky_oi o) < 0 by rw [ho2]; show wI (-1) < 0; decide)]
      exact hno (fun _ => ho2)
    · have hcc := hoc c ho2
      have eoi : ky_oi o = (c : Int) := by rw [ho2]; rfl
      rw [eoi, if_neg (by rw [show (0 : Int32) = wI (0 : Nat) from rfl, wI_lt (by omega) (by omega) (by omega) (by omega)]; omega)]
      have g19 : d5.1 b 19 = wI sd := by rw [f5.2.1 19 (by omega) (by omega) (by omega) (by omega) (by omega) (by omega)]; exact h19
      obtain ⟨n1, hn1, hl1⟩ := hl (8 * sd + c) (by omega)
      have gl : d5.1 (b + 12) (8 * sd + c) = wI n1 := by rw [f5.1 (b + 12) (by omega) (by omega)]; exact hl1
      unfold X12_tellSend_b65
      rw [if_neg kq_10, g19, kz_ix8, m25, n25, m34, if_neg (kz_ixn (by omega) (by omega)), kz_nat (by omega), gl, show wI (n1 : Int) - 1 = wI ((n1 : Int) - 1) from wI_sub _ 1]
      obtain ⟨dl, d6, F4, u1, u2, u3, u4, u5, u6⟩ := kq_hang1 hP5 hN hs3 (lo := 0) (hi := (n1 : Int) - 1) (by omega) (by omega)
      rw [← e4] at u2
      refine hmain 1 0 (wI ((n1 : Int) - 1)) dl d6 F4 u1 u2 u3 (fun q => ?_)
      obtain ⟨g1, g2, g3, g4, g6, g7, g8, -⟩ := hpos q
      have y1 := u5 g8.2
      rw [g8.1, (hG3 q).1] at y1
      refine ⟨?_, fun _ => y1.1⟩
      rw [y1.2]
      by_cases h0 : (kz_nu P V 1 99 (kz_un P V M 0 (kz_du P V M F (a + 1)) (a + 2)) (a + 3)).1 = 0
      · have j4 := kz_nu_0 h0
        have j5 := kz_un_0 j4.1
        have j6 := (hG2 q).2
        rw [ho2, j5.2] at j6
        have ec := Option.some.inj j6
        have hSS := hS (kz_du_0 j5.1).1
        have a1 := (hSS.2.2.1 c hcc).1
        have b1 := (hSS.1.2.1 c hcc).1
        rw [hl1, wI_eq (by omega) (by omega) (by omega) (by omega)] at a1
        rw [← ec, a1]
      · rw [kz_nu_f h0, kz_nu_f h0]
  · rw [if_neg g0]
    exact hno (fun q => absurd (hpos q).2.2.2.2.2.2.1.2.1 g0)
