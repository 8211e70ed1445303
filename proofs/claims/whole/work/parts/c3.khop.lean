/-! level two: the check's tells of hops -/
def kp_f (p : Nat) : Nat → Nat → Bool
  | 0, _ => true
  | n + 1, i => if p % i = 0 then false else kp_f p n (i + 1)
theorem kp_ok : ∀ p, p < 32 → 2 ≤ p → kp_f p (p - 2) 2 = kz_pb p := by decide
theorem k_prime {p : Nat} (h1 : 2 ≤ p) (h2 : p < 32) : X12_isPrime (wI p) = some (if kz_pb p = false then wI (0 : Nat) else wI (1 : Nat)) := by
  have hl : ∀ n i k : Nat, i + n = p → n < k → 2 ≤ i → X12_isPrime_b2 (wI p) k (wI i) = some (if kp_f p n i = false then wI (0 : Nat) else wI (1 : Nat)) := by
    intro n
    induction n with
    | zero =>
      intro i k z1 z2 
      obtain ⟨k, rfl⟩ : ∃ m, k = m + 1 := ⟨k - 1, by omega⟩
      have e : i = p := by omega
      intro hi2
      have e2 : kp_f p 0 i = true := rfl
      rw [X12_isPrime_b2.eq_2, e2, if_pos (by rw [wI_le (by omega) (by omega) (by omega) (by omega)]; omega), if_neg (by rw [show (2 : Int32) = wI (2 : Nat) from rfl, wI_lt (by omega) (by omega) (by omega) (by omega)]; omega), if_neg (fun q => nomatch q)]
      rfl
    | succ n ih =>
      intro i k z1 z2 
      obtain ⟨k, rfl⟩ : ∃ m, k = m + 1 := ⟨k - 1, by omega⟩
      have hi : i < p := by omega
      intro hi2
      have hih := ih (i + 1) k (by omega) (by omega) (by omega)
      rw [X12_isPrime_b2.eq_2, if_neg (by rw [wI_le (by omega) (by omega) (by omega) (by omega)]; omega), if_neg (by rw [show (0 : Int32) = wI (0 : Nat) from rfl, wI_eq (by omega) (by omega) (by omega) (by omega)]; omega), wI_mod (by omega) (by omega) (by omega) (by omega), ← Int.natCast_emod, show wI (i : Int) + 1 = wI (i + 1 : Nat) from wI_add i 1, hih]
      have em : (wI ((p % i : Nat) : Int) = 0) = (p % i = 0) := by
        have := Nat.mod_lt p (show 0 < i by omega)
        rw [show (0 : Int32) = wI (0 : Nat) from rfl, wI_eq (by omega) (by omega) (by omega) (by omega)]
        exact propext ⟨fun q => by omega, fun q => by omega⟩
      simp only [em]
      by_cases g : p % i = 0
      · have e : kp_f p (n + 1) i = false := if_pos g
        rw [if_pos g, e, if_pos rfl]
        rfl
      · have e : kp_f p (n + 1) i = kp_f p n (i + 1) := if_neg g
        rw [if_neg g, e]
  have h := hl (p - 2) 2 q_FU (by omega) (by unfold q_FU; omega) (by omega)
  rw [kp_ok p h2 h1] at h
  exact h
theorem S_addhop {b sd : Nat} {d e : q_Dt} {T : q_Tl} {p x y : Nat} (h : kq_S b sd d T) (hn : Tnh T < 6) (hp : 2 ≤ p ∧ p ≤ 31) (hx : x < p) (hy : y < p) (e15 : e.1 (b + 15) (6 * sd + Tnh T) = wI p) (e16 : e.1 (b + 16) (6 * sd + Tnh T) = wI x) (e17 : e.1 (b + 17) (6 * sd + Tnh T) = wI y) (fj : ∀ o, 15 ≤ o → o ≤ 17 → ∀ j, j ≠ 6 * sd + Tnh T → e.1 (b + o) j = d.1 (b + o) j) (f : ∀ o, 12 ≤ o → o ≤ 36 → (o < 14 ∨ 18 ≤ o) → e.1 (b + o) = d.1 (b + o)) : kq_S b sd e (kt_hop T p x y) := by
  obtain ⟨hw, h0, hC, hH, hS, hE, hJ⟩ := h
  refine ⟨kt_hop_wf hw hn hp hx hy, ?_, ?_, ?_, ?_, ?_, ?_⟩
  · simp only [kt_hop_Tnc, kt_hop_Tnh, kt_hop_Tns, kt_hop_Tne, kt_hop_Tnj, kt_hop_TN, kt_hop_Tnm, kt_hop_Tnd, kt_hop_Tlen, kt_hop_Thp, kt_hop_Tha, kt_hop_Thb, kt_hop_Tsc, kt_hop_Tsa, kt_hop_Tsd, kt_hop_Tst, kt_hop_Tsx, kt_hop_Tsf, kt_hop_Teo, kt_hop_Tel, kt_hop_Tjf, kt_hop_Tjt, kt_hop_Tja, kt_hop_Tje, kt_hop_Tch, kt_hop_Tea]
    rw [f 34 (by omega) (by omega) (by omega), f 35 (by omega) (by omega) (by omega), f 36 (by omega) (by omega) (by omega)]
    exact h0
  · unfold q_MC
    simp only [kt_hop_Tnc, kt_hop_Tnh, kt_hop_Tns, kt_hop_Tne, kt_hop_Tnj, kt_hop_TN, kt_hop_Tnm, kt_hop_Tnd, kt_hop_Tlen, kt_hop_Thp, kt_hop_Tha, kt_hop_Thb, kt_hop_Tsc, kt_hop_Tsa, kt_hop_Tsd, kt_hop_Tst, kt_hop_Tsx, kt_hop_Tsf, kt_hop_Teo, kt_hop_Tel, kt_hop_Tjf, kt_hop_Tjt, kt_hop_Tja, kt_hop_Tje, kt_hop_Tch, kt_hop_Tea]
    rw [f 12 (by omega) (by omega) (by omega), f 13 (by omega) (by omega) (by omega)]
    exact hC
  · unfold q_MH
    simp only [kt_hop_Tnc, kt_hop_Tnh, kt_hop_Tns, kt_hop_Tne, kt_hop_Tnj, kt_hop_TN, kt_hop_Tnm, kt_hop_Tnd, kt_hop_Tlen, kt_hop_Thp, kt_hop_Tha, kt_hop_Thb, kt_hop_Tsc, kt_hop_Tsa, kt_hop_Tsd, kt_hop_Tst, kt_hop_Tsx, kt_hop_Tsf, kt_hop_Teo, kt_hop_Tel, kt_hop_Tjf, kt_hop_Tjt, kt_hop_Tja, kt_hop_Tje, kt_hop_Tch, kt_hop_Tea]
    intro q hq
    by_cases g : q = Tnh T
    · rw [if_pos g, if_pos g, if_pos g, g]
      exact ⟨e15, e16, e17⟩
    · rw [if_neg g, if_neg g, if_neg g, fj 15 (by omega) (by omega) _ (by omega), fj 16 (by omega) (by omega) _ (by omega), fj 17 (by omega) (by omega) _ (by omega)]
      exact hH q (by omega)
  · unfold q_MS
    simp only [kt_hop_Tnc, kt_hop_Tnh, kt_hop_Tns, kt_hop_Tne, kt_hop_Tnj, kt_hop_TN, kt_hop_Tnm, kt_hop_Tnd, kt_hop_Tlen, kt_hop_Thp, kt_hop_Tha, kt_hop_Thb, kt_hop_Tsc, kt_hop_Tsa, kt_hop_Tsd, kt_hop_Tst, kt_hop_Tsx, kt_hop_Tsf, kt_hop_Teo, kt_hop_Tel, kt_hop_Tjf, kt_hop_Tjt, kt_hop_Tja, kt_hop_Tje, kt_hop_Tch, kt_hop_Tea]
    rw [f 19 (by omega) (by omega) (by omega), f 20 (by omega) (by omega) (by omega), f 21 (by omega) (by omega) (by omega), f 22 (by omega) (by omega) (by omega), f 23 (by omega) (by omega) (by omega), f 24 (by omega) (by omega) (by omega)]
    exact hS
  · unfold q_ME
    simp only [kt_hop_Tnc, kt_hop_Tnh, kt_hop_Tns, kt_hop_Tne, kt_hop_Tnj, kt_hop_TN, kt_hop_Tnm, kt_hop_Tnd, kt_hop_Tlen, kt_hop_Thp, kt_hop_Tha, kt_hop_Thb, kt_hop_Tsc, kt_hop_Tsa, kt_hop_Tsd, kt_hop_Tst, kt_hop_Tsx, kt_hop_Tsf, kt_hop_Teo, kt_hop_Tel, kt_hop_Tjf, kt_hop_Tjt, kt_hop_Tja, kt_hop_Tje, kt_hop_Tch, kt_hop_Tea]
    rw [f 26 (by omega) (by omega) (by omega), f 27 (by omega) (by omega) (by omega), f 28 (by omega) (by omega) (by omega)]
    exact hE
  · unfold q_MJ
    simp only [kt_hop_Tnc, kt_hop_Tnh, kt_hop_Tns, kt_hop_Tne, kt_hop_Tnj, kt_hop_TN, kt_hop_Tnm, kt_hop_Tnd, kt_hop_Tlen, kt_hop_Thp, kt_hop_Tha, kt_hop_Thb, kt_hop_Tsc, kt_hop_Tsa, kt_hop_Tsd, kt_hop_Tst, kt_hop_Tsx, kt_hop_Tsf, kt_hop_Teo, kt_hop_Tel, kt_hop_Tjf, kt_hop_Tjt, kt_hop_Tja, kt_hop_Tje, kt_hop_Tch, kt_hop_Tea]
    rw [f 30 (by omega) (by omega) (by omega), f 31 (by omega) (by omega) (by omega), f 32 (by omega) (by omega) (by omega), f 33 (by omega) (by omega) (by omega)]
    exact hJ
theorem ky_r4 {K : Nat → Nat} {V : Nat → Int} {s : Nat × Nat} : ky_run K V (ky_sh 4) s = ky_mu K 4 (ky_mu K 3 (ky_mu K 3 (ky_mu K 3 (ky_mu K 2 s)))) := by
  show ky_run K V [110, 105, 105, 105, 59] s = _
  simp only [ky_run_c, ky_run_n, ky_p1, ky_p2, ky_p3]
theorem kq_P_I {b N o k : Nat} {K P : Nat → Nat} {V : Nat → Int} {d : q_Dt} {s F : Nat × Nat} {M : q_Nm} {v : Int32} (h : kq_P b N K P V d s F M) (ho : 11 ≤ o) : kq_P b N K P V (q_pI d (b + o) k v) s F M := kq_P_x h (fun x hx => q_pI_o (by omega)) rfl
theorem kz_ixm {n m : Nat} (h : n < m) (h2 : m < 100000) : ¬ (wI (n : Int) < 0 ∨ m ≤ n) := by
  have h3 := kz_ixn h h2
  rw [kz_nat (by omega)] at h3
  exact h3
theorem kz_ix6 {sd c : Nat} : 6 * wI sd + wI c = wI (6 * sd + c : Nat) := by
  rw [show (6 : Int32) = wI (6 : Nat) from rfl, wI_mul, wI_add]
  rfl
set_option maxHeartbeats 8000000 in
theorem k_thop {b sd N a : Nat} {K P : Nat → Nat} {V : Nat → Int} {d : q_Dt} {F : Nat × Nat} {M : q_Nm} {T : q_Tl} (hV : V a = (4 : Nat)) (h : kq_P b N K P V d (ky_go (a, 0)) F M) (hN : qk_tok K P V N) (ha : a ≤ N) (hK : K a = 6) (hM : kn_wf M) (hW : kq_W b sd d T) (hc : Tnh T < 6) (hM20 : M.1 < 20) (hS : F.1 = 0 → kq_S b sd d T) : ∃ e, X12_tellHop (A2 b) d b = some e ∧ kq_R b sd N K P V d e (ky_run K V (ky_sh 4) (ky_go (a, 0))) (kz_F K P V M T a F) (kz_M V M T a) (kz_T K V M T a) := by
  have hN4 := hN.1
  have hg0 : ky_ok K N (a, 0) := ⟨ha, by show (0 : Nat) ≤ 2; omega⟩
  have hs := (ky_go_b hN hg0 (fun _ => by show 2 ≤ K a; omega)).1
  obtain ⟨s, hse⟩ : ∃ s, s = ky_go (a, 0) := ⟨_, rfl⟩
  rw [← hse] at h hs ⊢
  have hs1 := (ky_mu_b hN hs (k := 2) (by omega)).1
  have hs2 := (ky_mu_b hN hs1 (k := 3) (by omega)).1
  have hs3 := (ky_mu_b hN hs2 (k := 3) (by omega)).1
  have hs4 := (ky_mu_b hN hs3 (k := 3) (by omega)).1
  obtain ⟨hsd, h19, hcn, hl⟩ := hW
  obtain ⟨d1, F1, r1, r2, r3, r4, r5⟩ := kq_named h hN hs hM
  have hV3 := kz_w hV
  obtain ⟨i, hi⟩ : ∃ i, i = 6 * sd + Tnh T := ⟨_, rfl⟩
  have hi12 : i < 12 := by omega
  have hid : i / 6 = sd := by omega
  obtain ⟨v, d2, F2, p1, p2, p3, p4, p5, p6⟩ := kq_bounded r2 hN hs1 (lo := 2) (hi := 31) (by omega) (by omega)
  have p1' : X12_bounded (A2 b) d1 b 2 31 = some (wI v, d2) := p1
  have fz2 := ky_fz_t r3 p3
  have hpos : (ky_mu K 3 (ky_mu K 3 (ky_mu K 3 (ky_mu K 2 s)))).2 = 0 → s.1 = a + 1 ∧ K s.1 = 2 ∧ ((ky_mu K 2 s).1 = a + 2 ∧ (ky_mu K 2 s).2 = 0 ∧ K (ky_mu K 2 s).1 = 3) ∧ ((ky_mu K 3 (ky_mu K 2 s)).1 = a + 3 ∧ (ky_mu K 3 (ky_mu K 2 s)).2 = 0 ∧ K (ky_mu K 3 (ky_mu K 2 s)).1 = 3) ∧ ((ky_mu K 3 (ky_mu K 3 (ky_mu K 2 s))).1 = a + 4 ∧ (ky_mu K 3 (ky_mu K 3 (ky_mu K 2 s))).2 = 0 ∧ K (ky_mu K 3 (ky_mu K 3 (ky_mu K 2 s))).1 = 3) ∧ F1 = kz_du P V M F (a + 1) := by
    intro q
    have q1 := ky_mu_s q
    have q2 := ky_mu_s q1.1
    have q3 := ky_mu_s q2.1
    have g := ky_g1 hse q3.1
    have g2 := r4 q3.1
    rw [g.1] at g2
    have e3 : (ky_mu K 3 (ky_mu K 2 s)).1 = a + 3 := by rw [q3.2.2.1, g.2.2]
    refine ⟨g.1, g.2.1, ⟨g.2.2, q3.1, q3.2.1⟩, ⟨e3, q2.1, q2.2.1⟩, ⟨?_, q1.1, q1.2.1⟩, g2⟩
    rw [q2.2.2.1, e3]
  -- the rest of the tell
  have hrest : ∀ (dd : q_Dt) (FF : Nat × Nat) (A B : Int32 → Int32 → Option (Int32 × q_Dt)), True := fun _ _ _ _ => trivial
  have htail : ∀ (e0 : q_Dt) (F4 : Nat × Nat) (x y : Int), kq_P b N K P V e0 (ky_mu K 3 (ky_mu K 3 (ky_mu K 3 (ky_mu K 2 s)))) F4 M → kq_fr b sd d e0 → (∀ z, z ≠ b → z ≠ b + 15 → z ≠ b + 16 → z ≠ b + 17 → e0.1 z = d.1 z) → (∀ j, j ≠ 11 → j ≠ 13 → j ≠ 14 → j ≠ 15 → j ≠ 16 → j ≠ 50 → e0.1 b j = d.1 b j) → (e0.1 (b + 15) i = wI v ∧ e0.1 (b + 16) i = wI x ∧ e0.1 (b + 17) i = wI y) → (∀ o, 15 ≤ o → o ≤ 17 → ∀ j, j ≠ i → e0.1 (b + o) j = d.1 (b + o) j) → ((ky_mu K 3 (ky_mu K 3 (ky_mu K 3 (ky_mu K 2 s)))).2 = 0 → F4 = kz_F4 P V M a F ∧ (F4.1 = 0 → v = V (a + 2) ∧ x = V (a + 3) ∧ y = V (a + 4) ∧ (2 ≤ v ∧ v ≤ 31) ∧ (0 ≤ x ∧ x < v) ∧ (0 ≤ y ∧ y < v) ∧ F.1 = 0)) → ∃ e, q_b1 (X12_must (A2 b) e0 b 4) (fun dt => if (dt.1 b 13) ≤ 0 then (if (dt.1 b 19) < 0 ∨ 2 ≤ Int32.toNatClampNeg (dt.1 b 19) then none else (q_b1 (X12_notes (A2 b) dt b (wI s.1) (wI (1 : Nat)) (dt.1 (b + 14) (Int32.toNatClampNeg (dt.1 b 19)))) (fun dt => if (dt.1 b 19) < 0 ∨ 2 ≤ Int32.toNatClampNeg (dt.1 b 19) then none else (if (dt.1 b 19) < 0 ∨ 2 ≤ Int32.toNatClampNeg (dt.1 b 19) then none else (q_o (q_pI dt (b + 14) (Int32.toNatClampNeg (dt.1 b 19)) ((dt.1 (b + 14) (Int32.toNatClampNeg (dt.1 b 19))) + 1)) (fun dt => some dt)))))) else (some dt)) = some e ∧ kq_R b sd N K P V d e (ky_mu K 4 (ky_mu K 3 (ky_mu K 3 (ky_mu K 3 (ky_mu K 2 s))))) (kz_F K P V M T a F) (kz_M V M T a) (kz_T K V M T a) := by
    intro e0 F4 x y hP hf hz hb hv hj hF
    have g19 : e0.1 b 19 = wI sd := by rw [hb 19 (by omega) (by omega) (by omega) (by omega) (by omega) (by omega)]; exact h19
    have g14 : e0.1 (b + 14) sd = wI (Tnh T) := by rw [hz (b + 14) (by omega) (by omega) (by omega) (by omega)]; exact hcn.2.1
    obtain ⟨e, q1, q2, q3, q4, q5, q6, q7, q8⟩ := kq_end (o := 14) (so := 1) (tok := s.1) hP hN hs4 (by omega) hsd g19 g14 hM20 hs.1 (fun q => (hpos (ky_mu_s q).1).2.1)
    have fe : kq_fr b sd e0 e := by
      refine ⟨fun z x1 x2 => q4 z x1 (by omega) (by omega) (by omega), q5, q6, q7, fun o o1 o2 j hj2 => ?_⟩
      by_cases g : o = 14
      · rw [g] at hj2 ⊢
        have : kq_w 14 = 1 := rfl
        rw [this, Nat.div_one] at hj2
        exact q8 j hj2
      · rw [q4 (b + o) (by omega) (by omega) (by omega) (by omega)]
    have fo : ∀ o, 11 ≤ o → o ≤ 36 → (o < 14 ∨ 18 ≤ o) → e.1 (b + o) = d.1 (b + o) := fun o o1 o2 o3 => by
      rw [q4 (b + o) (by omega) (by omega) (by omega) (by omega), hz (b + o) (by omega) (by omega) (by omega) (by omega)]
    have hl2 : kq_l b e := fun j hj2 => by rw [fo 12 (by omega) (by omega) (by omega)]; exact hl j hj2
    refine ⟨e, q1, kq_fr_t hf fe, hl2, fun q => ⟨F4, (q2 q).1.2.1⟩, fun q => ?_⟩
    have q0 := (ky_mu_s q).1
    have hF' := hF q0
    have hp := hpos q0
    have eT : kz_T K V M T a = kz_T4 V T a := by unfold kz_T; rw [hV3]; rfl
    have eM : kz_M V M T a = kn_add M (V s.1) 1 (Tnh T) := by unfold kz_M; rw [hV3, hp.1]; rfl
    have eF : kz_F K P V M T a F = F4 := by unfold kz_F; rw [hV3, hF'.1]; rfl
    rw [eT, eM, eF]
    unfold kz_T4
    refine ⟨(q3 q).1, ⟨hsd, ?_, ⟨?_, ?_, ?_, ?_, ?_⟩, hl2⟩, fun h0 => ?_⟩
    · rw [q5 19 (by omega) (by omega) (by omega) (by omega) (by omega) (by omega) (by omega)]; exact g19
    · rw [kt_hop_Tnc, fo 11 (by omega) (by omega) (by omega)]; exact hcn.1
    · rw [kt_hop_Tnh]; exact (q3 q).2
    · rw [kt_hop_Tns, fo 18 (by omega) (by omega) (by omega)]; exact hcn.2.2.1
    · rw [kt_hop_Tne, fo 25 (by omega) (by omega) (by omega)]; exact hcn.2.2.2.1
    · rw [kt_hop_Tnj, fo 29 (by omega) (by omega) (by omega)]; exact hcn.2.2.2.2
    · obtain ⟨v1, v2, v3, v4, v5, v6, v7⟩ := hF'.2 h0
      have n1 : ((kz_n V (a + 2) : Nat) : Int) = v := by unfold kz_n; omega
      have n2 : ((kz_n V (a + 3) : Nat) : Int) = x := by unfold kz_n; omega
      have n3 : ((kz_n V (a + 4) : Nat) : Int) = y := by unfold kz_n; omega
      refine S_addhop (hS v7) hc (by omega) (by omega) (by omega) ?_ ?_ ?_ (fun o o1 o2 j hj2 => ?_) (fun o o1 o2 o3 => fo o (by omega) o2 o3)
      · rw [q4 (b + 15) (by omega) (by omega) (by omega) (by omega), ← hi, hv.1, n1]
      · rw [q4 (b + 16) (by omega) (by omega) (by omega) (by omega), ← hi, hv.2.1, n2]
      · rw [q4 (b + 17) (by omega) (by omega) (by omega) (by omega), ← hi, hv.2.2, n3]
      · rw [q4 (b + o) (by omega) (by omega) (by omega) (by omega)]
        exact hj o o1 o2 j (by omega)
  rw [ky_r4]
  unfold X12_tellHop
  rw [h19, m27, n27, if_neg (kz_ixn hsd (by omega)), kz_nat (by omega), hcn.2.1, kz_ix6, ← hi]
  simp only [o1s]
  rw [r1]
  simp only [b2s]
  rw [p1']
  simp only [b2s]
  rw [r2.2.1.1, p2.2.1.2.1]
  have hs22 := hs2.2
  have e13 : (wI ((ky_mu K 3 (ky_mu K 2 s)).2 : Int) = 0) = ((ky_mu K 3 (ky_mu K 2 s)).2 = 0) := by
    rw [show (0 : Int32) = wI (0 : Nat) from rfl, wI_eq (by omega) (by omega) (by omega) (by omega)]
    exact propext ⟨fun q => by omega, fun q => by omega⟩
  simp only [e13]
  -- not well told
  have hno : ∀ (dd : q_Dt) (FF : Nat × Nat), kq_P b N K P V dd (ky_mu K 3 (ky_mu K 2 s)) FF M → ky_fz b d dd → dd.1 b 50 = 0 → ((ky_mu K 3 (ky_mu K 3 (ky_mu K 3 (ky_mu K 2 s)))).2 = 0 → FF.1 ≠ 0 ∧ FF = kz_F4 P V M a F) → ∃ e, X12_tellHop_b70 (A2 b) b (wI i) (wI s.1) (wI v) dd = some e ∧ kq_R b sd N K P V d e (ky_mu K 4 (ky_mu K 3 (ky_mu K 3 (ky_mu K 3 (ky_mu K 2 s))))) (kz_F K P V M T a F) (kz_M V M T a) (kz_T K V M T a) := by
    intro dd FF hd fd h50 hFF
    obtain ⟨d3, hd3⟩ : ∃ z, z = q_pI dd (b + 15) i (wI v) := ⟨_, rfl⟩
    have hP3 : kq_P b N K P V d3 (ky_mu K 3 (ky_mu K 2 s)) FF M := by rw [hd3]; exact kq_P_I hd (by omega)
    obtain ⟨x, d4, u1, u2, u3, u4, u5⟩ := kq_hang0 hP3 hN hs2 0 0
    obtain ⟨d5, hd5⟩ : ∃ z, z = q_pI d4 (b + 16) i (wI x) := ⟨_, rfl⟩
    have hP5 : kq_P b N K P V d5 (ky_mu K 3 (ky_mu K 3 (ky_mu K 2 s))) FF M := by rw [hd5]; exact kq_P_I u2 (by omega)
    obtain ⟨y, d6, w1, w2, w3, w4, w5⟩ := kq_hang0 hP5 hN hs3 0 0
    obtain ⟨d7, hd7⟩ : ∃ z, z = q_pI d6 (b + 17) i (wI y) := ⟨_, rfl⟩
    have hP7 : kq_P b N K P V d7 (ky_mu K 3 (ky_mu K 3 (ky_mu K 3 (ky_mu K 2 s)))) FF M := by rw [hd7]; exact kq_P_I w2 (by omega)
    obtain ⟨e, z1, z2⟩ := htail d7 FF x y hP7 (by
      rw [hd7, hd5] at *
      rw [hd3] at u3
      exact kq_fr_t (kq_fr_t (kq_fr_t (kq_fr_t (kq_fr_t (kq_fr_z fd) (kq_fr_I (by omega) (by omega) hid)) (kq_fr_z u3)) (kq_fr_I (by omega) (by omega) hid)) (kq_fr_z w3)) (kq_fr_I (by omega) (by omega) hid)) (fun z z1 z2 z3 z4 => by
      rw [hd7, q_pI_o z4, w3.1 z z1, hd5, q_pI_o z3, u3.1 z z1, hd3, q_pI_o z2, fd.1 z z1]) (fun j j1 j2 j3 j4 j5 j6 => by
      rw [hd7, q_pI_o (by omega), w3.2.1 j j1 j2 j3 j4 j5 j6, hd5, q_pI_o (by omega), u3.2.1 j j1 j2 j3 j4 j5 j6, hd3, q_pI_o (by omega), fd.2.1 j j1 j2 j3 j4 j5 j6]) ⟨by
      rw [hd7, q_pI_o (by omega), w3.1 _ (by omega), hd5, q_pI_o (by omega), u3.1 _ (by omega), hd3, q_pI_s], by
      rw [hd7, q_pI_o (by omega), w3.1 _ (by omega), hd5, q_pI_s], by
      rw [hd7, q_pI_s]⟩ (fun o o1 o2 j hj => by
      rw [hd7, ← congrFun (fd.1 (b + o) (by omega)) j]
      have h9 : o = 15 ∨ o = 16 ∨ o = 17 := by omega
      rcases h9 with rfl | rfl | rfl
      · rw [q_pI_o (by omega), w3.1 _ (by omega), hd5, q_pI_o (by omega), u3.1 _ (by omega), hd3, q_pI_k hj]
      · rw [q_pI_o (by omega), w3.1 _ (by omega), hd5, q_pI_k hj, u3.1 _ (by omega), hd3, q_pI_o (by omega)]
      · rw [q_pI_k hj, w3.1 _ (by omega), hd5, q_pI_o (by omega), u3.1 _ (by omega), hd3, q_pI_o (by omega)]) (fun q => ⟨(hFF q).2, fun q2 => absurd q2 (hFF q).1⟩)
    refine ⟨e, ?_, z2⟩
    unfold X12_tellHop_b70 X12_tellHop_b106 X12_tellHop_b132
    rw [h50, m28, n28, m29, m30, m27, n27, n29, n30, if_neg (kz_ixn hi12 (by omega)), kz_nat (by omega)]
    simp only [o1s]
    rw [if_pos trivial, ← hd3, u1]
    simp only [b2s]
    rw [if_neg (kz_ixm hi12 (by omega)), if_pos trivial, ← hd5, w1]
    simp only [b2s]
    rw [if_neg (kz_ixm hi12 (by omega)), ← hd7]
    exact z1
  have hyes : ∀ (dd : q_Dt) (FF : Nat × Nat), kq_P b N K P V dd (ky_mu K 3 (ky_mu K 2 s)) FF M → ky_fz b d dd → dd.1 b 50 = 1 → (2 ≤ v ∧ v ≤ 31) → ((ky_mu K 3 (ky_mu K 3 (ky_mu K 3 (ky_mu K 2 s)))).2 = 0 → v = V (a + 2) ∧ (FF.1 = 0 → F.1 = 0) ∧ kz_nu P V 0 (v - 1) (kz_nu P V 0 (v - 1) FF (a + 3)) (a + 4) = kz_F4 P V M a F) → ∃ e, X12_tellHop_b70 (A2 b) b (wI i) (wI s.1) (wI v) dd = some e ∧ kq_R b sd N K P V d e (ky_mu K 4 (ky_mu K 3 (ky_mu K 3 (ky_mu K 3 (ky_mu K 2 s))))) (kz_F K P V M T a F) (kz_M V M T a) (kz_T K V M T a) := by
    intro dd FF hd fd h50 hvv hFF
    obtain ⟨d3, hd3⟩ : ∃ z, z = q_pI dd (b + 15) i (wI v) := ⟨_, rfl⟩
    have hP3 : kq_P b N K P V d3 (ky_mu K 3 (ky_mu K 2 s)) FF M := by rw [hd3]; exact kq_P_I hd (by omega)
    obtain ⟨x, d4, F3, u1, u2, u3, u4, u5, u6⟩ := kq_hang1 hP3 hN hs2 (lo := 0) (hi := v - 1) (by omega) (by omega)
    have u1' : X12_hangs (A2 b) d3 b 1 0 (wI (v - 1)) = some (wI x, d4) := u1
    obtain ⟨d5, hd5⟩ : ∃ z, z = q_pI d4 (b + 16) i (wI x) := ⟨_, rfl⟩
    have hP5 : kq_P b N K P V d5 (ky_mu K 3 (ky_mu K 3 (ky_mu K 2 s))) F3 M := by rw [hd5]; exact kq_P_I u2 (by omega)
    obtain ⟨y, d6, F4, w1, w2, w3, w4, w5, w6⟩ := kq_hang1 hP5 hN hs3 (lo := 0) (hi := v - 1) (by omega) (by omega)
    have w1' : X12_hangs (A2 b) d5 b 1 0 (wI (v - 1)) = some (wI y, d6) := w1
    obtain ⟨d7, hd7⟩ : ∃ z, z = q_pI d6 (b + 17) i (wI y) := ⟨_, rfl⟩
    have hP7 : kq_P b N K P V d7 (ky_mu K 3 (ky_mu K 3 (ky_mu K 3 (ky_mu K 2 s)))) F4 M := by rw [hd7]; exact kq_P_I w2 (by omega)
    obtain ⟨e, z1, z2⟩ := htail d7 F4 x y hP7 (by
      rw [hd7, hd5] at *
      rw [hd3] at u3
      exact kq_fr_t (kq_fr_t (kq_fr_t (kq_fr_t (kq_fr_t (kq_fr_z fd) (kq_fr_I (by omega) (by omega) hid)) (kq_fr_z u3)) (kq_fr_I (by omega) (by omega) hid)) (kq_fr_z w3)) (kq_fr_I (by omega) (by omega) hid)) (fun z z1 z2 z3 z4 => by
      rw [hd7, q_pI_o z4, w3.1 z z1, hd5, q_pI_o z3, u3.1 z z1, hd3, q_pI_o z2, fd.1 z z1]) (fun j j1 j2 j3 j4 j5 j6 => by
      rw [hd7, q_pI_o (by omega), w3.2.1 j j1 j2 j3 j4 j5 j6, hd5, q_pI_o (by omega), u3.2.1 j j1 j2 j3 j4 j5 j6, hd3, q_pI_o (by omega), fd.2.1 j j1 j2 j3 j4 j5 j6]) ⟨by
      rw [hd7, q_pI_o (by omega), w3.1 _ (by omega), hd5, q_pI_o (by omega), u3.1 _ (by omega), hd3, q_pI_s], by
      rw [hd7, q_pI_o (by omega), w3.1 _ (by omega), hd5, q_pI_s], by
      rw [hd7, q_pI_s]⟩ (fun o o1 o2 j hj => by
      rw [hd7, ← congrFun (fd.1 (b + o) (by omega)) j]
      have h9 : o = 15 ∨ o = 16 ∨ o = 17 := by omega
      rcases h9 with rfl | rfl | rfl
      · rw [q_pI_o (by omega), w3.1 _ (by omega), hd5, q_pI_o (by omega), u3.1 _ (by omega), hd3, q_pI_k hj]
      · rw [q_pI_o (by omega), w3.1 _ (by omega), hd5, q_pI_k hj, u3.1 _ (by omega), hd3, q_pI_o (by omega)]
      · rw [q_pI_k hj, w3.1 _ (by omega), hd5, q_pI_o (by omega), u3.1 _ (by omega), hd3, q_pI_o (by omega)]) (fun q => by
      obtain ⟨g1, g2, g3, g4, g5, g6⟩ := hpos q
      obtain ⟨j1, j2, j3⟩ := hFF q
      have x1 := u5 g4.2
      have y1 := w5 g5.2
      rw [g4.1] at x1
      rw [g5.1] at y1
      rw [x1.2] at y1
      refine ⟨by rw [y1.2]; exact j3, fun h0 => ?_⟩
      rw [y1.2] at h0
      have k1 := kz_nu_0 h0
      have k2 := kz_nu_0 k1.1
      exact ⟨j1, x1.1, y1.1, hvv, by omega, by omega, j2 k2.1⟩)
    refine ⟨e, ?_, z2⟩
    unfold X12_tellHop_b70 X12_tellHop_b106 X12_tellHop_b132
    rw [h50, m28, n28, m29, m30, m27, n27, n29, n30, if_neg (kz_ixn hi12 (by omega)), kz_nat (by omega)]
    simp only [o1s]
    rw [if_neg kq_10, ← hd3, show wI v - 1 = wI (v - 1) from wI_sub v 1, u1']
    simp only [b2s]
    rw [if_neg (kz_ixm hi12 (by omega)), if_neg kq_10, ← hd5, w1']
    simp only [b2s]
    rw [if_neg (kz_ixm hi12 (by omega)), ← hd7]
    exact z1
  have hF2 : (ky_mu K 3 (ky_mu K 3 (ky_mu K 3 (ky_mu K 2 s)))).2 = 0 → v = V (a + 2) ∧ F2 = kz_nu P V 2 31 (kz_du P V M F (a + 1)) (a + 2) := by
    intro q
    obtain ⟨g1, g2, g3, g4, g5, g6⟩ := hpos q
    have x1 := p5 g3.2
    rw [g3.1, g6] at x1
    exact x1
  by_cases g0 : (ky_mu K 3 (ky_mu K 2 s)).2 = 0
  · rw [if_pos g0]
    rcases p6 with ⟨w1, w2, w3, w4, w5⟩ | ⟨w1, w2⟩
    · obtain ⟨n, rfl⟩ := Int.eq_ofNat_of_zero_le p4.1
      rw [w1, if_neg kq_10, k_prime (by omega) (by omega)]
      simp only [b1s]
      by_cases gp : kz_pb n = false
      · rw [if_pos gp, if_pos (show wI ((0 : Nat) : Int) = 0 from rfl)]
        have hPs := (hN.2.2.2.1 (ky_mu K 2 s).1).2
        have j9 := ky_mu_s g0
        have ev := (p5 ⟨w2, w3⟩)
        have eF2 : F2 = F1 := by
          rw [ev.2]
          exact ky_num_g (by rw [← ev.1]; omega)
        have hFO1 := r2.2.2.1
        obtain ⟨d3, u1, u2, u3, u4⟩ := k_amiss (tk := (ky_mu K 2 s).1) p2.1 hN p2.2.1 hs2 (k := 5) (by omega) hs1.1 p2.2.2.1.1 (by
          intro _ q
          rw [eF2] at q ⊢
          exact Or.inl (hFO1.2 w2 q))
        rw [if_pos g0, eF2] at u2
        have u1' : X12_amiss (A2 b) d2 b 5 (wI (ky_mu K 2 s).1) = some d3 := u1
        rw [u1']
        simp only [b1s]
        rw [if_pos (Or.inl trivial)]
        have hFO3 : ky_FO P (ky_mu K 3 (ky_mu K 2 s)) (ky_bad F1 5 (P (ky_mu K 2 s).1)) := ky_FO_mu hN hs1 (by omega) hFO1 (ky_bad_c (by omega))
        have fz9 : ky_fz b d2 (q_pI d3 b 50 0) := ky_fz_t u3 (ky_fz_I (by omega))
        refine hno (q_pI d3 b 50 0) (ky_bad F1 5 (P (ky_mu K 2 s).1)) (kq_P_z p2 fz9 ⟨?_, ?_, fun q => ?_, ?_, fun q => ?_⟩ hFO3) (ky_fz_t fz2 fz9) q_pI_s (fun q => ⟨ky_bad_n (by omega), ?_⟩)
        · rw [q_pI_k (by omega)]; exact u2.1
        · rw [q_pI_k (by omega)]; exact u2.2.1
        · rw [q_pI_k (by omega)]; exact u2.2.2.1 q
        · rw [q_pI_k (by omega)]; exact u2.2.2.2.1
        · rw [q_pI_k (by omega)]; exact u2.2.2.2.2 q
        · obtain ⟨g1, g2, g3, g4, g5, g6⟩ := hpos q
          have x1 := hF2 q
          have en : kz_n V (a + 2) = n := by unfold kz_n; omega
          have hbn : (ky_bad (kz_nu P V 2 31 (kz_du P V M F (a + 1)) (a + 2)) 5 (P (a + 2))).1 ≠ 0 := ky_bad_n (by omega)
          unfold kz_F4
          rw [en, if_pos gp, kz_nu_f hbn, kz_nu_f hbn, ← x1.2, eF2, g3.1]
      · rw [if_neg gp, if_neg (show ¬ wI ((1 : Nat) : Int) = 0 by decide)]
        refine hyes d2 F2 p2 fz2 w1 (by omega) (fun q => ?_)
        have x1 := hF2 q
        have en : kz_n V (a + 2) = n := by unfold kz_n; omega
        refine ⟨x1.1, fun h0 => ?_, ?_⟩
        · rw [x1.2] at h0
          exact (kz_du_0 (kz_nu_0 h0).1).1
        · unfold kz_F4
          rw [en, if_neg gp, x1.2, x1.1]
    · rw [w1, if_pos rfl]
      refine hno d2 F2 p2 fz2 w1 (fun q => ?_)
      obtain ⟨g1, g2, g3, g4, g5, g6⟩ := hpos q
      have x1 := hF2 q
      have hb : (kz_nu P V 2 31 (kz_du P V M F (a + 1)) (a + 2)).1 ≠ 0 := kz_nu_b (by rw [← x1.1]; exact w2 g3.2)
      refine ⟨by rw [x1.2]; exact hb, ?_⟩
      unfold kz_F4
      rw [ky_bad_f hb, ite_self, kz_nu_f hb, kz_nu_f hb, x1.2]
  · rw [if_neg g0]
    have w0 : d2.1 b 50 = 0 ∨ d2.1 b 50 = 1 := by
      rcases p6 with p6 | p6
      · exact Or.inr p6.1
      · exact Or.inl p6.1
    have hnot : (ky_mu K 3 (ky_mu K 3 (ky_mu K 3 (ky_mu K 2 s)))).2 = 0 → False := fun q => g0 (ky_mu_s (ky_mu_s q).1).1
    rcases w0 with w0 | w0
    · exact hno d2 F2 p2 fz2 w0 (fun q => absurd (hnot q) id)
    · refine hyes d2 F2 p2 fz2 w0 ?_ (fun q => absurd (hnot q) id)
      rcases p6 with p6 | p6
      · exact ⟨p6.2.2.2.1, p6.2.2.2.2⟩
      · rw [w0] at p6; exact absurd p6.1 (by decide)
