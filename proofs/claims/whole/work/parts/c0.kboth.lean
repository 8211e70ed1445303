/-! level two: the check lays two rows on one another -/
def kq_l (b : Nat) (d : q_Dt) : Prop := ∀ j, j < 16 → ∃ n : Nat, n ≤ 127 ∧ d.1 (b + 12) j = wI n
theorem kq_named {b N : Nat} {K P : Nat → Nat} {V : Nat → Int} {d : q_Dt} {s F : Nat × Nat} {M : q_Nm} (h : kq_P b N K P V d s F M) (hN : qk_tok K P V N) (hs : ky_ok K N s) (hM : kn_wf M) : ∃ d' F', X12_named (A2 b) d b = some (wI s.1, d') ∧ kq_P b N K P V d' (ky_mu K 2 s) F' M ∧ ky_fz b d d' ∧ ((ky_mu K 2 s).2 = 0 → F' = kz_du P V M F s.1) ∧ (F'.1 = 0 → F.1 = 0) := by
  obtain ⟨d', r1, r2, r3, r4⟩ := k_named h.1 hN h.2.1 hs h.2.2.1 h.2.2.2 hM
  refine ⟨d', _, r1, kq_P_z h r3 r2 r4, r3, fun q => ?_, fun q => ?_⟩
  · unfold ky_d1 kz_du
    by_cases g : kn_has M (V s.1) M.1 0 = true
    · rw [if_pos ⟨q, g⟩, if_pos g]
    · rw [if_neg (fun q2 => g q2.2), if_neg g]
  · rcases ky_d1_c (K := K) (P := P) (V := V) (M := M) (s := s) (F := F) with g | g
    · rw [g] at q; exact q
    · exact g.1
theorem kq_known {b N : Nat} {K P : Nat → Nat} {V : Nat → Int} {d : q_Dt} {s F : Nat × Nat} {M : q_Nm} (h : kq_P b N K P V d s F M) (hN : qk_tok K P V N) (hs : ky_ok K N s) (hM : kn_wf M) {so : Nat} (hso : so ≤ 2) : ∃ d', X12_known (A2 b) d b (wI so) = some (wI (ky_oi (ky_kn K V M so s)), d') ∧ kq_P b N K P V d' (ky_mu K 2 s) (ky_k1 K P V M so s F) M ∧ ky_fz b d d' := by
  obtain ⟨d', r1, r2, r3, r4⟩ := k_known h.1 hN h.2.1 hs h.2.2.1 h.2.2.2 hM hso
  exact ⟨d', r1, kq_P_z h r3 r2 r4, r3⟩
theorem ky_kn_s {K P : Nat → Nat} {V : Nat → Int} {M : q_Nm} {so : Nat} {s F : Nat × Nat} (h : (ky_mu K 2 s).2 = 0) : ky_kn K V M so s = kn_fd M (V s.1) so M.1 0 ∧ ky_k1 K P V M so s F = kz_un P V M so F s.1 := by
  unfold ky_kn ky_k1 kz_un
  rw [if_pos h]
  refine ⟨rfl, ?_⟩
  by_cases g : kn_fd M (V s.1) so M.1 0 = none
  · rw [if_pos ⟨h, g⟩, if_pos g]
  · rw [if_neg (fun q => g q.2), if_neg g]
theorem ky_kn_c {K : Nat → Nat} {V : Nat → Int} {M : q_Nm} {so : Nat} {s : Nat × Nat} {c : Nat} (h : ky_kn K V M so s = some c) : kn_fd M (V s.1) so M.1 0 = some c ∧ (ky_mu K 2 s).2 = 0 := by
  unfold ky_kn at h
  by_cases g : (ky_mu K 2 s).2 = 0
  · rw [if_pos g] at h; exact ⟨h, g⟩
  · rw [if_neg g] at h; exact nomatch h
def kz_B (P : Nat → Nat) (V : Nat → Int) (M : q_Nm) (T : q_Tl) (p : Nat) (F : Nat × Nat) : Nat × Nat := kz_nu P V 0 ((Tlen T (kz_c V M 0 p) : Int) - 1) (if Tlen T (kz_c V M 0 p) = Tlen T (kz_c V M 0 (p + 1)) then kz_un P V M 0 (kz_un P V M 0 F p) (p + 1) else ky_bad (kz_un P V M 0 (kz_un P V M 0 F p) (p + 1)) 5 (P (p + 1))) (p + 2)
theorem kz_B_f {P : Nat → Nat} {V : Nat → Int} {M : q_Nm} {T : q_Tl} {p : Nat} {F : Nat × Nat} (h : (kz_un P V M 0 (kz_un P V M 0 F p) (p + 1)).1 ≠ 0) : kz_B P V M T p F = kz_un P V M 0 (kz_un P V M 0 F p) (p + 1) := by
  unfold kz_B
  rw [ky_bad_f h, ite_self, kz_nu_f h]
theorem kz_ix8 {sd c : Nat} : 8 * wI sd + wI c = wI (8 * sd + c : Nat) := by
  rw [show (8 : Int32) = wI (8 : Nat) from rfl, wI_mul, wI_add]
  rfl
theorem kz_neg0 {n : Nat} : ¬ wI (n : Int) < 0 ∨ 2147483648 ≤ n := by
  by_cases h : n < 2147483648
  · refine Or.inl ?_
    rw [show (0 : Int32) = wI (0 : Nat) from rfl, wI_lt (by omega) (by omega) (by omega) (by omega)]
    omega
  · exact Or.inr (by omega)
theorem kz_ixn {n m : Nat} (h : n < m) (h2 : m < 100000) : ¬ (wI (n : Int) < 0 ∨ m ≤ Int32.toNatClampNeg (wI (n : Int))) := by
  rw [wI_nat (by omega) (by omega), Int.toNat_natCast, show (0 : Int32) = wI (0 : Nat) from rfl, wI_lt (by omega) (by omega) (by omega) (by omega)]
  omega
theorem kz_nat {n : Nat} (h : n < 100000) : Int32.toNatClampNeg (wI (n : Int)) = n := by
  rw [wI_nat (by omega) (by omega), Int.toNat_natCast]
theorem k_bothrow {b i sd c1 c2 s n : Nat} {d : q_Dt} (hsd : sd < 2) (hi : i < 16) (h1 : 8 * sd + c1 < i) (h2 : 8 * sd + c2 < i) (hn : 1 ≤ n ∧ n ≤ 127) (hs : s < 10000) (h19 : d.1 b 19 = wI sd) : X12_tellBoth_b182 (A2 b) b (wI i) (wI c1) (wI c2) (wI s) (wI n) q_FU 0 (q_pI d (b + 12) i (wI n)) = some (kc_L2 b d i n (fun k => (d.1 (b + 13) (128 * (8 * sd + c1) + k) * d.1 (b + 13) (128 * (8 * sd + c2) + (k + s) % n)).toInt)) := by
  obtain ⟨f, hf⟩ : ∃ f : Nat → Int32, f = fun k => wI ((d.1 (b + 13) (128 * (8 * sd + c1) + k) * d.1 (b + 13) (128 * (8 * sd + c2) + (k + s) % n)).toInt) := ⟨_, rfl⟩
  obtain ⟨x, hx⟩ : ∃ x, x = i := ⟨_, rfl⟩
  have h1x : 8 * sd + c1 < x := by omega
  have h2x : 8 * sd + c2 < x := by omega
  have hix : x < 16 := by omega
  obtain ⟨L, hL⟩ : ∃ L, L = n := ⟨_, rfl⟩
  rw [← hx, ← hL]
  rw [← hL] at hn hf
  have e0 : kc_L2 b d x L (fun k => (d.1 (b + 13) (128 * (8 * sd + c1) + k) * d.1 (b + 13) (128 * (8 * sd + c2) + (k + s) % L)).toInt) = q_irow (q_pI d (b + 12) x (wI L)) (b + 13) (128 * x) L f := by
    rw [hf]
    rfl
  rw [e0]
  have hl : ∀ n i k : Nat, i + n = L → n < k → X12_tellBoth_b182 (A2 b) b (wI x) (wI c1) (wI c2) (wI s) (wI L) k (wI i) (q_irow (q_pI d (b + 12) x (wI L)) (b + 13) (128 * x) i f) = some (q_irow (q_pI d (b + 12) x (wI L)) (b + 13) (128 * x) L f) := by
    intro n
    induction n with
    | zero =>
      intro i k z1 z2 
      obtain ⟨k, rfl⟩ : ∃ m, k = m + 1 := ⟨k - 1, by omega⟩
      have e : i = L := by omega
      rw [X12_tellBoth_b182.eq_2, if_pos (by rw [wI_le (by omega) (by omega) (by omega) (by omega)]; omega), e]
    | succ n ih =>
      intro i k z1 z2 
      obtain ⟨k, rfl⟩ : ∃ m, k = m + 1 := ⟨k - 1, by omega⟩
      have hi : i < L := by omega
      have hih := ih (i + 1) k (by omega) (by omega)
      have g19 : (q_irow (q_pI d (b + 12) x (wI L)) (b + 13) (128 * x) i f).1 b 19 = wI sd := by
        rw [q_irow_o (by omega), q_pI_o (by omega)]
        exact h19
      have hm := Nat.mod_lt (i + s) (show 0 < L by omega)
      have es := q_irow_s (q_pI d (b + 12) x (wI L)) (b + 13) (128 * x) i f
      rw [X12_tellBoth_b182.eq_2, g19, m26, n26, kz_ix8, kz_ix8, kc_ix, kc_ix, wI_add, ← Int.natCast_add, wI_mod (by omega) (by omega) (by omega) (by omega), ← Int.natCast_emod, kc_ix, if_neg (by rw [wI_le (by omega) (by omega) (by omega) (by omega)]; omega), if_neg (kz_ixn (by omega) (by omega)), if_neg (by rw [show (0 : Int32) = wI (0 : Nat) from rfl, wI_eq (by omega) (by omega) (by omega) (by omega)]; omega), if_neg (kz_ixn (by omega) (by omega)), if_neg (kz_ixn (by omega) (by omega))]
      simp only [o1s]
      rw [kz_nat (by omega), kz_nat (by omega), kz_nat (by omega), q_irow_u (by omega), q_irow_u (by omega), q_pI_o (show b + 13 ≠ b + 12 by omega), wI_of (d.1 (b + 13) (128 * (8 * sd + c1) + i) * d.1 (b + 13) (128 * (8 * sd + c2) + (i + s) % L)), show wI (i : Int) + 1 = wI (i + 1 : Nat) from wI_add i 1]
      have ef : wI ((d.1 (b + 13) (128 * (8 * sd + c1) + i) * d.1 (b + 13) (128 * (8 * sd + c2) + (i + s) % L)).toInt) = f i := by rw [hf]
      rw [ef, es]
      exact hih
  have h0 := hl L 0 q_FU (by omega) (by unfold q_FU; omega)
  rw [q_irow_0] at h0
  exact h0
set_option maxHeartbeats 8000000 in
theorem k_ct {b N sd i : Nat} {K P : Nat → Nat} {V : Nat → Int} {d : q_Dt} {s F : Nat × Nat} {M : q_Nm} {T : q_Tl} (h : kq_P b N K P V d s F M) (hN : qk_tok K P V N) (hs : ky_ok K N s) (hM : kn_wf M) (hr : kn_r M T) (hsd : sd < 2) (h19 : d.1 b 19 = wI sd) (hnc : Tnc T < 8) (hi : i = 8 * sd + Tnc T) (hl : kq_l b d) (hL : F.1 = 0 → q_wC T ∧ q_MC b sd d T) : ∃ (e : q_Dt) (F3 : Nat × Nat), X12_tellBoth (A2 b) d b (wI i) = some e ∧ kq_P b N K P V e (ky_mu K 3 (ky_mu K 2 (ky_mu K 2 s))) F3 M ∧ ((ky_mu K 3 (ky_mu K 2 (ky_mu K 2 s))).2 = 0 → F3 = kz_B P V M T s.1 F) ∧ kq_mk b i d e ((ky_mu K 3 (ky_mu K 2 (ky_mu K 2 s))).2 = 0 ∧ F3.1 = 0) (Tlen T (kz_c V M 0 s.1)) (kc_bo (Tch T (kz_c V M 0 s.1)) (Tch T (kz_c V M 0 (s.1 + 1))) (Tlen T (kz_c V M 0 (s.1 + 1))) (kz_n V (s.1 + 2))) := by
  have hi16 : i < 16 := by omega
  have hs1 := (ky_mu_b hN hs (k := 2) (by omega)).1
  have hs2 := (ky_mu_b hN hs1 (k := 2) (by omega)).1
  obtain ⟨d1, p1, p2, p3⟩ := kq_known h hN hs hM (so := 0) (by omega)
  obtain ⟨d2, q1, q2, q3⟩ := kq_known p2 hN hs1 hM (so := 0) (by omega)
  have p1' : X12_known (A2 b) d b 0 = some (wI (ky_oi (ky_kn K V M 0 s)), d1) := p1
  have q1' : X12_known (A2 b) d1 b 0 = some (wI (ky_oi (ky_kn K V M 0 (ky_mu K 2 s))), d2) := q1
  have fz2 := ky_fz_t p3 q3
  have hpos : (ky_mu K 3 (ky_mu K 2 (ky_mu K 2 s))).2 = 0 → (ky_mu K 2 s).2 = 0 ∧ (ky_mu K 2 (ky_mu K 2 s)).2 = 0 ∧ ((ky_mu K 2 (ky_mu K 2 s)).2 = 0 ∧ K (ky_mu K 2 (ky_mu K 2 s)).1 = 3) ∧ (ky_mu K 2 s).1 = s.1 + 1 ∧ (ky_mu K 2 (ky_mu K 2 s)).1 = s.1 + 2 := by
    intro q
    have q1 := ky_mu_s q
    have q2 := ky_mu_s q1.1
    have q3 := ky_mu_s q2.1
    refine ⟨q2.1, q1.1, ⟨q1.1, q1.2.1⟩, by rw [q3.2.2.1], ?_⟩
    rw [q2.2.2.1, q3.2.2.1]
  obtain ⟨F2, hF2⟩ : ∃ z, z = ky_k1 K P V M 0 (ky_mu K 2 s) (ky_k1 K P V M 0 s F) := ⟨_, rfl⟩
  rw [← hF2] at q2
  have hF2s : (ky_mu K 3 (ky_mu K 2 (ky_mu K 2 s))).2 = 0 → F2 = kz_un P V M 0 (kz_un P V M 0 F s.1) (s.1 + 1) := by
    intro q
    obtain ⟨j1, j2, j3, j4, j5⟩ := hpos q
    rw [hF2, (ky_kn_s (P := P) (V := V) (M := M) (so := 0) (F := F) j1).2, (ky_kn_s (P := P) (V := V) (M := M) (so := 0) (s := ky_mu K 2 s) (F := kz_un P V M 0 F s.1) j2).2, j4]
  -- a tell that lays nothing
  have hno : ∀ (e : q_Dt) (F4 : Nat × Nat), kq_P b N K P V e (ky_mu K 2 (ky_mu K 2 s)) F4 M → ky_fz b d e → ((ky_mu K 3 (ky_mu K 2 (ky_mu K 2 s))).2 = 0 → F4.1 ≠ 0 ∧ F4 = kz_B P V M T s.1 F) → ∀ x2 x4 : Int32, ∃ (e2 : q_Dt) (F3 : Nat × Nat), X12_tellBoth_b101 (A2 b) b (wI i) x2 x4 0 e = some e2 ∧ kq_P b N K P V e2 (ky_mu K 3 (ky_mu K 2 (ky_mu K 2 s))) F3 M ∧ ((ky_mu K 3 (ky_mu K 2 (ky_mu K 2 s))).2 = 0 → F3 = kz_B P V M T s.1 F) ∧ kq_mk b i d e2 ((ky_mu K 3 (ky_mu K 2 (ky_mu K 2 s))).2 = 0 ∧ F3.1 = 0) (Tlen T (kz_c V M 0 s.1)) (kc_bo (Tch T (kz_c V M 0 s.1)) (Tch T (kz_c V M 0 (s.1 + 1))) (Tlen T (kz_c V M 0 (s.1 + 1))) (kz_n V (s.1 + 2))) := by
    intro e F4 he fe hF4 x2 x4
    obtain ⟨v, d3, u1, u2, u3, u4, u5⟩ := kq_hang0 he hN hs2 0 0
    unfold X12_tellBoth_b101 X12_tellBoth_b130
    rw [if_pos rfl, u1]
    simp only [b2s]
    rw [if_pos trivial, ite_self]
    exact ⟨d3, F4, rfl, u2, fun q => (hF4 q).2, kq_mk_no (ky_fz_t fe u3) (fun q => (hF4 q.1).1 q.2)⟩
  unfold X12_tellBoth
  rw [p1']
  simp only [b2s]
  rw [q1']
  simp only [b2s]
  rw [p2.2.1.1, q2.2.1.2.1]
  have hs22 := hs2.2
  have e13 : (wI ((ky_mu K 2 (ky_mu K 2 s)).2 : Int) = 0) = ((ky_mu K 2 (ky_mu K 2 s)).2 = 0) := by
    rw [show (0 : Int32) = wI (0 : Nat) from rfl, wI_eq (by omega) (by omega) (by omega) (by omega)]
    exact propext ⟨fun q => by omega, fun q => by omega⟩
  simp only [e13]
  -- not both there
  have hbad : ((ky_mu K 2 (ky_mu K 2 s)).2 = 0 → ky_kn K V M 0 s = none ∨ ky_kn K V M 0 (ky_mu K 2 s) = none) → ∀ x2 x3 x4 : Int32, ∃ (e2 : q_Dt) (F3 : Nat × Nat), X12_tellBoth_b38 (A2 b) b (wI i) x2 x3 x4 d2 = some e2 ∧ kq_P b N K P V e2 (ky_mu K 3 (ky_mu K 2 (ky_mu K 2 s))) F3 M ∧ ((ky_mu K 3 (ky_mu K 2 (ky_mu K 2 s))).2 = 0 → F3 = kz_B P V M T s.1 F) ∧ kq_mk b i d e2 ((ky_mu K 3 (ky_mu K 2 (ky_mu K 2 s))).2 = 0 ∧ F3.1 = 0) (Tlen T (kz_c V M 0 s.1)) (kc_bo (Tch T (kz_c V M 0 s.1)) (Tch T (kz_c V M 0 (s.1 + 1))) (Tlen T (kz_c V M 0 (s.1 + 1))) (kz_n V (s.1 + 2))) := by
    intro hb x2 x3 x4
    unfold X12_tellBoth_b38 X12_tellBoth_b39 X12_tellBoth_b82 X12_tellBoth_b83
    rw [if_pos rfl, if_pos rfl]
    refine hno d2 F2 q2 fz2 (fun q => ?_) x2 x4
    obtain ⟨j1, j2, j3, j4, j5⟩ := hpos q
    have h9 := hF2s q
    have h8 : F2.1 ≠ 0 := by
      intro h0
      rw [h9] at h0
      have h1 := kz_un_0 h0
      have h2 := kz_un_0 h1.1
      have k1 := (ky_kn_s (P := P) (V := V) (M := M) (so := 0) (F := F) j1).1
      have k2 := (ky_kn_s (P := P) (V := V) (M := M) (so := 0) (s := ky_mu K 2 s) (F := F) j2).1
      rw [j4] at k2
      rcases hb j2 with hb | hb
      · rw [k1, h2.2] at hb; exact nomatch hb
      · rw [k2, h1.2] at hb; exact nomatch hb
    refine ⟨h8, ?_⟩
    rw [h9] at h8 ⊢
    rw [kz_B_f h8]
  by_cases g0 : (ky_mu K 2 (ky_mu K 2 s)).2 = 0
  · rw [if_pos g0]
    have hoi : ∀ o : Option Nat, (∀ c, o = some c → c < 8) → ((wI (ky_oi o) < 0) = (o = none)) := by
      intro o ho
      cases o with
      | none => exact propext ⟨fun _ => rfl, fun _ => by show wI (-1) < 0; decide⟩
      | some c =>
        have := ho c rfl
        show (wI (c : Int) < 0) = _
        rw [show (0 : Int32) = wI (0 : Nat) from rfl, wI_lt (by omega) (by omega) (by omega) (by omega)]
        exact propext ⟨fun q => by omega, fun q => nomatch q⟩
    have hb1 : ∀ c, ky_kn K V M 0 s = some c → c < Tnc T := fun c hc => kn_r_fd hr (ky_kn_c hc).1
    have hb2 : ∀ c, ky_kn K V M 0 (ky_mu K 2 s) = some c → c < Tnc T := fun c hc => kn_r_fd hr (ky_kn_c hc).1
    have hx1 := hoi _ (fun c hc => by have := hb1 c hc; omega)
    have hx2 := hoi _ (fun c hc => by have := hb2 c hc; omega)
    simp only [hx1, hx2]
    cases e1 : ky_kn K V M 0 s with
    | none =>
      rw [if_pos rfl]
      exact hbad (fun _ => Or.inl e1) _ _ _
    | some c1 =>
      rw [if_neg (fun q => nomatch q)]
      cases e2 : ky_kn K V M 0 (ky_mu K 2 s) with
      | none =>
        rw [if_pos rfl]
        exact hbad (fun _ => Or.inr e2) _ _ _
      | some c2 =>
        rw [if_neg (fun q => nomatch q)]
        have hc1 := hb1 c1 e1
        have hc2 := hb2 c2 e2
        have j1 := (ky_mu_s g0).1
        have k1 := (ky_kn_s (P := P) (V := V) (M := M) (so := 0) (F := F) j1)
        have k2 := (ky_kn_s (P := P) (V := V) (M := M) (so := 0) (s := ky_mu K 2 s) (F := ky_k1 K P V M 0 s F) g0)
        have j4 : (ky_mu K 2 s).1 = s.1 + 1 := by rw [(ky_mu_s j1).2.2.1]
        have ec1 : kz_c V M 0 s.1 = c1 := by
          unfold kz_c
          rw [← k1.1, e1]
          rfl
        have ec2 : kz_c V M 0 (s.1 + 1) = c2 := by
          unfold kz_c
          rw [← j4, ← k2.1, e2]
          rfl
        have hFF2 : F2 = F := by
          rw [hF2, k2.2, k1.2]
          unfold kz_un
          rw [← k2.1, ← k1.1, e1, e2, if_neg (fun q => nomatch q), if_neg (fun q => nomatch q)]
        have hG2 : kz_un P V M 0 (kz_un P V M 0 F s.1) (s.1 + 1) = F := by
          unfold kz_un
          rw [← j4, ← k2.1, ← k1.1, e1, e2, if_neg (fun q => nomatch q), if_neg (fun q => nomatch q)]
        show ∃ e F3, X12_tellBoth_b39 (A2 b) b (wI i) (wI (c1 : Int)) (wI ((ky_mu K 2 s).1 : Int)) (wI (c2 : Int)) 1 d2 = some e ∧ _
        obtain ⟨n1, hn1, hl1⟩ := hl (8 * sd + c1) (by omega)
        obtain ⟨n2, hn2, hl2⟩ := hl (8 * sd + c2) (by omega)
        have g19 : d2.1 b 19 = wI sd := by rw [fz2.2.1 19 (by omega) (by omega) (by omega) (by omega) (by omega) (by omega)]; exact h19
        have gl : d2.1 (b + 12) = d.1 (b + 12) := fz2.1 _ (by omega)
        unfold X12_tellBoth_b39
        rw [if_neg kq_10, g19, kz_ix8, kz_ix8, m25, n25, if_neg (kz_ixn (by omega) (by omega)), if_neg (kz_ixn (by omega) (by omega)), kz_nat (by omega), kz_nat (by omega), gl, hl1, hl2]
        have e12 : (wI (n1 : Int) = wI (n2 : Int)) = (n1 = n2) := by
          rw [wI_eq (by omega) (by omega) (by omega) (by omega)]
          exact propext ⟨fun q => by omega, fun q => by omega⟩
        simp only [e12]
        -- what the lengths are when there is no fault
        have hlen : F.1 = 0 → Tlen T c1 = n1 ∧ Tlen T c2 = n2 := by
          intro h0
          obtain ⟨w1, w2⟩ := hL h0
          have a1 := (w2 c1 hc1).1
          have a2 := (w2 c2 hc2).1
          have b1 := (w1 c1 hc1).1
          have b2 := (w1 c2 hc2).1
          rw [hl1, wI_eq (by omega) (by omega) (by omega) (by omega)] at a1
          rw [hl2, wI_eq (by omega) (by omega) (by omega) (by omega)] at a2
          omega
        by_cases g : n1 = n2
        · rw [if_pos g]
          unfold X12_tellBoth_b83 X12_tellBoth_b101
          rw [if_neg kq_10, if_neg kq_10, if_neg kq_10, g19, kz_ix8, m25, n25, if_neg (kz_ixn (by omega) (by omega)), kz_nat (by omega), gl, hl1, show wI (n1 : Int) - 1 = wI ((n1 : Int) - 1) from wI_sub _ 1]
          unfold X12_tellBoth_b130
          obtain ⟨v, d3, F3, u1, u2, u3, u4, u5, u6⟩ := kq_hang1 q2 hN hs2 (lo := 0) (hi := (n1 : Int) - 1) (by omega) (by omega)
          have u1' : X12_hangs (A2 b) d2 b 1 0 (wI ((n1 : Int) - 1)) = some (wI v, d3) := u1
          have fz3 := ky_fz_t fz2 u3
          have hFF : (ky_mu K 3 (ky_mu K 2 (ky_mu K 2 s))).2 = 0 → F3 = kz_B P V M T s.1 F ∧ v = V (s.1 + 2) ∧ F3 = kz_nu P V 0 ((n1 : Int) - 1) F (s.1 + 2) := by
            intro q
            obtain ⟨y1, y2, y3, y4, y5⟩ := hpos q
            have h9 := u5 y3
            rw [y5, hFF2] at h9
            refine ⟨?_, h9.1, h9.2⟩
            rw [h9.2]
            by_cases h0 : F.1 = 0
            · unfold kz_B
              rw [ec1, ec2, hG2, (hlen h0).1, (hlen h0).2, if_pos g]
            · rw [kz_nu_f h0, kz_B_f (by rw [hG2]; exact h0), hG2]
          have hs3 := (ky_mu_b hN hs2 (k := 3) (by omega)).1
          have hs32 := hs3.2
          rw [u1']
          simp only [b2s]
          rw [u2.2.1.2.1]
          have e013 : ((0 : Int32) < wI ((ky_mu K 3 (ky_mu K 2 (ky_mu K 2 s))).2 : Int)) = (0 < (ky_mu K 3 (ky_mu K 2 (ky_mu K 2 s))).2) := by
            rw [show (0 : Int32) = wI (0 : Nat) from rfl, wI_lt (by omega) (by omega) (by omega) (by omega)]
            exact propext ⟨fun q => by omega, fun q => by omega⟩
          simp only [e013]
          by_cases g3 : 0 < (ky_mu K 3 (ky_mu K 2 (ky_mu K 2 s))).2
          · rw [if_pos g3]
            exact ⟨d3, F3, rfl, u2, fun q => absurd q (by omega), kq_mk_no fz3 (fun q => by have := q.1; omega)⟩
          · rw [if_neg g3, if_neg kq_10]
            rcases u6 with ⟨x1, x2, x3, x4, x5⟩ | ⟨x1, x2⟩
            · obtain ⟨st, rfl⟩ := Int.eq_ofNat_of_zero_le u4.1
              have h319 : d3.1 b 19 = wI sd := by rw [fz3.2.1 19 (by omega) (by omega) (by omega) (by omega) (by omega) (by omega)]; exact h19
              have g3l : d3.1 (b + 12) = d.1 (b + 12) := fz3.1 _ (by omega)
              rw [x1, if_neg kq_10, h319, kz_ix8, m25, n25, if_neg (kz_ixn (by omega) (by omega)), kz_nat (by omega), g3l, hl1]
              simp only [o1s]
              rw [if_neg (kz_ixn hi16 (by omega)), kz_nat (by omega), k_bothrow hsd hi16 (by omega) (by omega) (by omega) (by omega) h319]
              refine ⟨_, F3, rfl, kq_P_L u2, fun q => (hFF q).1, ?_⟩
              by_cases gg : (ky_mu K 3 (ky_mu K 2 (ky_mu K 2 s))).2 = 0 ∧ F3.1 = 0
              · obtain ⟨h9, h8, h7⟩ := hFF gg.1
                have h0 : F.1 = 0 := by
                  rw [h7] at gg
                  exact (kz_nu_0 gg.2).1
                obtain ⟨w1, w2⟩ := hL h0
                have hln := hlen h0
                have e3 : kz_n V (s.1 + 2) = st := by unfold kz_n; omega
                have b1 := w1 c1 hc1
                rw [ec1, ec2, hln.1, hln.2, e3, ← g]
                have hY := kq_mk_yes (b := b) (i := i) (good := True) (ch := fun k => (d3.1 (b + 13) (128 * (8 * sd + c1) + k) * d3.1 (b + 13) (128 * (8 * sd + c2) + (k + st) % n1)).toInt) fz3 (show n1 ≤ 127 by omega)
                refine ⟨hY.1, hY.2.1, hY.2.2.1, hY.2.2.2.1, hY.2.2.2.2.1, hY.2.2.2.2.2.1, fun _ => ⟨(hY.2.2.2.2.2.2 trivial).1, fun k hk => ?_⟩⟩
                rw [(hY.2.2.2.2.2.2 trivial).2 k hk, ← wI_of, fz3.1 (b + 13) (by omega), (w2 c1 hc1).2 k (by omega), (w2 c2 hc2).2 ((k + st) % n1) (by rw [hln.2, ← g]; exact Nat.mod_lt _ (by omega)), wI_mul]
                rfl
              · have hY := kq_mk_yes (b := b) (i := i) (good := False) (ch := fun k => (d3.1 (b + 13) (128 * (8 * sd + c1) + k) * d3.1 (b + 13) (128 * (8 * sd + c2) + (k + st) % n1)).toInt) fz3 (show n1 ≤ 127 by omega)
                exact ⟨hY.1, hY.2.1, hY.2.2.1, hY.2.2.2.1, hY.2.2.2.2.1, hY.2.2.2.2.2.1, fun q => absurd q gg⟩
            · rw [x1, if_pos rfl]
              refine ⟨d3, F3, rfl, u2, fun q => (hFF q).1, kq_mk_no fz3 (fun q => ?_)⟩
              obtain ⟨h9, h8, h7⟩ := hFF q.1
              obtain ⟨y1, y2, y3, y4, y5⟩ := hpos q.1
              have q2 := q.2
              rw [h7] at q2
              exact x2 y3 (by rw [h8]; exact (kz_nu_0 q2).2)
        · rw [if_neg g]
          unfold X12_tellBoth_b82 X12_tellBoth_b83
          rw [if_neg kq_10, if_pos rfl]
          have hPs := (hN.2.2.2.1 (ky_mu K 2 s).1).2
          have j9 := ky_mu_s g0
          have jN := ky_ltN hN hs1.1 (by omega) j9.2.2.2
          have jP := hN.2.2.2.2.1 _ jN
          obtain ⟨d3, u1, u2, u3, u4⟩ := k_amiss (tk := (ky_mu K 2 s).1) q2.1 hN q2.2.1 hs2 (k := 5) (by omega) hs1.1 q2.2.2.1.1 (by
            intro _ q
            rw [hFF2] at q ⊢
            have h9 := p2.2.2.1.2 j1
            have h8 : ky_k1 K P V M 0 s F = F := by
              rw [k1.2]
              unfold kz_un
              rw [← k1.1, e1, if_neg (fun q => nomatch q)]
            rw [h8] at h9
            exact Or.inl (h9 q))
          rw [if_pos g0, hFF2] at u2
          have u1' : X12_amiss (A2 b) d2 b 5 (wI (ky_mu K 2 s).1) = some d3 := u1
          rw [u1']
          simp only [b1s]
          have hFO : ky_FO P (ky_mu K 2 (ky_mu K 2 s)) (ky_bad F 5 (P (ky_mu K 2 s).1)) := by
            have h9 := p2.2.2.1
            have h8 : ky_k1 K P V M 0 s F = F := by
              rw [k1.2]
              unfold kz_un
              rw [← k1.1, e1, if_neg (fun q => nomatch q)]
            rw [h8] at h9
            exact ky_FO_mu hN hs1 (by omega) h9 (ky_bad_c (by omega))
          refine hno d3 (ky_bad F 5 (P (ky_mu K 2 s).1)) (kq_P_z q2 u3 u2 hFO) (ky_fz_t fz2 u3) (fun q => ⟨ky_bad_n (by omega), ?_⟩) _ _
          by_cases h0 : F.1 = 0
          · unfold kz_B
            rw [ec1, ec2, hG2, (hlen h0).1, (hlen h0).2, if_neg g, kz_nu_f (ky_bad_n (by omega)), j4]
          · rw [ky_bad_f h0, kz_B_f (by rw [hG2]; exact h0), hG2]
  · rw [if_neg g0]
    exact hbad (fun q => absurd q g0) _ _ _
