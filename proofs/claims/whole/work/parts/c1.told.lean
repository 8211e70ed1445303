/-! level two: what the check has told -/
def kq_w (o : Nat) : Nat := [1, 8, 1024, 1, 6, 6, 6, 1, 6, 6, 6, 6, 6, 6, 1, 6, 6, 6, 1, 4, 4, 4, 4, 1, 1, 1].getD (o - 11) 1
def kq_fr (b sd : Nat) (dt d : q_Dt) : Prop := (∀ x, x ≠ b → (x < b + 8 ∨ b + 37 ≤ x) → d.1 x = dt.1 x) ∧ (∀ j, j ≠ 11 → j ≠ 13 → j ≠ 14 → j ≠ 15 → j ≠ 16 → j ≠ 20 → j ≠ 50 → d.1 b j = dt.1 b j) ∧ (∀ x, x ≠ b + 8 → d.2.1 x = dt.2.1 x) ∧ d.2.2 = dt.2.2 ∧ ∀ o, 11 ≤ o → o ≤ 36 → ∀ j, j / kq_w o ≠ sd → d.1 (b + o) j = dt.1 (b + o) j
theorem kq_fr_r {b sd : Nat} {dt : q_Dt} : kq_fr b sd dt dt := ⟨fun _ _ _ => rfl, fun _ _ _ _ _ _ _ _ => rfl, fun _ _ => rfl, rfl, fun _ _ _ _ _ => rfl⟩
theorem kq_fr_t {b sd : Nat} {dt d e : q_Dt} (h : kq_fr b sd dt d) (h' : kq_fr b sd d e) : kq_fr b sd dt e := ⟨fun x h1 h2 => (h'.1 x h1 h2).trans (h.1 x h1 h2), fun j h1 h2 h3 h4 h5 h6 h7 => (h'.2.1 j h1 h2 h3 h4 h5 h6 h7).trans (h.2.1 j h1 h2 h3 h4 h5 h6 h7), fun x hx => (h'.2.2.1 x hx).trans (h.2.2.1 x hx), h'.2.2.2.1.trans h.2.2.2.1, fun o h1 h2 j h3 => (h'.2.2.2.2 o h1 h2 j h3).trans (h.2.2.2.2 o h1 h2 j h3)⟩
theorem kq_fr_z {b sd : Nat} {dt d : q_Dt} (h : ky_fz b dt d) : kq_fr b sd dt d := ⟨fun x h1 _ => h.1 x h1, fun j h1 h2 h3 h4 h5 _ h7 => h.2.1 j h1 h2 h3 h4 h5 h7, fun x _ => by rw [h.2.2], by rw [h.2.2], fun o h1 h2 j _ => by rw [h.1 (b + o) (by omega)]⟩
theorem kq_fr_I {b sd o k : Nat} {d : q_Dt} {v : Int32} (h1 : 11 ≤ o) (h2 : o ≤ 36) (hk : k / kq_w o = sd) : kq_fr b sd d (q_pI d (b + o) k v) := by
  refine ⟨fun x h3 h4 => q_pI_o (by omega), fun j _ _ _ _ _ _ _ => by rw [q_pI_o (by omega)], fun _ _ => rfl, rfl, fun o2 g1 g2 j g3 => ?_⟩
  by_cases g : o2 = o
  · rw [g] at g3 ⊢
    rw [q_pI_k (fun q => g3 (by rw [q]; exact hk))]
  · rw [q_pI_o (by omega)]
def kq_W (b sd : Nat) (d : q_Dt) (T : q_Tl) : Prop := sd < 2 ∧ d.1 b 19 = wI sd ∧ (d.1 (b + 11) sd = wI (Tnc T) ∧ d.1 (b + 14) sd = wI (Tnh T) ∧ d.1 (b + 18) sd = wI (Tns T) ∧ d.1 (b + 25) sd = wI (Tne T) ∧ d.1 (b + 29) sd = wI (Tnj T)) ∧ kq_l b d
def kq_S (b sd : Nat) (d : q_Dt) (T : q_Tl) : Prop := q_wf T ∧ (d.1 (b + 34) sd = wI (Tnm T) ∧ d.1 (b + 35) sd = wI (Tnd T) ∧ d.1 (b + 36) sd = wI (TN T)) ∧ q_MC b sd d T ∧ q_MH b sd d T ∧ q_MS b sd d T ∧ q_ME b sd d T ∧ q_MJ b sd d T
/-- what one tell of the check comes to -/
def kq_R (b sd N : Nat) (K P : Nat → Nat) (V : Nat → Int) (d e : q_Dt) (s F : Nat × Nat) (M : q_Nm) (T : q_Tl) : Prop := kq_fr b sd d e ∧ kq_l b e ∧ (s.2 ≠ 0 → ∃ F', ky_Z b P e s F') ∧ (s.2 = 0 → kq_P b N K P V e s F M ∧ kq_W b sd e T ∧ (F.1 = 0 → kq_S b sd e T))
theorem k_notes {b N tok : Nat} {K P : Nat → Nat} {V : Nat → Int} {d : q_Dt} {s F : Nat × Nat} {M : q_Nm} {so z : Nat} (h : kq_P b N K P V d s F M) (hN : N ≤ 400) (hM : M.1 < 20) (htok : tok ≤ N) (hk : K tok = 2) : ∃ e, X12_notes (A2 b) d b (wI tok) (wI so) (wI z) = some e ∧ kq_P b N K P V e s F (kn_add M (V tok) so z) ∧ (∀ x, x ≠ b → x ≠ b + 9 → x ≠ b + 10 → e.1 x = d.1 x) ∧ (∀ j, j ≠ 20 → e.1 b j = d.1 b j) ∧ (∀ x, x ≠ b + 8 → e.2.1 x = d.2.1 x) ∧ e.2.2 = d.2.2 := by
  obtain ⟨h1, h2, h3, h4, h5⟩ := h
  have ht := (h1 tok (by omega)).2.2.2 hk
  obtain ⟨e, he⟩ : ∃ e, e = q_pI (q_pI (q_pI (q_pJ d (b + 8) M.1 (wJ (V tok))) (b + 9) M.1 (wI so)) (b + 10) M.1 (wI z)) b 20 (wI (M.1 + 1 : Nat)) := ⟨_, rfl⟩
  have f1 : ∀ x, x ≠ b → x ≠ b + 9 → x ≠ b + 10 → e.1 x = d.1 x := fun x x1 x2 x3 => by
    rw [he, q_pI_o x1, q_pI_o x3, q_pI_o x2]; rfl
  have f2 : ∀ j, j ≠ 20 → e.1 b j = d.1 b j := fun j hj => by
    rw [he, q_pI_k hj, q_pI_o (by omega), q_pI_o (by omega)]; rfl
  have f3 : ∀ x, x ≠ b + 8 → e.2.1 x = d.2.1 x := fun x hx => by
    rw [he, q_pI_2, q_pI_2, q_pI_2, q_pJ_o hx]
  have f4 : e.2.2 = d.2.2 := by rw [he]; rfl
  refine ⟨e, ?_, ⟨fun j hj => ?_, ?_, h3, ?_, fun k hk => ?_⟩, f1, f2, f3, f4⟩
  · unfold X12_notes
    rw [m8, n8, m21, n21, m22, n22, m23, n23, if_neg (kz_ixn (by omega) (by omega)), kz_nat (by omega), ht, h4, if_neg (kz_ixn hM (by omega)), kz_nat (by omega)]
    simp only [o1s]
    obtain ⟨a1, ha1⟩ : ∃ z, z = q_pJ d (b + 8) M.1 (wJ (V tok)) := ⟨_, rfl⟩
    have g1 : a1.1 b 20 = wI M.1 := by rw [ha1]; exact h4
    rw [← ha1, g1, if_neg (kz_ixn hM (by omega)), kz_nat (by omega)]
    obtain ⟨a2, ha2⟩ : ∃ z, z = q_pI a1 (b + 9) M.1 (wI so) := ⟨_, rfl⟩
    have g2 : a2.1 b 20 = wI M.1 := by rw [ha2, q_pI_o (show b ≠ b + 9 by omega)]; exact g1
    rw [← ha2, g2, if_neg (kz_ixn hM (by omega)), kz_nat (by omega)]
    obtain ⟨a3, ha3⟩ : ∃ y, y = q_pI a2 (b + 10) M.1 (wI z) := ⟨_, rfl⟩
    have g3 : a3.1 b 20 = wI M.1 := by rw [ha3, q_pI_o (show b ≠ b + 10 by omega)]; exact g2
    rw [← ha3, g3, show wI M.1 + 1 = wI (M.1 + 1 : Nat) from wI_add M.1 1, ha3, ha2, ha1, ← he]
  · rw [f1 (b + 3) (by omega) (by omega) (by omega), f1 (b + 4) (by omega) (by omega) (by omega), f1 (b + 5) (by omega) (by omega) (by omega), f3 (b + 6) (by omega)]
    exact h1 j hj
  · unfold ky_Z
    rw [f2 11 (by omega), f2 13 (by omega), f2 14 (by omega), f2 15 (by omega), f2 16 (by omega)]
    exact h2
  · rw [he, q_pI_s]
    rfl
  · have hk2 : k < M.1 + 1 := hk
    show _ = wJ (if k = M.1 then V tok else M.2.1 k) ∧ _ = wI ((if k = M.1 then so else M.2.2.1 k : Nat) : Int) ∧ _ = wI ((if k = M.1 then z else M.2.2.2 k : Nat) : Int)
    rw [he, q_pI_2, q_pI_2, q_pI_2, q_pI_o (show b + 9 ≠ b by omega), q_pI_o (show b + 9 ≠ b + 10 by omega), q_pI_o (show b + 10 ≠ b by omega)]
    by_cases g : k = M.1
    · rw [if_pos g, if_pos g, if_pos g, g, q_pJ_s, q_pI_s, q_pI_s]
      exact ⟨rfl, rfl, rfl⟩
    · rw [if_neg g, if_neg g, if_neg g, q_pJ_k g, q_pI_k g, q_pI_k g, q_pI_o (show b + 10 ≠ b + 9 by omega), q_pJ_1]
      exact h5 k (by omega)
/-- the end of a tell that gives a name -/
theorem kq_end {b N o tok sd nc so : Nat} {K P : Nat → Nat} {V : Nat → Int} {d : q_Dt} {s F : Nat × Nat} {M : q_Nm} (h : kq_P b N K P V d s F M) (hN : qk_tok K P V N) (hs : ky_ok K N s) (ho : 11 ≤ o ∧ o ≤ 36) (hsd : sd < 2) (h19 : d.1 b 19 = wI sd) (hc : d.1 (b + o) sd = wI nc) (hM : M.1 < 20) (htok : tok ≤ N) (hk : (ky_mu K 4 s).2 = 0 → K tok = 2) : ∃ e, q_b1 (X12_must (A2 b) d b 4) (fun dt => if (dt.1 b 13) ≤ 0 then (if (dt.1 b 19) < 0 ∨ 2 ≤ Int32.toNatClampNeg (dt.1 b 19) then none else (q_b1 (X12_notes (A2 b) dt b (wI tok) (wI so) (dt.1 (b + o) (Int32.toNatClampNeg (dt.1 b 19)))) (fun dt => if (dt.1 b 19) < 0 ∨ 2 ≤ Int32.toNatClampNeg (dt.1 b 19) then none else (if (dt.1 b 19) < 0 ∨ 2 ≤ Int32.toNatClampNeg (dt.1 b 19) then none else (q_o (q_pI dt (b + o) (Int32.toNatClampNeg (dt.1 b 19)) ((dt.1 (b + o) (Int32.toNatClampNeg (dt.1 b 19))) + 1)) (fun dt => some dt)))))) else (some dt)) = some e ∧ ((ky_mu K 4 s).2 ≠ 0 → kq_P b N K P V e (ky_mu K 4 s) F M ∧ ky_fz b d e) ∧ ((ky_mu K 4 s).2 = 0 → kq_P b N K P V e (ky_mu K 4 s) F (kn_add M (V tok) so nc) ∧ e.1 (b + o) sd = wI (nc + 1 : Nat)) ∧ (∀ x, x ≠ b → x ≠ b + 9 → x ≠ b + 10 → x ≠ b + o → e.1 x = d.1 x) ∧ (∀ j, j ≠ 11 → j ≠ 13 → j ≠ 14 → j ≠ 15 → j ≠ 16 → j ≠ 20 → j ≠ 50 → e.1 b j = d.1 b j) ∧ (∀ x, x ≠ b + 8 → e.2.1 x = d.2.1 x) ∧ e.2.2 = d.2.2 ∧ (∀ j, j ≠ sd → e.1 (b + o) j = d.1 (b + o) j) := by
  obtain ⟨d1, r1, r2, r3⟩ := kq_must4 h hN hs
  have hs2 := (ky_mu_b hN hs (k := 4) (by omega)).1
  have hs22 := hs2.2
  rw [r1]
  simp only [b1s]
  rw [r2.2.1.2.1]
  have e13 : (wI ((ky_mu K 4 s).2 : Int) ≤ 0) = ((ky_mu K 4 s).2 = 0) := by
    rw [show (0 : Int32) = wI (0 : Nat) from rfl, wI_le (by omega) (by omega) (by omega) (by omega)]
    exact propext ⟨fun q => by omega, fun q => by omega⟩
  simp only [e13]
  by_cases g : (ky_mu K 4 s).2 = 0
  · have g19 : d1.1 b 19 = wI sd := by rw [r3.2.1 19 (by omega) (by omega) (by omega) (by omega) (by omega) (by omega)]; exact h19
    have gc : d1.1 (b + o) sd = wI nc := by rw [r3.1 (b + o) (by omega)]; exact hc
    rw [if_pos g, g19, if_neg (kz_ixn hsd (by omega)), kz_nat (by omega), gc]
    obtain ⟨d2, q1, q2, q3, q4, q5, q6⟩ := k_notes (so := so) (z := nc) r2 hN.1 hM htok (hk g)
    rw [q1]
    simp only [b1s]
    have h219 : d2.1 b 19 = wI sd := by rw [q4 19 (by omega)]; exact g19
    have h2c : d2.1 (b + o) sd = wI nc := by rw [q3 (b + o) (by omega) (by omega) (by omega)]; exact gc
    rw [h219, if_neg (kz_ixn hsd (by omega)), if_neg (kz_ixn hsd (by omega)), kz_nat (by omega), h2c, show wI (nc : Int) + 1 = wI (nc + 1 : Nat) from wI_add nc 1]
    simp only [o1s]
    refine ⟨_, rfl, fun q => absurd g q, fun _ => ⟨kq_P_x q2 (fun x hx => q_pI_o (by omega)) rfl, q_pI_s⟩, fun x x1 x2 x3 x4 => ?_, fun j j1 j2 j3 j4 j5 j6 j7 => ?_, fun x hx => ?_, ?_, fun j hj => ?_⟩
    · rw [q_pI_o x4, q3 x x1 x2 x3, r3.1 x x1]
    · rw [q_pI_o (by omega), q4 j j6, r3.2.1 j j1 j2 j3 j4 j5 j7]
    · rw [q_pI_2, q5 x hx, r3.2.2]
    · rw [q_pI_2, q6, r3.2.2]
    · rw [q_pI_k hj, q3 (b + o) (by omega) (by omega) (by omega), r3.1 (b + o) (by omega)]
  · rw [if_neg g]
    exact ⟨d1, rfl, fun _ => ⟨r2, r3⟩, fun q => absurd q g, fun x x1 _ _ _ => r3.1 x x1, fun j j1 j2 j3 j4 j5 _ j7 => r3.2.1 j j1 j2 j3 j4 j5 j7, fun x _ => by rw [r3.2.2], by rw [r3.2.2], fun j _ => by rw [r3.1 (b + o) (by omega)]⟩
theorem S_addcode {b sd : Nat} {d e : q_Dt} {T : q_Tl} {len : Nat} {ch : Nat → Int} (h : kq_S b sd d T) (hsd : sd < 2) (hn : Tnc T < 8) (hl : 1 ≤ len ∧ len ≤ 127) (hc : ∀ i, i < len → ch i = 1 ∨ ch i = -1) (e12 : e.1 (b + 12) (8 * sd + Tnc T) = wI len) (e13 : ∀ k, k < len → e.1 (b + 13) (128 * (8 * sd + Tnc T) + k) = wI (ch k)) (f12 : ∀ j, j ≠ 8 * sd + Tnc T → e.1 (b + 12) j = d.1 (b + 12) j) (f13 : ∀ j, j < 128 * (8 * sd + Tnc T) ∨ 128 * (8 * sd + Tnc T) + 128 ≤ j → e.1 (b + 13) j = d.1 (b + 13) j) (f : ∀ o, 14 ≤ o → o ≤ 36 → e.1 (b + o) = d.1 (b + o)) : kq_S b sd e (kt_code T len ch) := by
  obtain ⟨hw, h0, hC, hH, hS, hE, hJ⟩ := h
  have hwC := hw.2.1
  refine ⟨kt_code_wf hw hn hl hc, ?_, ?_, ?_, ?_, ?_, ?_⟩
  · simp only [kt_code_Tnc, kt_code_Tnh, kt_code_Tns, kt_code_Tne, kt_code_Tnj, kt_code_TN, kt_code_Tnm, kt_code_Tnd, kt_code_Tlen, kt_code_Thp, kt_code_Tha, kt_code_Thb, kt_code_Tsc, kt_code_Tsa, kt_code_Tsd, kt_code_Tst, kt_code_Tsx, kt_code_Tsf, kt_code_Teo, kt_code_Tel, kt_code_Tjf, kt_code_Tjt, kt_code_Tja, kt_code_Tje, kt_code_Tch, kt_code_Tea]
    rw [f 34 (by omega) (by omega), f 35 (by omega) (by omega), f 36 (by omega) (by omega)]
    exact h0
  · unfold q_MC
    simp only [kt_code_Tnc, kt_code_Tnh, kt_code_Tns, kt_code_Tne, kt_code_Tnj, kt_code_TN, kt_code_Tnm, kt_code_Tnd, kt_code_Tlen, kt_code_Thp, kt_code_Tha, kt_code_Thb, kt_code_Tsc, kt_code_Tsa, kt_code_Tsd, kt_code_Tst, kt_code_Tsx, kt_code_Tsf, kt_code_Teo, kt_code_Tel, kt_code_Tjf, kt_code_Tjt, kt_code_Tja, kt_code_Tje, kt_code_Tch, kt_code_Tea]
    intro c hcc
    by_cases g : c = Tnc T
    · rw [if_pos g, if_pos g, g]
      exact ⟨e12, e13⟩
    · rw [if_neg g, if_neg g, f12 _ (by omega)]
      have h1 := hC c (by omega)
      have h2 := hwC c (by omega)
      exact ⟨h1.1, fun i hi => by rw [f13 _ (by omega)]; exact h1.2 i hi⟩
  · unfold q_MH
    simp only [kt_code_Tnc, kt_code_Tnh, kt_code_Tns, kt_code_Tne, kt_code_Tnj, kt_code_TN, kt_code_Tnm, kt_code_Tnd, kt_code_Tlen, kt_code_Thp, kt_code_Tha, kt_code_Thb, kt_code_Tsc, kt_code_Tsa, kt_code_Tsd, kt_code_Tst, kt_code_Tsx, kt_code_Tsf, kt_code_Teo, kt_code_Tel, kt_code_Tjf, kt_code_Tjt, kt_code_Tja, kt_code_Tje, kt_code_Tch, kt_code_Tea]
    rw [f 15 (by omega) (by omega), f 16 (by omega) (by omega), f 17 (by omega) (by omega)]
    exact hH
  · unfold q_MS
    simp only [kt_code_Tnc, kt_code_Tnh, kt_code_Tns, kt_code_Tne, kt_code_Tnj, kt_code_TN, kt_code_Tnm, kt_code_Tnd, kt_code_Tlen, kt_code_Thp, kt_code_Tha, kt_code_Thb, kt_code_Tsc, kt_code_Tsa, kt_code_Tsd, kt_code_Tst, kt_code_Tsx, kt_code_Tsf, kt_code_Teo, kt_code_Tel, kt_code_Tjf, kt_code_Tjt, kt_code_Tja, kt_code_Tje, kt_code_Tch, kt_code_Tea]
    rw [f 19 (by omega) (by omega), f 20 (by omega) (by omega), f 21 (by omega) (by omega), f 22 (by omega) (by omega), f 23 (by omega) (by omega), f 24 (by omega) (by omega)]
    exact hS
  · unfold q_ME
    simp only [kt_code_Tnc, kt_code_Tnh, kt_code_Tns, kt_code_Tne, kt_code_Tnj, kt_code_TN, kt_code_Tnm, kt_code_Tnd, kt_code_Tlen, kt_code_Thp, kt_code_Tha, kt_code_Thb, kt_code_Tsc, kt_code_Tsa, kt_code_Tsd, kt_code_Tst, kt_code_Tsx, kt_code_Tsf, kt_code_Teo, kt_code_Tel, kt_code_Tjf, kt_code_Tjt, kt_code_Tja, kt_code_Tje, kt_code_Tch, kt_code_Tea]
    rw [f 26 (by omega) (by omega), f 27 (by omega) (by omega), f 28 (by omega) (by omega)]
    exact hE
  · unfold q_MJ
    simp only [kt_code_Tnc, kt_code_Tnh, kt_code_Tns, kt_code_Tne, kt_code_Tnj, kt_code_TN, kt_code_Tnm, kt_code_Tnd, kt_code_Tlen, kt_code_Thp, kt_code_Tha, kt_code_Thb, kt_code_Tsc, kt_code_Tsa, kt_code_Tsd, kt_code_Tst, kt_code_Tsx, kt_code_Tsf, kt_code_Teo, kt_code_Tel, kt_code_Tjf, kt_code_Tjt, kt_code_Tja, kt_code_Tje, kt_code_Tch, kt_code_Tea]
    rw [f 30 (by omega) (by omega), f 31 (by omega) (by omega), f 32 (by omega) (by omega), f 33 (by omega) (by omega)]
    exact hJ
/-- a row told -/
theorem kq_code {b sd N tok : Nat} {K P : Nat → Nat} {V : Nat → Int} {d e0 : q_Dt} {s F F0 : Nat × Nat} {M : q_Nm} {T : q_Tl} {len : Nat} {ch : Nat → Int} (hW : kq_W b sd d T) (hcw : Tnc T < 8) (hmk : kq_mk b (8 * sd + Tnc T) d e0 (s.2 = 0 ∧ F.1 = 0) len ch) (hP : kq_P b N K P V e0 s F M) (hN : qk_tok K P V N) (hs : ky_ok K N s) (hM : M.1 < 20) (htok : tok ≤ N) (hk : (ky_mu K 4 s).2 = 0 → K tok = 2) (hS : s.2 = 0 → F.1 = 0 → F0.1 = 0) (hS2 : F0.1 = 0 → kq_S b sd d T) (hlen : s.2 = 0 → F.1 = 0 → (1 ≤ len ∧ len ≤ 127) ∧ ∀ i, i < len → ch i = 1 ∨ ch i = -1) : ∃ e, X12_tellCode_b282 (A2 b) b (wI tok) e0 = some e ∧ kq_R b sd N K P V d e (ky_mu K 4 s) F (kn_add M (V tok) 0 (Tnc T)) (kt_code T len ch) := by
  obtain ⟨hsd, h19, hcn, hl⟩ := hW
  obtain ⟨k1, k2, k3, k4, k5, k6, k7⟩ := hmk
  have g19 : e0.1 b 19 = wI sd := by rw [k2 19 (by omega) (by omega) (by omega) (by omega) (by omega) (by omega)]; exact h19
  have g11 : e0.1 (b + 11) sd = wI (Tnc T) := by rw [k1 (b + 11) (by omega) (by omega) (by omega)]; exact hcn.1
  obtain ⟨e, r1, r2, r3, r4, r5, r6, r7, r8⟩ := kq_end (o := 11) (so := 0) (tok := tok) hP hN hs (by omega) hsd g19 g11 hM htok hk
  have fr : kq_fr b sd d e := by
    refine ⟨fun x x1 x2 => ?_, fun j j1 j2 j3 j4 j5 j6 j7 => ?_, fun x hx => ?_, ?_, fun o o1 o2 j hj => ?_⟩
    · rw [r4 x x1 (by omega) (by omega) (by omega), k1 x x1 (by omega) (by omega)]
    · rw [r5 j j1 j2 j3 j4 j5 j6 j7, k2 j j1 j2 j3 j4 j5 j7]
    · rw [r6 x hx, k3]
    · rw [r7, k3]
    · by_cases g : o = 11
      · rw [g] at hj ⊢
        have : kq_w 11 = 1 := rfl
        rw [this, Nat.div_one] at hj
        rw [r8 j hj, k1 (b + 11) (by omega) (by omega) (by omega)]
      · rw [r4 (b + o) (by omega) (by omega) (by omega) (by omega)]
        by_cases g2 : o = 12
        · rw [g2] at hj ⊢
          have : kq_w 12 = 8 := rfl
          rw [this] at hj
          rw [k4 j (by omega)]
        · by_cases g3 : o = 13
          · rw [g3] at hj ⊢
            have : kq_w 13 = 1024 := rfl
            rw [this] at hj
            rw [k5 j (by omega)]
          · rw [k1 (b + o) (by omega) (by omega) (by omega)]
  have e12 : e.1 (b + 12) = e0.1 (b + 12) := r4 _ (by omega) (by omega) (by omega) (by omega)
  have e13 : e.1 (b + 13) = e0.1 (b + 13) := r4 _ (by omega) (by omega) (by omega) (by omega)
  have hl2 : kq_l b e := by
    intro j hj
    rw [e12]
    by_cases g : j = 8 * sd + Tnc T
    · rw [g]
      rcases k6 with k6 | k6
      · exact k6
      · rw [k6]; exact hl _ (by omega)
    · rw [k4 j g]; exact hl j hj
  refine ⟨e, ?_, fr, hl2, fun q => ⟨F, (r2 q).1.2.1⟩, fun q => ?_⟩
  · unfold X12_tellCode_b282
    rw [m24, n24]
    exact r1
  · have r3' := r3 q
    have q0 := (ky_mu_s q).1
    have fo : ∀ o, 14 ≤ o → o ≤ 36 → e.1 (b + o) = d.1 (b + o) := fun o o1 o2 => by
      rw [r4 (b + o) (by omega) (by omega) (by omega) (by omega), k1 (b + o) (by omega) (by omega) (by omega)]
    refine ⟨r3'.1, ⟨hsd, ?_, ⟨?_, ?_, ?_, ?_, ?_⟩, hl2⟩, fun h0 => ?_⟩
    · rw [r5 19 (by omega) (by omega) (by omega) (by omega) (by omega) (by omega) (by omega)]; exact g19
    · rw [kt_code_Tnc]; exact r3'.2
    · rw [kt_code_Tnh, fo 14 (by omega) (by omega)]; exact hcn.2.1
    · rw [kt_code_Tns, fo 18 (by omega) (by omega)]; exact hcn.2.2.1
    · rw [kt_code_Tne, fo 25 (by omega) (by omega)]; exact hcn.2.2.2.1
    · rw [kt_code_Tnj, fo 29 (by omega) (by omega)]; exact hcn.2.2.2.2
    · have h1 := hlen q0 h0
      have h2 := k7 ⟨q0, h0⟩
      refine S_addcode (hS2 (hS q0 h0)) hsd hcw h1.1 h1.2 (by rw [e12]; exact h2.1) (fun k hk => by rw [e13]; exact h2.2 k hk) (fun j hj => by rw [e12]; exact k4 j hj) (fun j hj => by rw [e13]; exact k5 j hj) fo
