/-! level two: the class makes what a text tells, further -/
theorem kn_fd_add {M : q_Nm} {v w : Int} {s z so : Nat} : ∀ n i, i + n = M.1 → kn_fd (kn_add M v s z) w so (n + 1) i = match kn_fd M w so n i with
    | some c => some c
    | none => if v = w ∧ s = so then some z else none := by
  intro n
  induction n with
  | zero =>
    intro i hi
    show (if (if i = M.1 then v else M.2.1 i) = w ∧ (if i = M.1 then s else M.2.2.1 i) = so then some (if i = M.1 then z else M.2.2.2 i) else none) = _
    rw [if_pos (show i = M.1 by omega), if_pos (show i = M.1 by omega), if_pos (show i = M.1 by omega)]
    rfl
  | succ n ih =>
    intro i hi
    have h := ih (i + 1) (by omega)
    have e1 : kn_fd (kn_add M v s z) w so (n + 1 + 1) i = if (if i = M.1 then v else M.2.1 i) = w ∧ (if i = M.1 then s else M.2.2.1 i) = so then some (if i = M.1 then z else M.2.2.2 i) else kn_fd (kn_add M v s z) w so (n + 1) (i + 1) := rfl
    have e2 : kn_fd M w so (n + 1) i = if M.2.1 i = w ∧ M.2.2.1 i = so then some (M.2.2.2 i) else kn_fd M w so n (i + 1) := rfl
    rw [e1, e2, if_neg (show ¬ i = M.1 by omega), if_neg (show ¬ i = M.1 by omega), if_neg (show ¬ i = M.1 by omega), h]
    by_cases g : M.2.1 i = w ∧ M.2.2.1 i = so
    · rw [if_pos g, if_pos g]
    · rw [if_neg g, if_neg g]
/-- names and what is told -/
def kn_r (M : q_Nm) (T : q_Tl) : Prop := M.1 = Tnc T + Tnh T + Tns T ∧ ∀ k, k < M.1 → (M.2.2.1 k = 0 → M.2.2.2 k < Tnc T) ∧ (M.2.2.1 k = 2 → M.2.2.2 k < Tns T)
theorem kn_r_fd {M : q_Nm} {T : q_Tl} (h : kn_r M T) {v : Int} {c : Nat} (h2 : kn_fd M v 0 M.1 0 = some c) : c < Tnc T := by
  obtain ⟨j, h3, h4, h5, h6, h7⟩ := kn_fd_b _ _ _ h2
  have := (h.2 j (by omega)).1 h6
  omega
theorem kn_r_fd2 {M : q_Nm} {T : q_Tl} (h : kn_r M T) {v : Int} {c : Nat} (h2 : kn_fd M v 2 M.1 0 = some c) : c < Tns T := by
  obtain ⟨j, h3, h4, h5, h6, h7⟩ := kn_fd_b _ _ _ h2
  have := (h.2 j (by omega)).2 h6
  omega
def ky_ob (o : Option Nat) (t : Nat) : Option Nat := match o with
  | none => none
  | some c => some (t + 12 + 3 * c)
theorem y_codeN {b t N a : Nat} {K P : Nat → Nat} {V : Nat → Int} {d : q_Dt} {F : Nat × Nat} {M : q_Nm} {T : q_Tl} {v : Int} {s z : Nat} (hY : kd_Y b N K P V d a F (kn_add M v s z)) (hN : qk_tok K P V N) (hM : kn_wf (kn_add M v s z)) (hr : kn_r M T) (hT : q_TT b t d T) (hF : F.1 ≤ 5) (hu : F.1 = 0 → kn_un (kn_add M v s z)) (hz : s = 0 → z = Tnc T) (ha : a ≤ N) {a2 : Nat} (ea : a2 = a + 1) (hk : K a = 2) : ∃ (o : Option Nat) (d' : q_Dt), X3_codeNamed (A1 b) d (b + 1) t = some (ky_ob o t, d') ∧ kd_Y b N K P V d' a2 (kz_un P V M 0 F a) (kn_add M v s z) ∧ kd_fn b d d' ∧ (∀ c, o = some c → c < Tnc T) ∧ (F.1 = 0 → o = kn_fd M (V a) 0 M.1 0) ∧ (kz_un P V M 0 F a).1 ≤ 5 ∧ (o = none → (kz_un P V M 0 F a).1 ≠ 0) := by
  have hN4 := hN.1
  have ht := hT.2.1
  obtain ⟨r, d1, r1, r2, r3, r4, r5⟩ := y_numNamed hY hN hM ha ea hk (s := 0) (by omega)
  have r1' : X3_numberNamed (A1 b) d (b + 1) 0 = some (wI r, d1) := r1
  have hT1 := kd_TT hT r3
  have hw := hT.1.1
  have hfd := kn_fd_add (M := M) (v := v) (w := V a) (s := s) (z := z) (so := 0) M.1 0 (by omega)
  have hx : ∃ o : Option Nat, X10_codeAt (A1 b) d1 t (wI r) = some (ky_ob o t) ∧ (∀ c, o = some c → c < Tnc T) ∧ (F.1 = 0 → o = kn_fd M (V a) 0 M.1 0) := by
    by_cases g : 0 ≤ r ∧ r < Tnc T
    · obtain ⟨c, rfl⟩ := Int.eq_ofNat_of_zero_le g.1
      refine ⟨some c, T_codeAt hT1 (by omega), fun c2 hc => ?_, fun h0 => ?_⟩
      · rw [← Option.some.inj hc]; omega
      · have h1 := r5 (hu h0)
        have h2 : kn_fd (kn_add M v s z) (V a) 0 (M.1 + 1) 0 = kn_fd (kn_add M v s z) (V a) 0 (kn_add M v s z).1 0 := rfl
        rw [← h2, hfd] at h1
        cases e : kn_fd M (V a) 0 M.1 0 with
        | some c2 =>
          rw [e] at h1
          have h3 : (c : Int) = (c2 : Int) := h1
          rw [show c = c2 by omega]
        | none =>
          rw [e] at h1
          exfalso
          by_cases g2 : v = V a ∧ s = 0
          · have h3 : (c : Int) = ky_oi (if v = V a ∧ s = 0 then some z else none) := h1
            rw [if_pos g2] at h3
            have h4 : (c : Int) = (z : Int) := h3
            have := hz g2.2
            omega
          · have h3 : (c : Int) = ky_oi (if v = V a ∧ s = 0 then some z else none) := h1
            rw [if_neg g2] at h3
            have h4 : (c : Int) = -1 := h3
            omega
    · refine ⟨none, T_codeNo hT1 (by omega) (by omega) g, fun c hc => (nomatch hc), fun h0 => ?_⟩
      have h1 := r5 (hu h0)
      have h2 : kn_fd (kn_add M v s z) (V a) 0 (M.1 + 1) 0 = kn_fd (kn_add M v s z) (V a) 0 (kn_add M v s z).1 0 := rfl
      rw [← h2, hfd] at h1
      cases e : kn_fd M (V a) 0 M.1 0 with
      | some c2 =>
        rw [e] at h1
        have h3 : r = (c2 : Int) := h1
        have := kn_r_fd hr e
        exfalso
        omega
      | none => rfl
  obtain ⟨o, o1, o2, o3⟩ := hx
  have hFF : kz_un P V M 0 F a = (if o = none then ky_bad F 4 (P a) else F) := by
    by_cases h0 : F.1 = 0
    · unfold kz_un
      rw [o3 h0]
    · rw [kz_un_f h0, ky_bad_f h0, ite_self]
  unfold X3_codeNamed
  rw [hY.2.1, y_place hY.1 hN4 ha]
  simp only [b1s]
  rw [r1']
  simp only [b2s]
  rw [o1]
  simp only [b1s]
  unfold X3_codeNamed_b35
  rw [hFF]
  cases o with
  | none =>
    obtain ⟨d2, p1, p2, p3, p4⟩ := y_refuse (p := P a) r2 hF (k := 4) (by omega)
    have p1' : X3_refuse (A1 b) d1 (b + 1) 4 (wI (P a)) = some d2 := p1
    show ∃ o d', q_m none (q_b1 (X3_refuse (A1 b) d1 (b + 1) 4 (wI (P a))) (fun d => some (none, d))) _ = _ ∧ _
    rw [m1n, p1']
    simp only [b1s]
    rw [if_pos trivial]
    exact ⟨none, d2, rfl, p2, kd_fn_t r3 p3, fun c hc => (nomatch hc), o3, p4, fun _ => ky_bad_n (by omega)⟩
  | some c =>
    rw [if_neg (fun q => nomatch q)]
    exact ⟨some c, d1, rfl, r2, r3, o2, o3, hF, fun q => nomatch q⟩
def kz_F3 (P : Nat → Nat) (V : Nat → Int) (M : q_Nm) (T : q_Tl) (a : Nat) (F : Nat × Nat) : Nat × Nat := kz_nu P V 0 ((Tlen T (kz_c V M 0 (a + 2)) : Int) - 1) (if Tlen T (kz_c V M 0 (a + 2)) = Tlen T (kz_c V M 0 (a + 3)) then kz_un P V M 0 (kz_un P V M 0 (kz_du P V M F (a + 1)) (a + 2)) (a + 3) else ky_bad (kz_un P V M 0 (kz_un P V M 0 (kz_du P V M F (a + 1)) (a + 2)) (a + 3)) 5 (P (a + 3))) (a + 4)
def kz_T3 (V : Nat → Int) (M : q_Nm) (T : q_Tl) (a : Nat) : q_Tl := kt_code T (Tlen T (kz_c V M 0 (a + 2))) (kc_bo (Tch T (kz_c V M 0 (a + 2))) (Tch T (kz_c V M 0 (a + 3))) (Tlen T (kz_c V M 0 (a + 3))) (kz_n V (a + 4)))
theorem kz_F3_f {P : Nat → Nat} {V : Nat → Int} {M : q_Nm} {T : q_Tl} {a : Nat} {F : Nat × Nat} (h : (kz_un P V M 0 (kz_un P V M 0 (kz_du P V M F (a + 1)) (a + 2)) (a + 3)).1 ≠ 0) : kz_F3 P V M T a F = kz_un P V M 0 (kz_un P V M 0 (kz_du P V M F (a + 1)) (a + 2)) (a + 3) := by
  unfold kz_F3
  rw [ky_bad_f h, ite_self, kz_nu_f h]
theorem y_m3 {b t N a : Nat} {K P : Nat → Nat} {V : Nat → Int} {d : q_Dt} {F : Nat × Nat} {M : q_Nm} {T : q_Tl} (hY : kd_Y b N K P V d (a + 1) F M) (hN : qk_tok K P V N) (hM : kn_wf M) (hM2 : M.1 < 20) (hu : kn_un M) (hr : kn_r M T) (hT : q_TT b t d T) (hn : Tnc T < 8) (hF : F.1 ≤ 5) (ha : a + 5 ≤ N) (k1 : K (a + 1) = 2) (k2 : K (a + 2) = 2) (k3 : K (a + 3) = 2) (k4 : K (a + 4) = 3) : ∃ d', X3_makeBoth (A1 b) d (b + 1) t = some d' ∧ kd_R b t N K P V d d' (a + 5) (kz_F3 P V M T a F) (kn_add M (V (a + 1)) 0 (Tnc T)) (kz_T3 V M T a) := by
  have ht := hT.2.1
  have hN4 := hN.1
  have hwC := hT.1.2.1
  have hv1 := (hN.2.2.2.2.2 (a + 1)).2.2 k1
  have hM' : kn_wf (kn_add M (V (a + 1)) 0 (Tnc T)) := kn_add_wf hM hM2 hv1 (by omega) (by omega)
  obtain ⟨d1, r1, r2, r3, r4⟩ := y_newName hY hN hM hM2 hF (by omega) (a2 := a + 2) rfl k1 (s := 0) (z := Tnc T) (by omega) (by omega)
  have hu1 : (kz_du P V M F (a + 1)).1 = 0 → kn_un (kn_add M (V (a + 1)) 0 (Tnc T)) := fun q => kn_un_add hu (kz_du_0 q).2
  obtain ⟨o1, d2, p1, p2, p3, p4, p5, p6, p7⟩ := y_codeN r2 hN hM' hr (kd_TT hT r3) r4 hu1 (fun _ => rfl) (by omega) (a2 := a + 3) rfl k2
  have hT2 := kd_TT hT (kd_fn_t r3 p3)
  obtain ⟨o2, d3, q1, q2, q3, q4, q5, q6, q7⟩ := y_codeN p2 hN hM' hr hT2 p6 (fun q => hu1 (kz_un_0 q).1) (fun _ => rfl) (by omega) (a2 := a + 4) rfl k3
  have fn := kd_fn_t (kd_fn_t r3 p3) q3
  have hT3 := kd_TT hT fn
  have e7 := hT.2.2.1.1
  have r1' : X3_newName (A1 b) d (b + 1) 0 (wI (Tnc T)) = some d1 := r1
  have epl := y_place p2.1 hN4 (a := a + 3) (by omega)
  have hbad : (kz_un P V M 0 (kz_un P V M 0 (kz_du P V M F (a + 1)) (a + 2)) (a + 3)).1 ≠ 0 → kd_R b t N K P V d d3 (a + 5) (kz_F3 P V M T a F) (kn_add M (V (a + 1)) 0 (Tnc T)) (kz_T3 V M T a) := by
    intro hb
    rw [kz_F3_f hb]
    exact ⟨kd_fn_fr fn, q2.2.2.1, q2.2.2.2.1, q6, fun q => absurd q hb⟩
  unfold X3_makeBoth
  rw [e7, r1']
  simp only [b1s]
  rw [p1]
  simp only [b2s]
  rw [p2.2.1, epl]
  simp only [b1s]
  rw [q1]
  simp only [b2s]
  cases o1 with
  | none =>
    refine ⟨d3, rfl, hbad ?_⟩
    rw [kz_un_f (p7 rfl)]
    exact p7 rfl
  | some c1 =>
    cases o2 with
    | none => exact ⟨d3, rfl, hbad (q7 rfl)⟩
    | some c2 =>
      have hc1 := p4 c1 rfl
      have hc2 := q4 c2 rfl
      have hL1 := hwC c1 hc1
      have hL2 := hwC c2 hc2
      have hnc := hT.1.1
      have eL1 := (hT3.2.2.2.1 c1 hc1).1
      have eL2 := (hT3.2.2.2.1 c2 hc2).1
      have hq1 := T_code hT3 hc1
      have hq2 := T_code hT3 hc2
      show ∃ d', (if d3.1 (t + 12 + 3 * c1) 1 = d3.1 (t + 12 + 3 * c2) 1 then X3_makeBoth_b65 (A1 b) (b + 1) t (t + 12 + 3 * c1) (t + 12 + 3 * c2) d3 else q_b1 (X3_refuse (A1 b) d3 (b + 1) 5 (wI (P (a + 3)))) (fun d => X3_makeBoth_b65 (A1 b) (b + 1) t (t + 12 + 3 * c1) (t + 12 + 3 * c2) d)) = some d' ∧ _
      have hb65 : ∀ (e : q_Dt) (F2 : Nat × Nat), kd_Y b N K P V e (a + 4) F2 (kn_add M (V (a + 1)) 0 (Tnc T)) → kd_fn b d3 e → F2.1 ≤ 5 → ∃ d', X3_makeBoth_b65 (A1 b) (b + 1) t (t + 12 + 3 * c1) (t + 12 + 3 * c2) e = some d' ∧ kd_R b t N K P V d d' (a + 5) (kz_nu P V 0 ((Tlen T c1 : Int) - 1) F2 (a + 4)) (kn_add M (V (a + 1)) 0 (Tnc T)) (kt_code T (Tlen T c1) (kc_bo (Tch T c1) (Tch T c2) (Tlen T c2) (kz_n V (a + 4)))) := by
        intro e F2 he fe hF2
        obtain ⟨v, d4, u1, u2, u3, u4, u5⟩ := y_number he hN hF2 (by omega) (a2 := a + 5) rfl k4 (lo := 0) (hi := (Tlen T c1 : Int) - 1) (by omega) (by omega)
        have hv := kz_vn (by omega) u5
        obtain ⟨s, rfl⟩ := Int.eq_ofNat_of_zero_le hv.1
        have fn4 := kd_fn_t (kd_fn_t fn fe) u3
        have hT4 := kd_TT hT fn4
        have u1' : X3_number (A1 b) e (b + 1) 0 (wI ((Tlen T c1 : Int) - 1)) = some (wI (s : Int), d4) := u1
        have eL : e.1 (t + 12 + 3 * c1) 1 = wI (Tlen T c1) := (congrFun (fe.1 _ (by omega)) 1).trans eL1
        have hg1 := q_Code_k (e := q_pI d4 t 7 (wI (Tnc T + 1 : Nat))) (T_code hT4 hc1) (congrFun (q_pI_o (show t + 12 + 3 * c1 ≠ t by omega)) 1) rfl
        have hg2 := q_Code_k (e := q_pI d4 t 7 (wI (Tnc T + 1 : Nat))) (T_code hT4 hc2) (congrFun (q_pI_o (show t + 12 + 3 * c2 ≠ t by omega)) 1) rfl
        have hlay := y_both ht hn (by omega) (by omega) (show c1 ≠ Tnc T by omega) (show c2 ≠ Tnc T by omega) hg1 hg2 (show s < 10000 by omega)
        have hfr := y_laid_f (d := d4) (t := t) (len := Tlen T c1) (ch := kc_bo (Tch T c1) (Tch T c2) (Tlen T c2) s) (v := wI (Tnc T + 1 : Nat)) hn
        refine ⟨kc_L1 (q_pI d4 t 7 (wI (Tnc T + 1 : Nat))) t (Tnc T) (Tlen T c1) (kc_bo (Tch T c1) (Tch T c2) (Tlen T c2) s), ?_, kd_R_i (kd_fr_t (kd_fn_fr fn4) (kt_fr_d hfr)) (kd_Y_t u2 ht hfr) u4 (fun h0 => ?_)⟩
        · unfold X3_makeBoth_b65
          rw [eL, show wI (Tlen T c1) - 1 = wI ((Tlen T c1 : Int) - 1) from wI_sub _ 1, u1']
          simp only [b2s]
          rw [y_next hT4 hn]
          simp only [b2s, m1s]
          rw [hlay]
          simp only [b1s]
        · have h1 := kz_nu_0 h0
          rw [if_pos h1.2] at u5
          have e2 : kz_n V (a + 4) = s := by unfold kz_n; omega
          rw [e2]
          refine y_laid hT4 hn hL1.1 (fun i hi => ?_)
          have h2 := hL1.2 i hi
          have h3 := hL2.2 ((i + s) % Tlen T c2) (Nat.mod_lt _ (by omega))
          unfold kc_bo
          rcases h2 with h2 | h2 <;> rcases h3 with h3 | h3 <;> rw [h2, h3] <;> decide
      have hgood : (kz_un P V M 0 (kz_un P V M 0 (kz_du P V M F (a + 1)) (a + 2)) (a + 3)).1 = 0 → kz_c V M 0 (a + 2) = c1 ∧ kz_c V M 0 (a + 3) = c2 := by
        intro h0
        have h1 := kz_un_0 h0
        have h2 := kz_un_0 h1.1
        have h3 := p5 h2.1
        have h4 := q5 h1.1
        unfold kz_c
        rw [← h3, ← h4]
        exact ⟨rfl, rfl⟩
      have hout : ∀ F2 : Nat × Nat, F2 = (if Tlen T c1 = Tlen T c2 then kz_un P V M 0 (kz_un P V M 0 (kz_du P V M F (a + 1)) (a + 2)) (a + 3) else ky_bad (kz_un P V M 0 (kz_un P V M 0 (kz_du P V M F (a + 1)) (a + 2)) (a + 3)) 5 (P (a + 3))) → ∀ d', kd_R b t N K P V d d' (a + 5) (kz_nu P V 0 ((Tlen T c1 : Int) - 1) F2 (a + 4)) (kn_add M (V (a + 1)) 0 (Tnc T)) (kt_code T (Tlen T c1) (kc_bo (Tch T c1) (Tch T c2) (Tlen T c2) (kz_n V (a + 4)))) → kd_R b t N K P V d d' (a + 5) (kz_F3 P V M T a F) (kn_add M (V (a + 1)) 0 (Tnc T)) (kz_T3 V M T a) := by
        intro F2 hF2 d' hR
        by_cases h0 : (kz_un P V M 0 (kz_un P V M 0 (kz_du P V M F (a + 1)) (a + 2)) (a + 3)).1 = 0
        · have h1 := hgood h0
          unfold kz_F3 kz_T3
          rw [h1.1, h1.2, ← hF2]
          exact hR
        · rw [kz_F3_f h0]
          rw [ky_bad_f h0, ite_self] at hF2
          rw [hF2, kz_nu_f h0] at hR
          exact ⟨hR.1, hR.2.1, hR.2.2.1, hR.2.2.2.1, fun q => absurd q h0⟩
      rw [eL1, eL2]
      have eLL : (wI (Tlen T c1 : Int) = wI (Tlen T c2 : Int)) = ((Tlen T c1 : Int) = (Tlen T c2 : Int)) := wI_eq (by omega) (by omega) (by omega) (by omega)
      simp only [eLL]
      by_cases g : Tlen T c1 = Tlen T c2
      · rw [if_pos (show (Tlen T c1 : Int) = (Tlen T c2 : Int) by omega)]
        obtain ⟨d', w1, w2⟩ := hb65 d3 _ q2 kd_fn_r q6
        exact ⟨d', w1, hout _ (by rw [if_pos g]) d' w2⟩
      · rw [if_neg (show ¬ (Tlen T c1 : Int) = (Tlen T c2 : Int) by omega)]
        obtain ⟨d5, x1, x2, x3, x4⟩ := y_refuse (p := P (a + 3)) q2 q6 (k := 5) (by omega)
        have x1' : X3_refuse (A1 b) d3 (b + 1) 5 (wI (P (a + 3))) = some d5 := x1
        rw [x1']
        simp only [b1s]
        obtain ⟨d', w1, w2⟩ := hb65 d5 _ x2 x3 x4
        exact ⟨d', w1, hout _ (by rw [if_neg g]) d' w2⟩
/-! hops -/
def kz_p (v : Nat) : Prop := v = 2 ∨ v = 3 ∨ v = 5 ∨ v = 7 ∨ v = 11 ∨ v = 13 ∨ v = 17 ∨ v = 19 ∨ v = 23 ∨ v = 29 ∨ v = 31
def kz_pb (v : Nat) : Bool := [2, 3, 5, 7, 11, 13, 17, 19, 23, 29, 31].contains v
theorem y_prime : ∀ v : Nat, v < 32 → (((2693408940 : Int64) >>> (Int32.toInt64 (wI v) &&& 63)) &&& 1 = 0) = (kz_pb v = false) := by
  have e : ∀ v : Nat, v < 32 → (((2693408940 : Int64) >>> (Int32.toInt64 (wI v) &&& 63)) &&& 1 = 0 ↔ kz_pb v = false) := by decide +kernel
  intro v hv
  exact propext (e v hv)
def kz_F4 (P : Nat → Nat) (V : Nat → Int) (M : q_Nm) (a : Nat) (F : Nat × Nat) : Nat × Nat := kz_nu P V 0 (V (a + 2) - 1) (kz_nu P V 0 (V (a + 2) - 1) (if kz_pb (kz_n V (a + 2)) = false then ky_bad (kz_nu P V 2 31 (kz_du P V M F (a + 1)) (a + 2)) 5 (P (a + 2)) else kz_nu P V 2 31 (kz_du P V M F (a + 1)) (a + 2)) (a + 3)) (a + 4)
def kz_T4 (V : Nat → Int) (T : q_Tl) (a : Nat) : q_Tl := kt_hop T (kz_n V (a + 2)) (kz_n V (a + 3)) (kz_n V (a + 4))
theorem y_nextHop {b t : Nat} {d : q_Dt} {T : q_Tl} (hT : q_TT b t d T) (hn : Tnh T < 6) : X10_nextHop (A1 b) d t = some (some (t + 36 + Tnh T), q_pI d t 8 (wI (Tnh T + 1 : Nat))) := by
  have ht := hT.2.1
  have e7 := hT.2.2.1.2.1
  have e8 : wI (Tnh T + 1 : Nat) - 1 = wI (Tnh T) := by
    rw [show (1 : Int32) = wI 1 from rfl, wI_sub]
    congr 1
    omega
  unfold X10_nextHop
  simp only [o1s]
  rw [e7, show wI (Tnh T) + 1 = wI (Tnh T + 1 : Nat) from wI_add (Tnh T) 1, q_pI_s, e8]
  simp (disch := omega) only [X10_hopAt, q_pI_s, t1_1 ht, t1_l1 ht, wI_ofNat, wI_lit, wI_lt, wI_le, wI_nat, Int.toNat_natCast, th_0 ht]
  rw [if_neg (by omega), if_neg (by omega), if_neg (by omega), if_neg (by omega)]
  simp only [b1s]
theorem y_m4 {b t N a : Nat} {K P : Nat → Nat} {V : Nat → Int} {d : q_Dt} {F : Nat × Nat} {M : q_Nm} {T : q_Tl} (hY : kd_Y b N K P V d (a + 1) F M) (hN : qk_tok K P V N) (hM : kn_wf M) (hM2 : M.1 < 20) (hT : q_TT b t d T) (hn : Tnh T < 6) (hF : F.1 ≤ 5) (ha : a + 5 ≤ N) (k1 : K (a + 1) = 2) (k2 : K (a + 2) = 3) (k3 : K (a + 3) = 3) (k4 : K (a + 4) = 3) : ∃ d', X3_makeHop (A1 b) d (b + 1) t = some d' ∧ kd_R b t N K P V d d' (a + 5) (kz_F4 P V M a F) (kn_add M (V (a + 1)) 1 (Tnh T)) (kz_T4 V T a) := by
  have ht := hT.2.1
  have hN4 := hN.1
  obtain ⟨d1, r1, r2, r3, r4⟩ := y_newName hY hN hM hM2 hF (by omega) (a2 := a + 2) rfl k1 (s := 1) (z := Tnh T) (by omega) (by omega)
  have epl := y_place r2.1 hN4 (a := a + 2) (by omega)
  obtain ⟨v1, d2, p1, p2, p3, p4, p5⟩ := y_number r2 hN r4 (by omega) (a2 := a + 3) rfl k2 (lo := 2) (hi := 31) (by omega) (by omega)
  have hv1 := kz_vn (by omega) p5
  obtain ⟨n, rfl⟩ := Int.eq_ofNat_of_zero_le (show 0 ≤ v1 by omega)
  have r1' : X3_newName (A1 b) d (b + 1) 4 (wI (Tnh T)) = some d1 := r1
  have p1' : X3_number (A1 b) d1 (b + 1) 2 31 = some (wI (n : Int), d2) := p1
  have e8 := hT.2.2.1.2.1
  have fn2 := kd_fn_t r3 p3
  have hb50 : ∀ (e : q_Dt) (F2 : Nat × Nat), kd_Y b N K P V e (a + 3) F2 (kn_add M (V (a + 1)) 1 (Tnh T)) → kd_fn b d2 e → F2.1 ≤ 5 → ∃ d', X3_makeHop_b50 (A1 b) (b + 1) t (wI n) e = some d' ∧ kd_R b t N K P V d d' (a + 5) (kz_nu P V 0 ((n : Int) - 1) (kz_nu P V 0 ((n : Int) - 1) F2 (a + 3)) (a + 4)) (kn_add M (V (a + 1)) 1 (Tnh T)) (kt_hop T n (kz_n V (a + 3)) (kz_n V (a + 4))) := by
    intro e F2 he fe hF2
    obtain ⟨v2, d3, q1, q2, q3, q4, q5⟩ := y_number he hN hF2 (by omega) (a2 := a + 4) rfl k3 (lo := 0) (hi := (n : Int) - 1) (by omega) (by omega)
    have hv2 := kz_vn (by omega) q5
    obtain ⟨x, rfl⟩ := Int.eq_ofNat_of_zero_le hv2.1
    obtain ⟨v3, d4, u1, u2, u3, u4, u5⟩ := y_number q2 hN q4 (by omega) (a2 := a + 5) rfl k4 (lo := 0) (hi := (n : Int) - 1) (by omega) (by omega)
    have hv3 := kz_vn (by omega) u5
    obtain ⟨y, rfl⟩ := Int.eq_ofNat_of_zero_le hv3.1
    have fn4 := kd_fn_t (kd_fn_t (kd_fn_t fn2 fe) q3) u3
    have hT4 := kd_TT hT fn4
    have q1' : X3_number (A1 b) e (b + 1) 0 (wI ((n : Int) - 1)) = some (wI (x : Int), d3) := q1
    have u1' : X3_number (A1 b) d3 (b + 1) 0 (wI ((n : Int) - 1)) = some (wI (y : Int), d4) := u1
    have hs : t ≤ t + 36 + Tnh T ∧ t + 36 + Tnh T < t + 72 := by omega
    have hfr : kt_fr t d4 (q_pI (q_pI (q_pI (q_pI d4 t 8 (wI (Tnh T + 1 : Nat))) (t + 36 + Tnh T) 0 (wI n)) (t + 36 + Tnh T) 1 (wI x)) (t + 36 + Tnh T) 2 (wI y)) := kt_fr_t (kt_fr_t (kt_fr_t (kt_fr_I (by omega)) (kt_fr_I hs)) (kt_fr_I hs)) (kt_fr_I hs)
    refine ⟨_, ?_, kd_R_i (kd_fr_t (kd_fn_fr fn4) (kt_fr_d hfr)) (kd_Y_t u2 ht hfr) u4 (fun h0 => ?_)⟩
    · unfold X3_makeHop_b50
      rw [show wI (n : Int) - 1 = wI ((n : Int) - 1) from wI_sub _ 1, q1']
      simp only [b2s]
      rw [u1']
      simp only [b2s]
      rw [y_nextHop hT4 hn]
      simp only [b2s, m1s]
      unfold X1_lay
      simp only [o1s, b1s]
    · have h1 := kz_nu_0 h0
      have h2 := kz_nu_0 h1.1
      rw [if_pos h1.2] at u5
      rw [if_pos h2.2] at q5
      have e2 : kz_n V (a + 3) = x := by unfold kz_n; omega
      have e3 : kz_n V (a + 4) = y := by unfold kz_n; omega
      rw [e2, e3]
      refine T_addhop hT4 hn (by omega) (by omega) (by omega) ?_ (fun j hj => ?_) ⟨?_, ?_, ?_⟩ (fun z z1 z2 z3 z4 => ?_) (fun z z1 z2 => rfl) (fun z z1 z2 => rfl)
      · rw [q_pI_o (by omega), q_pI_o (by omega), q_pI_o (by omega), q_pI_s]
      · rw [q_pI_o (by omega), q_pI_o (by omega), q_pI_o (by omega), q_pI_k hj]
      · rw [q_pI_k (by omega), q_pI_k (by omega), q_pI_s]
      · rw [q_pI_k (by omega), q_pI_s]
      · rw [q_pI_s]
      · rw [q_pI_o z4, q_pI_o z4, q_pI_o z4, q_pI_o z3]
  have hout : ∀ (F2 : Nat × Nat) d', F2 = (if kz_pb n = false then ky_bad (kz_nu P V 2 31 (kz_du P V M F (a + 1)) (a + 2)) 5 (P (a + 2)) else kz_nu P V 2 31 (kz_du P V M F (a + 1)) (a + 2)) → kd_R b t N K P V d d' (a + 5) (kz_nu P V 0 ((n : Int) - 1) (kz_nu P V 0 ((n : Int) - 1) F2 (a + 3)) (a + 4)) (kn_add M (V (a + 1)) 1 (Tnh T)) (kt_hop T n (kz_n V (a + 3)) (kz_n V (a + 4))) → kd_R b t N K P V d d' (a + 5) (kz_F4 P V M a F) (kn_add M (V (a + 1)) 1 (Tnh T)) (kz_T4 V T a) := by
    intro F2 d' hF2 hR
    by_cases g : 2 ≤ V (a + 2) ∧ V (a + 2) ≤ 31
    · rw [if_pos g] at p5
      have e : kz_n V (a + 2) = n := by unfold kz_n; omega
      unfold kz_F4 kz_T4
      rw [e, ← hF2, show V (a + 2) = (n : Int) from p5.symm]
      exact hR
    · have gb : (kz_nu P V 2 31 (kz_du P V M F (a + 1)) (a + 2)).1 ≠ 0 := kz_nu_b g
      rw [ky_bad_f gb, ite_self] at hF2
      rw [hF2, kz_nu_f gb, kz_nu_f gb] at hR
      have e9 : kz_F4 P V M a F = kz_nu P V 2 31 (kz_du P V M F (a + 1)) (a + 2) := by
        unfold kz_F4
        rw [ky_bad_f gb, ite_self, kz_nu_f gb, kz_nu_f gb]
      rw [e9]
      exact ⟨hR.1, hR.2.1, hR.2.2.1, hR.2.2.2.1, fun q => absurd q gb⟩
  unfold X3_makeHop
  rw [e8, r1']
  simp only [b1s]
  rw [r2.2.1, epl]
  simp only [b1s]
  rw [p1']
  simp only [b2s]
  simp only [y_prime n (by omega)]
  by_cases g : kz_pb n = false
  · rw [if_pos g]
    obtain ⟨d5, x1, x2, x3, x4⟩ := y_refuse (p := P (a + 2)) p2 p4 (k := 5) (by omega)
    have x1' : X3_refuse (A1 b) d2 (b + 1) 5 (wI (P (a + 2))) = some d5 := x1
    rw [x1']
    simp only [b1s]
    obtain ⟨d', w1, w2⟩ := hb50 d5 _ x2 x3 x4
    exact ⟨d', w1, hout _ d' (by rw [if_pos g]; rfl) w2⟩
  · rw [if_neg g]
    obtain ⟨d', w1, w2⟩ := hb50 d2 _ p2 kd_fn_r p4
    exact ⟨d', w1, hout _ d' (by rw [if_neg g]; rfl) w2⟩
