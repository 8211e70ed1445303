/-! level two: the class makes echoes, jams, noise, samples -/
def kz_e (K : Nat → Nat) (a : Nat) : Nat := if K (a + 3) = 5 then 1 else 0
def kz_F6 (K P : Nat → Nat) (V : Nat → Int) (M : q_Nm) (a : Nat) (F : Nat × Nat) : Nat × Nat := kz_nu P V 1 99 (kz_nu P V 1 99 (kz_un P V M 2 F (a + 1)) (a + 2)) (a + 3 + kz_e K a)
def kz_T6 (K : Nat → Nat) (V : Nat → Int) (M : q_Nm) (T : q_Tl) (a : Nat) : q_Tl := kt_echo T (kz_c V M 2 (a + 1)) (kz_n V (a + 2)) (if K (a + 3) = 5 then - V (a + 4) else V (a + 3))
def ky_os (o : Option Nat) (t : Nat) : Option Nat := match o with
  | none => none
  | some c => some (t + 42 + 5 * c)
theorem y_layEcho {b t o m : Nat} {d : q_Dt} {l z : Int} (ht : t = b + 77 ∨ t = b + 149) (ho : o < 6) (hm : m < 6) (h3 : d.1 (t + 42 + 5 * o) 3 = wI m) (hl : -200 ≤ l ∧ l ≤ 200) (hz : -200 ≤ z ∧ z ≤ 200) : X7_layEcho (A1 b) d (t + 42 + 5 * o) (wI l) (wI z) = some (q_pI (q_pJ (q_pJ d (t + 44 + 5 * o) m (wJ l)) (t + 46 + 5 * o) m (wJ z)) (t + 42 + 5 * o) 3 (wI (m + 1 : Nat))) := by
  unfold X7_layEcho
  rw [h3, ts_1 ht ho, r_put (ts_3 ht ho) (ts_l0 ht ho) (by omega) hm]
  simp only [b1s, q_pJ_1]
  rw [h3, ts_2 ht ho, r_put (ts_4 ht ho) (ts_l1 ht ho) (by omega) hm]
  simp only [b1s, q_pJ_1, o1s]
  rw [h3, wI_wJ (by omega) (by omega), wI_wJ (by omega) (by omega), show wI m + 1 = wI (m + 1 : Nat) from wI_add m 1]
set_option maxHeartbeats 8000000 in
theorem y_m6 {b t N a : Nat} {K P : Nat → Nat} {V : Nat → Int} {d : q_Dt} {F : Nat × Nat} {M : q_Nm} {T : q_Tl} (hY : kd_Y b N K P V d (a + 1) F M) (hN : qk_tok K P V N) (hM : kn_wf M) (hu : kn_un M) (hr : kn_r M T) (hT : q_TT b t d T) (hn : Tne T < 6) (hF : F.1 ≤ 5) (ha : a + 4 + kz_e K a ≤ N) (k1 : K (a + 1) = 2) (k2 : K (a + 2) = 3) (k3 : K (a + 3 + kz_e K a) = 3) : ∃ d', X3_makeEcho (A1 b) d (b + 1) t = some d' ∧ kd_R b t N K P V d d' (a + 4 + kz_e K a) (kz_F6 K P V M a F) M (kz_T6 K V M T a) := by
  have ht := hT.2.1
  have hN4 := hN.1
  have hw := hT.1.1
  have ht1 : t ≠ b + 1 := by omega
  obtain ⟨r, d1, r1, r2, r3, r4, r5⟩ := y_numNamed hY hN hM (by omega) (a2 := a + 2) rfl k1 (s := 2) (by omega)
  have r1' : X3_numberNamed (A1 b) d (b + 1) 5 = some (wI r, d1) := r1
  have hT1 := kd_TT hT r3
  have hx : ∃ o : Option Nat, X10_senderAt (A1 b) d1 t (wI r) = some (ky_os o t) ∧ (∀ c, o = some c → c < Tns T) ∧ o = kn_fd M (V (a + 1)) 2 M.1 0 := by
    have h1 := r5 hu
    by_cases g : 0 ≤ r ∧ r < Tns T
    · obtain ⟨c, rfl⟩ := Int.eq_ofNat_of_zero_le g.1
      refine ⟨some c, T_senderAt hT1 (by omega), fun c2 hc => ?_, ?_⟩
      · rw [← Option.some.inj hc]; omega
      · cases e : kn_fd M (V (a + 1)) 2 M.1 0 with
        | some c2 =>
          rw [e] at h1
          have h3 : (c : Int) = (c2 : Int) := h1
          rw [show c = c2 by omega]
        | none =>
          rw [e] at h1
          have h4 : (c : Int) = -1 := h1
          exfalso
          omega
    · refine ⟨none, T_senderNo hT1 (by omega) (by omega) g, fun c hc => (nomatch hc), ?_⟩
      cases e : kn_fd M (V (a + 1)) 2 M.1 0 with
      | some c2 =>
        rw [e] at h1
        have h3 : r = (c2 : Int) := h1
        have := kn_r_fd2 hr e
        exfalso
        omega
      | none => rfl
  obtain ⟨o, o1, o2, o3⟩ := hx
  have hmain : ∀ (e : q_Dt), kd_Y b N K P V e (a + 2) (kz_un P V M 2 F (a + 1)) M → kd_fn b d1 e → (kz_un P V M 2 F (a + 1)).1 ≤ 5 → ∃ d', X3_makeEcho_b35 (A1 b) (b + 1) t (ky_os o t) e = some d' ∧ kd_R b t N K P V d d' (a + 4 + kz_e K a) (kz_F6 K P V M a F) M (kz_T6 K V M T a) := by
    intro e he fe hFe
    obtain ⟨v1, d2, p1, p2, p3, p4, p5⟩ := y_number he hN hFe (by omega) (a2 := a + 3) rfl k2 (lo := 1) (hi := 99) (by omega) (by omega)
    have hv1 := kz_vn (by omega) p5
    have p1' : X3_number (A1 b) e (b + 1) 1 99 = some (wI v1, d2) := p1
    have hKb := (hN.2.2.2.1 (a + 3)).1
    have eK : (wJ ((K (a + 3) : Nat) : Int) = 5) = (K (a + 3) = 5) := by
      rw [show (5 : Int64) = wJ ((5 : Nat) : Int) from rfl, wJ_eq (by omega) (by omega) (by omega) (by omega)]
      exact propext ⟨fun q => by omega, fun q => by omega⟩
    have fn2 := kd_fn_t (kd_fn_t r3 fe) p3
    have hb87 : ∀ (mi : Nat) (x5 : Int32), mi = kz_e K a → (x5 = 0 ↔ mi = 0) → ∃ d', X3_makeEcho_b87 (A1 b) (b + 1) t (ky_os o t) (wI v1) x5 (b + 1) (wI (a + 3 : Nat)) (wI mi) d2 = some d' ∧ kd_R b t N K P V d d' (a + 4 + kz_e K a) (kz_F6 K P V M a F) M (kz_T6 K V M T a) := by
      intro mi x5 hmi hx5
      rw [← hmi] at ha k3
      obtain ⟨y1, y2⟩ := y_step (a2 := a + 3 + mi) p2
      obtain ⟨v2, d4, q1, q2, q3, q4, q5⟩ := y_number y1 hN p4 (by omega) (a2 := a + 4 + mi) (by omega) k3 (lo := 1) (hi := 99) (by omega) (by omega)
      have hv2 := kz_vn (by omega) q5
      have q1' : X3_number (A1 b) (q_pI d2 (b + 1) 5 (wI (a + 3 + mi : Nat))) (b + 1) 1 99 = some (wI v2, d4) := q1
      have fn4 := kd_fn_t (kd_fn_t fn2 y2) q3
      have hT4 := kd_TT hT fn4
      have eF : ky_num (ky_num (kz_un P V M 2 F (a + 1)) 1 99 (V (a + 2)) (P (a + 2))) 1 99 (V (a + 3 + mi)) (P (a + 3 + mi)) = kz_F6 K P V M a F := by
        unfold kz_F6 kz_nu
        rw [← hmi]
      rw [eF] at q2 q4
      unfold X3_makeEcho_b87
      rw [show wI ((a + 3 : Nat) : Int) + wI mi = wI (a + 3 + mi : Nat) from wI_add _ _]
      simp only [o1s]
      rw [q1']
      simp only [b2s]
      rw [← hmi]
      unfold X3_makeEcho_b120 X3_makeEcho_b123
      cases o with
      | none =>
        have hb : (kz_F6 K P V M a F).1 ≠ 0 := by
          intro h0
          unfold kz_F6 at h0
          have h1 := kz_un_0 (kz_nu_0 (kz_nu_0 h0).1).1
          rw [← o3] at h1
          exact nomatch h1.2
        have hfr : kt_fr t d4 (q_pI d4 t 10 (d4.1 t 10 + 1)) := kt_fr_I (by omega)
        have hY9 := kd_Y_t q2 ht hfr
        exact ⟨_, rfl, kd_fr_t (kd_fn_fr fn4) (kt_fr_d hfr), hY9.2.2.1, hY9.2.2.2.1, q4, fun q => absurd q hb⟩
      | some c =>
        have hc := o2 c rfl
        obtain ⟨m, ix, m1, m2, m3, m4⟩ := T_echo_m hT4 hc
        have h10 := hT4.2.2.1.2.2.2.1
        obtain ⟨z, hz⟩ : ∃ z : Int, z = if mi = 0 then v2 else -v2 := ⟨_, rfl⟩
        have hzb : -99 ≤ z ∧ z ≤ 99 := by
          by_cases g : mi = 0
          · rw [if_pos g] at hz; omega
          · rw [if_neg g] at hz; omega
        have hlay := y_layEcho (z := z) ht (by omega) (show m < 6 by omega) m1 (show -200 ≤ v1 ∧ v1 ≤ 200 by omega) (by omega)
        obtain ⟨d5, hd5⟩ : ∃ y, y = q_pI (q_pJ (q_pJ d4 (t + 44 + 5 * c) m (wJ v1)) (t + 46 + 5 * c) m (wJ z)) (t + 42 + 5 * c) 3 (wI (m + 1 : Nat)) := ⟨_, rfl⟩
        rw [← hd5] at hlay
        have s1 : t ≤ t + 42 + 5 * c ∧ t + 42 + 5 * c < t + 72 := by omega
        have s2 : t ≤ t + 44 + 5 * c ∧ t + 44 + 5 * c < t + 72 := by omega
        have s3 : t ≤ t + 46 + 5 * c ∧ t + 46 + 5 * c < t + 72 := by omega
        have e10 : d5.1 t 10 = wI (Tne T) := by
          rw [hd5, q_pI_o (by omega)]
          exact h10
        have hfr : kt_fr t d4 (q_pI d5 t 10 (wI (Tne T + 1 : Nat))) := by
          rw [hd5]
          exact kt_fr_t (kt_fr_t (kt_fr_t (kt_fr_J s2) (kt_fr_J s3)) (kt_fr_I s1)) (kt_fr_I (by omega))
        have hY9 := kd_Y_t q2 ht hfr
        have eo : ky_os (some c) t = some (t + 42 + 5 * c) := rfl
        rw [eo]
        simp only [m1s, o1s]
        refine ⟨q_pI d5 t 10 (wI (Tne T + 1 : Nat)), ?_, kd_R_i (kd_fr_t (kd_fn_fr fn4) (kt_fr_d hfr)) hY9 q4 (fun h0 => ?_)⟩
        · have hcl : ∀ w : Int, w = z → q_b1 (X7_layEcho (A1 b) d4 (t + 42 + 5 * c) (wI v1) (wI w)) (fun dt => some (q_pI dt t 10 (dt.1 t 10 + 1))) = some (q_pI d5 t 10 (wI (Tne T + 1 : Nat))) := by
            intro w hwz
            rw [hwz, hlay]
            simp only [b1s]
            rw [e10, show wI (Tne T) + 1 = wI (Tne T + 1 : Nat) from wI_add _ 1]
          by_cases g : mi = 0
          · rw [if_pos (hx5.mpr g)]
            exact hcl v2 (by rw [hz, if_pos g])
          · rw [if_neg (fun q => g (hx5.mp q)), wI_neg]
            exact hcl (-v2) (by rw [hz, if_neg g])
        · unfold kz_F6 at h0
          rw [← hmi] at h0
          have j1 := kz_nu_0 h0
          have j2 := kz_nu_0 j1.1
          have j3 := kz_un_0 j2.1
          have ec : kz_c V M 2 (a + 1) = c := by
            unfold kz_c
            rw [← o3]
            rfl
          rw [if_pos j2.2] at p5
          rw [if_pos j1.2] at q5
          have e3 : ((kz_n V (a + 2) : Nat) : Int) = v1 := by unfold kz_n; omega
          have ez : (if K (a + 3) = 5 then - V (a + 4) else V (a + 3)) = z := by
            unfold kz_e at hmi
            by_cases g : K (a + 3) = 5
            · rw [if_pos g] at hmi ⊢
              rw [hmi] at hz q5
              have q6 : v2 = V (a + 4) := q5
              rw [hz, if_neg (by omega), q6]
            · rw [if_neg g] at hmi ⊢
              rw [hmi] at hz q5
              have q6 : v2 = V (a + 3) := q5
              rw [hz, if_pos rfl, q6]
          unfold kz_T6
          rw [ec, ez]
          refine T_addecho hT4 hn hc (by omega) hzb m2 m3 m4 q_pI_s (fun j hj => ?_) ?_ (fun j hj => ?_) ?_ (fun j hj => ?_) ?_ (fun j hj => ?_) (fun x z1 z2 z3 z4 => ?_) (fun x z1 z2 z3 z4 => ?_) (fun x z1 z2 => ?_)
          · rw [q_pI_k hj, hd5, q_pI_o (by omega)]; rfl
          · rw [q_pI_o (by omega), hd5, q_pI_s]
          · rw [q_pI_o (by omega), hd5, q_pI_k hj]; rfl
          · rw [q_pI_2, hd5, q_pI_2, q_pJ_o (by omega), q_pJ_s, e3]
          · rw [q_pI_2, hd5, q_pI_2, q_pJ_o (by omega), q_pJ_k hj]
          · rw [q_pI_2, hd5, q_pI_2, q_pJ_s]
          · rw [q_pI_2, hd5, q_pI_2, q_pJ_k hj, q_pJ_o (by omega)]
          · rw [q_pI_o z3, hd5, q_pI_o z4]; rfl
          · rw [q_pI_2, hd5, q_pI_2, q_pJ_o z4, q_pJ_o z3]
          · rw [q_pI_2, hd5]; rfl
    unfold X3_makeEcho_b35
    rw [p1']
    simp only [b2s]
    rw [p2.2.1, y_kindm p2.1 hN4 (by omega)]
    simp only [b1s, eK]
    unfold X3_makeEcho_b70
    rw [p2.2.1]
    by_cases g : K (a + 3) = 5
    · rw [if_pos g, if_neg (show ¬ (1 : Int32) = 0 by decide)]
      exact hb87 1 1 (by unfold kz_e; rw [if_pos g]) ⟨fun q => absurd q (by decide), fun q => absurd q (by decide)⟩
    · rw [if_neg g, if_pos rfl]
      exact hb87 0 0 (by unfold kz_e; rw [if_neg g]) ⟨fun _ => rfl, fun _ => rfl⟩
  unfold X3_makeEcho
  rw [hY.2.1, y_place hY.1 hN4 (by omega)]
  simp only [b1s]
  rw [r1']
  simp only [b2s]
  rw [o1]
  simp only [b1s]
  have hFF : kz_un P V M 2 F (a + 1) = (if o = none then ky_bad F 4 (P (a + 1)) else F) := by
    unfold kz_un
    rw [o3]
  cases o with
  | none =>
    obtain ⟨d2, p1, p2, p3, p4⟩ := y_refuse (p := P (a + 1)) r2 hF (k := 4) (by omega)
    have p1' : X3_refuse (A1 b) d1 (b + 1) 4 (wI (P (a + 1))) = some d2 := p1
    rw [if_pos rfl] at hFF
    rw [← hFF] at p2 p4
    have eo : ky_os none t = none := rfl
    rw [eo]
    simp only [m1n]
    rw [p1']
    simp only [b1s]
    exact hmain d2 p2 p3 p4
  | some c =>
    rw [if_neg (fun q => nomatch q)] at hFF
    rw [← hFF] at r2 hF
    exact hmain d1 r2 kd_fn_r hF
def kz_F7 (P : Nat → Nat) (V : Nat → Int) (a : Nat) (F : Nat × Nat) : Nat × Nat := kz_nu P V 1 99 (kz_nu P V 1 99 (kz_nu P V (V (a + 1)) 511 (kz_nu P V 0 511 F (a + 1)) (a + 2)) (a + 3)) (a + 4)
def kz_T7 (V : Nat → Int) (T : q_Tl) (a : Nat) : q_Tl := kt_jam T (kz_n V (a + 1)) (kz_n V (a + 2)) (kz_n V (a + 3)) (kz_n V (a + 4))
theorem y_m7 {b t N a : Nat} {K P : Nat → Nat} {V : Nat → Int} {d : q_Dt} {F : Nat × Nat} {M : q_Nm} {T : q_Tl} (hY : kd_Y b N K P V d (a + 1) F M) (hN : qk_tok K P V N) (hT : q_TT b t d T) (hn : Tnj T < 4) (hF : F.1 ≤ 5) (ha : a + 5 ≤ N) (k1 : K (a + 1) = 3) (k2 : K (a + 2) = 3) (k3 : K (a + 3) = 3) (k4 : K (a + 4) = 3) : ∃ d', X3_makeJam (A1 b) d (b + 1) t = some d' ∧ kd_R b t N K P V d d' (a + 5) (kz_F7 P V a F) M (kz_T7 V T a) := by
  have ht := hT.2.1
  have h11 := hT.2.2.1.2.2.2.2.1
  obtain ⟨v1, d1, p1, p2, p3, p4, p5⟩ := y_number hY hN hF (by omega) (a2 := a + 2) rfl k1 (lo := 0) (hi := 511) (by omega) (by omega)
  have hv1 := kz_vn (by omega) p5
  obtain ⟨v2, d2, q1, q2, q3, q4, q5⟩ := y_number p2 hN p4 (by omega) (a2 := a + 3) rfl k2 (lo := v1) (hi := 511) (by omega) (by omega)
  have hv2 := kz_vn (by omega) q5
  obtain ⟨v3, d3, u1, u2, u3, u4, u5⟩ := y_number q2 hN q4 (by omega) (a2 := a + 4) rfl k3 (lo := 1) (hi := 99) (by omega) (by omega)
  have hv3 := kz_vn (by omega) u5
  obtain ⟨v4, d4, w1, w2, w3, w4, w5⟩ := y_number u2 hN u4 (by omega) (a2 := a + 5) rfl k4 (lo := 1) (hi := 99) (by omega) (by omega)
  have hv4 := kz_vn (by omega) w5
  have fn := kd_fn_t (kd_fn_t (kd_fn_t p3 q3) u3) w3
  have hT4 := kd_TT hT fn
  have g11 := hT4.2.2.1.2.2.2.2.1
  have p1' : X3_number (A1 b) d (b + 1) 0 511 = some (wI v1, d1) := p1
  have q1' : X3_number (A1 b) d1 (b + 1) (wI v1) 511 = some (wI v2, d2) := q1
  have u1' : X3_number (A1 b) d2 (b + 1) 1 99 = some (wI v3, d3) := u1
  have w1' : X3_number (A1 b) d3 (b + 1) 1 99 = some (wI v4, d4) := w1
  have eF : ky_num (ky_num (ky_num (ky_num F 0 511 (V (a + 1)) (P (a + 1))) v1 511 (V (a + 2)) (P (a + 2))) 1 99 (V (a + 3)) (P (a + 3))) 1 99 (V (a + 4)) (P (a + 4)) = kz_F7 P V a F := by
    unfold kz_F7 kz_nu
    by_cases g : 0 ≤ V (a + 1) ∧ V (a + 1) ≤ 511
    · rw [if_pos g] at p5
      rw [p5]
    · have gb := ky_num_b (F := F) (p := P (a + 1)) g
      rw [ky_num_f gb, ky_num_f gb, ky_num_f gb, ky_num_f gb, ky_num_f gb, ky_num_f gb]
  rw [eF] at w2 w4
  obtain ⟨d5, hd5⟩ : ∃ y, y = q_pI (q_pJ (q_pJ (q_pJ (q_pJ d4 (t + 5) (Tnj T) (wJ v1)) (t + 7) (Tnj T) (wJ v2)) (t + 9) (Tnj T) (wJ v3)) (t + 11) (Tnj T) (wJ v4)) t 11 (wI (Tnj T + 1 : Nat)) := ⟨_, rfl⟩
  have hfr : kt_fr t d4 d5 := by
    rw [hd5]
    exact kt_fr_t (kt_fr_t (kt_fr_t (kt_fr_t (kt_fr_J (by omega)) (kt_fr_J (by omega))) (kt_fr_J (by omega))) (kt_fr_J (by omega))) (kt_fr_I (by omega))
  refine ⟨d5, ?_, kd_R_i (kd_fr_t (kd_fn_fr fn) (kt_fr_d hfr)) (kd_Y_t w2 ht hfr) w4 (fun h0 => ?_)⟩
  · unfold X3_makeJam
    rw [p1']
    simp only [b2s]
    rw [q1']
    simp only [b2s]
    rw [u1']
    simp only [b2s]
    rw [w1']
    simp only [b2s]
    unfold X10_layJam
    rw [g11, t1_3 ht, r_put (t1_7 ht) (t1_l3 ht) (by omega) hn]
    simp only [b1s, q_pJ_1]
    rw [g11, t1_4 ht, r_put (t1_8 ht) (t1_l4 ht) (by omega) hn]
    simp only [b1s, q_pJ_1]
    rw [g11, t1_5 ht, r_put (t1_9 ht) (t1_l5 ht) (by omega) hn]
    simp only [b1s, q_pJ_1]
    rw [g11, t1_6 ht, r_put (t1_10 ht) (t1_l6 ht) (by omega) hn]
    simp only [b1s, q_pJ_1, o1s]
    rw [g11, wI_wJ (by omega) (by omega), wI_wJ (by omega) (by omega), wI_wJ (by omega) (by omega), wI_wJ (by omega) (by omega), show wI (Tnj T) + 1 = wI (Tnj T + 1 : Nat) from wI_add _ 1, ← hd5]
  · unfold kz_F7 at h0
    have j1 := kz_nu_0 h0
    have j2 := kz_nu_0 j1.1
    have j3 := kz_nu_0 j2.1
    have j4 := kz_nu_0 j3.1
    rw [if_pos j4.2] at p5
    rw [p5, if_pos j3.2] at q5
    rw [if_pos j2.2] at u5
    rw [if_pos j1.2] at w5
    have e1 : ((kz_n V (a + 1) : Nat) : Int) = v1 := by unfold kz_n; omega
    have e2 : ((kz_n V (a + 2) : Nat) : Int) = v2 := by unfold kz_n; omega
    have e3 : ((kz_n V (a + 3) : Nat) : Int) = v3 := by unfold kz_n; omega
    have e4 : ((kz_n V (a + 4) : Nat) : Int) = v4 := by unfold kz_n; omega
    unfold kz_T7
    refine T_addjam hT4 hn (by omega) (by omega) (by omega) (by omega) ?_ (fun j hj => ?_) ⟨?_, ?_, ?_, ?_⟩ (fun j hj => ⟨?_, ?_, ?_, ?_⟩) (fun x z1 z2 z3 => ?_) (fun x z1 z2 => ?_) (fun x z1 z2 => ?_)
    · rw [hd5, q_pI_s]
    · rw [hd5, q_pI_k hj]; rfl
    · rw [hd5, q_pI_2, q_pJ_o (by omega), q_pJ_o (by omega), q_pJ_o (by omega), q_pJ_s, e1]
    · rw [hd5, q_pI_2, q_pJ_o (by omega), q_pJ_o (by omega), q_pJ_s, e2]
    · rw [hd5, q_pI_2, q_pJ_o (by omega), q_pJ_s, e3]
    · rw [hd5, q_pI_2, q_pJ_s, e4]
    · rw [hd5, q_pI_2, q_pJ_o (by omega), q_pJ_o (by omega), q_pJ_o (by omega), q_pJ_k hj]
    · rw [hd5, q_pI_2, q_pJ_o (by omega), q_pJ_o (by omega), q_pJ_k hj, q_pJ_o (by omega)]
    · rw [hd5, q_pI_2, q_pJ_o (by omega), q_pJ_k hj, q_pJ_o (by omega), q_pJ_o (by omega)]
    · rw [hd5, q_pI_2, q_pJ_k hj, q_pJ_o (by omega), q_pJ_o (by omega), q_pJ_o (by omega)]
    · rw [hd5, q_pI_o z3]; rfl
    · rw [hd5, q_pI_2, q_pJ_o (by omega), q_pJ_o (by omega), q_pJ_o (by omega), q_pJ_o (by omega)]
    · rw [hd5]; rfl
def kz_F8 (P : Nat → Nat) (V : Nat → Int) (a : Nat) (F : Nat × Nat) : Nat × Nat := kz_nu P V 0 9999 (kz_nu P V 0 50 F (a + 1)) (a + 2)
def kz_T8 (V : Nat → Int) (T : q_Tl) (a : Nat) : q_Tl := kt_noise T (kz_n V (a + 1)) (kz_n V (a + 2))
theorem y_m8 {b t N a : Nat} {K P : Nat → Nat} {V : Nat → Int} {d : q_Dt} {F : Nat × Nat} {M : q_Nm} {T : q_Tl} (hY : kd_Y b N K P V d (a + 1) F M) (hN : qk_tok K P V N) (hT : q_TT b t d T) (hF : F.1 ≤ 5) (ha : a + 3 ≤ N) (k1 : K (a + 1) = 3) (k2 : K (a + 2) = 3) : ∃ d', q_b2 (X3_number (A1 b) d (b + 1) 0 50) (fun v dt => q_o (q_pI dt t 13 v) (fun dt => q_b2 (X3_number (A1 b) dt (b + 1) 0 9999) (fun v dt => q_o (q_pI dt t 14 v) (fun dt => some dt)))) = some d' ∧ kd_R b t N K P V d d' (a + 3) (kz_F8 P V a F) M (kz_T8 V T a) := by
  have ht := hT.2.1
  have ht1 : t ≠ b + 1 := by omega
  obtain ⟨v1, d1, p1, p2, p3, p4, p5⟩ := y_number hY hN hF (by omega) (a2 := a + 2) rfl k1 (lo := 0) (hi := 50) (by omega) (by omega)
  have hv1 := kz_vn (by omega) p5
  have hf1 : kt_fr t d1 (q_pI d1 t 13 (wI v1)) := kt_fr_I (by omega)
  obtain ⟨v2, d2, q1, q2, q3, q4, q5⟩ := y_number (kd_Y_t p2 ht hf1) hN p4 (by omega) (a2 := a + 3) rfl k2 (lo := 0) (hi := 9999) (by omega) (by omega)
  have hv2 := kz_vn (by omega) q5
  have p1' : X3_number (A1 b) d (b + 1) 0 50 = some (wI v1, d1) := p1
  have q1' : X3_number (A1 b) (q_pI d1 t 13 (wI v1)) (b + 1) 0 9999 = some (wI v2, d2) := q1
  have hf2 : kt_fr t d2 (q_pI d2 t 14 (wI v2)) := kt_fr_I (by omega)
  rw [p1']
  simp only [b2s, o1s]
  rw [q1']
  simp only [b2s]
  refine ⟨_, rfl, kd_R_i (kd_fr_t (kd_fr_t (kd_fr_t (kd_fn_fr p3) (kt_fr_d hf1)) (kd_fn_fr q3)) (kt_fr_d hf2)) (kd_Y_t q2 ht hf2) q4 (fun h0 => ?_)⟩
  have j1 := kz_nu_0 h0
  have j2 := kz_nu_0 j1.1
  rw [if_pos j2.2] at p5
  rw [if_pos j1.2] at q5
  have e1 : ((kz_n V (a + 1) : Nat) : Int) = v1 := by unfold kz_n; omega
  have e2 : ((kz_n V (a + 2) : Nat) : Int) = v2 := by unfold kz_n; omega
  unfold kz_T8
  refine T_noise_s hT (by omega) (by omega) ?_ ?_ (fun j h1 h2 => ?_) (fun x z1 z2 z3 => ?_) (fun x z1 z2 => ?_) (fun x z1 z2 => ?_)
  · rw [q_pI_k (by omega), q3.1 t ht1, q_pI_s, e1]
  · rw [q_pI_s, e2]
  · rw [q_pI_k h2, q3.1 t ht1, q_pI_k h1, p3.1 t ht1]
  · rw [q_pI_o z3, q3.1 x (by omega), q_pI_o z3, p3.1 x (by omega)]
  · rw [q_pI_2, q3.2.1 x (by omega) (by omega) (by omega), q_pI_2, p3.2.1 x (by omega) (by omega) (by omega)]
  · rw [q_pI_2, q3.2.2, q_pI_2, p3.2.2]
def kz_F9 (P : Nat → Nat) (V : Nat → Int) (a : Nat) (F : Nat × Nat) : Nat × Nat := kz_nu P V 16 512 F (a + 1)
def kz_T9 (V : Nat → Int) (T : q_Tl) (a : Nat) : q_Tl := kt_samp T (kz_n V (a + 1))
theorem y_m9 {b t N a : Nat} {K P : Nat → Nat} {V : Nat → Int} {d : q_Dt} {F : Nat × Nat} {M : q_Nm} {T : q_Tl} (hY : kd_Y b N K P V d (a + 1) F M) (hN : qk_tok K P V N) (hT : q_TT b t d T) (hF : F.1 ≤ 5) (ha : a + 2 ≤ N) (k1 : K (a + 1) = 3) : ∃ d', q_b2 (X3_number (A1 b) d (b + 1) 16 512) (fun v dt => q_o (q_pI dt t 12 v) (fun dt => some dt)) = some d' ∧ kd_R b t N K P V d d' (a + 2) (kz_F9 P V a F) M (kz_T9 V T a) := by
  have ht := hT.2.1
  have ht1 : t ≠ b + 1 := by omega
  obtain ⟨v1, d1, p1, p2, p3, p4, p5⟩ := y_number hY hN hF (by omega) (a2 := a + 2) rfl k1 (lo := 16) (hi := 512) (by omega) (by omega)
  have hv1 := kz_vn (by omega) p5
  have hf1 : kt_fr t d1 (q_pI d1 t 12 (wI v1)) := kt_fr_I (by omega)
  have p1' : X3_number (A1 b) d (b + 1) 16 512 = some (wI v1, d1) := p1
  rw [p1']
  simp only [b2s, o1s]
  refine ⟨_, rfl, kd_R_i (kd_fr_t (kd_fn_fr p3) (kt_fr_d hf1)) (kd_Y_t p2 ht hf1) p4 (fun h0 => ?_)⟩
  have j2 := kz_nu_0 h0
  rw [if_pos j2.2] at p5
  have e1 : ((kz_n V (a + 1) : Nat) : Int) = v1 := by unfold kz_n; omega
  unfold kz_T9
  refine T_samp_s hT (by omega) ?_ (fun j h1 => ?_) (fun x z1 z2 z3 => ?_) (fun x z1 z2 => ?_) (fun x z1 z2 => ?_)
  · rw [q_pI_s, e1]
  · rw [q_pI_k h1, p3.1 t ht1]
  · rw [q_pI_o z3, p3.1 x (by omega)]
  · rw [q_pI_2, p3.2.1 x (by omega) (by omega) (by omega)]
  · rw [q_pI_2, p3.2.2]
