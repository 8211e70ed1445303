/-! level two: the class makes senders, echoes, jams, noise, samples -/
/-- nothing but a sender changes -/
def kv_fr (b t S : Nat) (d e : q_Dt) : Prop := (∀ x, x ≠ b + 1 → x ≠ t → x ≠ S → e.1 x = d.1 x) ∧ (∀ x, x ≠ b + 16 → x ≠ b + 18 → x ≠ b + 20 → e.2.1 x = d.2.1 x) ∧ (∀ x, x ≠ S → e.2.2 x = d.2.2 x) ∧ ∀ j, j ≠ 9 → e.1 t j = d.1 t j
theorem kv_fr_t {b t S : Nat} {d e f : q_Dt} (h : kv_fr b t S d e) (h' : kv_fr b t S e f) : kv_fr b t S d f := ⟨fun x h1 h2 h3 => (h'.1 x h1 h2 h3).trans (h.1 x h1 h2 h3), fun x h1 h2 h3 => (h'.2.1 x h1 h2 h3).trans (h.2.1 x h1 h2 h3), fun x h1 => (h'.2.2.1 x h1).trans (h.2.2.1 x h1), fun j hj => (h'.2.2.2 j hj).trans (h.2.2.2 j hj)⟩
theorem kv_fr_n {b t S : Nat} {d e : q_Dt} (h : kd_fn b d e) (ht : t ≠ b + 1) : kv_fr b t S d e := ⟨fun x h1 _ _ => h.1 x h1, fun x h1 h2 h3 => h.2.1 x h1 h2 h3, fun x _ => by rw [h.2.2], fun j _ => by rw [h.1 t ht]⟩
theorem kv_fr_I {b t S k : Nat} {d : q_Dt} {v : Int32} (ht : t ≠ S) : kv_fr b t S d (q_pI d S k v) := ⟨fun x _ _ h3 => q_pI_o h3, fun _ _ _ _ => rfl, fun _ _ => rfl, fun j _ => by rw [q_pI_o ht]⟩
theorem kv_fr_9 {b t S : Nat} {d : q_Dt} {v : Int32} : kv_fr b t S d (q_pI d t 9 v) := ⟨fun x _ h2 _ => q_pI_o h2, fun _ _ _ _ => rfl, fun _ _ => rfl, fun j hj => q_pI_k hj⟩
theorem kv_fr_R {b t S k : Nat} {d : q_Dt} {v : Option Nat} : kv_fr b t S d (q_pR d S k v) := ⟨fun _ _ _ _ => rfl, fun _ _ _ _ => rfl, fun x hx => by
  funext j
  show (if x = S ∧ j = k then v else d.2.2 x j) = d.2.2 x j
  rw [if_neg (fun q => hx q.1)], fun _ _ => rfl⟩
theorem kt_fr_R {t a k : Nat} {d : q_Dt} {v : Option Nat} (h : t ≤ a ∧ a < t + 72) : kt_fr t d (q_pR d a k v) := fun x hx => ⟨rfl, rfl, by
  funext j
  show (if x = a ∧ j = k then v else d.2.2 x j) = d.2.2 x j
  rw [if_neg (by omega)]⟩
theorem kd_fr_v {b t S : Nat} {d e : q_Dt} (h : kv_fr b t S d e) (hS : t ≤ S ∧ S < t + 72) : kd_fr b t d e := fun x h1 h2 h3 h4 h5 => ⟨h.1 x h1 (by omega) (by omega), h.2.1 x h2 h3 h4, h.2.2.1 x (by omega)⟩
def kz_F5a (P : Nat → Nat) (V : Nat → Int) (M : q_Nm) (T : q_Tl) (a : Nat) (F : Nat × Nat) : Nat × Nat := kz_nu P V 0 9999 (kz_nu P V 0 3 (kz_nu P V 0 ((Tlen T (kz_c V M 0 (a + 2)) : Int) - 1) (kz_nu P V 1 99 (kz_un P V M 0 (kz_du P V M F (a + 1)) (a + 2)) (a + 3)) (a + 4)) (a + 5)) (a + 6)
def kz_F5 (K P : Nat → Nat) (V : Nat → Int) (M : q_Nm) (T : q_Tl) (a : Nat) (F : Nat × Nat) : Nat × Nat := if K (a + 7) = 6 then kz_nu P V 1 99 (kz_F5a P V M T a F) (a + 8) else kz_F5a P V M T a F
def kz_T5 (K : Nat → Nat) (V : Nat → Int) (M : q_Nm) (T : q_Tl) (a : Nat) : q_Tl := kt_send T (kz_c V M 0 (a + 2)) (kz_n V (a + 3)) (kz_n V (a + 4)) (kz_n V (a + 5)) (kz_n V (a + 6)) (if K (a + 7) = 6 then kz_n V (a + 8) else 0)
theorem kz_F5_f {K P : Nat → Nat} {V : Nat → Int} {M : q_Nm} {T : q_Tl} {a : Nat} {F : Nat × Nat} (h : (kz_un P V M 0 (kz_du P V M F (a + 1)) (a + 2)).1 ≠ 0) : kz_F5a P V M T a F = kz_un P V M 0 (kz_du P V M F (a + 1)) (a + 2) ∧ kz_F5 K P V M T a F = kz_un P V M 0 (kz_du P V M F (a + 1)) (a + 2) := by
  have e : kz_F5a P V M T a F = kz_un P V M 0 (kz_du P V M F (a + 1)) (a + 2) := by
    unfold kz_F5a
    rw [kz_nu_f h, kz_nu_f h, kz_nu_f h, kz_nu_f h]
  refine ⟨e, ?_⟩
  unfold kz_F5
  rw [e, kz_nu_f h, ite_self]
theorem y_nextSend {b t : Nat} {d : q_Dt} {T : q_Tl} (hT : q_TT b t d T) (hn : Tns T < 6) : X10_nextSender (A1 b) d t = some (some (t + 42 + 5 * Tns T), q_pI d t 9 (wI (Tns T + 1 : Nat))) := by
  have ht := hT.2.1
  have e7 := hT.2.2.1.2.2.1
  have e8 : wI (Tns T + 1 : Nat) - 1 = wI (Tns T) := by
    rw [show (1 : Int32) = wI 1 from rfl, wI_sub]
    congr 1
    omega
  unfold X10_nextSender
  simp only [o1s]
  rw [e7, show wI (Tns T) + 1 = wI (Tns T + 1 : Nat) from wI_add (Tns T) 1, q_pI_s, e8]
  simp (disch := omega) only [X10_senderAt, q_pI_s, t1_2 ht, t1_l2 ht, wI_ofNat, wI_lit, wI_lt, wI_le, wI_nat, Int.toNat_natCast, ts_0 ht]
  rw [if_neg (by omega), if_neg (by omega), if_neg (by omega), if_neg (by omega)]
  simp only [b1s]
set_option maxHeartbeats 8000000 in
theorem y_m5 {b t N a : Nat} {K P : Nat → Nat} {V : Nat → Int} {d : q_Dt} {F : Nat × Nat} {M : q_Nm} {T : q_Tl} (hY : kd_Y b N K P V d (a + 1) F M) (hN : qk_tok K P V N) (hM : kn_wf M) (hM2 : M.1 < 20) (hu : kn_un M) (hr : kn_r M T) (hT : q_TT b t d T) (hn : Tns T < 6) (hF : F.1 ≤ 5) (ha : a + 7 ≤ N) (ha2 : K (a + 7) = 6 → a + 9 ≤ N) (k1 : K (a + 1) = 2) (k2 : K (a + 2) = 2) (k3 : K (a + 3) = 3) (k4 : K (a + 4) = 3) (k5 : K (a + 5) = 3) (k6 : K (a + 6) = 3) (k8 : K (a + 7) = 6 → K (a + 8) = 3) : ∃ d', X3_makeSender (A1 b) d (b + 1) t = some d' ∧ kd_R b t N K P V d d' (if K (a + 7) = 6 then a + 9 else a + 7) (kz_F5 K P V M T a F) (kn_add M (V (a + 1)) 2 (Tns T)) (kz_T5 K V M T a) := by
  have ht := hT.2.1
  have hN4 := hN.1
  have hwC := hT.1.2.1
  have hv1 := (hN.2.2.2.2.2 (a + 1)).2.2 k1
  have hM' : kn_wf (kn_add M (V (a + 1)) 2 (Tns T)) := kn_add_wf hM hM2 hv1 (by omega) (by omega)
  obtain ⟨d1, r1, r2, r3, r4⟩ := y_newName hY hN hM hM2 hF (by omega) (a2 := a + 2) rfl k1 (s := 2) (z := Tns T) (by omega) (by omega)
  have hu1 : (kz_du P V M F (a + 1)).1 = 0 → kn_un (kn_add M (V (a + 1)) 2 (Tns T)) := fun q => kn_un_add hu (kz_du_0 q).2
  obtain ⟨o1, d2, p1, p2, p3, p4, p5, p6, p7⟩ := y_codeN r2 hN hM' hr (kd_TT hT r3) r4 hu1 (fun q => absurd q (by omega)) (by omega) (a2 := a + 3) rfl k2
  have hT2 := kd_TT hT (kd_fn_t r3 p3)
  have e9 := hT.2.2.1.2.2.1
  have r1' : X3_newName (A1 b) d (b + 1) 5 (wI (Tns T)) = some d1 := r1
  obtain ⟨S, hS⟩ : ∃ S, S = t + 42 + 5 * Tns T := ⟨_, rfl⟩
  have hSt : t ≤ S ∧ S < t + 72 := by omega
  have hb1 : b + 1 ≠ S := by omega
  have hS1 : S ≠ b + 1 := by omega
  have hts : t ≠ S := by omega
  have ht1 : t ≠ b + 1 := by omega
  have ns := y_nextSend hT2 hn
  rw [← hS] at ns
  obtain ⟨d3, hd3⟩ : ∃ z, z = q_pI d2 t 9 (wI (Tns T + 1 : Nat)) := ⟨_, rfl⟩
  have f3 : kv_fr b t S d d3 := by
    rw [hd3]
    exact kv_fr_t (kv_fr_n (kd_fn_t r3 p3) ht1) kv_fr_9
  have hY3 : kd_Y b N K P V d3 (a + 3) (kz_un P V M 0 (kz_du P V M F (a + 1)) (a + 2)) (kn_add M (V (a + 1)) 2 (Tns T)) := by
    rw [hd3]
    exact kd_Y_t p2 ht (kt_fr_I (by omega))
  have h39 : d3.1 t 9 = wI (Tns T + 1 : Nat) := by rw [hd3, q_pI_s]
  unfold X3_makeSender
  rw [e9, r1']
  simp only [b1s]
  rw [p1]
  simp only [b2s]
  rw [ns]
  simp only [b2s]
  rw [← hd3]
  cases o1 with
  | none =>
    have hb := p7 rfl
    refine ⟨d3, rfl, ?_⟩
    rw [(kz_F5_f hb).2]
    exact ⟨kd_fr_v f3 hSt, hY3.2.2.1, hY3.2.2.2.1, p6, fun q => absurd q hb⟩
  | some c =>
    have hc := p4 c rfl
    have hL := hwC c hc
    have hnc := hT.1.1
    have hcS : t + 12 + 3 * c ≠ S := by omega
    have eo : ky_ob (some c) t = some (t + 12 + 3 * c) := rfl
    rw [eo]
    simp only [m1s, o1s]
    obtain ⟨d5, hd5⟩ : ∃ z, z = q_pI (q_pR d3 S 2 (some (t + 12 + 3 * c))) S 3 0 := ⟨_, rfl⟩
    rw [← hd5]
    have f5 : kv_fr b t S d d5 := by
      rw [hd5]
      exact kv_fr_t (kv_fr_t f3 kv_fr_R) (kv_fr_I hts)
    have hY5 := kd_Y_t hY3 ht (show kt_fr t d3 d5 by rw [hd5]; exact kt_fr_t (kt_fr_R hSt) (kt_fr_I hSt))
    have h5r : d5.2.2 S 2 = some (t + 12 + 3 * c) := by
      rw [hd5]
      show (if S = S ∧ 2 = 2 then some (t + 12 + 3 * c) else d3.2.2 S 2) = _
      rw [if_pos ⟨rfl, rfl⟩]
    obtain ⟨v1, d6, q1, q2, q3, q4, q5⟩ := y_number hY5 hN p6 (by omega) (a2 := a + 4) rfl k3 (lo := 1) (hi := 99) (by omega) (by omega)
    have hv1b := kz_vn (by omega) q5
    have q1' : X3_number (A1 b) d5 (b + 1) 1 99 = some (wI v1, d6) := q1
    rw [q1']
    simp only [b2s]
    obtain ⟨d7, hd7⟩ : ∃ z, z = q_pI d6 S 4 (wI v1) := ⟨_, rfl⟩
    rw [← hd7]
    have f7 : kv_fr b t S d d7 := by
      rw [hd7]
      exact kv_fr_t (kv_fr_t f5 (kv_fr_n q3 ht1)) (kv_fr_I hts)
    have hY7 := kd_Y_t q2 ht (show kt_fr t d6 d7 by rw [hd7]; exact kt_fr_I hSt)
    have eL : d7.1 (t + 12 + 3 * c) 1 = wI (Tlen T c) := (congrFun (f7.1 _ (by omega) (by omega) hcS) 1).trans (hT.2.2.2.1 c hc).1
    rw [eL, show wI (Tlen T c) - 1 = wI ((Tlen T c : Int) - 1) from wI_sub _ 1]
    obtain ⟨v2, d8, u1, u2, u3, u4, u5⟩ := y_number hY7 hN q4 (by omega) (a2 := a + 5) rfl k4 (lo := 0) (hi := (Tlen T c : Int) - 1) (by omega) (by omega)
    have hv2b := kz_vn (by omega) u5
    have u1' : X3_number (A1 b) d7 (b + 1) 0 (wI ((Tlen T c : Int) - 1)) = some (wI v2, d8) := u1
    rw [u1']
    simp only [b2s]
    obtain ⟨d9, hd9⟩ : ∃ z, z = q_pI d8 S 5 (wI v2) := ⟨_, rfl⟩
    rw [← hd9]
    have f9 : kv_fr b t S d d9 := by
      rw [hd9]
      exact kv_fr_t (kv_fr_t f7 (kv_fr_n u3 ht1)) (kv_fr_I hts)
    have hY9 := kd_Y_t u2 ht (show kt_fr t d8 d9 by rw [hd9]; exact kt_fr_I hSt)
    obtain ⟨v3, d10, w1, w2, w3, w4, w5⟩ := y_number hY9 hN u4 (by omega) (a2 := a + 6) rfl k5 (lo := 0) (hi := 3) (by omega) (by omega)
    have hv3b := kz_vn (by omega) w5
    have w1' : X3_number (A1 b) d9 (b + 1) 0 3 = some (wI v3, d10) := w1
    rw [w1']
    simp only [b2s]
    obtain ⟨d11, hd11⟩ : ∃ z, z = q_pI d10 S 6 (wI v3) := ⟨_, rfl⟩
    rw [← hd11]
    have f11 : kv_fr b t S d d11 := by
      rw [hd11]
      exact kv_fr_t (kv_fr_t f9 (kv_fr_n w3 ht1)) (kv_fr_I hts)
    have hY11 := kd_Y_t w2 ht (show kt_fr t d10 d11 by rw [hd11]; exact kt_fr_I hSt)
    obtain ⟨v4, d12, x1, x2, x3, x4, x5⟩ := y_number hY11 hN w4 (by omega) (a2 := a + 7) rfl k6 (lo := 0) (hi := 9999) (by omega) (by omega)
    have hv4b := kz_vn (by omega) x5
    have x1' : X3_number (A1 b) d11 (b + 1) 0 9999 = some (wI v4, d12) := x1
    rw [x1']
    simp only [b2s]
    obtain ⟨d14, hd14⟩ : ∃ z, z = q_pI (q_pI d12 S 7 (wI v4)) S 8 0 := ⟨_, rfl⟩
    rw [← hd14]
    have f14 : kv_fr b t S d d14 := by
      rw [hd14]
      exact kv_fr_t (kv_fr_t (kv_fr_t f11 (kv_fr_n x3 ht1)) (kv_fr_I hts)) (kv_fr_I hts)
    have hY14 := kd_Y_t x2 ht (show kt_fr t d12 d14 by rw [hd14]; exact kt_fr_t (kt_fr_I hSt) (kt_fr_I hSt))
    have g3 : d14.1 S 3 = wI (0 : Nat) ∧ d14.1 S 4 = wI v1 ∧ d14.1 S 5 = wI v2 ∧ d14.1 S 6 = wI v3 ∧ d14.1 S 7 = wI v4 ∧ d14.1 S 8 = wI (0 : Nat) := by
      rw [hd14]
      refine ⟨?_, ?_, ?_, ?_, ?_, q_pI_s⟩
      · rw [q_pI_k (by omega), q_pI_k (by omega), x3.1 S hS1, hd11, q_pI_k (by omega), w3.1 S hS1, hd9, q_pI_k (by omega), u3.1 S hS1, hd7, q_pI_k (by omega), q3.1 S hS1, hd5, q_pI_s]
        rfl
      · rw [q_pI_k (by omega), q_pI_k (by omega), x3.1 S hS1, hd11, q_pI_k (by omega), w3.1 S hS1, hd9, q_pI_k (by omega), u3.1 S hS1, hd7, q_pI_s]
      · rw [q_pI_k (by omega), q_pI_k (by omega), x3.1 S hS1, hd11, q_pI_k (by omega), w3.1 S hS1, hd9, q_pI_s]
      · rw [q_pI_k (by omega), q_pI_k (by omega), x3.1 S hS1, hd11, q_pI_s]
      · rw [q_pI_k (by omega), q_pI_s]
    have g39 : d14.1 t 9 = wI (Tns T + 1 : Nat) := by
      rw [hd14, q_pI_o hts, q_pI_o hts, x3.1 t ht1, hd11, q_pI_o hts, w3.1 t ht1, hd9, q_pI_o hts, u3.1 t ht1, hd7, q_pI_o hts, q3.1 t ht1, hd5, q_pI_o hts]
      exact h39
    have g2r : d14.2.2 S 2 = some (t + 12 + 3 * c) := by
      rw [hd14, q_pI_2, q_pI_2, x3.2.2, hd11, q_pI_2, w3.2.2, hd9, q_pI_2, u3.2.2, hd7, q_pI_2, q3.2.2]
      exact h5r
    -- the fault
    have eF : ky_num (ky_num (ky_num (ky_num (kz_un P V M 0 (kz_du P V M F (a + 1)) (a + 2)) 1 99 (V (a + 3)) (P (a + 3))) 0 ((Tlen T c : Int) - 1) (V (a + 4)) (P (a + 4))) 0 3 (V (a + 5)) (P (a + 5))) 0 9999 (V (a + 6)) (P (a + 6)) = kz_F5a P V M T a F := by
      by_cases h0 : (kz_un P V M 0 (kz_du P V M F (a + 1)) (a + 2)).1 = 0
      · have h1 := kz_un_0 h0
        have h3 := p5 h1.1
        unfold kz_F5a kz_nu kz_c
        rw [← h3]
        rfl
      · rw [(kz_F5_f (K := K) h0).1, ky_num_f h0, ky_num_f h0, ky_num_f h0, ky_num_f h0]
    have x4' := x4
    rw [eF] at hY14 x4'
    have hfin : ∀ (e : q_Dt) (df : Nat), kv_fr b t S d e → e.1 t 9 = wI (Tns T + 1 : Nat) → e.2.2 S 2 = some (t + 12 + 3 * c) → (∀ k, k ≠ 8 → e.1 S k = d14.1 S k) → e.1 S 8 = wI df → df ≤ 99 → (kz_F5a P V M T a F).1 = 0 → q_TT b t e (kt_send T (kz_c V M 0 (a + 2)) (kz_n V (a + 3)) (kz_n V (a + 4)) (kz_n V (a + 5)) (kz_n V (a + 6)) df) := by
      intro e df h1 h2 h3 h4 h5 h6 h0
      unfold kz_F5a at h0
      have j1 := kz_nu_0 h0
      have j2 := kz_nu_0 j1.1
      have j3 := kz_nu_0 j2.1
      have j4 := kz_nu_0 j3.1
      have j5 := kz_un_0 j4.1
      have j6 := p5 j5.1
      have ec : kz_c V M 0 (a + 2) = c := by
        unfold kz_c
        rw [← j6]
        rfl
      rw [ec] at j3 ⊢
      rw [if_pos j4.2] at q5
      rw [if_pos j3.2] at u5
      rw [if_pos j2.2] at w5
      rw [if_pos j1.2] at x5
      have e3 : ((kz_n V (a + 3) : Nat) : Int) = v1 := by unfold kz_n; omega
      have e4 : ((kz_n V (a + 4) : Nat) : Int) = v2 := by unfold kz_n; omega
      have e5 : ((kz_n V (a + 5) : Nat) : Int) = v3 := by unfold kz_n; omega
      have e6 : ((kz_n V (a + 6) : Nat) : Int) = v4 := by unfold kz_n; omega
      refine T_addsend hT hn hc (by omega) (by omega) (by omega) (by omega) h6 h2 (fun j hj => h1.2.2.2 j hj) ?_ ?_ (fun x z1 z2 z3 z4 => h1.1 x (by omega) z3 (by omega)) (fun x z1 z2 => h1.2.1 x (by omega) (by omega) (by omega)) (fun x z1 z2 z3 => h1.2.2.1 x (by omega))
      · rw [← hS]; exact h3
      · rw [← hS, h4 3 (by omega), h4 4 (by omega), h4 5 (by omega), h4 6 (by omega), h4 7 (by omega), e3, e4, e5, e6]
        exact ⟨g3.1, g3.2.1, g3.2.2.1, g3.2.2.2.1, g3.2.2.2.2.1, h5⟩
    rw [hY14.2.1, y_kindm hY14.1 hN4 (by omega)]
    have hKb := (hN.2.2.2.1 (a + 7)).1
    simp only [b1s]
    have eK : (wJ ((K (a + 7) : Nat) : Int) = 6) = (K (a + 7) = 6) := by
      rw [show (6 : Int64) = wJ ((6 : Nat) : Int) from rfl, wJ_eq (by omega) (by omega) (by omega) (by omega)]
      exact propext ⟨fun q => by omega, fun q => by omega⟩
    simp only [eK]
    unfold kz_F5 kz_T5
    by_cases g : K (a + 7) = 6
    · have ha9 := ha2 g
      rw [if_pos g, if_pos g, if_pos g, if_pos g, show wI ((a + 7 : Nat) : Int) + 1 = wI (a + 8 : Nat) from wI_add _ 1]
      obtain ⟨y1, y2⟩ := y_step (a2 := a + 8) hY14
      obtain ⟨v5, d16, z1, z2, z3, z4, z5⟩ := y_number y1 hN x4' (by omega) (a2 := a + 9) rfl (k8 g) (lo := 1) (hi := 99) (by omega) (by omega)
      have hv5b := kz_vn (by omega) z5
      have z1' : X3_number (A1 b) (q_pI d14 (b + 1) 5 (wI (a + 8 : Nat))) (b + 1) 1 99 = some (wI v5, d16) := z1
      rw [z1']
      simp only [b2s]
      have f16 : kv_fr b t S d (q_pI d16 S 8 (wI v5)) := kv_fr_t (kv_fr_t (kv_fr_t f14 (kv_fr_n y2 ht1)) (kv_fr_n z3 ht1)) (kv_fr_I hts)
      refine ⟨_, rfl, kd_R_i (kd_fr_v f16 hSt) (kd_Y_t z2 ht (kt_fr_I hSt)) z4 (fun h0 => ?_)⟩
      have h1 := kz_nu_0 h0
      rw [if_pos h1.2] at z5
      have e8 : ((kz_n V (a + 8) : Nat) : Int) = v5 := by unfold kz_n; omega
      refine hfin _ _ f16 ?_ ?_ (fun k hk => ?_) ?_ (by omega) h1.1
      · rw [q_pI_o hts, z3.1 t ht1, y2.1 t ht1]
        exact g39
      · rw [q_pI_2, z3.2.2, y2.2.2]
        exact g2r
      · rw [q_pI_k hk, z3.1 S hS1, y2.1 S hS1]
      · rw [q_pI_s, e8]
    · rw [if_neg g, if_neg g, if_neg g, if_neg g]
      exact ⟨d14, rfl, kd_R_i (kd_fr_v f14 hSt) hY14 x4' (fun h0 => hfin d14 0 f14 g39 g2r (fun k _ => rfl) g3.2.2.2.2.2 (by omega) h0)⟩
