/-! level two: the class makes what a text tells -/
def kz_nu (P : Nat → Nat) (V : Nat → Int) (lo hi : Int) (F : Nat × Nat) (a : Nat) : Nat × Nat := ky_num F lo hi (V a) (P a)
def kz_un (P : Nat → Nat) (V : Nat → Int) (M : q_Nm) (s : Nat) (F : Nat × Nat) (a : Nat) : Nat × Nat := if kn_fd M (V a) s M.1 0 = none then ky_bad F 4 (P a) else F
def kz_n (V : Nat → Int) (a : Nat) : Nat := (V a).toNat
def kz_c (V : Nat → Int) (M : q_Nm) (s a : Nat) : Nat := (kn_fd M (V a) s M.1 0).getD 0
theorem kz_un_f {P : Nat → Nat} {V : Nat → Int} {M : q_Nm} {s : Nat} {F : Nat × Nat} {a : Nat} (h : F.1 ≠ 0) : kz_un P V M s F a = F := by
  unfold kz_un
  rw [ky_bad_f h, ite_self]
theorem kz_un_0 {P : Nat → Nat} {V : Nat → Int} {M : q_Nm} {s : Nat} {F : Nat × Nat} {a : Nat} (h : (kz_un P V M s F a).1 = 0) : F.1 = 0 ∧ kn_fd M (V a) s M.1 0 = some (kz_c V M s a) := by
  unfold kz_un at h
  unfold kz_c
  cases e : kn_fd M (V a) s M.1 0 with
  | none => rw [if_pos e] at h; exact absurd h (ky_bad_n (by omega))
  | some c => rw [if_neg (by rw [e]; exact fun q => nomatch q)] at h; exact ⟨h, rfl⟩
theorem kz_nu_f {P : Nat → Nat} {V : Nat → Int} {lo hi : Int} {F : Nat × Nat} {a : Nat} (h : F.1 ≠ 0) : kz_nu P V lo hi F a = F := ky_num_f h
theorem kz_nu_0 {P : Nat → Nat} {V : Nat → Int} {lo hi : Int} {F : Nat × Nat} {a : Nat} (h : (kz_nu P V lo hi F a).1 = 0) : F.1 = 0 ∧ (lo ≤ V a ∧ V a ≤ hi) := ky_num_0 h
theorem kz_nu_b {P : Nat → Nat} {V : Nat → Int} {lo hi : Int} {F : Nat × Nat} {a : Nat} (h : ¬ (lo ≤ V a ∧ V a ≤ hi)) : (kz_nu P V lo hi F a).1 ≠ 0 := ky_num_b h
/-- nothing but what is told changes -/
def kt_fr (t : Nat) (d e : q_Dt) : Prop := ∀ x, (x < t ∨ t + 72 ≤ x) → e.1 x = d.1 x ∧ e.2.1 x = d.2.1 x ∧ e.2.2 x = d.2.2 x
theorem kt_fr_r {t : Nat} {d : q_Dt} : kt_fr t d d := fun _ _ => ⟨rfl, rfl, rfl⟩
theorem kt_fr_t {t : Nat} {d e f : q_Dt} (h : kt_fr t d e) (h' : kt_fr t e f) : kt_fr t d f := fun x hx => ⟨(h' x hx).1.trans (h x hx).1, (h' x hx).2.1.trans (h x hx).2.1, (h' x hx).2.2.trans (h x hx).2.2⟩
theorem kt_fr_I {t a k : Nat} {d : q_Dt} {v : Int32} (h : t ≤ a ∧ a < t + 72) : kt_fr t d (q_pI d a k v) := fun x hx => ⟨q_pI_o (by omega), rfl, rfl⟩
theorem kt_fr_J {t a k : Nat} {d : q_Dt} {v : Int64} (h : t ≤ a ∧ a < t + 72) : kt_fr t d (q_pJ d a k v) := fun x hx => ⟨rfl, q_pJ_o (by omega), rfl⟩
theorem kt_fr_d {b t : Nat} {d e : q_Dt} (h : kt_fr t d e) : kd_fr b t d e := fun x _ _ _ _ h5 => h x h5
theorem kd_Y_t {b t N : Nat} {K P : Nat → Nat} {V : Nat → Int} {d e : q_Dt} {a : Nat} {F : Nat × Nat} {M : q_Nm} (h : kd_Y b N K P V d a F M) (ht : t = b + 77 ∨ t = b + 149) (hf : kt_fr t d e) : kd_Y b N K P V e a F M := by
  obtain ⟨h1, h2⟩ := h
  refine ⟨fun j hj => ?_, ?_⟩
  · rw [(hf (b + 6) (by omega)).2.1, (hf (b + 8) (by omega)).2.1, (hf (b + 10) (by omega)).2.1]
    exact h1 j hj
  · rw [(hf (b + 1) (by omega)).1, (hf (b + 16) (by omega)).2.1, (hf (b + 18) (by omega)).2.1, (hf (b + 20) (by omega)).2.1]
    exact h2
theorem y_next {b t : Nat} {d : q_Dt} {T : q_Tl} (hT : q_TT b t d T) (hn : Tnc T < 8) : X10_nextCode (A1 b) d t = some (some (t + 12 + 3 * Tnc T), q_pI d t 7 (wI (Tnc T + 1 : Nat))) := by
  have ht := hT.2.1
  have e7 := hT.2.2.1.1
  have e8 : wI (Tnc T + 1 : Nat) - 1 = wI (Tnc T) := by
    rw [show (1 : Int32) = wI 1 from rfl, wI_sub]
    congr 1
    omega
  unfold X10_nextCode
  simp only [o1s]
  rw [e7, show wI (Tnc T) + 1 = wI (Tnc T + 1 : Nat) from wI_add (Tnc T) 1, q_pI_s, e8]
  simp (disch := omega) only [X10_codeAt, q_pI_s, t1_0 ht, t1_l0 ht, wI_ofNat, wI_lit, wI_lt, wI_le, wI_nat, Int.toNat_natCast, tc_0 ht]
  rw [if_neg (by omega), if_neg (by omega), if_neg (by omega), if_neg (by omega)]
  simp only [b1s]
theorem y_laid {b t : Nat} {d : q_Dt} {T : q_Tl} {len : Nat} {ch : Nat → Int} (hT : q_TT b t d T) (hn : Tnc T < 8) (hl : 1 ≤ len ∧ len ≤ 127) (hc : ∀ i, i < len → ch i = 1 ∨ ch i = -1) : q_TT b t (kc_L1 (q_pI d t 7 (wI (Tnc T + 1 : Nat))) t (Tnc T) len ch) (kt_code T len ch) := by
  have ht := hT.2.1
  unfold kc_L1
  refine T_addcode hT hn hl hc ?_ (fun j hj => ?_) kc_L1_len (fun i hi => q_row_i hi) (fun x h1 h2 h3 h4 => ?_) (fun x h1 h2 h3 => ?_) (fun x _ _ => rfl)
  · show (q_pI (q_pI d t 7 _) (t + 12 + 3 * Tnc T) 1 (wI len)).1 t 7 = _
    rw [q_pI_o (by omega), q_pI_s]
  · show (q_pI (q_pI d t 7 _) (t + 12 + 3 * Tnc T) 1 (wI len)).1 t j = _
    rw [q_pI_o (by omega), q_pI_k hj]
  · show (q_pI (q_pI d t 7 _) (t + 12 + 3 * Tnc T) 1 (wI len)).1 x = _
    rw [q_pI_o h4, q_pI_o h3]
  · rw [q_row_o h3]; rfl
theorem y_laid_f {t c len : Nat} {d : q_Dt} {ch : Nat → Int} {v : Int32} (hc : c < 8) : kt_fr t d (kc_L1 (q_pI d t 7 v) t c len ch) := by
  intro x hx
  unfold kc_L1
  refine ⟨?_, ?_, rfl⟩
  · show (q_pI (q_pI d t 7 _) (t + 12 + 3 * c) 1 (wI len)).1 x = _
    rw [q_pI_o (by omega), q_pI_o (by omega)]
  · rw [q_row_o (by omega)]; rfl
/-- what one tell of the class comes to -/
def kd_R (b t N : Nat) (K P : Nat → Nat) (V : Nat → Int) (d d' : q_Dt) (a : Nat) (F : Nat × Nat) (M : q_Nm) (T : q_Tl) : Prop := kd_fr b t d d' ∧ d'.1 (b + 1) 6 = wI F.1 ∧ kd_7 (d'.1 (b + 1) 7) F ∧ F.1 ≤ 5 ∧ (F.1 = 0 → kd_Y b N K P V d' a F M ∧ q_TT b t d' T)
theorem kd_R_i {b t N : Nat} {K P : Nat → Nat} {V : Nat → Int} {d d' : q_Dt} {a : Nat} {F : Nat × Nat} {M : q_Nm} {T : q_Tl} (h1 : kd_fr b t d d') (h2 : kd_Y b N K P V d' a F M) (h3 : F.1 ≤ 5) (h4 : F.1 = 0 → q_TT b t d' T) : kd_R b t N K P V d d' a F M T := ⟨h1, h2.2.2.1, h2.2.2.2.1, h3, fun q => ⟨h2, h4 q⟩⟩
theorem kz_vn {v lo hi w : Int} (hw : lo ≤ hi) (h : w = (if lo ≤ v ∧ v ≤ hi then v else lo)) : lo ≤ w ∧ w ≤ hi := by
  by_cases g : lo ≤ v ∧ v ≤ hi
  · rw [if_pos g] at h; omega
  · rw [if_neg g] at h; omega
def kz_F0 (P : Nat → Nat) (V : Nat → Int) (M : q_Nm) (a : Nat) (F : Nat × Nat) : Nat × Nat := kz_nu P V 1 ((2 ^ kz_n V (a + 2) : Nat) - 1) (kz_nu P V 1 ((2 ^ kz_n V (a + 2) : Nat) - 1) (kz_nu P V 2 7 (kz_du P V M F (a + 1)) (a + 2)) (a + 3)) (a + 4)
def kz_T0 (V : Nat → Int) (T : q_Tl) (a : Nat) : q_Tl := kt_code T (2 ^ kz_n V (a + 2) - 1) (kc_rg (kz_n V (a + 2)) (kz_n V (a + 3)) (kz_n V (a + 4)))
theorem kz_2n {n : Nat} (h : n ≤ 13) : (2 : Nat) ^ n ≤ 8192 := Nat.le_trans (Nat.pow_le_pow_right (by omega) h) (by decide)
theorem y_m0 {b t N a : Nat} {K P : Nat → Nat} {V : Nat → Int} {d : q_Dt} {F : Nat × Nat} {M : q_Nm} {T : q_Tl} (hY : kd_Y b N K P V d (a + 1) F M) (hN : qk_tok K P V N) (hM : kn_wf M) (hM2 : M.1 < 20) (hT : q_TT b t d T) (hn : Tnc T < 8) (hF : F.1 ≤ 5) (ha : a + 5 ≤ N) (k1 : K (a + 1) = 2) (k2 : K (a + 2) = 3) (k3 : K (a + 3) = 3) (k4 : K (a + 4) = 3) : ∃ d', X3_makeRegister (A1 b) d (b + 1) t = some d' ∧ kd_R b t N K P V d d' (a + 5) (kz_F0 P V M a F) (kn_add M (V (a + 1)) 0 (Tnc T)) (kz_T0 V T a) := by
  have ht := hT.2.1
  obtain ⟨d1, r1, r2, r3, r4⟩ := y_newName hY hN hM hM2 hF (by omega) (a2 := a + 2) rfl k1 (s := 0) (z := Tnc T) (by omega) (by omega)
  obtain ⟨v1, d2, p1, p2, p3, p4, p5⟩ := y_number r2 hN r4 (by omega) (a2 := a + 3) rfl k2 (lo := 2) (hi := 7) (by omega) (by omega)
  have hv1 := kz_vn (by omega) p5
  obtain ⟨n, rfl⟩ := Int.eq_ofNat_of_zero_le (show 0 ≤ v1 by omega)
  have hp2 : (2 : Nat) ^ n ≤ 2 ^ 7 := Nat.pow_le_pow_right (by omega) (by omega)
  have hp4 : (2 : Nat) ^ 2 ≤ 2 ^ n := Nat.pow_le_pow_right (by omega) (by omega)
  obtain ⟨v2, d3, q1, q2, q3, q4, q5⟩ := y_number p2 hN p4 (by omega) (a2 := a + 4) rfl k3 (lo := 1) (hi := (2 ^ n : Nat) - 1) (by omega) (by omega)
  have hv2 := kz_vn (by omega) q5
  obtain ⟨ta, rfl⟩ := Int.eq_ofNat_of_zero_le (show 0 ≤ v2 by omega)
  obtain ⟨v3, d4, u1, u2, u3, u4, u5⟩ := y_number q2 hN q4 (by omega) (a2 := a + 5) rfl k4 (lo := 1) (hi := (2 ^ n : Nat) - 1) (by omega) (by omega)
  have hv3 := kz_vn (by omega) u5
  obtain ⟨st, rfl⟩ := Int.eq_ofNat_of_zero_le (show 0 ≤ v3 by omega)
  have fn := kd_fn_t (kd_fn_t (kd_fn_t r3 p3) q3) u3
  have hT4 := kd_TT hT fn
  have e7 := hT.2.2.1.1
  have r1' : X3_newName (A1 b) d (b + 1) 0 (wI (Tnc T)) = some d1 := r1
  have p1' : X3_number (A1 b) d1 (b + 1) 2 7 = some (wI (n : Int), d2) := p1
  have q1' : X3_number (A1 b) d2 (b + 1) 1 (wI ((2 ^ n : Nat) - 1 : Int)) = some (wI (ta : Int), d3) := q1
  have u1' : X3_number (A1 b) d3 (b + 1) 1 (wI ((2 ^ n : Nat) - 1 : Int)) = some (wI (st : Int), d4) := u1
  have hlay := y_reg (d := q_pI d4 t 7 (wI (Tnc T + 1 : Nat))) ht hn (show 1 ≤ n ∧ n ≤ 7 by omega) (show ta < 2 ^ n by omega) (show st < 2 ^ n by omega)
  have hfr := y_laid_f (d := d4) (t := t) (len := 2 ^ n - 1) (ch := kc_rg n ta st) (v := wI (Tnc T + 1 : Nat)) hn
  have eF : ky_num (ky_num (ky_num (kz_du P V M F (a + 1)) 2 7 (V (a + 2)) (P (a + 2))) 1 ((2 ^ n : Nat) - 1) (V (a + 3)) (P (a + 3))) 1 ((2 ^ n : Nat) - 1) (V (a + 4)) (P (a + 4)) = kz_F0 P V M a F := by
    unfold kz_F0 kz_nu
    by_cases g : 2 ≤ V (a + 2) ∧ V (a + 2) ≤ 7
    · rw [if_pos g] at p5
      have e : kz_n V (a + 2) = n := by unfold kz_n; omega
      rw [e]
    · have gb := ky_num_b (F := kz_du P V M F (a + 1)) (p := P (a + 2)) g
      rw [ky_num_f gb, ky_num_f gb, ky_num_f gb, ky_num_f gb]
  have u2' := kd_Y_t u2 ht hfr
  have u4' : (ky_num (ky_num (ky_num (kz_du P V M F (a + 1)) 2 7 (V (a + 2)) (P (a + 2))) 1 ((2 ^ n : Nat) - 1) (V (a + 3)) (P (a + 3))) 1 ((2 ^ n : Nat) - 1) (V (a + 4)) (P (a + 4))).1 ≤ 5 := u4
  rw [eF] at u2' u4'
  refine ⟨kc_L1 (q_pI d4 t 7 (wI (Tnc T + 1 : Nat))) t (Tnc T) (2 ^ n - 1) (kc_rg n ta st), ?_, kd_R_i (kd_fr_t (kd_fn_fr fn) (kt_fr_d hfr)) u2' u4' (fun h0 => ?_)⟩
  · unfold X3_makeRegister
    rw [e7, r1']
    simp only [b1s]
    rw [p1']
    simp only [b2s]
    rw [wI_2n (by omega), q1']
    simp only [b2s]
    rw [u1']
    simp only [b2s]
    rw [y_next hT4 hn]
    simp only [b2s, m1s]
    rw [hlay]
    simp only [b1s]
  · unfold kz_F0 at h0
    have h1 := kz_nu_0 h0
    have h2 := kz_nu_0 h1.1
    have h3 := kz_nu_0 h2.1
    rw [if_pos h3.2] at p5
    have e : kz_n V (a + 2) = n := by unfold kz_n; omega
    rw [e] at h1 h2
    rw [if_pos h2.2] at q5
    rw [if_pos h1.2] at u5
    have e2 : kz_n V (a + 3) = ta := by unfold kz_n; omega
    have e3 : kz_n V (a + 4) = st := by unfold kz_n; omega
    unfold kz_T0
    rw [e, e2, e3]
    exact y_laid hT4 hn (by omega) (fun i _ => kc_sg_2 _)
def kz_F1 (P : Nat → Nat) (V : Nat → Int) (M : q_Nm) (a : Nat) (F : Nat × Nat) : Nat × Nat := kz_nu P V 0 ((2 ^ kz_n V (a + 2) : Nat) - 1) (kz_nu P V 1 6 (kz_du P V M F (a + 1)) (a + 2)) (a + 3)
def kz_T1 (V : Nat → Int) (T : q_Tl) (a : Nat) : q_Tl := kt_code T (2 ^ kz_n V (a + 2)) (kc_wa (kz_n V (a + 3)))
theorem y_m1 {b t N a : Nat} {K P : Nat → Nat} {V : Nat → Int} {d : q_Dt} {F : Nat × Nat} {M : q_Nm} {T : q_Tl} (hY : kd_Y b N K P V d (a + 1) F M) (hN : qk_tok K P V N) (hM : kn_wf M) (hM2 : M.1 < 20) (hT : q_TT b t d T) (hn : Tnc T < 8) (hF : F.1 ≤ 5) (ha : a + 4 ≤ N) (k1 : K (a + 1) = 2) (k2 : K (a + 2) = 3) (k3 : K (a + 3) = 3) : ∃ d', X3_makeWalsh (A1 b) d (b + 1) t = some d' ∧ kd_R b t N K P V d d' (a + 4) (kz_F1 P V M a F) (kn_add M (V (a + 1)) 0 (Tnc T)) (kz_T1 V T a) := by
  have ht := hT.2.1
  obtain ⟨d1, r1, r2, r3, r4⟩ := y_newName hY hN hM hM2 hF (by omega) (a2 := a + 2) rfl k1 (s := 0) (z := Tnc T) (by omega) (by omega)
  obtain ⟨v1, d2, p1, p2, p3, p4, p5⟩ := y_number r2 hN r4 (by omega) (a2 := a + 3) rfl k2 (lo := 1) (hi := 6) (by omega) (by omega)
  have hv1 := kz_vn (by omega) p5
  obtain ⟨n, rfl⟩ := Int.eq_ofNat_of_zero_le (show 0 ≤ v1 by omega)
  have hp2 : (2 : Nat) ^ n ≤ 2 ^ 6 := Nat.pow_le_pow_right (by omega) (by omega)
  have hp4 : (2 : Nat) ^ 1 ≤ 2 ^ n := Nat.pow_le_pow_right (by omega) (by omega)
  obtain ⟨v2, d3, q1, q2, q3, q4, q5⟩ := y_number p2 hN p4 (by omega) (a2 := a + 4) rfl k3 (lo := 0) (hi := (2 ^ n : Nat) - 1) (by omega) (by omega)
  have hv2 := kz_vn (by omega) q5
  obtain ⟨ta, rfl⟩ := Int.eq_ofNat_of_zero_le (show 0 ≤ v2 by omega)
  have fn := kd_fn_t (kd_fn_t r3 p3) q3
  have hT4 := kd_TT hT fn
  have e7 := hT.2.2.1.1
  have r1' : X3_newName (A1 b) d (b + 1) 0 (wI (Tnc T)) = some d1 := r1
  have p1' : X3_number (A1 b) d1 (b + 1) 1 6 = some (wI (n : Int), d2) := p1
  have q1' : X3_number (A1 b) d2 (b + 1) 0 (wI ((2 ^ n : Nat) - 1 : Int)) = some (wI (ta : Int), d3) := q1
  have hlay := y_wal (d := q_pI d3 t 7 (wI (Tnc T + 1 : Nat))) ht hn (show 1 ≤ n ∧ n ≤ 6 by omega) (show ta < 128 by omega)
  have hfr := y_laid_f (d := d3) (t := t) (len := 2 ^ n) (ch := kc_wa ta) (v := wI (Tnc T + 1 : Nat)) hn
  have eF : ky_num (ky_num (kz_du P V M F (a + 1)) 1 6 (V (a + 2)) (P (a + 2))) 0 ((2 ^ n : Nat) - 1) (V (a + 3)) (P (a + 3)) = kz_F1 P V M a F := by
    unfold kz_F1 kz_nu
    by_cases g : 1 ≤ V (a + 2) ∧ V (a + 2) ≤ 6
    · rw [if_pos g] at p5
      have e : kz_n V (a + 2) = n := by unfold kz_n; omega
      rw [e]
    · have gb := ky_num_b (F := kz_du P V M F (a + 1)) (p := P (a + 2)) g
      rw [ky_num_f gb, ky_num_f gb]
  have q2' := kd_Y_t q2 ht hfr
  have q4' : (ky_num (ky_num (kz_du P V M F (a + 1)) 1 6 (V (a + 2)) (P (a + 2))) 0 ((2 ^ n : Nat) - 1) (V (a + 3)) (P (a + 3))).1 ≤ 5 := q4
  rw [eF] at q2' q4'
  refine ⟨kc_L1 (q_pI d3 t 7 (wI (Tnc T + 1 : Nat))) t (Tnc T) (2 ^ n) (kc_wa ta), ?_, kd_R_i (kd_fr_t (kd_fn_fr fn) (kt_fr_d hfr)) q2' q4' (fun h0 => ?_)⟩
  · unfold X3_makeWalsh
    rw [e7, r1']
    simp only [b1s]
    rw [p1']
    simp only [b2s]
    rw [wI_2n (by omega), q1']
    simp only [b2s]
    rw [y_next hT4 hn]
    simp only [b2s, m1s]
    rw [hlay]
    simp only [b1s]
  · unfold kz_F1 at h0
    have h1 := kz_nu_0 h0
    have h2 := kz_nu_0 h1.1
    rw [if_pos h2.2] at p5
    have e : kz_n V (a + 2) = n := by unfold kz_n; omega
    rw [e] at h1
    rw [if_pos h1.2] at q5
    have e2 : kz_n V (a + 3) = ta := by unfold kz_n; omega
    unfold kz_T1
    rw [e, e2]
    exact y_laid hT4 hn (by omega) (fun i _ => kc_sg_2 _)
def kz_F2 (P : Nat → Nat) (V : Nat → Int) (M : q_Nm) (a : Nat) (F : Nat × Nat) : Nat × Nat := kz_nu P V 0 ((2 ^ kz_n V (a + 2) : Nat) - 1) (kz_nu P V 1 13 (kz_du P V M F (a + 1)) (a + 2)) (a + 3)
def kz_T2 (V : Nat → Int) (T : q_Tl) (a : Nat) : q_Tl := kt_code T (kz_n V (a + 2)) (kc_bi (kz_n V (a + 3)))
theorem y_m2 {b t N a : Nat} {K P : Nat → Nat} {V : Nat → Int} {d : q_Dt} {F : Nat × Nat} {M : q_Nm} {T : q_Tl} (hY : kd_Y b N K P V d (a + 1) F M) (hN : qk_tok K P V N) (hM : kn_wf M) (hM2 : M.1 < 20) (hT : q_TT b t d T) (hn : Tnc T < 8) (hF : F.1 ≤ 5) (ha : a + 4 ≤ N) (k1 : K (a + 1) = 2) (k2 : K (a + 2) = 3) (k3 : K (a + 3) = 3) : ∃ d', X3_makeBits (A1 b) d (b + 1) t = some d' ∧ kd_R b t N K P V d d' (a + 4) (kz_F2 P V M a F) (kn_add M (V (a + 1)) 0 (Tnc T)) (kz_T2 V T a) := by
  have ht := hT.2.1
  obtain ⟨d1, r1, r2, r3, r4⟩ := y_newName hY hN hM hM2 hF (by omega) (a2 := a + 2) rfl k1 (s := 0) (z := Tnc T) (by omega) (by omega)
  obtain ⟨v1, d2, p1, p2, p3, p4, p5⟩ := y_number r2 hN r4 (by omega) (a2 := a + 3) rfl k2 (lo := 1) (hi := 13) (by omega) (by omega)
  have hv1 := kz_vn (by omega) p5
  obtain ⟨n, rfl⟩ := Int.eq_ofNat_of_zero_le (show 0 ≤ v1 by omega)
  have hp2 := kz_2n (n := n) (by omega)
  have hp4 := Nat.two_pow_pos n
  obtain ⟨v2, d3, q1, q2, q3, q4, q5⟩ := y_number p2 hN p4 (by omega) (a2 := a + 4) rfl k3 (lo := 0) (hi := (2 ^ n : Nat) - 1) (by omega) (by omega)
  have hv2 := kz_vn (by omega) q5
  obtain ⟨ta, rfl⟩ := Int.eq_ofNat_of_zero_le (show 0 ≤ v2 by omega)
  have fn := kd_fn_t (kd_fn_t r3 p3) q3
  have hT4 := kd_TT hT fn
  have e7 := hT.2.2.1.1
  have r1' : X3_newName (A1 b) d (b + 1) 0 (wI (Tnc T)) = some d1 := r1
  have p1' : X3_number (A1 b) d1 (b + 1) 1 13 = some (wI (n : Int), d2) := p1
  have q1' : X3_number (A1 b) d2 (b + 1) 0 (wI ((2 ^ n : Nat) - 1 : Int)) = some (wI (ta : Int), d3) := q1
  have hlay := y_bits (d := q_pI d3 t 7 (wI (Tnc T + 1 : Nat))) ht hn (show n ≤ 13 by omega) (show ta < 2147483648 by omega)
  have hfr := y_laid_f (d := d3) (t := t) (len := n) (ch := kc_bi ta) (v := wI (Tnc T + 1 : Nat)) hn
  have eF : ky_num (ky_num (kz_du P V M F (a + 1)) 1 13 (V (a + 2)) (P (a + 2))) 0 ((2 ^ n : Nat) - 1) (V (a + 3)) (P (a + 3)) = kz_F2 P V M a F := by
    unfold kz_F2 kz_nu
    by_cases g : 1 ≤ V (a + 2) ∧ V (a + 2) ≤ 13
    · rw [if_pos g] at p5
      have e : kz_n V (a + 2) = n := by unfold kz_n; omega
      rw [e]
    · have gb := ky_num_b (F := kz_du P V M F (a + 1)) (p := P (a + 2)) g
      rw [ky_num_f gb, ky_num_f gb]
  have q2' := kd_Y_t q2 ht hfr
  have q4' : (ky_num (ky_num (kz_du P V M F (a + 1)) 1 13 (V (a + 2)) (P (a + 2))) 0 ((2 ^ n : Nat) - 1) (V (a + 3)) (P (a + 3))).1 ≤ 5 := q4
  rw [eF] at q2' q4'
  refine ⟨kc_L1 (q_pI d3 t 7 (wI (Tnc T + 1 : Nat))) t (Tnc T) n (kc_bi ta), ?_, kd_R_i (kd_fr_t (kd_fn_fr fn) (kt_fr_d hfr)) q2' q4' (fun h0 => ?_)⟩
  · unfold X3_makeBits
    rw [e7, r1']
    simp only [b1s]
    rw [p1']
    simp only [b2s]
    rw [wI_2n (by omega), q1']
    simp only [b2s]
    rw [y_next hT4 hn]
    simp only [b2s, m1s]
    rw [hlay]
    simp only [b1s]
  · unfold kz_F2 at h0
    have h1 := kz_nu_0 h0
    have h2 := kz_nu_0 h1.1
    rw [if_pos h2.2] at p5
    have e : kz_n V (a + 2) = n := by unfold kz_n; omega
    rw [e] at h1
    rw [if_pos h1.2] at q5
    have e2 : kz_n V (a + 3) = ta := by unfold kz_n; omega
    unfold kz_T2
    rw [e, e2]
    exact y_laid hT4 hn (by omega) (fun i _ => kc_sg_2 _)
