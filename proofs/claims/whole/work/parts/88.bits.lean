/-! level two: bit, wrong -/
def q_rs (T : q_Tl) (g : Nat → Nat → Int) (s p : Nat) : Int := q_rsv T s (fun i => g (q_trn T s i % 2) i) (TN T) p
theorem q_rs_b {T : q_Tl} {g : Nat → Nat → Int} {s p : Nat} (hw : q_wf T) (hs : s < Tns T) (hb : ∀ a i, -4000000 ≤ g a i ∧ g a i ≤ 4000000) : -3000000000 ≤ q_rs T g s p ∧ q_rs T g s p ≤ 3000000000 := by
  have hN := hw.1
  have h := q_sum_abs (f := fun i => if q_per T s i = (p : Int) then q_sgn T s i * g (q_trn T s i % 2) i else 0) (B := 4000000) (TN T) (fun i _ => by
    have h1 := q_sgn_b hw (i := i) hs
    have h2 := hb (q_trn T s i % 2) i
    have h3 := q_mulb (B := 1) (C := 4000000) (u := q_sgn T s i) (c := g (q_trn T s i % 2) i) (by omega) (by omega)
    show -4000000 ≤ (if q_per T s i = (p : Int) then q_sgn T s i * g (q_trn T s i % 2) i else 0) ∧ (if q_per T s i = (p : Int) then q_sgn T s i * g (q_trn T s i % 2) i else 0) ≤ 4000000
    by_cases e : q_per T s i = (p : Int)
    · rw [if_pos e]; omega
    · rw [if_neg e]; omega)
  have e : q_rs T g s p = q_sum (fun i => if q_per T s i = (p : Int) then q_sgn T s i * g (q_trn T s i % 2) i else 0) (TN T) := rfl
  rw [e]
  omega
def q_sgb1 (z : Int) : Nat := if z < 0 then 1 else 0
theorem q_sgb1_b (z : Int) : q_sgb1 z < 2 := by
  unfold q_sgb1
  by_cases h : z < 0
  · rw [if_pos h]; omega
  · rw [if_neg h]; omega
theorem T_bitRead {b p : Nat} {d : q_Dt} {z : Int} (hd : d.2.1 (b + 45) p = wJ z) (hp : p < 512) (h1 : -9223372036854775808 ≤ z) (h2 : z < 9223372036854775808) : X4_bitRead (A1 b) d (b + 43) (wI p) = some (wI (q_sgb1 z)) := by
  unfold X4_bitRead
  rw [s43_0, r_at (s44_0 b) (l45 b) (by omega) hp, hd, b1s, show (0 : Int64) = wJ 0 from rfl]
  simp (disch := omega) only [wJ_le]
  unfold q_sgb1
  by_cases h : z < 0
  · rw [if_neg (by omega), if_pos h]; rfl
  · rw [if_pos (by omega), if_neg h]; rfl
def q_wr (T : q_Tl) (s : Nat) (rs : Nat → Int) (n : Nat) : Int := q_sum (fun p => if q_sgb1 (rs p) = q_bit T s (p : Int) then 0 else 1) n
theorem T_wrongBit {b t p s : Nat} {d : q_Dt} {T : q_Tl} {z : Int} (hT : q_TT b t d T) (hs : s < Tns T) (hd : d.2.1 (b + 45) p = wJ z) (hp : p < 512) (h1 : -9223372036854775808 ≤ z) (h2 : z < 9223372036854775808) : X4_wrongBit (A1 b) d (b + 43) (t + 42 + 5 * s) (wI p) = some (wI (if q_sgb1 z = q_bit T s (p : Int) then 0 else 1)) := by
  have hb := q_sgb1_b z
  have hb2 := q_bit_lt (T := T) (s := s) (p := (p : Int))
  unfold X4_wrongBit
  rw [T_bitRead hd hp h1 h2, b1s, T_bit hT hs (by omega) (by omega), b1s]
  simp (disch := omega) only [wI_eq]
  by_cases h : q_sgb1 z = q_bit T s (p : Int)
  · rw [if_pos (by omega), if_pos h]; rfl
  · rw [if_neg (by omega), if_neg h]; rfl
theorem T_wrongBits {b t s n0 : Nat} {d : q_Dt} {T : q_Tl} {rs : Nat → Int} (hT : q_TT b t d T) (hs : s < Tns T) (hn : n0 ≤ 512) (hd : ∀ p, p < 512 → d.2.1 (b + 45) p = wJ (rs p)) (hb : ∀ p, -9223372036854775808 ≤ rs p ∧ rs p < 9223372036854775808) : X4_wrongBits (A1 b) d (b + 43) (t + 42 + 5 * s) (wI n0) = some (wI (q_wr T s rs n0)) := by
  have hl : ∀ n i k : Nat, i + n = n0 → n < k → X4_wrongBits_b5 (A1 b) d (b + 43) (t + 42 + 5 * s) (wI n0) k (wI (q_wr T s rs i)) (wI i) = some (wI (q_wr T s rs n0)) := by
    intro n
    induction n with
    | zero =>
      intro i k z1 z2 
      obtain ⟨k, rfl⟩ : ∃ m, k = m + 1 := ⟨k - 1, by omega⟩
      have e : i = n0 := by omega
      rw [X4_wrongBits_b5.eq_2]
      simp (disch := omega) only [wI_le]
      rw [if_pos (by omega), e]
    | succ n ih =>
      intro i k z1 z2 
      obtain ⟨k, rfl⟩ : ∃ m, k = m + 1 := ⟨k - 1, by omega⟩
      have hi : i < n0 := by omega
      have hih := ih (i + 1) k (by omega) (by omega)
      have es : q_wr T s rs (i + 1) = q_wr T s rs i + if q_sgb1 (rs i) = q_bit T s (i : Int) then 0 else 1 := rfl
      rw [es] at hih
      have ei : wI i + 1 = wI (i + 1 : Nat) := wI_add i 1
      rw [X4_wrongBits_b5.eq_2, T_wrongBit hT hs (hd i (by omega)) (by omega) (hb i).1 (hb i).2, b1s, wI_add, ei]
      simp (disch := omega) only [wI_le]
      rw [if_neg (by omega)]
      exact hih
  have h0 := hl n0 0 q_FU (by omega) (by unfold q_FU; omega)
  unfold X4_wrongBits
  rw [show (0 : Int32) = wI ((0 : Nat) : Int) from rfl]
  exact h0
theorem T_fJ {b t : Nat} {dt d : q_Dt} {T : q_Tl} (hT : q_TT b t dt T) (h : q_fJ (b + 45) dt d) : q_TT b t d T := T_keep hT (fun x h1 h2 => by
  have ht := hT.2.1
  exact ⟨by rw [h.1], h.2.2 x (by omega), by rw [h.2.1]⟩)
theorem q_fJ_e1 {b : Nat} {dt d : q_Dt} (h : q_fJ (b + 45) dt d) : q_e1 b dt d := fun x hx => ⟨by rw [h.1], h.2.2 x (by omega), by rw [h.2.1]⟩
def q_hs (b : Nat) (d : q_Dt) (T : q_Tl) (s : Nat) (rs : Nat → Int) : Prop := (∀ p, p < 512 → d.2.1 (b + 47) p = wJ (rs p)) ∧ ∀ p, p < 512 → d.1 (b + 48) p = if p < q_np T s then 1 else 0
theorem M_bitOf {b s p : Nat} {d : q_Dt} {T : q_Tl} {rs : Nat → Int} (h : q_hs b d T s rs) (hp : p < 512) (h1 : -9223372036854775808 ≤ rs p) (h2 : rs p < 9223372036854775808) : X12_bitOf (A2 b) d b (wI p) = some (if p < q_np T s then wI (q_sgb1 (rs p)) else -2) := by
  have kG : (wI p < 0 ∨ 512 ≤ p) = False := by
    rw [show (0 : Int32) = wI 0 from rfl, wI_lt (by omega) (by omega) (by omega) (by omega)]
    exact eq_false (by omega)
  have eP : Int32.toNatClampNeg (wI p) = p := by
    rw [wI_nat (by omega) (by omega), Int.toNat_natCast]
  unfold X12_bitOf
  rw [m63, m64, n63, n64, eP]
  simp only [kG, ↓reduceIte, h.1 p hp, h.2 p hp]
  by_cases hn : p < q_np T s
  · rw [if_pos hn, if_pos hn, if_neg (show ¬ (1 : Int32) = 0 by decide), show (0 : Int64) = wJ 0 from rfl]
    simp (disch := omega) only [wJ_le]
    unfold q_sgb1
    by_cases h : rs p < 0
    · rw [if_neg (by omega), if_pos h]; rfl
    · rw [if_pos (by omega), if_neg h]; rfl
  · rw [if_neg hn, if_neg hn, if_pos rfl]
theorem M_wrongL {b sd s : Nat} {d : q_Dt} {T : q_Tl} {rs : Nat → Int} (hM : q_M b sd d T) (hs : s < Tns T) (h : q_hs b d T s rs) (hb : ∀ p, -9223372036854775808 ≤ rs p ∧ rs p < 9223372036854775808) : X12_wrongOf_b12 (A2 b) b (wI s) q_FU 0 0 d = some (wI (q_wr T s rs (q_np T s)), d) := by
  have hnp := (q_np_e hM.1 hs).2
  have hl : ∀ n i k : Nat, i + n = 512 → n < k → X12_wrongOf_b12 (A2 b) b (wI s) k (wI (q_wr T s rs (if i < q_np T s then i else q_np T s))) (wI i) d = some (wI (q_wr T s rs (q_np T s)), d) := by
    intro n
    induction n with
    | zero =>
      intro i k z1 z2 
      obtain ⟨k, rfl⟩ : ∃ m, k = m + 1 := ⟨k - 1, by omega⟩
      have e : i = 512 := by omega
      rw [X12_wrongOf_b12.eq_2, if_neg (show ¬ i < q_np T s by omega), show (512 : Int32) = wI 512 from rfl]
      simp (disch := omega) only [wI_le]
      rw [if_pos (by omega)]
    | succ n ih =>
      intro i k z1 z2 
      obtain ⟨k, rfl⟩ : ∃ m, k = m + 1 := ⟨k - 1, by omega⟩
      have hi : i < 512 := by omega
      have hih := ih (i + 1) k (by omega) (by omega)
      have ei : wI i + 1 = wI (i + 1 : Nat) := wI_add i 1
      have hb1 := q_sgb1_b (rs i)
      have hb2 := q_bit_lt (T := T) (s := s) (p := (i : Int))
      have kL : ((512 : Int32) ≤ wI i) = False := by
        rw [show (512 : Int32) = wI 512 from rfl, wI_le (by omega) (by omega) (by omega) (by omega)]
        exact eq_false (by omega)
      have kG : (wI i < 0 ∨ 512 ≤ i) = False := by
        rw [show (0 : Int32) = wI 0 from rfl, wI_lt (by omega) (by omega) (by omega) (by omega)]
        exact eq_false (by omega)
      have eP : Int32.toNatClampNeg (wI i) = i := by
        rw [wI_nat (by omega) (by omega), Int.toNat_natCast]
      rw [X12_wrongOf_b12.eq_2, m64, n64, eP, M_bitOf h hi (hb i).1 (hb i).2, M_data hM hs (show 0 ≤ (i : Int) by omega) (by omega)]
      simp only [kL, kG, ↓reduceIte, h.2 i hi, b1s, X12_wrongOf_b49, ei]
      by_cases hn : i < q_np T s
      · simp only [if_pos hn]
        rw [if_neg (show ¬ (1 : Int32) = 0 by decide)]
        simp (disch := omega) only [wI_eq]
        have es : q_wr T s rs (if i + 1 < q_np T s then i + 1 else q_np T s) = q_wr T s rs i + if q_sgb1 (rs i) = q_bit T s (i : Int) then 0 else 1 := by
          rw [show (if i + 1 < q_np T s then i + 1 else q_np T s) = i + 1 by
            by_cases h9 : i + 1 < q_np T s
            · rw [if_pos h9]
            · rw [if_neg h9]; omega]
          rfl
        rw [es] at hih
        by_cases hq : q_sgb1 (rs i) = q_bit T s (i : Int)
        · rw [if_pos (by omega)]
          rw [if_pos hq, Int.add_zero] at hih
          exact hih
        · rw [if_neg (by omega), show (1 : Int32) = wI 1 from rfl, wI_add]
          rw [if_neg hq] at hih
          exact hih
      · simp only [if_neg hn, if_true]
        rw [if_neg (show ¬ i + 1 < q_np T s by omega)] at hih
        exact hih
  have h0 := hl 512 0 q_FU (by omega) (by unfold q_FU; omega)
  have e0 : q_wr T s rs (if 0 < q_np T s then 0 else q_np T s) = 0 := by
    by_cases h9 : 0 < q_np T s
    · rw [if_pos h9]; rfl
    · rw [if_neg h9, show q_np T s = 0 by omega]; rfl
  rw [e0] at h0
  rw [show (0 : Int32) = wI ((0 : Nat) : Int) from rfl]
  exact h0
theorem M_wrong {b sd x s : Nat} {dt : q_Dt} {T : q_Tl} {g : Nat → Nat → Int} (hM : q_M b sd dt T) (hs : s < Tns T) (hx : (A2 b).2.1 x = 1024) (hx2 : x ≠ b + 48) (hg : q_now x dt g) (hb : ∀ a i, -4000000 ≤ g a i ∧ g a i ≤ 4000000) : ∃ d', X12_wrongOf (A2 b) dt b x (wI s) = some (wI (q_wr T s (q_rs T g s) (q_np T s)), d') ∧ q_fs b dt d' ∧ q_hs b d' T s (q_rs T g s) := by
  obtain ⟨d', h1, h2, h3, h4⟩ := M_sumsUp hM hs (M_87_0 hM hs hx hx2 hg hb)
  refine ⟨d', ?_, h2, h3, h4⟩
  unfold X12_wrongOf
  rw [h1, b1s]
  exact M_wrongL (M_fs hM h2) hs ⟨h3, h4⟩ (fun p => by have := q_rs_b (p := p) hM.1 hs hb; omega)
theorem q_gb_4 {k : Nat} {T : q_Tl} {g : Nat → Nat → Int} (h : q_gb k T g) (hk : k ≤ 512) : ∀ a i, -4000000 ≤ g a i ∧ g a i ≤ 4000000 := fun a i => by have := q_gb_i h hk a i; omega
theorem R_wrong : q_c_wrong q_Rel := by
  intro k b1 b2 dt1 dt2 a0 hk hR
  obtain ⟨x, rfl, hx1, hx2⟩ := q_arg a0
  have hR' := hR
  obtain ⟨T, tt, sd, g, hT, hM, ho, hs, hn, hg, -⟩ := hR'
  have hb := q_gb_4 hg (by omega)
  have hN := hT.1.1
  have e2 := M_isSender hM hx1 hx2
  have n10 : ¬ (1 : Int32) = 0 := by decide
  show ∃ r d1 d2, X11_wrong (A1 b1) dt1 b1 (wI x) = some (r, d1) ∧ X12_wrong (A2 b2) dt2 b2 (wI x) = some (r, d2) ∧ _
  by_cases hc : 0 ≤ x ∧ x < Tns T
  · rw [if_pos hc] at e2
    obtain ⟨s, rfl⟩ := Int.eq_ofNat_of_zero_le hc.1
    have hsn : s < Tns T := by omega
    have hnp := (q_np_e hT.1 hsn).2
    obtain ⟨d1, p1, p2, p3⟩ := T_gather hT (So_in b1) hs hg.2 (Or.inl rfl) hsn
    obtain ⟨d2, r1, r2, -⟩ := M_wrong hM hsn (n53 b2) (by omega) hn hb
    have hT2 := T_fJ hT p2
    refine ⟨wI (q_wr T s (q_rs T g s) (q_np T s)), d1, d2, ?_, ?_, R_keep hR (q_fJ_e1 p2) (q_fs_e2 r2)⟩
    · unfold X11_wrong
      rw [ho.1, o1s, m1s, T_senderAt hT hsn, b1s, m1s, s0_5, s0_1, p1, b1s, p2.2.1, ho.1, o1s, m1s, hT2.2.2.1.2.2.2.2.2.1, T_periods hT2 hsn, b1s, T_wrongBits (rs := q_rs T g s) hT2 hsn hnp p3 (fun p => by have := q_rs_b (p := p) hT.1 hsn hb; exact ⟨by omega, by omega⟩), b1s]
    · unfold X12_wrong
      rw [e2, b1s, if_neg n10, m53, r1, b2s]
  · rw [if_neg hc] at e2
    refine ⟨-1, dt1, dt2, ?_, ?_, R_up hR⟩
    · unfold X11_wrong
      rw [ho.1, o1s, m1s, T_senderNo hT hx1 hx2 hc, b1s, m1n]
    · unfold X12_wrong
      rw [e2, b1s, if_pos rfl]
theorem R_bit : q_c_bit q_Rel := by
  intro k b1 b2 dt1 dt2 a0 a1 hk hR
  obtain ⟨x, rfl, hx1, hx2⟩ := q_arg a0
  obtain ⟨y, rfl, hy1, hy2⟩ := q_arg a1
  have hR' := hR
  obtain ⟨T, tt, sd, g, hT, hM, ho, hs, hn, hg, -⟩ := hR'
  have hb := q_gb_4 hg (by omega)
  have hN := hT.1.1
  have e2 := M_isSender hM hx1 hx2
  have n10 : ¬ (1 : Int32) = 0 := by decide
  have z0 : (0 ≤ wI y) = (0 ≤ y) := by
    rw [show (0 : Int32) = wI 0 from rfl, wI_le (by omega) (by omega) hy1 hy2]
  have z1 : (wI y ≤ 511) = (y ≤ 511) := by
    rw [show (511 : Int32) = wI 511 from rfl, wI_le hy1 hy2 (by omega) (by omega)]
  show ∃ r d1 d2, X11_bit (A1 b1) dt1 b1 (wI x) (wI y) = some (r, d1) ∧ X12_bit (A2 b2) dt2 b2 (wI x) (wI y) = some (r, d2) ∧ _
  by_cases hc : 0 ≤ x ∧ x < Tns T
  · rw [if_pos hc] at e2
    obtain ⟨s, rfl⟩ := Int.eq_ofNat_of_zero_le hc.1
    have hsn : s < Tns T := by omega
    have hnp := (q_np_e hT.1 hsn).2
    by_cases hy : 0 ≤ y
    · obtain ⟨p, rfl⟩ := Int.eq_ofNat_of_zero_le hy
      have z2 : (wI p < wI (q_np T s)) = ((p : Int) < (q_np T s : Int)) := by
        rw [wI_lt (by omega) (by omega) (by omega) (by omega)]
      by_cases hp5 : p ≤ 511
      · obtain ⟨d2, r1, r2, r3, r4⟩ := M_sumsUp hM hsn (M_87_0 hM hsn (n53 b2) (by omega) hn hb)
        have hrb := q_rs_b (p := p) hT.1 hsn hb
        have hbo := M_bitOf (T := T) (s := s) (rs := q_rs T g s) (p := p) ⟨r3, r4⟩ (by omega) (by omega) (by omega)
        have eB : X12_bit (A2 b2) dt2 b2 (wI s) (wI p) = some (if p < q_np T s then wI (q_sgb1 (q_rs T g s p)) else -2, d2) := by
          unfold X12_bit X12_bitBy
          rw [e2, b1s, if_neg n10]
          simp only [z0, z1]
          rw [if_pos (by omega), if_pos (by omega), m53, r1, b1s, hbo, b1s, b2s]
        by_cases hq : p < q_np T s
        · obtain ⟨d1, p1, p2, p3⟩ := T_gather hT (So_in b1) hs hg.2 (Or.inl rfl) hsn
          rw [if_pos hq] at eB
          refine ⟨wI (q_sgb1 (q_rs T g s p)), d1, d2, ?_, eB, R_keep hR (q_fJ_e1 p2) (q_fs_e2 r2)⟩
          unfold X11_bit
          rw [ho.1, o1s, m1s, T_senderAt hT hsn, b1s, m1s]
          simp only [z0]
          rw [if_pos (by omega), o1s, m1s, hT.2.2.1.2.2.2.2.2.1, T_periods hT hsn, b1s]
          simp only [z2]
          rw [if_pos (by omega), s0_5, s0_1, p1, b1s, T_bitRead (p3 p (by omega)) (by omega) (show -9223372036854775808 ≤ q_rs T g s p by omega) (show q_rs T g s p < 9223372036854775808 by omega), b1s]
          rfl
        · rw [if_neg hq] at eB
          refine ⟨-2, dt1, d2, ?_, eB, R_keep hR q_e1_r (q_fs_e2 r2)⟩
          unfold X11_bit
          rw [ho.1, o1s, m1s, T_senderAt hT hsn, b1s, m1s]
          simp only [z0]
          rw [if_pos (by omega), o1s, m1s, hT.2.2.1.2.2.2.2.2.1, T_periods hT hsn, b1s]
          simp only [z2]
          rw [if_neg (by omega)]
      · refine ⟨-2, dt1, dt2, ?_, ?_, R_up hR⟩
        · unfold X11_bit
          rw [ho.1, o1s, m1s, T_senderAt hT hsn, b1s, m1s]
          simp only [z0]
          rw [if_pos (by omega), o1s, m1s, hT.2.2.1.2.2.2.2.2.1, T_periods hT hsn, b1s]
          simp only [z2]
          rw [if_neg (by omega)]
        · unfold X12_bit X12_bitBy
          rw [e2, b1s, if_neg n10]
          simp only [z0, z1]
          rw [if_pos (by omega), if_neg (by omega), b2s]
    · refine ⟨-1, dt1, dt2, ?_, ?_, R_up hR⟩
      · unfold X11_bit
        rw [ho.1, o1s, m1s, T_senderAt hT hsn, b1s, m1s]
        simp only [z0]
        rw [if_neg (by omega)]
      · unfold X12_bit X12_bitBy
        rw [e2, b1s, if_neg n10]
        simp only [z0]
        rw [if_neg (by omega), b2s]
  · rw [if_neg hc] at e2
    refine ⟨-1, dt1, dt2, ?_, ?_, R_up hR⟩
    · unfold X11_bit
      rw [ho.1, o1s, m1s, T_senderNo hT hx1 hx2 hc, b1s, m1n]
    · unfold X12_bit X12_bitBy
      rw [e2, b1s, if_pos rfl, b2s]
