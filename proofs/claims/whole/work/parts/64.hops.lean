/-! level two: hops -/
def q_chn (T : q_Tl) (h i : Nat) : Nat := (Tha T h * (i % Thp T h) * (i % Thp T h) + Thb T h * (i % Thp T h)) % Thp T h
theorem q_chn_lt {T : q_Tl} (hw : q_wf T) {h i : Nat} (hh : h < Tnh T) : q_chn T h i < Thp T h := by
  have h1 := hw.2.2.1 h hh
  exact Nat.mod_lt _ (by omega)
theorem q_chn_b {T : q_Tl} (hw : q_wf T) {h i : Nat} (hh : h < Tnh T) : i % Thp T h < 31 ∧ Tha T h * (i % Thp T h) ≤ 961 ∧ Tha T h * (i % Thp T h) * (i % Thp T h) ≤ 29791 ∧ Thb T h * (i % Thp T h) ≤ 961 := by
  have h1 := hw.2.2.1 h hh
  have h2 := Nat.mod_lt i (show 0 < Thp T h by omega)
  have h3 : Tha T h * (i % Thp T h) ≤ 31 * 31 := Nat.mul_le_mul (by omega) (by omega)
  have h4 : Tha T h * (i % Thp T h) * (i % Thp T h) ≤ 31 * 31 * 31 := Nat.mul_le_mul h3 (by omega)
  have h5 : Thb T h * (i % Thp T h) ≤ 31 * 31 := Nat.mul_le_mul (by omega) (by omega)
  omega
theorem T_chn {b t : Nat} {dt : q_Dt} {T : q_Tl} (h : q_TT b t dt T) {p i : Nat} (hp : p < Tnh T) (hi : i < 2147483648) : X1_channelAt (A1 b) dt (t + 36 + p) (wI i) = some (wI (q_chn T p i)) := by
  have h1 := h.1.2.2.1 p hp
  have h2 := q_chn_b h.1 (i := i) hp
  have h3 := h.2.2.2.2.1 p hp
  simp (disch := omega) only [X1_channelAt, h3.1, h3.2.1, h3.2.2, wI_wJ, m_rest, q_b1, wJ_wI, wI_mul, wI_add, ← Int.natCast_emod, ← Int.natCast_mul, ← Int.natCast_add]
  rfl
theorem M_chn {b sd : Nat} {dt : q_Dt} {T : q_Tl} (h : q_M b sd dt T) {p i : Nat} (hp : p < Tnh T) (hi : i < 2147483648) : X12_channel (A2 b) dt b (wI p) (wI i) = some (wI (q_chn T p i)) := by
  have h1 := h.1.2.2.1 p hp
  have h2 := q_chn_b h.1 (i := i) hp
  have e1 := M_p h hp
  obtain ⟨⟨hw, -⟩, ⟨h4, h5, -⟩, -, h3, -⟩ := h
  have h6 := h3 p hp
  simp (disch := omega) only [X12_channel, e1, q_b1, wI_lit, wI_eq, m29, n29, m30, n30, h5, wI_mul, wI_add, ← Int.natCast_mul, ← Int.natCast_add, wI_lt, wI_nat, Int.toNat_natCast, h6.2.1, h6.2.2, wI_mod, ← Int.natCast_emod]
  rw [if_neg (by omega), if_neg (by omega), if_neg (by omega), if_neg (by omega)]
  rfl
def q_hit (T : q_Tl) (h o s : Nat) : Int := q_sum (fun i => if q_chn T h i = q_chn T o (i + s) then 1 else 0) (Thp T h)
theorem q_sum01 {f : Nat → Int} (n : Nat) (h : ∀ i, i < n → 0 ≤ f i ∧ f i ≤ 1) : 0 ≤ q_sum f n ∧ q_sum f n ≤ n := by
  induction n with
  | zero => exact ⟨Int.le_refl 0, Int.le_refl 0⟩
  | succ n ih =>
    have h1 := ih (fun i hi => h i (by omega))
    have h2 := h n (by omega)
    rw [q_sum_s]
    omega
theorem q_if01 (p : Prop) [Decidable p] : (0 : Int) ≤ (if p then 1 else 0) ∧ (if p then 1 else 0) ≤ (1 : Int) := by
  by_cases h : p
  · rw [if_pos h]; omega
  · rw [if_neg h]; omega
theorem T_meets {b t : Nat} {dt : q_Dt} {T : q_Tl} (h : q_TT b t dt T) {p o s : Nat} (hp : p < Tnh T) (ho : o < Tnh T) (hs : s < 1000) : X1_meets (A1 b) dt (t + 36 + p) (some (t + 36 + o)) (wI s) = some (wI (q_hit T p o s)) := by
  have h1 := h.1.2.2.1 p hp
  have h2 := h.1.2.2.1 o ho
  have h3 := h.2.2.2.2.1 p hp
  have hl : ∀ n i k, i + n = Thp T p → n < k → X1_meets_b5 (A1 b) dt (t + 36 + p) (some (t + 36 + o)) (wI s) k (wI (q_sum (fun i => if q_chn T p i = q_chn T o (i + s) then 1 else 0) i)) (wI i) = some (wI (q_hit T p o s)) := by
    intro n
    induction n with
    | zero =>
      intro i k h1 h2 
      obtain ⟨k, rfl⟩ : ∃ m, k = m + 1 := ⟨k - 1, by omega⟩
      have e : i = Thp T p := by omega
      simp (disch := omega) only [X1_meets_b5, h3.1, wI_le]
      rw [if_pos (by omega), e]
      rfl
    | succ n ih =>
      intro i k h1 h2 
      obtain ⟨k, rfl⟩ : ∃ m, k = m + 1 := ⟨k - 1, by omega⟩
      have hi : i < Thp T p := by omega
      have hih := ih (i + 1) k (by omega) (by omega)
      rw [q_sum_s] at hih
      have q1 := q_chn_lt h.1 (i := i) hp
      have q2 := q_chn_lt h.1 (i := i + s) ho
      simp (disch := omega) only [X1_meets_b5, h3.1, wI_le, T_chn h hp (show i < 2147483648 by omega), q_b1, q_m, wI_add, ← Int.natCast_add, T_chn h ho (show i + s < 2147483648 by omega), wI_eq, X1_meets_b37, wI_lit]
      rw [if_neg (by omega)]
      by_cases hw : q_chn T p i = q_chn T o (i + s)
      · rw [if_pos (by omega)]
        rw [if_pos hw] at hih
        exact hih
      · rw [if_neg (by omega)]
        rw [if_neg hw] at hih
        exact hih
  exact hl (Thp T p) 0 q_FU (by omega) (by unfold q_FU; omega)
theorem M_hits {b sd : Nat} {dt : q_Dt} {T : q_Tl} (h : q_M b sd dt T) {p o s : Nat} (hp : p < Tnh T) (ho : o < Tnh T) (hs : s < 1000) : X12_hitsAt (A2 b) dt b (wI p) (wI o) (wI s) = some (wI (q_hit T p o s)) := by
  have h1 := h.1.2.2.1 p hp
  have h2 := h.1.2.2.1 o ho
  have hl : ∀ n i k, i + n = Thp T p → n < k → X12_hitsAt_b6 (A2 b) dt b (wI p) (wI o) (wI s) k (wI (q_sum (fun i => if q_chn T p i = q_chn T o (i + s) then 1 else 0) i)) (wI i) = some (wI (q_hit T p o s)) := by
    intro n
    induction n with
    | zero =>
      intro i k h1 h2 
      obtain ⟨k, rfl⟩ : ∃ m, k = m + 1 := ⟨k - 1, by omega⟩
      have e : i = Thp T p := by omega
      simp (disch := omega) only [X12_hitsAt_b6, M_p h hp, q_b1, wI_le]
      rw [if_pos (by omega), e]
      rfl
    | succ n ih =>
      intro i k h1 h2 
      obtain ⟨k, rfl⟩ : ∃ m, k = m + 1 := ⟨k - 1, by omega⟩
      have hi : i < Thp T p := by omega
      have hih := ih (i + 1) k (by omega) (by omega)
      rw [q_sum_s] at hih
      have q1 := q_chn_lt h.1 (i := i) hp
      have q2 := q_chn_lt h.1 (i := i + s) ho
      simp (disch := omega) only [X12_hitsAt_b6, M_p h hp, wI_le, M_chn h hp (show i < 2147483648 by omega), q_b1, wI_add, ← Int.natCast_add, M_chn h ho (show i + s < 2147483648 by omega), wI_eq, X12_hitsAt_b38, wI_lit]
      rw [if_neg (by omega)]
      by_cases hw : q_chn T p i = q_chn T o (i + s)
      · rw [if_pos (by omega)]
        rw [if_pos hw] at hih
        exact hih
      · rw [if_neg (by omega)]
        rw [if_neg hw, Int.add_zero] at hih
        exact hih
  exact hl (Thp T p) 0 q_FU (by omega) (by unfold q_FU; omega)
def q_hpair (T : q_Tl) (x y : Int) : Prop := (0 ≤ x ∧ x < Tnh T) ∧ (0 ≤ y ∧ y < Tnh T) ∧ Thp T x.toNat = Thp T y.toNat
theorem T_hpNo {b t : Nat} {dt : q_Dt} {T : q_Tl} (h : q_TT b t dt T) {x y : Int} (hx1 : -2147483648 ≤ x) (hx2 : x < 2147483648) (hy1 : -2147483648 ≤ y) (hy2 : y < 2147483648) (hn : ¬ q_hpair T x y) : ∃ v1 v2, X10_hopAt (A1 b) dt t (wI x) = some v1 ∧ X10_hopAt (A1 b) dt t (wI y) = some v2 ∧ X11_likePrimed (A1 b) dt v1 v2 = some 0 := by
  by_cases h1 : 0 ≤ x ∧ x < Tnh T
  · obtain ⟨c, rfl⟩ := Int.eq_ofNat_of_zero_le h1.1
    by_cases h2 : 0 ≤ y ∧ y < Tnh T
    · obtain ⟨o, rfl⟩ := Int.eq_ofNat_of_zero_le h2.1
      have hc : c < Tnh T := by omega
      have ho : o < Tnh T := by omega
      refine ⟨_, _, T_hopAt h hc, T_hopAt h ho, ?_⟩
      have e1 := (h.2.2.2.2.1 c hc).1
      have e2 := (h.2.2.2.2.1 o ho).1
      have e3 := h.1.2.2.1 c hc
      have e4 := h.1.2.2.1 o ho
      have e5 : Thp T c ≠ Thp T o := fun q => hn ⟨h1, h2, q⟩
      simp (disch := omega) only [X11_likePrimed, q_m, e1, e2, wI_eq]
      rw [if_neg (by omega)]
    · refine ⟨_, _, T_hopAt h (show c < Tnh T by omega), T_hopNo h hy1 hy2 h2, rfl⟩
  · by_cases h2 : 0 ≤ y ∧ y < Tnh T
    · obtain ⟨o, rfl⟩ := Int.eq_ofNat_of_zero_le h2.1
      exact ⟨_, _, T_hopNo h hx1 hx2 h1, T_hopAt h (show o < Tnh T by omega), rfl⟩
    · exact ⟨_, _, T_hopNo h hx1 hx2 h1, T_hopNo h hy1 hy2 h2, rfl⟩
theorem T_hpYes {b t : Nat} {dt : q_Dt} {T : q_Tl} (h : q_TT b t dt T) {c o : Nat} (hc : c < Tnh T) (ho : o < Tnh T) (hl : Thp T c = Thp T o) : X11_likePrimed (A1 b) dt (some (t + 36 + c)) (some (t + 36 + o)) = some 1 := by
  simp only [X11_likePrimed, q_m, (h.2.2.2.2.1 c hc).1, (h.2.2.2.2.1 o ho).1, hl, if_true]
theorem M_hpYes {b sd : Nat} {dt : q_Dt} {T : q_Tl} (h : q_M b sd dt T) {c o : Nat} (hc : c < Tnh T) (ho : o < Tnh T) (hl : Thp T c = Thp T o) : X12_areHops (A2 b) dt b (wI c) (wI o) = some 1 := by
  have hn := h.1.1.2.1
  have e1 := M_isHop h (x := c) (by omega) (by omega)
  have e2 := M_isHop h (x := o) (by omega) (by omega)
  rw [if_pos (by omega)] at e1 e2
  simp only [X12_areHops, e1, e2, q_b1, q_10, if_false, M_p h hc, M_p h ho, hl, if_true]
theorem M_hpNo {b sd : Nat} {dt : q_Dt} {T : q_Tl} (h : q_M b sd dt T) {x y : Int} (hx1 : -2147483648 ≤ x) (hx2 : x < 2147483648) (hy1 : -2147483648 ≤ y) (hy2 : y < 2147483648) (hn : ¬ q_hpair T x y) : X12_areHops (A2 b) dt b (wI x) (wI y) = some 0 := by
  have e1 := M_isHop h hx1 hx2
  have e2 := M_isHop h hy1 hy2
  by_cases h1 : 0 ≤ x ∧ x < Tnh T
  · rw [if_pos h1] at e1
    obtain ⟨c, rfl⟩ := Int.eq_ofNat_of_zero_le h1.1
    by_cases h2 : 0 ≤ y ∧ y < Tnh T
    · rw [if_pos h2] at e2
      obtain ⟨o, rfl⟩ := Int.eq_ofNat_of_zero_le h2.1
      have hc : c < Tnh T := by omega
      have ho : o < Tnh T := by omega
      have e3 := h.1.2.2.1 c hc
      have e4 := h.1.2.2.1 o ho
      have e5 : Thp T c ≠ Thp T o := fun q => hn ⟨h1, h2, q⟩
      simp only [X12_areHops, e1, e2, q_b1, q_10, if_false, M_p h hc, M_p h ho]
      simp (disch := omega) only [wI_eq]
      rw [if_neg (by omega)]
    · rw [if_neg h2] at e2
      simp only [X12_areHops, e1, e2, q_b1, q_10, if_false, q_00, if_true]
  · rw [if_neg h1] at e1
    simp only [X12_areHops, e1, q_b1, q_00, if_true]
theorem R_hop : q_c_hop q_Rel := by
  intro k b1 b2 dt1 dt2 a0 a1 hk hR
  obtain ⟨x, rfl, hx1, hx2⟩ := q_arg a0
  obtain ⟨y, rfl, hy1, hy2⟩ := q_arg a1
  have hR' := hR
  obtain ⟨T, t, sd, g, hT, hM, ho, -⟩ := hR'
  have e1 := M_isHop hM hx1 hx2
  show ∃ r, X11_hop (A1 b1) dt1 b1 (wI x) (wI y) = some r ∧ X12_hop (A2 b2) dt2 b2 (wI x) (wI y) = some r ∧ _
  by_cases hc : 0 ≤ x ∧ x < Tnh T
  · rw [if_pos hc] at e1
    obtain ⟨c, rfl⟩ := Int.eq_ofNat_of_zero_le hc.1
    have hc' : c < Tnh T := by omega
    by_cases hy : 0 ≤ y
    · obtain ⟨i, rfl⟩ := Int.eq_ofNat_of_zero_le hy
      refine ⟨wI (q_chn T c i), ?_, ?_, R_up hR⟩
      · simp (disch := omega) only [X11_hop, q_o, ho.1, q_m, T_hopAt hT hc', q_b1, T_chn hT hc' (show i < 2147483648 by omega), wI_lit, wI_le]
        rw [if_pos (by omega)]
      · simp only [X12_hop, e1, q_b1, q_10, if_false, M_chn hM hc' (show i < 2147483648 by omega)]
        simp (disch := omega) only [wI_lit, wI_lt]
        rw [if_neg (by omega)]
    · refine ⟨-1, ?_, ?_, R_up hR⟩
      · simp (disch := omega) only [X11_hop, q_o, ho.1, q_m, T_hopAt hT hc', q_b1, wI_lit, wI_le, X11_hop_b17]
        rw [if_neg (by omega)] <;> rfl
      · simp only [X12_hop, e1, q_b1, q_10, if_false]
        simp (disch := omega) only [wI_lit, wI_lt]
        rw [if_pos (by omega)]
  · rw [if_neg hc] at e1
    refine ⟨-1, ?_, ?_, R_up hR⟩
    · simp only [X11_hop, q_o, ho.1, q_m, T_hopNo hT hx1 hx2 hc, q_b1, X11_hop_b17]
    · simp only [X12_hop, e1, q_b1, q_00, if_true]
theorem R_hits : q_c_hits q_Rel := by
  intro k b1 b2 dt1 dt2 a0 a1 a2 hk hR
  obtain ⟨x, rfl, hx1, hx2⟩ := q_arg a0
  obtain ⟨y, rfl, hy1, hy2⟩ := q_arg a1
  obtain ⟨s, rfl, hs1, hs2⟩ := q_arg a2
  have hR' := hR
  obtain ⟨T, t, sd, g, hT, hM, ho, -⟩ := hR'
  show ∃ r, X11_hits (A1 b1) dt1 b1 (wI x) (wI y) (wI s) = some r ∧ X12_hits (A2 b2) dt2 b2 (wI x) (wI y) (wI s) = some r ∧ _
  by_cases hp : q_hpair T x y
  · obtain ⟨⟨hp1, hp2⟩, ⟨hp3, hp4⟩, hp5⟩ := hp
    obtain ⟨c, rfl⟩ := Int.eq_ofNat_of_zero_le hp1
    obtain ⟨o, rfl⟩ := Int.eq_ofNat_of_zero_le hp3
    have hc : c < Tnh T := by omega
    have ho2 : o < Tnh T := by omega
    have hl : Thp T c = Thp T o := hp5
    have hC := hM.1.2.2.1 c hc
    have hcd := hT.2.2.2.2.1 c hc
    by_cases hs : 0 ≤ s ∧ s < Thp T c
    · obtain ⟨i, rfl⟩ := Int.eq_ofNat_of_zero_le hs.1
      refine ⟨wI (q_hit T c o i), ?_, ?_, R_up hR⟩
      · simp only [X11_hits, q_o, ho.1, q_m, T_hopAt hT hc, T_hopAt hT ho2, q_b1, T_hpYes hT hc ho2 hl, q_10, if_false, hcd.1, T_meets hT hc ho2 (show i < 1000 by omega)]
        simp (disch := omega) only [wI_lit, wI_lt]
        rw [if_neg (by omega), if_pos (by omega)]
      · simp only [X12_hits, M_hpYes hM hc ho2 hl, q_b1, q_10, if_false, M_p hM hc, wI_lit, wI_sub]
        rw [M_in1 (by omega) (by omega) (by omega) (by omega) (by omega) (by omega) (by omega)]
        simp only [q_b1, M_hits hM hc ho2 (show i < 1000 by omega)]
        rfl
    · refine ⟨-1, ?_, ?_, R_up hR⟩
      · simp only [X11_hits, q_o, ho.1, q_m, T_hopAt hT hc, T_hopAt hT ho2, q_b1, T_hpYes hT hc ho2 hl, q_10, if_false, hcd.1]
        simp (disch := omega) only [wI_lit, wI_lt]
        by_cases h0 : s < 0
        · rw [if_pos (by omega)]
        · rw [if_neg (by omega), if_neg (by omega)]
      · simp only [X12_hits, M_hpYes hM hc ho2 hl, q_b1, q_10, if_false, M_p hM hc, wI_lit, wI_sub]
        rw [M_in0 (by omega) (by omega) (by omega) (by omega) (by omega) (by omega) (by omega)]
        rfl
  · obtain ⟨v1, v2, g1, g2, g3⟩ := T_hpNo hT hx1 hx2 hy1 hy2 hp
    refine ⟨-1, ?_, ?_, R_up hR⟩
    · simp only [X11_hits, q_o, ho.1, q_m, g1, g2, g3, q_b1, q_00, if_true]
    · simp only [X12_hits, M_hpNo hM hx1 hx2 hy1 hy2 hp, q_b1, q_00, if_true]
def q_whit (T : q_Tl) (h o st : Nat) : Int := q_top (fun s => if s < st then 0 else q_hit T h o s) (Thp T h)
theorem q_hit_b {T : q_Tl} {h o s : Nat} : 0 ≤ q_hit T h o s ∧ q_hit T h o s ≤ Thp T h := q_sum01 _ (fun i _ => q_if01 _)
theorem q_hitf_b {T : q_Tl} {h o st : Nat} (i : Nat) : (fun s => if s < st then 0 else q_hit T h o s) i ≤ (Thp T h : Int) := by
  have := q_hit_b (T := T) (h := h) (o := o) (s := i)
  show (if i < st then 0 else q_hit T h o i) ≤ (Thp T h : Int)
  by_cases h : i < st
  · rw [if_pos h]; omega
  · rw [if_neg h]; omega
theorem T_whit {b t : Nat} {dt : q_Dt} {T : q_Tl} (h : q_TT b t dt T) {p o st : Nat} (hp : p < Tnh T) (ho : o < Tnh T) (hs : st ≤ 1) : X11_worstHits_b45 (A1 b) dt (some (t + 36 + p)) (some (t + 36 + o)) q_FU (wI 0) (wI st) = some (wI (q_whit T p o st)) := by
  have h1 := h.1.2.2.1 p hp
  have h3 := h.2.2.2.2.1 p hp
  have hl : ∀ n i k, i + n = Thp T p → n < k → (st ≤ i) → X11_worstHits_b45 (A1 b) dt (some (t + 36 + p)) (some (t + 36 + o)) k (wI (q_top (fun s => if s < st then 0 else q_hit T p o s) i)) (wI i) = some (wI (q_whit T p o st)) := by
    intro n
    induction n with
    | zero =>
      intro i k h1 h2 g1
      obtain ⟨k, rfl⟩ : ∃ m, k = m + 1 := ⟨k - 1, by omega⟩
      have e : i = Thp T p := by omega
      simp (disch := omega) only [X11_worstHits_b45, q_m, h3.1, wI_le]
      rw [if_pos (by omega), e]
      rfl
    | succ n ih =>
      intro i k h1 h2 g1
      obtain ⟨k, rfl⟩ : ∃ m, k = m + 1 := ⟨k - 1, by omega⟩
      have hi : i < Thp T p := by omega
      have hih := ih (i + 1) k (by omega) (by omega) (by omega)
      rw [q_top_s, if_neg (show ¬ i < st by omega)] at hih
      have hb2 := q_top_b (by omega) i (fun j _ => q_hitf_b (T := T) (h := p) (o := o) (st := st) j)
      have hb3 := q_hit_b (T := T) (h := p) (o := o) (s := i)
      simp (disch := omega) only [X11_worstHits_b45, q_m, h3.1, wI_le, T_meets h hp ho (show i < 1000 by omega), q_b1, m_max, wI_lit, wI_add]
      rw [if_neg (by omega)]
      exact hih
  have h0 : q_top (fun s => if s < st then 0 else q_hit T p o s) st = 0 := by
    rcases (show st = 0 ∨ st = 1 by omega) with rfl | rfl
    · rfl
    · rfl
  have h1 := hl (Thp T p - st) st q_FU (by omega) (by unfold q_FU; omega) (by omega)
  rw [h0] at h1
  exact h1
theorem M_whit {b sd : Nat} {dt : q_Dt} {T : q_Tl} (h : q_M b sd dt T) {p o st : Nat} (hp : p < Tnh T) (ho : o < Tnh T) (hs : st ≤ 1) : X12_worstHits_b25 (A2 b) dt b (wI p) (wI o) q_FU (wI 0) (wI st) = some (wI (q_whit T p o st)) := by
  have h1 := h.1.2.2.1 p hp
  have hl : ∀ n i k, i + n = Thp T p → n < k → (st ≤ i) → X12_worstHits_b25 (A2 b) dt b (wI p) (wI o) k (wI (q_top (fun s => if s < st then 0 else q_hit T p o s) i)) (wI i) = some (wI (q_whit T p o st)) := by
    intro n
    induction n with
    | zero =>
      intro i k h1 h2 g1
      obtain ⟨k, rfl⟩ : ∃ m, k = m + 1 := ⟨k - 1, by omega⟩
      have e : i = Thp T p := by omega
      simp (disch := omega) only [X12_worstHits_b25, M_p h hp, q_b1, wI_le]
      rw [if_pos (by omega), e]
      rfl
    | succ n ih =>
      intro i k h1 h2 g1
      obtain ⟨k, rfl⟩ : ∃ m, k = m + 1 := ⟨k - 1, by omega⟩
      have hi : i < Thp T p := by omega
      have hih := ih (i + 1) k (by omega) (by omega) (by omega)
      rw [q_top_s, if_neg (show ¬ i < st by omega)] at hih
      have hb2 := q_top_b (by omega) i (fun j _ => q_hitf_b (T := T) (h := p) (o := o) (st := st) j)
      have hb3 := q_hit_b (T := T) (h := p) (o := o) (s := i)
      simp (disch := omega) only [X12_worstHits_b25, M_p h hp, wI_le, M_hits h hp ho (show i < 1000 by omega), q_b1, X12_worstHits_b56, wI_lit, wI_add]
      rw [if_neg (by omega)]
      by_cases hw : q_top (fun s => if s < st then 0 else q_hit T p o s) i < q_hit T p o i
      · rw [if_neg (by omega)]
        rw [if_pos hw] at hih
        exact hih
      · rw [if_pos (by omega)]
        rw [if_neg hw] at hih
        exact hih
  have h0 : q_top (fun s => if s < st then 0 else q_hit T p o s) st = 0 := by
    rcases (show st = 0 ∨ st = 1 by omega) with rfl | rfl
    · rfl
    · rfl
  have h1 := hl (Thp T p - st) st q_FU (by omega) (by unfold q_FU; omega) (by omega)
  rw [h0] at h1
  exact h1
theorem R_worstHits : q_c_worstHits q_Rel := by
  intro k b1 b2 dt1 dt2 a0 a1 hk hR
  obtain ⟨x, rfl, hx1, hx2⟩ := q_arg a0
  obtain ⟨y, rfl, hy1, hy2⟩ := q_arg a1
  have hR' := hR
  obtain ⟨T, t, sd, g, hT, hM, ho, -⟩ := hR'
  have hn := hM.1.1.2.1
  show ∃ r, X11_worstHits (A1 b1) dt1 b1 (wI x) (wI y) = some r ∧ X12_worstHits (A2 b2) dt2 b2 (wI x) (wI y) = some r ∧ _
  by_cases hp : q_hpair T x y
  · obtain ⟨⟨hp1, hp2⟩, ⟨hp3, hp4⟩, hp5⟩ := hp
    obtain ⟨c, rfl⟩ := Int.eq_ofNat_of_zero_le hp1
    obtain ⟨o, rfl⟩ := Int.eq_ofNat_of_zero_le hp3
    have hc : c < Tnh T := by omega
    have ho2 : o < Tnh T := by omega
    have hl : Thp T c = Thp T o := hp5
    refine ⟨wI (q_whit T c o (if c = o then 1 else 0)), ?_, ?_, R_up hR⟩
    · simp only [X11_worstHits, q_o, ho.1, q_m, T_hopAt hT hc, T_hopAt hT ho2, q_b1, T_hpYes hT hc ho2 hl, q_10, if_false, X11_worstHits_b43]
      simp (disch := omega) only [wI_eq]
      by_cases h : c = o
      · rw [if_pos (by omega), if_pos h]
        exact T_whit hT hc ho2 (st := 1) (by omega)
      · rw [if_neg (by omega), if_neg h]
        exact T_whit hT hc ho2 (st := 0) (by omega)
    · simp only [X12_worstHits, M_hpYes hM hc ho2 hl, q_b1, q_10, if_false, X12_worstHits_b23]
      simp (disch := omega) only [wI_eq]
      by_cases h : c = o
      · rw [if_pos (by omega), if_pos h]
        exact M_whit hM hc ho2 (st := 1) (by omega)
      · rw [if_neg (by omega), if_neg h]
        exact M_whit hM hc ho2 (st := 0) (by omega)
  · obtain ⟨v1, v2, g1, g2, g3⟩ := T_hpNo hT hx1 hx2 hy1 hy2 hp
    refine ⟨-1, ?_, ?_, R_up hR⟩
    · simp only [X11_worstHits, q_o, ho.1, q_m, g1, g2, g3, q_b1, q_00, if_true]
    · simp only [X12_worstHits, M_hpNo hM hx1 hx2 hy1 hy2 hp, q_b1, q_00, if_true]
