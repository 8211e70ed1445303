/-! level two: near and range -/
def q_isr (T : q_Tl) (x d : Int) : Prop := (0 ≤ x ∧ x < Tnc T) ∧ 0 ≤ d ∧ d < Tlen T x.toNat
theorem T_isCell {b t : Nat} {dt : q_Dt} {T : q_Tl} (h : q_TT b t dt T) {c : Nat} (hc : c < Tnc T) {d e : Int} (hd1 : -2147483648 ≤ d) (hd2 : d < 2147483648) (he1 : -2147483648 ≤ e) (he2 : e < 2147483648) : X11_isCell (A1 b) dt (some (t + 12 + 3 * c)) (wI d) (wI e) = some (if (0 ≤ d ∧ d < Tlen T c) ∧ 0 ≤ e ∧ e < 4 then 1 else 0) := by
  have h1 := (h.1.2.1 c hc).1
  have h2 := (h.2.2.2.1 c hc).1
  simp (disch := omega) only [X11_isCell, q_m, h2, wI_lit, wI_lt, wI_le]
  by_cases g : (0 ≤ d ∧ d < Tlen T c) ∧ 0 ≤ e ∧ e < 4
  · rw [if_pos g, if_neg (by omega), if_neg (by omega), if_neg (by omega), if_neg (by omega)]
  · rw [if_neg g]
    by_cases g1 : d < 0
    · rw [if_pos (by omega)]
    · rw [if_neg (by omega)]
      by_cases g2 : (Tlen T c : Int) ≤ d
      · rw [if_pos (by omega)]
      · rw [if_neg (by omega)]
        by_cases g3 : e < 0
        · rw [if_pos (by omega)]
        · rw [if_neg (by omega), if_pos (by omega)]
theorem T_isRest1 {b t : Nat} {dt : q_Dt} {T : q_Tl} (h : q_TT b t dt T) (ho : q_own b t dt) {x d : Int} (hx1 : -2147483648 ≤ x) (hx2 : x < 2147483648) (hd1 : -2147483648 ≤ d) (hd2 : d < 2147483648) (hv : x = -1 ∨ q_isr T x d) : X11_isRest (A1 b) dt b (wI x) (wI d) = some 1 := by
  have e1 : (-1 : Int32) = wI (-1) := rfl
  unfold X11_isRest X11_isRest_b21
  rw [e1]
  simp (disch := omega) only [wI_eq]
  rcases hv with hv | hv
  · rw [if_pos hv]
  · obtain ⟨c, rfl⟩ := Int.eq_ofNat_of_zero_le hv.1.1
    have hc : c < Tnc T := by have := hv.1.2; omega
    have e2 := T_isCell h hc hd1 hd2 (e := 0) (by omega) (by omega)
    rw [if_pos ⟨hv.2, by omega, by omega⟩] at e2
    rw [if_neg (by omega)]
    simp only [q_o, ho.1, q_m, T_codeAt h hc, q_b1]
    rw [show (0 : Int32) = wI 0 from rfl, e2]
    rfl
theorem T_isRest0 {b t : Nat} {dt : q_Dt} {T : q_Tl} (h : q_TT b t dt T) (ho : q_own b t dt) {x d : Int} (hx1 : -2147483648 ≤ x) (hx2 : x < 2147483648) (hd1 : -2147483648 ≤ d) (hd2 : d < 2147483648) (hv : ¬ (x = -1 ∨ q_isr T x d)) : X11_isRest (A1 b) dt b (wI x) (wI d) = some 0 := by
  have e1 : (-1 : Int32) = wI (-1) := rfl
  unfold X11_isRest X11_isRest_b21
  rw [e1]
  simp (disch := omega) only [wI_eq]
  rw [if_neg (fun g => hv (Or.inl g))]
  by_cases hc : 0 ≤ x ∧ x < Tnc T
  · obtain ⟨c, rfl⟩ := Int.eq_ofNat_of_zero_le hc.1
    have hc' : c < Tnc T := by omega
    have e2 := T_isCell h hc' hd1 hd2 (e := 0) (by omega) (by omega)
    rw [if_neg (fun g => hv (Or.inr ⟨hc, g.1⟩))] at e2
    simp only [q_o, ho.1, q_m, T_codeAt h hc', q_b1]
    rw [show (0 : Int32) = wI 0 from rfl, e2]
    rfl
  · simp only [q_o, ho.1, q_m, T_codeNo h hx1 hx2 hc, q_b1]
    rfl
theorem M_isRest1 {b sd : Nat} {dt : q_Dt} {T : q_Tl} (h : q_M b sd dt T) {x d : Int} (hx1 : -2147483648 ≤ x) (hx2 : x < 2147483648) (hd1 : -2147483648 ≤ d) (hd2 : d < 2147483648) (hv : q_isr T x d) : X12_isRest (A2 b) dt b (wI x) (wI d) = some 1 := by
  have e1 := M_isCode h hx1 hx2
  rw [if_pos hv.1] at e1
  obtain ⟨c, rfl⟩ := Int.eq_ofNat_of_zero_le hv.1.1
  have hc : c < Tnc T := by have := hv.1.2; omega
  have h1 := (h.1.2.1 c hc).1
  have h2 : 0 ≤ d ∧ d < Tlen T c := hv.2
  simp only [X12_isRest, e1, q_b1, q_10, if_false, M_long h hc, wI_lit, wI_sub]
  rw [M_in1 (by omega) (by omega) (by omega) (by omega) (by omega) (by omega) (by omega)]
  rfl
theorem M_isRest0 {b sd : Nat} {dt : q_Dt} {T : q_Tl} (h : q_M b sd dt T) {x d : Int} (hx1 : -2147483648 ≤ x) (hx2 : x < 2147483648) (hd1 : -2147483648 ≤ d) (hd2 : d < 2147483648) (hv : ¬ q_isr T x d) : X12_isRest (A2 b) dt b (wI x) (wI d) = some 0 := by
  have e1 := M_isCode h hx1 hx2
  by_cases hc : 0 ≤ x ∧ x < Tnc T
  · rw [if_pos hc] at e1
    obtain ⟨c, rfl⟩ := Int.eq_ofNat_of_zero_le hc.1
    have hc' : c < Tnc T := by omega
    have h1 := (h.1.2.1 c hc').1
    have h2 : ¬ (0 ≤ d ∧ d < Tlen T c) := fun g => hv ⟨hc, g⟩
    simp only [X12_isRest, e1, q_b1, q_10, if_false, M_long h hc', wI_lit, wI_sub]
    rw [M_in0 (by omega) (by omega) (by omega) (by omega) (by omega) (by omega) (by omega)]
    rfl
  · rw [if_neg hc] at e1
    simp only [X12_isRest, e1, q_b1, q_00, if_true]
theorem T_lenNo {b t : Nat} {dt : q_Dt} {T : q_Tl} (h : q_TT b t dt T) (ho : q_own b t dt) : X11_lengthOf (A1 b) dt b (wI (-1)) = some (wI (1 : Nat)) := by
  unfold X11_lengthOf
  simp only [q_o, ho.1, q_m, T_codeNo h (x := -1) (by omega) (by omega) (by omega), q_b1]
  rfl
theorem T_lenYes {b t : Nat} {dt : q_Dt} {T : q_Tl} (h : q_TT b t dt T) (ho : q_own b t dt) {c : Nat} (hc : c < Tnc T) : X11_lengthOf (A1 b) dt b (wI c) = some (wI (Tlen T c)) := by
  unfold X11_lengthOf
  simp only [q_o, ho.1, q_m, T_codeAt h hc, q_b1, (h.2.2.2.1 c hc).1]
theorem q_ap_1 {a d : Int} : q_ap a d 1 = 0 := by
  unfold q_ap
  have : (a - d) % ((1 : Nat) : Int) = 0 := by omega
  rw [this, if_neg (by omega)]
def q_nr (off : Nat → Int) : Nat → Nat → Int → Int → Int
  | 0, _, _, fo => fo
  | n + 1, v, le, fo => if off v < le then q_nr off n (v + 1) (off v) v else q_nr off n (v + 1) le fo
def q_off (T : q_Tl) (c : Nat) (da : Int) (y db : Int) (v : Nat) : Int := q_ap v da (Tlen T c) + if y = -1 then 0 else q_ap v db (Tlen T y.toNat)
theorem q_off1 {T : q_Tl} {c : Nat} {d f : Int} {v : Nat} : q_off T c d (-1) f v = q_ap v d (Tlen T c) := by
  unfold q_off
  rw [if_pos rfl, Int.add_zero]
theorem q_off2 {T : q_Tl} {c o : Nat} {d f : Int} {v : Nat} : q_off T c d o f v = q_ap v d (Tlen T c) + q_ap v f (Tlen T o) := by
  unfold q_off
  rw [if_neg (by omega), Int.toNat_natCast]
theorem b1s {α β : Type} (a : α) (f : α → Option β) : q_b1 (some a) f = f a := rfl
theorem b2s {α β γ : Type} (a : α) (b : β) (f : α → β → Option γ) : q_b2 (some (a, b)) f = f a b := rfl
theorem m1s {β : Type} (a : Nat) (A : β) (B : Nat → β) : q_m (some a) A B = B a := rfl
theorem m1n {β : Type} (A : β) (B : Nat → β) : q_m none A B = A := rfl
theorem o1s {α β : Type} (x : α) (f : α → β) : q_o x f = f x := rfl
theorem near_off {b t : Nat} {dt : q_Dt} {T : q_Tl} (hT : q_TT b t dt T) {c : Nat} (hc : c < Tnc T) {d y f : Int} (hy0 : y = -1 ∨ ∃ o : Nat, y = o ∧ o < Tnc T ∧ 0 ≤ f ∧ f < Tlen T o) : ∀ v : Nat, 0 ≤ q_off T c d y f v ∧ q_off T c d y f v ≤ 254 := by
  have hC := (hT.1.2.1 c hc).1
  intro v
  have g1 := q_ap_b (a := v) (d := d) (show 0 < Tlen T c by omega)
  unfold q_off
  rcases hy0 with hy | ⟨o, rfl, ho1, ho2⟩
  · rw [if_pos hy]; omega
  · have hO := (hT.1.2.1 o ho1).1
    have g2 := q_ap_b (a := v) (d := f) (show 0 < Tlen T o by omega)
    rw [if_neg (by omega), Int.toNat_natCast]
    omega
theorem near_p1 {b1 t : Nat} {dt1 : q_Dt} {T : q_Tl} (hT : q_TT b1 t dt1 T) (ho : q_own b1 t dt1) {c L i k : Nat} (hc : c < Tnc T) (hL : L ≤ 20000) (hi : i < L + 1) {d y f : Int} (hd : 0 ≤ d ∧ d < Tlen T c) (hf1 : -2147483648 ≤ f) (hf2 : f < 2147483648) (hy0 : y = -1 ∨ ∃ o : Nat, y = o ∧ o < Tnc T ∧ 0 ≤ f ∧ f < Tlen T o) {le fo : Int} (hle1 : 0 ≤ le) (hle2 : le ≤ 100000) : X11_near_b50 (A1 b1) dt1 b1 (wI c) (wI d) (wI y) (wI f) (wI L) (k + 1) (wI le) (wI fo) (wI i) = if le ≤ q_off T c d y f i then X11_near_b50 (A1 b1) dt1 b1 (wI c) (wI d) (wI y) (wI f) (wI L) k (wI le) (wI fo) (wI (i + 1 : Nat)) else X11_near_b50 (A1 b1) dt1 b1 (wI c) (wI d) (wI y) (wI f) (wI L) k (wI (q_off T c d y f i)) (wI i) (wI (i + 1 : Nat)) := by
  have hof := near_off hT hc (d := d) hy0 i
  have hC := (hT.1.2.1 c hc).1
  have g1 := q_ap_b (a := i) (d := d) (show 0 < Tlen T c by omega)
  rcases hy0 with rfl | ⟨o, rfl, ho1, ho2⟩
  · rw [q_off1] at hof ⊢
    simp (disch := omega) only [X11_near_b50, wI_lt, T_lenYes hT ho hc, q_b1, m_ap, T_lenNo hT ho, q_ap_1, wI_add, wI_le, X11_near_b98, wI_lit, ← Int.natCast_add, Int.add_zero]
    rw [if_neg (by omega)]
  · have hO := (hT.1.2.1 o ho1).1
    have g2 := q_ap_b (a := i) (d := f) (show 0 < Tlen T o by omega)
    rw [q_off2] at hof ⊢
    simp (disch := omega) only [X11_near_b50, wI_lt, T_lenYes hT ho hc, q_b1, m_ap, T_lenYes hT ho ho1, wI_add, wI_le, X11_near_b98, wI_lit, ← Int.natCast_add, Int.add_zero]
    rw [if_neg (by omega)]
theorem near_p2 {b sd : Nat} {dt : q_Dt} {T : q_Tl} (hM : q_M b sd dt T) {c L i k : Nat} (hc : c < Tnc T) (hL : L ≤ 20000) (hi : i < L + 1) {d y f : Int} (hd : 0 ≤ d ∧ d < Tlen T c) (hf1 : -2147483648 ≤ f) (hf2 : f < 2147483648) (hy0 : y = -1 ∨ ∃ o : Nat, y = o ∧ o < Tnc T ∧ 0 ≤ f ∧ f < Tlen T o) {le fo : Int} (hle1 : 0 ≤ le) (hle2 : le ≤ 100000) (hof : 0 ≤ q_off T c d y f i ∧ q_off T c d y f i ≤ 254) : X12_near_b49 (A2 b) dt b (wI c) (wI d) (wI y) (wI f) (wI L) (k + 1) (wI fo) (wI le) (wI i) = if q_off T c d y f i < le then X12_near_b49 (A2 b) dt b (wI c) (wI d) (wI y) (wI f) (wI L) k (wI i) (wI (q_off T c d y f i)) (wI (i + 1 : Nat)) else X12_near_b49 (A2 b) dt b (wI c) (wI d) (wI y) (wI f) (wI L) k (wI fo) (wI le) (wI (i + 1 : Nat)) := by
  have z0 : ((0 : Nat) : Int) = 0 := rfl
  have hn := hM.1.1.1
  have hC := (hM.1.2.1 c hc).1
  have g1 := q_ap_b (a := i) (d := d) (show 0 < Tlen T c by omega)
  rcases hy0 with rfl | ⟨o, rfl, ho1, ho2⟩
  · rw [q_off1] at hof ⊢
    simp (disch := omega) only [X12_near_b49, wI_lt, M_long hM hc, b1s, n_ap, wI_eq, X12_near_b88, X12_near_b109, wI_lit, wI_neg, wI_add, ← Int.natCast_add, z0, Int.add_zero, if_true]
    rw [if_neg (by omega)]
    rw [if_pos (by omega)]
  · have hO := (hM.1.2.1 o ho1).1
    have g2 := q_ap_b (a := i) (d := f) (show 0 < Tlen T o by omega)
    rw [q_off2] at hof ⊢
    simp (disch := omega) only [X12_near_b49, wI_lt, M_long hM hc, b1s, n_ap, wI_eq, M_long hM ho1, X12_near_b88, X12_near_b109, wI_lit, wI_add, wI_neg, ← Int.natCast_add]
    rw [if_neg (by omega), if_neg (by omega)]
theorem near_L {b1 t b2 sd : Nat} {dt1 dt2 : q_Dt} {T : q_Tl} (hT : q_TT b1 t dt1 T) (ho : q_own b1 t dt1) (hM : q_M b2 sd dt2 T) {c L : Nat} (hc : c < Tnc T) (hL : L ≤ 20000) {d y f : Int} (hd : 0 ≤ d ∧ d < Tlen T c) (hf1 : -2147483648 ≤ f) (hf2 : f < 2147483648) (hy0 : y = -1 ∨ ∃ o : Nat, y = o ∧ o < Tnc T ∧ 0 ≤ f ∧ f < Tlen T o) : ∀ n i k, i + n = L + 1 → n < k → ∀ le fo : Int, 0 ≤ le → le ≤ 100000 → X11_near_b50 (A1 b1) dt1 b1 (wI c) (wI d) (wI y) (wI f) (wI L) k (wI le) (wI fo) (wI i) = some (wI (q_nr (q_off T c d y f) n i le fo)) ∧ X12_near_b49 (A2 b2) dt2 b2 (wI c) (wI d) (wI y) (wI f) (wI L) k (wI fo) (wI le) (wI i) = some (wI (q_nr (q_off T c d y f) n i le fo)) := by
  have hn := hT.1.1.1
  have hC := (hT.1.2.1 c hc).1
  have e1 : (-1 : Int32) = wI (-1) := rfl
  have hoff := near_off hT hc (d := d) hy0
  have z0 : ((0 : Nat) : Int) = 0 := rfl
  have hl : ∀ n i k, i + n = L + 1 → n < k → ∀ le fo : Int, 0 ≤ le → le ≤ 100000 → X11_near_b50 (A1 b1) dt1 b1 (wI c) (wI d) (wI y) (wI f) (wI L) k (wI le) (wI fo) (wI i) = some (wI (q_nr (q_off T c d y f) n i le fo)) ∧ X12_near_b49 (A2 b2) dt2 b2 (wI c) (wI d) (wI y) (wI f) (wI L) k (wI fo) (wI le) (wI i) = some (wI (q_nr (q_off T c d y f) n i le fo)) := by
    intro n
    induction n with
    | zero =>
      intro i k h1 h2 
      obtain ⟨k, rfl⟩ : ∃ m, k = m + 1 := ⟨k - 1, by omega⟩
      have e : i = L + 1 := by omega
      intro le fo hle1 hle2
      simp (disch := omega) only [X11_near_b50, X12_near_b49, wI_lt]
      rw [if_pos (by omega), if_pos (by omega)]
      exact ⟨rfl, rfl⟩
    | succ n ih =>
      intro i k h1 h2 
      obtain ⟨k, rfl⟩ : ∃ m, k = m + 1 := ⟨k - 1, by omega⟩
      have hi : i < L + 1 := by omega
      intro le fo hle1 hle2
      have hof := hoff i
      have ih1 := ih (i + 1) k (by omega) (by omega) le fo hle1 hle2
      have ih2 := ih (i + 1) k (by omega) (by omega) (q_off T c d y f i) i (by omega) (by omega)
      rw [near_p1 hT ho hc hL hi hd hf1 hf2 hy0 hle1 hle2, near_p2 hM hc hL hi hd hf1 hf2 hy0 hle1 hle2 hof]
      show _ = some (wI (if q_off T c d y f i < le then q_nr (q_off T c d y f) n (i + 1) (q_off T c d y f i) i else q_nr (q_off T c d y f) n (i + 1) le fo)) ∧ _ = some (wI (if q_off T c d y f i < le then q_nr (q_off T c d y f) n (i + 1) (q_off T c d y f i) i else q_nr (q_off T c d y f) n (i + 1) le fo))
      by_cases hq : q_off T c d y f i < le
      · rw [if_neg (by omega), if_pos hq, if_pos hq]
        exact ih2
      · rw [if_pos (by omega), if_neg hq, if_neg hq]
        exact ih1
  exact hl
theorem R_near : q_c_near q_Rel := by
  intro k b1 b2 dt1 dt2 a0 a1 a2 a3 a4 hk hR
  obtain ⟨x, rfl, hx1, hx2⟩ := q_arg a0
  obtain ⟨d, rfl, hd1, hd2⟩ := q_arg a1
  obtain ⟨y, rfl, hy1, hy2⟩ := q_arg a2
  obtain ⟨f, rfl, hf1, hf2⟩ := q_arg a3
  obtain ⟨m, rfl, hm1, hm2⟩ := q_arg a4
  have hR' := hR
  obtain ⟨T, t, sd, g, hT, hM, ho, -⟩ := hR'
  have e1 : (-1 : Int32) = wI (-1) := rfl
  show ∃ r, X11_near (A1 b1) dt1 b1 (wI x) (wI d) (wI y) (wI f) (wI m) = some r ∧ X12_near (A2 b2) dt2 b2 (wI x) (wI d) (wI y) (wI f) (wI m) = some r ∧ _
  by_cases hv : q_isr T x d
  · have hx0 := hv.1.1
    by_cases hw : y = -1 ∨ q_isr T y f
    · have r1 := T_isRest1 hT ho hx1 hx2 hd1 hd2 (Or.inr hv)
      have r2 := T_isRest1 hT ho hy1 hy2 hf1 hf2 hw
      have r3 := M_isRest1 hM hx1 hx2 hd1 hd2 hv
      have q24 : X12_near (A2 b2) dt2 b2 (wI x) (wI d) (wI y) (wI f) (wI m) = X12_near_b24 (A2 b2) dt2 b2 (wI x) (wI d) (wI y) (wI f) (wI m) := by
        unfold X12_near
        simp only [r3, q_b1, q_10, if_false]
        rw [e1]
        simp (disch := omega) only [wI_eq]
        by_cases hy : y = -1
        · rw [if_pos hy]
        · rw [if_neg hy]
          have hw2 : q_isr T y f := by
            rcases hw with hw | hw
            · exact absurd hw hy
            · exact hw
          simp only [M_isRest1 hM hy1 hy2 hf1 hf2 hw2, q_b1, q_10, if_false]
      rw [q24]
      by_cases hm : 0 ≤ m ∧ m ≤ 20000
      · obtain ⟨L, rfl⟩ := Int.eq_ofNat_of_zero_le hm.1
        obtain ⟨c, rfl⟩ := Int.eq_ofNat_of_zero_le hx0
        have hc : c < Tnc T := by have := hv.1.2; omega
        have hC := (hT.1.2.1 c hc).1
        have hd : 0 ≤ d ∧ d < Tlen T c := hv.2
        have hy0 : y = -1 ∨ ∃ o : Nat, y = o ∧ o < Tnc T ∧ 0 ≤ f ∧ f < Tlen T o := by
          rcases hw with hw | hw
          · exact Or.inl hw
          · obtain ⟨o, rfl⟩ := Int.eq_ofNat_of_zero_le hw.1.1
            exact Or.inr ⟨o, rfl, by have := hw.1.2; omega, hw.2⟩
        have hl := near_L hT ho hM hc (show L ≤ 20000 by omega) hd hf1 hf2 hy0
        have hoff := near_off hT hc (d := d) hy0
        have hA := (hl (L + 1) 0 q_FU (by omega) (by unfold q_FU; omega) 255 0 (by omega) (by omega)).1
        have hB := (hl (L + 1) 0 q_FU (by omega) (by unfold q_FU; omega) 100000 0 (by omega) (by omega)).2
        have hAB : q_nr (q_off T c d y f) (L + 1) 0 255 0 = q_nr (q_off T c d y f) (L + 1) 0 100000 0 := by
          have h0 := hoff 0
          show (if q_off T c d y f 0 < 255 then q_nr (q_off T c d y f) L 1 (q_off T c d y f 0) (0 : Nat) else q_nr (q_off T c d y f) L 1 255 0) = (if q_off T c d y f 0 < 100000 then q_nr (q_off T c d y f) L 1 (q_off T c d y f 0) (0 : Nat) else q_nr (q_off T c d y f) L 1 100000 0)
          rw [if_pos (by omega), if_pos (by omega)]
        rw [← hAB] at hB
        refine ⟨wI (q_nr (q_off T c d y f) (L + 1) 0 255 0), ?_, ?_, R_up hR⟩
        · unfold X11_near
          rw [e1]
          simp (disch := omega) only [wI_eq]
          rw [if_neg (by omega)]
          simp only [r1, r2, q_b1, q_10, if_false]
          simp (disch := omega) only [wI_lit, wI_lt, wI_le]
          rw [if_neg (by omega), if_pos (by omega)]
          exact hA
        · unfold X12_near_b24
          simp only [wI_lit]
          rw [M_in1 (by omega) (by omega) (by omega) (by omega) (by omega) (by omega) (by omega)]
          simp only [q_b1]
          rw [if_neg (by decide)]
          exact hB
      · refine ⟨-1, ?_, ?_, R_up hR⟩
        · unfold X11_near
          rw [e1]
          simp (disch := omega) only [wI_eq]
          rw [if_neg (by omega)]
          simp only [r1, r2, q_b1, q_10, if_false]
          simp (disch := omega) only [wI_lit, wI_lt, wI_le]
          by_cases h0 : m < 0
          · rw [if_pos (by omega)]
          · rw [if_neg (by omega), if_neg (by omega)]
        · unfold X12_near_b24
          simp only [wI_lit]
          rw [M_in0 (by omega) (by omega) (by omega) (by omega) (by omega) (by omega) (by omega)]
          rfl
    · have r1 := T_isRest1 hT ho hx1 hx2 hd1 hd2 (Or.inr hv)
      have r2 := T_isRest0 hT ho hy1 hy2 hf1 hf2 hw
      have r3 := M_isRest1 hM hx1 hx2 hd1 hd2 hv
      have r4 := M_isRest0 hM hy1 hy2 hf1 hf2 (fun g => hw (Or.inr g))
      refine ⟨-1, ?_, ?_, R_up hR⟩
      · unfold X11_near
        rw [e1]
        simp (disch := omega) only [wI_eq]
        rw [if_neg (by omega)]
        simp only [r1, r2, q_b1, q_10, if_false, q_00, if_true]
      · unfold X12_near
        simp only [r3, r4, q_b1, q_10, if_false]
        rw [e1]
        simp (disch := omega) only [wI_eq]
        rw [if_neg (fun g => hw (Or.inl g))]
        rfl
  · have r3 := M_isRest0 hM hx1 hx2 hd1 hd2 hv
    refine ⟨-1, ?_, ?_, R_up hR⟩
    · unfold X11_near
      rw [e1]
      simp (disch := omega) only [wI_eq]
      by_cases hx : x = -1
      · rw [if_pos hx]
      · rw [if_neg hx]
        have r1 := T_isRest0 hT ho hx1 hx2 hd1 hd2 (fun g => g.elim hx hv)
        simp only [r1, q_b1, q_00, if_true]
    · unfold X12_near
      simp only [r3, q_b1, q_00, if_true]
/-- the least of v, v + st, .. whose rest by l is d -/
def q_mt (v st l : Nat) (d : Int) : Nat → Nat → Int
  | 0, _ => -2
  | c + 1, k => if (((v + k * st) % l : Nat) : Int) = d then (v + k * st : Nat) else q_mt v st l d c (k + 1)
theorem q_mt_b {v st l : Nat} {d : Int} (c : Nat) : ∀ k, k + c ≤ 200 → -2 ≤ q_mt v st l d c k ∧ q_mt v st l d c k ≤ v + 200 * st := by
  induction c with
  | zero =>
    intro k h
    show -2 ≤ (-2 : Int) ∧ (-2 : Int) ≤ v + 200 * st
    omega
  | succ c ih =>
    intro k h
    have h2 := ih (k + 1) (by omega)
    have h3 : k * st ≤ 200 * st := Nat.mul_le_mul_right _ (by omega)
    show -2 ≤ (if (((v + k * st) % l : Nat) : Int) = d then ((v + k * st : Nat) : Int) else q_mt v st l d c (k + 1)) ∧ (if (((v + k * st) % l : Nat) : Int) = d then ((v + k * st : Nat) : Int) else q_mt v st l d c (k + 1)) ≤ v + 200 * st
    by_cases g : (((v + k * st) % l : Nat) : Int) = d
    · rw [if_pos g]; omega
    · rw [if_neg g]; exact h2
theorem m_next {v st l : Nat} {d : Int} (hv : v < 1000000000) (hs : st < 1000000) (hl0 : 0 < l) (hl1 : l < 200) (hd : 0 ≤ d) (hd2 : d < l) : X11_nextWithRest (wJ v) (wJ st) (wJ l) (wI d) = some (wJ (q_mt v st l d l 0)) := by
  have hl : ∀ n i k, i + n = l → n < k → X11_nextWithRest_b3 (wJ v) (wJ st) (wJ l) (wI d) k (wJ i) = some (wJ (q_mt v st l d n i)) := by
    intro n
    induction n with
    | zero =>
      intro i k h1 h2 
      obtain ⟨k, rfl⟩ : ∃ m, k = m + 1 := ⟨k - 1, by omega⟩
      have e : i = l := by omega
      simp (disch := omega) only [X11_nextWithRest_b3, wJ_le]
      rw [if_pos (by omega)]
      rfl
    | succ n ih =>
      intro i k h1 h2 
      obtain ⟨k, rfl⟩ : ∃ m, k = m + 1 := ⟨k - 1, by omega⟩
      have hi : i < l := by omega
      have hih := ih (i + 1) k (by omega) (by omega)
      have g1 : i * st ≤ 200 * 1000000 := Nat.mul_le_mul (by omega) (by omega)
      have g2 := Nat.mod_lt (v + i * st) hl0
      have g3 : d % (l : Int) = d := Int.emod_eq_of_lt hd hd2
      simp (disch := omega) only [X11_nextWithRest_b3, wJ_le, wJ_mul, wJ_add, ← Int.natCast_mul, ← Int.natCast_add, m_rest, q_b1, wI_wJ, g3, ← Int.natCast_emod, wJ_eq, wJ_lit]
      rw [if_neg (by omega)]
      show _ = some (wJ (if (((v + i * st) % l : Nat) : Int) = d then ((v + i * st : Nat) : Int) else q_mt v st l d n (i + 1)))
      by_cases g : (((v + i * st) % l : Nat) : Int) = d
      · rw [if_pos g, if_pos g]
      · rw [if_neg g, if_neg g]
        exact hih
  exact hl l 0 q_FU (by omega) (by unfold q_FU; omega)
theorem m_next1 {v st : Nat} {d : Int} (hv : v < 1000000000) (hs : st < 1000000) (hd : -2147483648 ≤ d) (hd2 : d < 2147483648) : X11_nextWithRest (wJ v) (wJ st) (wJ (1 : Nat)) (wI d) = some (wJ v) := by
  unfold X11_nextWithRest
  obtain ⟨k, hk⟩ : ∃ k, q_FU = k + 1 := ⟨q_FU - 1, by unfold q_FU; omega⟩
  rw [hk, show (0 : Int64) = wJ (0 : Nat) from rfl]
  have g3 : d % ((1 : Nat) : Int) = 0 := by omega
  have g4 : ((v : Int) + ((0 : Nat) : Int) * st) % ((1 : Nat) : Int) = 0 := by omega
  simp (disch := omega) only [X11_nextWithRest_b3, wJ_le, wJ_mul, wJ_add, m_rest, q_b1, wI_wJ, g3, g4]
  rw [if_neg (by omega), if_pos trivial]
  simp
theorem n_meets {v st l : Nat} {d : Int} (hv : v < 1000000000) (hs : st < 1000000) (hl0 : 0 < l) (hl1 : l < 200) (hd : 0 ≤ d) (hd2 : d < l) : X12_meets (wJ v) (wJ st) (wI d) (wI l) = some (wJ (q_mt v st l d l 0)) := by
  have hl : ∀ n i k, i + n = l → n < k → X12_meets_b3 (wJ v) (wJ st) (wI d) (wI l) k (wI i) = some (wJ (q_mt v st l d n i)) := by
    intro n
    induction n with
    | zero =>
      intro i k h1 h2 
      obtain ⟨k, rfl⟩ : ∃ m, k = m + 1 := ⟨k - 1, by omega⟩
      have e : i = l := by omega
      simp (disch := omega) only [X12_meets_b3, wI_le]
      rw [if_pos (by omega)]
      rfl
    | succ n ih =>
      intro i k h1 h2 
      obtain ⟨k, rfl⟩ : ∃ m, k = m + 1 := ⟨k - 1, by omega⟩
      have hi : i < l := by omega
      have hih := ih (i + 1) k (by omega) (by omega)
      have g1 : i * st ≤ 200 * 1000000 := Nat.mul_le_mul (by omega) (by omega)
      have g2 := Nat.mod_lt (v + i * st) hl0
      simp (disch := omega) only [X12_meets_b3, wI_le, wI_wJ, wJ_mul, wJ_add, ← Int.natCast_mul, ← Int.natCast_add, wJ_lit, wJ_mod, ← Int.natCast_emod, wJ_eq, wI_lit, wI_add]
      rw [if_neg (by omega), if_neg (by omega)]
      show _ = some (wJ (if (((v + i * st) % l : Nat) : Int) = d then ((v + i * st : Nat) : Int) else q_mt v st l d n (i + 1)))
      by_cases g : (((v + i * st) % l : Nat) : Int) = d
      · rw [if_pos g, if_pos g]
      · rw [if_neg g, if_neg g]
        exact hih
  exact hl l 0 q_FU (by omega) (by unfold q_FU; omega)
theorem q_div_swap {a b : Nat} : a / Nat.gcd a b * b = a * (b / Nat.gcd a b) := by
  rw [Nat.mul_comm (a / Nat.gcd a b) b, ← Nat.mul_div_assoc b (Nat.gcd_dvd_left a b), Nat.mul_comm b a, Nat.mul_div_assoc a (Nat.gcd_dvd_right a b)]
theorem R_range : q_c_range q_Rel := by
  intro k b1 b2 dt1 dt2 a0 a1 a2 a3 a4 a5 hk hR
  obtain ⟨x, rfl, hx1, hx2⟩ := q_arg a0
  obtain ⟨d, rfl, hd1, hd2⟩ := q_arg a1
  obtain ⟨y, rfl, hy1, hy2⟩ := q_arg a2
  obtain ⟨f, rfl, hf1, hf2⟩ := q_arg a3
  obtain ⟨z, rfl, hz1, hz2⟩ := q_arg a4
  obtain ⟨h, rfl, hh1, hh2⟩ := q_arg a5
  have hR' := hR
  obtain ⟨T, t, sd, g, hT, hM, ho, -⟩ := hR'
  have e1 : (-1 : Int32) = wI (-1) := rfl
  show ∃ r, X11_range (A1 b1) dt1 b1 (wI x) (wI d) (wI y) (wI f) (wI z) (wI h) = some r ∧ X12_range (A2 b2) dt2 b2 (wI x) (wI d) (wI y) (wI f) (wI z) (wI h) = some r ∧ _
  -- the class's tail, the check's tail
  have c0 : ∀ dt, X11_range_b58 (A1 b1) dt = some (-1) := fun _ => rfl
  have c1 : ∀ dt, X12_range_b52 (A2 b2) dt = some (-1) := fun _ => rfl
  by_cases hA : q_isr T x d ∧ (y = -1 ∨ q_isr T y f) ∧ (z = -1 ∨ q_isr T z h) ∧ ¬ (y = -1 ∧ z ≠ -1)
  · obtain ⟨hv, hw, hu, hyz⟩ := hA
    have hx0 := hv.1.1
    have r1 := T_isRest1 hT ho hx1 hx2 hd1 hd2 (Or.inr hv)
    have r2 := T_isRest1 hT ho hy1 hy2 hf1 hf2 hw
    have r3 := T_isRest1 hT ho hz1 hz2 hh1 hh2 hu
    have s1 := M_isRest1 hM hx1 hx2 hd1 hd2 hv
    obtain ⟨c, rfl⟩ := Int.eq_ofNat_of_zero_le hx0
    have hc : c < Tnc T := by have := hv.1.2; omega
    have hC := (hT.1.2.1 c hc).1
    obtain ⟨d, rfl⟩ := Int.eq_ofNat_of_zero_le hv.2.1
    have hd : d < Tlen T c := by have := hv.2.2; rw [Int.toNat_natCast] at this; omega
    have p0 : X11_range (A1 b1) dt1 b1 (wI c) (wI d) (wI y) (wI f) (wI z) (wI h) = X11_range_b21 (A1 b1) dt1 b1 (wI c) (wI d) (wI y) (wI f) (wI z) (wI h) 1 := by
      unfold X11_range X11_range_b16
      rw [e1]
      simp (disch := omega) only [wI_eq]
      rw [if_neg (by omega)]
      by_cases hy : y = -1
      · rw [if_pos hy, if_pos (by omega)]
      · rw [if_neg hy]
    have q0 : X12_range (A2 b2) dt2 b2 (wI c) (wI d) (wI y) (wI f) (wI z) (wI h) = X12_range_b56 (A2 b2) dt2 b2 (wI c) (wI d) (wI y) (wI f) (wI z) (wI h) := by
      unfold X12_range
      simp only [s1, q_b1, q_10, if_false]
      unfold X12_range_b24 X12_range_b41
      rw [e1]
      simp (disch := omega) only [wI_eq]
      rcases hw with hw | hw
      · rw [if_pos hw, if_pos (by omega), if_pos hw, if_pos (by omega)]
      · have hy : ¬ y = -1 := by have := hw.1.1; omega
        simp only [if_neg hy, M_isRest1 hM hy1 hy2 hf1 hf2 hw, q_b1, q_10, if_false]
        rcases hu with hu | hu
        · rw [if_pos hu]
        · have hz : ¬ z = -1 := by have := hu.1.1; omega
          simp only [if_neg hz, M_isRest1 hM hz1 hz2 hh1 hh2 hu, q_b1, q_10, if_false]
    rw [p0, q0]
    unfold X11_range_b21
    rw [if_neg (show ¬ (1 : Int32) = 0 by decide)]
    simp only [r1, r2, r3, q_b1, q_10, if_false, T_lenYes hT ho hc]
    unfold X12_range_b56 X12_range_b112 X12_range_b142
    simp only [M_long hM hc, q_b1]
    rw [e1]
    rcases hw with hw | hw
    · have hz : z = -1 := by omega
      subst hw
      subst hz
      refine ⟨wJ d, ?_, ?_, R_up hR⟩
      · simp only [T_lenNo hT ho, q_b1]
        simp (disch := omega) only [wI_wJ, m_gcd, q_b1, m_quo, Nat.gcd_one_right, ← Int.natCast_ediv, m_next1, wJ_lit, wJ_le, Nat.div_one, wJ_mul, ← Int.natCast_mul]
        rw [if_pos (by omega)]
      · simp (disch := omega) only [wI_wJ, wJ_lit, wJ_lt, wI_eq]
        simp only [if_true]
        rw [if_neg (by omega)]
    · have hy : ¬ y = -1 := by have := hw.1.1; omega
      obtain ⟨o, rfl⟩ := Int.eq_ofNat_of_zero_le hw.1.1
      have ho1 : o < Tnc T := by have := hw.1.2; omega
      have hO := (hT.1.2.1 o ho1).1
      have hf : 0 ≤ f ∧ f < Tlen T o := hw.2
      have hg : 0 < Nat.gcd (Tlen T c) (Tlen T o) := Nat.gcd_pos_of_pos_left _ (by omega)
      have hg2 := Nat.gcd_le_left (n := Tlen T o) (show 0 < Tlen T c by omega)
      have hst : Tlen T c * (Tlen T o / Nat.gcd (Tlen T c) (Tlen T o)) ≤ 127 * 127 := Nat.mul_le_mul (by omega) (Nat.le_trans (Nat.div_le_self _ _) (by omega))
      have hq1 := Nat.div_le_self (Tlen T c) (Nat.gcd (Tlen T c) (Tlen T o))
      have hb := q_mt_b (v := d) (st := Tlen T c) (l := Tlen T o) (d := f) (Tlen T o) 0 (by omega)
      have hsw := q_div_swap (a := Tlen T c) (b := Tlen T o)
      simp (disch := omega) only [T_lenYes hT ho ho1, M_long hM ho1, q_b1, wI_wJ, m_gcd, n_gcd, m_quo, ← Int.natCast_ediv, m_next, n_meets, wJ_lit, wJ_le, wJ_lt, wJ_eq, wI_eq, wJ_div, wJ_mul, ← Int.natCast_mul, hsw, q_o, wJ_neg]
      rw [if_neg hy, if_neg (show ¬ ((Nat.gcd (Tlen T c) (Tlen T o) : Nat) : Int) = ((0 : Nat) : Int) by omega)]
      by_cases hn : 0 ≤ q_mt d (Tlen T c) (Tlen T o) f (Tlen T o) 0
      · obtain ⟨v, hv0⟩ := Int.eq_ofNat_of_zero_le hn
        rw [hv0] at hb ⊢
        rw [if_pos (by omega), if_neg (by omega)]
        rcases hu with hu | hu
        · subst hu
          refine ⟨wJ v, ?_, ?_, R_up hR⟩
          · simp (disch := omega) only [T_lenNo hT ho, q_b1, wI_wJ, m_next1]
          · rw [if_pos rfl]
        · have hz : ¬ z = -1 := by have := hu.1.1; omega
          obtain ⟨p, rfl⟩ := Int.eq_ofNat_of_zero_le hu.1.1
          have hp1 : p < Tnc T := by have := hu.1.2; omega
          have hP := (hT.1.2.1 p hp1).1
          have hh : 0 ≤ h ∧ h < Tlen T p := hu.2
          refine ⟨wJ (q_mt v (Tlen T c * (Tlen T o / Nat.gcd (Tlen T c) (Tlen T o))) (Tlen T p) h (Tlen T p) 0), ?_, ?_, R_up hR⟩
          · simp (disch := omega) only [T_lenYes hT ho hp1, q_b1, wI_wJ, m_next]
          · rw [if_neg hz]
            simp (disch := omega) only [M_long hM hp1, q_b1, n_meets]
      · have hn2 : q_mt d (Tlen T c) (Tlen T o) f (Tlen T o) 0 = -2 := by
          have : ∀ n k, q_mt d (Tlen T c) (Tlen T o) f n k < 0 → q_mt d (Tlen T c) (Tlen T o) f n k = -2 := by
            intro n
            induction n with
            | zero => intro k _; rfl
            | succ n ih =>
              intro k
              show (if (((d + k * Tlen T c) % Tlen T o : Nat) : Int) = f then ((d + k * Tlen T c : Nat) : Int) else q_mt d (Tlen T c) (Tlen T o) f n (k + 1)) < 0 → (if (((d + k * Tlen T c) % Tlen T o : Nat) : Int) = f then ((d + k * Tlen T c : Nat) : Int) else q_mt d (Tlen T c) (Tlen T o) f n (k + 1)) = -2
              by_cases g : (((d + k * Tlen T c) % Tlen T o : Nat) : Int) = f
              · rw [if_pos g]; omega
              · rw [if_neg g]; exact ih (k + 1)
          exact this _ _ (by omega)
        rw [hn2, if_neg (by omega), if_pos (by omega)]
        exact ⟨_, rfl, rfl, R_up hR⟩
  · refine ⟨-1, ?_, ?_, R_up hR⟩
    · unfold X11_range X11_range_b16 X11_range_b20
      have z0 : X11_range_b21 (A1 b1) dt1 b1 (wI x) (wI d) (wI y) (wI f) (wI z) (wI h) 0 = some (-1) := by
        unfold X11_range_b21
        rw [if_pos rfl]
        rfl
      rw [z0, e1]
      simp (disch := omega) only [wI_eq]
      by_cases hx : x = -1
      · rw [if_pos hx]
      · rw [if_neg hx]
        have z1 : ¬ (y = -1 ∧ z ≠ -1) → X11_range_b21 (A1 b1) dt1 b1 (wI x) (wI d) (wI y) (wI f) (wI z) (wI h) 1 = some (-1) := by
          intro hyz
          unfold X11_range_b21
          rw [if_neg (show ¬ (1 : Int32) = 0 by decide)]
          by_cases hv : q_isr T x d
          · have r1 := T_isRest1 hT ho hx1 hx2 hd1 hd2 (Or.inr hv)
            simp only [r1, q_b1, q_10, if_false]
            by_cases hw : y = -1 ∨ q_isr T y f
            · have r2 := T_isRest1 hT ho hy1 hy2 hf1 hf2 hw
              have r3 := T_isRest0 hT ho hz1 hz2 hh1 hh2 (fun g => hA ⟨hv, hw, g, hyz⟩)
              simp only [r2, r3, q_b1, q_10, if_false, q_00, if_true]
              rfl
            · have r2 := T_isRest0 hT ho hy1 hy2 hf1 hf2 hw
              simp only [r2, q_b1, q_00, if_true]
              rfl
          · have r1 := T_isRest0 hT ho hx1 hx2 hd1 hd2 (fun g => g.elim hx hv)
            simp only [r1, q_b1, q_00, if_true]
            rfl
        by_cases hy : y = -1
        · rw [if_pos hy]
          by_cases hz : z = -1
          · rw [if_pos hz]
            exact z1 (by omega)
          · rw [if_neg hz]
        · rw [if_neg hy]
          exact z1 (by omega)
    · unfold X12_range
      by_cases hv : q_isr T x d
      · have s1 := M_isRest1 hM hx1 hx2 hd1 hd2 hv
        simp only [s1, q_b1, q_10, if_false]
        have z24 : (y = -1 ∨ q_isr T y f) → X12_range_b24 (A2 b2) dt2 b2 (wI x) (wI d) (wI y) (wI f) (wI z) (wI h) = some (-1) := by
          intro hw
          unfold X12_range_b24 X12_range_b41
          rw [e1]
          simp (disch := omega) only [wI_eq]
          by_cases hz : z = -1
          · exact absurd ⟨hv, hw, Or.inl hz, by omega⟩ hA
          · rw [if_neg hz]
            by_cases hu : q_isr T z h
            · have hy : y = -1 := by
                by_cases hy : y = -1
                · exact hy
                · exact absurd ⟨hv, hw, Or.inr hu, by omega⟩ hA
              have s3 := M_isRest1 hM hz1 hz2 hh1 hh2 hu
              simp only [s3, q_b1, q_10, if_false]
              rw [if_pos hy, if_neg hz]
              rfl
            · have s3 := M_isRest0 hM hz1 hz2 hh1 hh2 hu
              simp only [s3, q_b1, q_00, if_true]
              rfl
        rw [e1]
        simp (disch := omega) only [wI_eq]
        by_cases hy : y = -1
        · rw [if_pos hy]
          exact z24 (Or.inl hy)
        · rw [if_neg hy]
          by_cases hw : q_isr T y f
          · have s2 := M_isRest1 hM hy1 hy2 hf1 hf2 hw
            simp only [s2, q_b1, q_10, if_false]
            exact z24 (Or.inr hw)
          · have s2 := M_isRest0 hM hy1 hy2 hf1 hf2 hw
            simp only [s2, q_b1, q_00, if_true]
            rfl
      · have s1 := M_isRest0 hM hx1 hx2 hd1 hd2 hv
        simp only [s1, q_b1, q_00, if_true]
        rfl
