/-! level two: family: what is never too alike -/
theorem q_sum_rot1 (G : Nat → Int) (m : Nat) : q_sum (fun i => G ((i + 1) % (m + 1))) (m + 1) = q_sum G (m + 1) := by
  rw [q_sum_s]
  have e1 : q_sum (fun i => G ((i + 1) % (m + 1))) m = q_sum (fun j => G (0 + 1 + j)) m := q_sum_congr m (fun i hi => by
    rw [Nat.mod_eq_of_lt (show i + 1 < m + 1 by omega), show 0 + 1 + i = i + 1 by omega])
  have e2 := q_sum_sh G 0 m
  have e3 : q_sum (fun j => G (0 + j)) (m + 1) = q_sum G (m + 1) := q_sum_congr _ (fun i _ => by rw [Nat.zero_add])
  rw [e3] at e2
  rw [e1, Nat.mod_self]
  omega
theorem q_sum_rot (F : Nat → Int) {L : Nat} (hL : 1 ≤ L) (s : Nat) : q_sum (fun i => F ((i + s) % L)) L = q_sum F L := by
  obtain ⟨m, rfl⟩ : ∃ m, L = m + 1 := ⟨L - 1, by omega⟩
  induction s with
  | zero => exact q_sum_congr _ (fun i hi => by rw [Nat.add_zero, Nat.mod_eq_of_lt hi])
  | succ s ih =>
    rw [← ih, ← q_sum_rot1 (fun j => F ((j + s) % (m + 1))) m]
    refine q_sum_congr _ (fun i hi => ?_)
    show F ((i + (s + 1)) % (m + 1)) = F (((i + 1) % (m + 1) + s) % (m + 1))
    rw [Nat.mod_add_mod, show i + (s + 1) = i + 1 + s by omega]
theorem q_alk_sym {L : Nat} {f g : Nat → Int} {s : Nat} (hs : s < L) : q_alk L g f s = q_alk L f g ((L - s) % L) := by
  unfold q_alk
  rw [← q_sum_rot (fun i => f i * g ((i + (L - s) % L) % L)) (show 1 ≤ L by omega) s]
  refine q_sum_congr _ (fun i hi => ?_)
  show g i * f ((i + s) % L) = f ((i + s) % L) * g (((i + s) % L + (L - s) % L) % L)
  rw [← Nat.add_mod, show i + s + (L - s) = i + L by omega, Nat.add_mod_right, Nat.mod_eq_of_lt hi, Int.mul_comm]
theorem q_top_le {f : Nat → Int} {t : Int} (ht : 0 ≤ t) (n : Nat) : q_top f n ≤ t ↔ ∀ i, i < n → f i ≤ t := by
  induction n with
  | zero => exact ⟨fun _ i hi => absurd hi (by omega), fun _ => ht⟩
  | succ n ih =>
    rw [q_top_s]
    by_cases h : q_top f n < f n
    · rw [if_pos h]
      refine ⟨fun q i hi => ?_, fun q => q n (by omega)⟩
      by_cases e : i = n
      · rw [e]; exact q
      · exact ih.mp (by omega) i (by omega)
    · rw [if_neg h]
      refine ⟨fun q i hi => ?_, fun q => ih.mpr (fun i hi => q i (by omega))⟩
      by_cases e : i = n
      · rw [e]; omega
      · exact ih.mp q i (by omega)
theorem q_wrst_sym {L : Nat} {f g : Nat → Int} {t : Int} (ht : 0 ≤ t) (h : q_wrst L f g 0 ≤ t) : q_wrst L g f 0 ≤ t := by
  have h1 := (q_top_le ht L).mp h
  refine (q_top_le ht L).mpr (fun i hi => ?_)
  have h2 := h1 ((L - i) % L) (Nat.mod_lt _ (by omega))
  rw [if_neg (by omega)] at h2 ⊢
  rw [q_alk_sym hi]
  exact h2
theorem q_mag_b {z B : Int} (h : -B ≤ z ∧ z ≤ B) : 0 ≤ q_mag z ∧ q_mag z ≤ B := by
  unfold q_mag
  by_cases g : z < 0
  · rw [if_pos g]; omega
  · rw [if_neg g]; omega
theorem q_wrst_b {L : Nat} {f g : Nat → Int} {st : Nat} (hL : 1 ≤ L ∧ L ≤ 127) (hf : ∀ i, i < L → f i = 1 ∨ f i = -1) (hg : ∀ i, i < L → g i = 1 ∨ g i = -1) : 0 ≤ q_wrst L f g st ∧ q_wrst L f g st ≤ 127 := q_top_b (by omega) L (fun i _ => by
  have h := q_mag_b (B := 127) (q_alk_b (s := i) hL hf hg)
  show (if i < st then 0 else q_mag (q_alk L f g i)) ≤ 127
  by_cases g : i < st
  · rw [if_pos g]; omega
  · rw [if_neg g]; omega)
def q_frd (T : q_Tl) (t : Int) (a o : Nat) : Prop := Tlen T a = Tlen T o ∧ q_wrst (Tlen T a) (Tch T a) (Tch T o) (if a = o then 1 else 0) ≤ t
theorem q_frd_sym {T : q_Tl} {t : Int} (ht : 0 ≤ t) {a o : Nat} (h : q_frd T t a o) : q_frd T t o a := by
  by_cases e : a = o
  · subst e; exact h
  · obtain ⟨h1, h2⟩ := h
    rw [if_neg e] at h2
    refine ⟨h1.symm, ?_⟩
    rw [if_neg (fun q => e q.symm), ← h1]
    exact q_wrst_sym ht h2
noncomputable def q_dP (p : Prop) : Bool := @decide p (Classical.propDecidable p)
theorem q_dP_1 {p : Prop} (h : p) : q_dP p = true := @decide_eq_true p (Classical.propDecidable p) h
theorem q_dP_0 {p : Prop} (h : ¬ p) : q_dP p = false := @decide_eq_false p (Classical.propDecidable p) h
theorem q_dP_e {p q : Prop} (h : p ↔ q) : q_dP p = q_dP q := congrArg q_dP (propext h)
noncomputable def q_frs (T : q_Tl) (t : Int) (a : Nat) : Nat → Nat
  | 0 => 0
  | i + 1 => if q_dP (q_frd T t a i) = true then q_frs T t a i ||| 2 ^ i else q_frs T t a i
theorem q_frs_lt (T : q_Tl) (t : Int) (a i : Nat) : q_frs T t a i < 2 ^ i := by
  induction i with
  | zero => exact Nat.lt_succ_self 0
  | succ i ih =>
    have h1 : 2 ^ i < 2 ^ (i + 1) := Nat.pow_lt_pow_of_lt (by omega) (by omega)
    have e : q_frs T t a (i + 1) = if q_dP (q_frd T t a i) = true then q_frs T t a i ||| 2 ^ i else q_frs T t a i := rfl
    rw [e]
    by_cases h : q_dP (q_frd T t a i) = true
    · rw [if_pos h]; exact q_or_lt (by omega) (by omega)
    · rw [if_neg h]; omega
theorem q_frs_bt (T : q_Tl) (t : Int) (a i j : Nat) : q_bt (q_frs T t a i) j = 1 ↔ j < i ∧ q_frd T t a j := by
  induction i with
  | zero =>
    rw [show q_frs T t a 0 = 0 from rfl, q_bt_0]
    exact ⟨fun q => absurd q (by omega), fun q => absurd q.1 (by omega)⟩
  | succ i ih =>
    have e : q_frs T t a (i + 1) = if q_dP (q_frd T t a i) = true then q_frs T t a i ||| 2 ^ i else q_frs T t a i := rfl
    rw [e]
    by_cases h : q_frd T t a i
    · rw [if_pos (q_dP_1 h), q_bt_or]
      by_cases ej : j = i
      · rw [if_pos ej]
        exact ⟨fun _ => ⟨by omega, by rw [ej]; exact h⟩, fun _ => rfl⟩
      · rw [if_neg ej, ih]
        exact ⟨fun q => ⟨by omega, q.2⟩, fun q => ⟨by omega, q.2⟩⟩
    · rw [if_neg (by rw [q_dP_0 h]; exact Bool.false_ne_true), ih]
      refine ⟨fun q => ⟨by omega, q.2⟩, fun q => ⟨?_, q.2⟩⟩
      by_cases ej : j = i
      · exact absurd (ej ▸ q.2) h
      · omega
theorem wI_xor {a b : Nat} : wI a ^^^ wI b = wI (a ^^^ b : Nat) := by
  rw [← Int32.toBitVec_inj, Int32.toBitVec_xor]
  show BitVec.ofInt 32 a ^^^ BitVec.ofInt 32 b = BitVec.ofInt 32 (a ^^^ b : Nat)
  rw [BitVec.ofInt_natCast, BitVec.ofInt_natCast, BitVec.ofInt_natCast, BitVec.ofNat_xor]
theorem q_bt_tb (W j : Nat) : (q_bt W j = 1) = (W.testBit j = true) := by
  have h : (W.testBit j).toNat = q_bt W j := Nat.toNat_testBit W j
  cases e : W.testBit j with
  | false =>
    rw [e] at h
    rw [← h]
    exact propext ⟨fun q => absurd q (by decide), fun q => absurd q (by decide)⟩
  | true =>
    rw [e] at h
    rw [← h]
    exact propext ⟨fun _ => rfl, fun _ => rfl⟩
theorem q_bt_hi {W j n : Nat} (hW : W < 2 ^ n) (hj : n ≤ j) : q_bt W j = 0 := by
  unfold q_bt
  rw [Nat.div_eq_of_lt (Nat.lt_of_lt_of_le hW (Nat.pow_le_pow_right (by omega) hj))]
theorem q_sub {W F : Nat} (hW : W < 256) : (wI W &&& (wI F ^^^ -1) = 0) = (∀ j, j < 8 → q_bt W j = 1 → q_bt F j = 1) := by
  have hle : W &&& (F ^^^ 4294967295) ≤ W := Nat.and_le_left
  rw [show (-1 : Int32) = wI (4294967295 : Nat) from rfl, wI_xor, wI_and, show (0 : Int32) = wI (0 : Nat) from rfl, wI_eq (by omega) (by omega) (by omega) (by omega)]
  have hM : ∀ j, j < 8 → (4294967295 : Nat).testBit j = true := by
    intro j hj
    rw [show (4294967295 : Nat) = 2 ^ 32 - 1 from rfl, Nat.testBit_two_pow_sub_one]
    exact decide_eq_true (by omega)
  refine propext ⟨fun q j hj h1 => ?_, fun q => ?_⟩
  · have q' : W &&& (F ^^^ 4294967295) = 0 := by omega
    have h2 : (W &&& (F ^^^ 4294967295)).testBit j = false := by rw [q', Nat.zero_testBit]
    rw [Nat.testBit_and, Nat.testBit_xor, hM j hj] at h2
    rw [q_bt_tb] at h1 ⊢
    rw [h1] at h2
    cases e : F.testBit j with
    | true => rfl
    | false =>
      rw [e] at h2
      exact absurd h2 (by decide)
  · have : W &&& (F ^^^ 4294967295) = 0 := by
      refine Nat.eq_of_testBit_eq (fun j => ?_)
      rw [Nat.zero_testBit, Nat.testBit_and]
      by_cases hj : j < 8
      · cases e : W.testBit j with
        | false => rfl
        | true =>
          have h2 := q j hj (by rw [q_bt_tb]; exact e)
          rw [q_bt_tb] at h2
          rw [Nat.testBit_xor, h2, hM j hj]
          rfl
      · have h3 := q_bt_hi (W := W) (j := j) (n := 8) hW (by omega)
        cases e : W.testBit j with
        | false => rfl
        | true =>
          have h4 : q_bt W j = 1 := by rw [q_bt_tb]; exact e
          omega
    rw [this]
theorem T_like {b t : Nat} {dt : q_Dt} {T : q_Tl} (h : q_TT b t dt T) {c o : Nat} (hc : c < Tnc T) (ho : o < Tnc T) : X11_likeLong (A1 b) dt (some (t + 12 + 3 * c)) (some (t + 12 + 3 * o)) = some (if Tlen T c = Tlen T o then 1 else 0) := by
  have e1 := (h.2.2.2.1 c hc).1
  have e2 := (h.2.2.2.1 o ho).1
  have e3 := (h.1.2.1 c hc).1
  have e4 := (h.1.2.1 o ho).1
  unfold X11_likeLong
  rw [m1s, m1s, e1, e2]
  by_cases e : Tlen T c = Tlen T o
  · rw [if_pos e, e, if_pos rfl]
  · rw [if_neg e, if_neg (by rw [wI_eq (by omega) (by omega) (by omega) (by omega)]; omega)]
theorem wJ_or {a b : Nat} : wJ a ||| wJ b = wJ (a ||| b : Nat) := by
  rw [← Int64.toBitVec_inj, Int64.toBitVec_or]
  show BitVec.ofInt 64 a ||| BitVec.ofInt 64 b = BitVec.ofInt 64 (a ||| b : Nat)
  rw [BitVec.ofInt_natCast, BitVec.ofInt_natCast, BitVec.ofInt_natCast, BitVec.ofNat_or]
theorem wJ_shl {c : Nat} (hc : c < 8) : (1 : Int64) <<< (Int32.toInt64 (wI c) &&& 63) = wJ (2 ^ c : Nat) := by
  have e : ∀ c : Nat, c < 8 → (1 : Int64) <<< (Int32.toInt64 (wI c) &&& 63) = wJ (2 ^ c : Nat) := by decide +kernel
  exact e c hc
/-- the set of all below n that have P -/
noncomputable def q_pst (P : Nat → Prop) : Nat → Nat
  | 0 => 0
  | i + 1 => if q_dP (P i) = true then q_pst P i ||| 2 ^ i else q_pst P i
theorem q_pst_s (P : Nat → Prop) (i : Nat) : q_pst P (i + 1) = if q_dP (P i) = true then q_pst P i ||| 2 ^ i else q_pst P i := rfl
theorem q_pst_bt (P : Nat → Prop) (i j : Nat) : q_bt (q_pst P i) j = 1 ↔ j < i ∧ P j := by
  induction i with
  | zero =>
    rw [show q_pst P 0 = 0 from rfl, q_bt_0]
    exact ⟨fun q => absurd q (by omega), fun q => absurd q.1 (by omega)⟩
  | succ i ih =>
    rw [q_pst_s]
    by_cases h : P i
    · rw [if_pos (q_dP_1 h), q_bt_or]
      by_cases ej : j = i
      · rw [if_pos ej]
        exact ⟨fun _ => ⟨by omega, by rw [ej]; exact h⟩, fun _ => rfl⟩
      · rw [if_neg ej, ih]
        exact ⟨fun q => ⟨by omega, q.2⟩, fun q => ⟨by omega, q.2⟩⟩
    · rw [if_neg (by rw [q_dP_0 h]; exact Bool.false_ne_true), ih]
      refine ⟨fun q => ⟨by omega, q.2⟩, fun q => ⟨?_, q.2⟩⟩
      by_cases ej : j = i
      · exact absurd (ej ▸ q.2) h
      · omega
theorem q_bt_ext {U V : Nat} (h : ∀ j, q_bt U j = 1 ↔ q_bt V j = 1) : U = V := by
  refine Nat.eq_of_testBit_eq (fun j => ?_)
  have h1 := h j
  rw [q_bt_tb, q_bt_tb] at h1
  exact Bool.eq_iff_iff.mpr h1
theorem q_pst_c {P Q : Nat → Prop} {n : Nat} (h : ∀ j, j < n → (P j ↔ Q j)) : q_pst P n = q_pst Q n := q_bt_ext (fun j => by
  rw [q_pst_bt, q_pst_bt]
  exact ⟨fun q => ⟨q.1, (h j q.1).mp q.2⟩, fun q => ⟨q.1, (h j q.1).mpr q.2⟩⟩)
theorem q_pst_or {P Q : Nat → Prop} {n o : Nat} (ho : o < n) (h : ∀ j, j < n → (Q j ↔ P j ∨ j = o)) : q_pst Q n = q_pst P n ||| 2 ^ o := q_bt_ext (fun j => by
  rw [q_bt_or, q_pst_bt]
  by_cases e : j = o
  · rw [if_pos e]
    exact ⟨fun _ => rfl, fun _ => ⟨by omega, (h j (by omega)).mpr (Or.inr e)⟩⟩
  · rw [if_neg e, q_pst_bt]
    exact ⟨fun q => ⟨q.1, ((h j q.1).mp q.2).resolve_right e⟩, fun q => ⟨q.1, (h j q.1).mpr (Or.inl q.2)⟩⟩)
theorem q_frs_pst (T : q_Tl) (t : Int) (a n : Nat) : q_frs T t a n = q_pst (q_frd T t a) n := q_bt_ext (fun j => by rw [q_frs_bt, q_pst_bt])
/-- friends as far as they are told: all pairs below x, and of x those below y -/
def q_fpr (T : q_Tl) (t : Int) (x y a o : Nat) : Prop := q_frd T t a o ∧ ((a < x ∧ o < x) ∨ (a = x ∧ o < y) ∨ (o = x ∧ a < y))
theorem q_fpr_no {T : q_Tl} {t : Int} {x y : Nat} (ht : 0 ≤ t) (hyx : y ≤ x) (h : ¬ q_frd T t x y) (a o : Nat) : q_fpr T t x (y + 1) a o ↔ q_fpr T t x y a o := by
  unfold q_fpr
  refine ⟨fun q => ⟨q.1, ?_⟩, fun q => ⟨q.1, ?_⟩⟩
  · obtain ⟨q1, q2⟩ := q
    by_cases c1 : a = x ∧ o = y
    · obtain ⟨rfl, rfl⟩ := c1
      exact absurd q1 h
    · by_cases c2 : o = x ∧ a = y
      · obtain ⟨rfl, rfl⟩ := c2
        exact absurd (q_frd_sym ht q1) h
      · omega
  · have := q.2
    omega
theorem q_fpr_x {T : q_Tl} {t : Int} {x y : Nat} (hyx : y ≤ x) (h : q_frd T t x y) (o : Nat) : q_fpr T t x (y + 1) x o ↔ q_fpr T t x y x o ∨ o = y := by
  unfold q_fpr
  refine ⟨fun q => ?_, fun q => ?_⟩
  · obtain ⟨q1, q2⟩ := q
    by_cases c1 : o = y
    · exact Or.inr c1
    · exact Or.inl ⟨q1, by omega⟩
  · rcases q with q | q
    · exact ⟨q.1, by have := q.2; omega⟩
    · rw [q]
      exact ⟨h, by omega⟩
theorem q_fpr_y {T : q_Tl} {t : Int} {x y : Nat} (ht : 0 ≤ t) (hyx : y < x) (h : q_frd T t x y) (o : Nat) : q_fpr T t x (y + 1) y o ↔ q_fpr T t x y y o ∨ o = x := by
  unfold q_fpr
  refine ⟨fun q => ?_, fun q => ?_⟩
  · obtain ⟨q1, q2⟩ := q
    by_cases c1 : o = x
    · exact Or.inr c1
    · exact Or.inl ⟨q1, by omega⟩
  · rcases q with q | q
    · exact ⟨q.1, by have := q.2; omega⟩
    · rw [q]
      exact ⟨q_frd_sym ht h, by omega⟩
theorem q_fpr_a {T : q_Tl} {t : Int} {x y a : Nat} (hx : a ≠ x) (hy : a ≠ y) (o : Nat) : q_fpr T t x (y + 1) a o ↔ q_fpr T t x y a o := by
  unfold q_fpr
  exact ⟨fun q => ⟨q.1, by have := q.2; omega⟩, fun q => ⟨q.1, by have := q.2; omega⟩⟩
theorem T_befriend {b tt x y : Nat} {d : q_Dt} {T : q_Tl} {t : Int} (hT : q_TT b tt d T) (hx : x < Tnc T) (hyx : y ≤ x) (ht : 0 ≤ t) (ht2 : t < 2147483648) (hF : ∀ a, a < Tnc T → d.2.1 (b + 29) a = wJ (q_pst (q_fpr T t x y a) (Tnc T))) : ∃ d', X2_befriend (A1 b) d (b + 27) (some tt) (wI x) (wI y) (wI t) = some d' ∧ q_e1 b d d' ∧ ∀ a, a < Tnc T → d'.2.1 (b + 29) a = wJ (q_pst (q_fpr T t x (y + 1) a) (Tnc T)) := by
  have hN := hT.1.1
  have hy : y < Tnc T := by omega
  have n10 : ¬ (1 : Int32) = 0 := by decide
  have hCx := T_code hT hx
  have hno : ¬ q_frd T t x y → ∀ a, a < Tnc T → d.2.1 (b + 29) a = wJ (q_pst (q_fpr T t x (y + 1) a) (Tnc T)) := fun h a ha => by
    rw [hF a ha, q_pst_c (fun o _ => q_fpr_no ht hyx h a o)]
  have kE : (wI x = wI y) = (x = y) := by
    rw [wI_eq (by omega) (by omega) (by omega) (by omega)]
    exact propext ⟨fun q => by omega, fun q => by omega⟩
  unfold X2_befriend
  rw [m1s, T_codeAt hT hx, b1s, T_codeAt hT hy, b1s, T_like hT hx hy, b1s]
  by_cases hl0 : Tlen T x = Tlen T y
  · rw [if_pos hl0, if_neg n10]
    simp only [kE]
    have hCy := T_code hT hy
    rw [← hl0] at hCy
    have hw := q_wrst_b (st := if x = y then 1 else 0) hCx.2.2.1 hCx.2.2.2.2 hCy.2.2.2.2
    have hfr : q_frd T t x y ↔ q_wrst (Tlen T x) (Tch T x) (Tch T y) (if x = y then 1 else 0) ≤ t := ⟨fun q => q.2, fun q => ⟨hl0, q⟩⟩
    have kw : (wI t < wI (q_wrst (Tlen T x) (Tch T x) (Tch T y) (if x = y then 1 else 0))) = (t < q_wrst (Tlen T x) (Tch T x) (Tch T y) (if x = y then 1 else 0)) := wI_lt (by omega) (by omega) (by omega) (by omega)
    have hfin : ∀ st : Int32, X0_worstLikeness (A1 b) d (tt + 12 + 3 * x) (some (tt + 12 + 3 * y)) st = some (wI (q_wrst (Tlen T x) (Tch T x) (Tch T y) (if x = y then 1 else 0))) → ∃ d', X2_befriend_b38 (A1 b) (b + 27) (wI x) (wI y) (wI t) (some (tt + 12 + 3 * x)) (some (tt + 12 + 3 * y)) st d = some d' ∧ q_e1 b d d' ∧ ∀ a, a < Tnc T → d'.2.1 (b + 29) a = wJ (q_pst (q_fpr T t x (y + 1) a) (Tnc T)) := by
      intro st hst
      unfold X2_befriend_b38
      rw [m1s, hst, b1s, s27_0, wJ_shl (show y < 8 by omega), wJ_shl (show x < 8 by omega), r_at (s28_0 b) (l29 b) (by omega) (show x < 8 by omega), b1s, hF x hx, wJ_or, r_put (s28_0 b) (l29 b) (by omega) (show x < 8 by omega), b1s, r_at (s28_0 b) (l29 b) (by omega) (show y < 8 by omega), b1s]
      simp only [kw]
      by_cases hxy : q_frd T t x y
      · rw [if_neg (by have := hfr.mp hxy; omega)]
        have e1 : q_pst (q_fpr T t x (y + 1) x) (Tnc T) = q_pst (q_fpr T t x y x) (Tnc T) ||| 2 ^ y := q_pst_or hy (fun o _ => q_fpr_x hyx hxy o)
        rw [← e1]
        by_cases exy : y = x
        · subst exy
          have e2 : q_pst (q_fpr T t y (y + 1) y) (Tnc T) ||| 2 ^ y = q_pst (q_fpr T t y (y + 1) y) (Tnc T) := by
            rw [e1, Nat.or_assoc, Nat.or_self]
          rw [q_pJ_s, wJ_or, e2, r_put (s28_0 b) (l29 b) (by omega) (show y < 8 by omega), b1s]
          refine ⟨_, rfl, q_e1_J (q_e1_J q_e1_r (by omega) (by omega)) (by omega) (by omega), fun a ha => ?_⟩
          by_cases ea : a = y
          · rw [ea, q_pJ_s]
          · rw [q_pJ_k ea, q_pJ_k ea, hF a ha, q_pst_c (fun o _ => q_fpr_a ea ea o)]
        · have e2 : q_pst (q_fpr T t x (y + 1) y) (Tnc T) = q_pst (q_fpr T t x y y) (Tnc T) ||| 2 ^ x := q_pst_or hx (fun o _ => q_fpr_y ht (by omega) hxy o)
          rw [q_pJ_k exy, hF y hy, wJ_or, ← e2, r_put (s28_0 b) (l29 b) (by omega) (show y < 8 by omega), b1s]
          refine ⟨_, rfl, q_e1_J (q_e1_J q_e1_r (by omega) (by omega)) (by omega) (by omega), fun a ha => ?_⟩
          by_cases ea : a = y
          · rw [ea, q_pJ_s]
          · rw [q_pJ_k ea]
            by_cases eb : a = x
            · rw [eb, q_pJ_s]
            · rw [q_pJ_k eb, hF a ha, q_pst_c (fun o _ => q_fpr_a eb ea o)]
      · rw [if_pos (by
          by_cases g : q_wrst (Tlen T x) (Tch T x) (Tch T y) (if x = y then 1 else 0) ≤ t
          · exact absurd (hfr.mpr g) hxy
          · omega)]
        exact ⟨d, rfl, q_e1_r, hno hxy⟩
    by_cases exy : x = y
    · rw [if_pos exy]
      refine hfin 1 ?_
      have := c_worst hCx hCy (st := 1) (by omega)
      rw [if_pos exy]
      exact this
    · rw [if_neg exy]
      refine hfin 0 ?_
      have := c_worst hCx hCy (st := 0) (by omega)
      rw [if_neg exy]
      exact this
  · rw [if_neg hl0, if_pos rfl]
    exact ⟨d, rfl, q_e1_r, hno (fun q => hl0 q.1)⟩
def q_isfam (T : q_Tl) (t : Int) (W : Nat) : Prop := ∀ i, i < 8 → ∀ j, j < 8 → q_bt W i = 1 → q_bt W j = 1 → q_frd T t i j
theorem q_W256 {n W : Nat} (hn : n ≤ 8) (hW : W < 2 ^ n) : W < 256 := Nat.lt_of_lt_of_le hW (Nat.pow_le_pow_right (n := 2) (by omega) hn)
theorem T_areF {b tt W : Nat} {d : q_Dt} {T : q_Tl} {t : Int} (hT : q_TT b tt d T) (hF : ∀ a, a < Tnc T → d.2.1 (b + 29) a = wJ (q_frs T t a (Tnc T))) (hW : W < 2 ^ Tnc T) : X2_areFriends (A1 b) d (b + 27) (wI W) = some (q_ib (q_dP (q_isfam T t W))) := by
  have hN := hT.1.1
  have hW2 := q_W256 hN.1 hW
  have hl : ∀ n i k : Nat, i + n = 8 → n < k → X2_areFriends_b2 (A1 b) d (b + 27) (wI W) k (wI i) = some (q_ib (q_dP (∀ i', i ≤ i' → i' < 8 → ∀ j, j < 8 → q_bt W i' = 1 → q_bt W j = 1 → q_frd T t i' j))) := by
    intro n
    induction n with
    | zero =>
      intro i k z1 z2 
      obtain ⟨k, rfl⟩ : ∃ m, k = m + 1 := ⟨k - 1, by omega⟩
      have e : i = 8 := by omega
      rw [X2_areFriends_b2.eq_2, show (8 : Int32) = wI (8 : Nat) from rfl, e, q_dP_1 (fun i' h1 h2 => absurd h1 (by omega))]
      simp only [q_leT (Nat.le_refl 8) (show 8 < 2147483648 by omega), ↓reduceIte]
      rfl
    | succ n ih =>
      intro i k z1 z2 
      obtain ⟨k, rfl⟩ : ∃ m, k = m + 1 := ⟨k - 1, by omega⟩
      have hi : i < 8 := by omega
      have hih := ih (i + 1) k (by omega) (by omega)
      rw [X2_areFriends_b2.eq_2, show (8 : Int32) = wI (8 : Nat) from rfl, wI_bit (by omega) (show i < 32 by omega), s27_0]
      simp only [q_leF hi (show 8 < 2147483648 by omega), ↓reduceIte, X2_areFriends_b34, q_n1]
      by_cases hb : q_bt W i = 1
      · have hin : i < Tnc T := by
          by_cases g : i < Tnc T
          · exact g
          · have := q_bt_hi hW (show Tnc T ≤ i by omega)
            omega
        have hsub := q_sub (W := W) (F := q_frs T t i (Tnc T)) hW2
        rw [hb, if_pos (show wI ((1 : Nat) : Int) = 1 from rfl), r_small (s28_0 b) (l29 b) (by omega) hi, hF i hin, wJ_wI, b1s]
        by_cases hall : ∀ j, j < 8 → q_bt W j = 1 → q_bt (q_frs T t i (Tnc T)) j = 1
        · rw [if_pos (hsub.mpr hall)]
          refine hih.trans ?_
          refine congrArg (fun x => some (q_ib x)) (q_dP_e ⟨fun q i' h1 h2 j hj h3 h4 => ?_, fun q i' h1 h2 => q i' (by omega) h2⟩)
          by_cases ei : i' = i
          · rw [ei]
            exact ((q_frs_bt T t i (Tnc T) j).mp (hall j hj h4)).2
          · exact q i' (by omega) h2 j hj h3 h4
        · rw [if_neg (fun q => hall (hsub.mp q)), q_dP_0 (fun q => hall (fun j hj h4 => (q_frs_bt T t i (Tnc T) j).mpr ⟨by
            by_cases g : j < Tnc T
            · exact g
            · have := q_bt_hi hW (show Tnc T ≤ j by omega)
              omega, q i (Nat.le_refl i) hi j hj hb h4⟩))]
          rfl
      · rw [if_neg (by
          rcases q_bt_2 W i with h | h
          · rw [h]; decide
          · exact absurd h hb)]
        refine hih.trans ?_
        refine congrArg (fun x => some (q_ib x)) (q_dP_e ⟨fun q i' h1 h2 j hj h3 h4 => ?_, fun q i' h1 h2 => q i' (by omega) h2⟩)
        by_cases ei : i' = i
        · rw [ei] at h3
          exact absurd h3 hb
        · exact q i' (by omega) h2 j hj h3 h4
  have h0 := hl 8 0 q_FU (by omega) (by unfold q_FU; omega)
  unfold X2_areFriends
  refine h0.trans ?_
  exact congrArg (fun x => some (q_ib x)) (q_dP_e ⟨fun q i hi => q i (by omega) hi, fun q i _ hi => q i hi⟩)
theorem M_isFam {b sd W : Nat} {d : q_Dt} {T : q_Tl} {t : Int} (hM : q_M b sd d T) (ht : 0 ≤ t) (hF : ∀ a o, a ≤ o → o < Tnc T → d.1 (b + 45) (8 * a + o) = if q_dP (q_frd T t a o) = true then 1 else 0) (hW : W < 2 ^ Tnc T) : X12_isFamily (A2 b) d b (wI W) = some (q_ib (q_dP (q_isfam T t W))) := by
  have hN := hM.1.1
  have hW2 := q_W256 hN.1 hW
  have hlt : ∀ i : Nat, q_bt W i = 1 → i < Tnc T := fun i hb => by
    by_cases g : i < Tnc T
    · exact g
    · have := q_bt_hi hW (show Tnc T ≤ i by omega)
      omega
  have hbb : ∀ i : Nat, (wI (q_bt W i : Nat) = 1) = (q_bt W i = 1) := fun i => by
    rcases q_bt_2 W i with h | h
    · rw [h]; exact propext ⟨fun q => absurd q (by decide), fun q => absurd q (by decide)⟩
    · rw [h]; exact propext ⟨fun _ => rfl, fun _ => rfl⟩
  have hin : ∀ a : Nat, a < 8 → ∀ kk : Int32 → Option Int32, X12_isFamily_b10 (A2 b) d kk b (wI W) (wI a) q_FU (wI a) = if q_dP (∀ j : Nat, a ≤ j → j < 8 → q_bt W a = 1 → q_bt W j = 1 → q_frd T t a j) = true then kk (wI (a + 1 : Nat)) else some 0 := by
    intro a ha kk
    have hl : ∀ n i k : Nat, i + n = 8 → n < k → a ≤ i → X12_isFamily_b10 (A2 b) d kk b (wI W) (wI a) k (wI i) = if q_dP (∀ j : Nat, i ≤ j → j < 8 → q_bt W a = 1 → q_bt W j = 1 → q_frd T t a j) = true then kk (wI (a + 1 : Nat)) else some 0 := by
      intro n
      induction n with
      | zero =>
        intro i k z1 z2 
        obtain ⟨k, rfl⟩ : ∃ m, k = m + 1 := ⟨k - 1, by omega⟩
        have e : i = 8 := by omega
        intro g0
        rw [X12_isFamily_b10.eq_2, show (8 : Int32) = wI (8 : Nat) from rfl, e, if_pos (q_dP_1 (fun j h1 h2 => absurd h1 (by omega)))]
        simp only [q_leT (Nat.le_refl 8) (show 8 < 2147483648 by omega), ↓reduceIte, q_n1]
      | succ n ih =>
        intro i k z1 z2 
        obtain ⟨k, rfl⟩ : ∃ m, k = m + 1 := ⟨k - 1, by omega⟩
        have hi : i < 8 := by omega
        intro g0
        have hih := ih (i + 1) k (by omega) (by omega) (by omega)
        have e8 : (8 : Int32) * wI a + wI i = wI (8 * a + i : Nat) := by
          rw [show (8 : Int32) = wI (8 : Nat) from rfl, wI_mul, wI_add]
          rfl
        rw [X12_isFamily_b10.eq_2, e8, show (8 : Int32) = wI (8 : Nat) from rfl, wI_bit (by omega) (show i < 32 by omega), wI_bit (by omega) (show a < 32 by omega), m59, n59, q_nn (show 8 * a + i < 2147483648 by omega)]
        simp only [hbb, q_leF hi (show 8 < 2147483648 by omega), q_ge (show 8 * a + i < 64 by omega) (show 64 < 2147483648 by omega), ↓reduceIte, X12_isFamily_b50, q_n1]
        have hskip : ¬ (q_bt W a = 1 ∧ q_bt W i = 1 ∧ ¬ q_frd T t a i) → (q_dP (∀ j : Nat, i + 1 ≤ j → j < 8 → q_bt W a = 1 → q_bt W j = 1 → q_frd T t a j)) = (q_dP (∀ j : Nat, i ≤ j → j < 8 → q_bt W a = 1 → q_bt W j = 1 → q_frd T t a j)) := fun hx => q_dP_e ⟨fun q j h1 h2 h3 h4 => by
          by_cases ej : j = i
          · rw [ej] at h4 ⊢
            by_cases hf : q_frd T t a i
            · exact hf
            · exact absurd ⟨h3, h4, hf⟩ hx
          · exact q j (by omega) h2 h3 h4, fun q j h1 h2 => q j (by omega) h2⟩
        by_cases h1 : q_bt W a = 1
        · by_cases h2 : q_bt W i = 1
          · rw [if_pos h1, if_pos h2, hF a i g0 (hlt i h2)]
            by_cases h3 : q_frd T t a i
            · rw [q_dP_1 h3, if_pos rfl, if_neg (show ¬ (1 : Int32) = 0 by decide), hih, hskip (fun q => q.2.2 h3)]
            · rw [q_dP_0 h3, if_neg Bool.false_ne_true, if_pos rfl, q_dP_0 (fun q => h3 (q i (Nat.le_refl i) hi h1 h2)), if_neg Bool.false_ne_true]
          · rw [if_pos h1, if_neg h2, hih, hskip (fun q => h2 q.2.1)]
        · rw [if_neg h1, hih, hskip (fun q => h1 q.1)]
    exact hl (8 - a) a q_FU (by omega) (by unfold q_FU; omega) (Nat.le_refl a)
  have hl : ∀ n i k : Nat, i + n = 8 → n < k → X12_isFamily_b2 (A2 b) d b (wI W) k (wI i) = some (q_ib (q_dP (∀ a : Nat, i ≤ a → a < 8 → ∀ j : Nat, a ≤ j → j < 8 → q_bt W a = 1 → q_bt W j = 1 → q_frd T t a j))) := by
    intro n
    induction n with
    | zero =>
      intro i k z1 z2 
      obtain ⟨k, rfl⟩ : ∃ m, k = m + 1 := ⟨k - 1, by omega⟩
      have e : i = 8 := by omega
      rw [X12_isFamily_b2.eq_2, show (8 : Int32) = wI (8 : Nat) from rfl, e, q_dP_1 (fun i' h1 h2 => absurd h1 (by omega))]
      simp only [q_leT (Nat.le_refl 8) (show 8 < 2147483648 by omega), ↓reduceIte]
      rfl
    | succ n ih =>
      intro i k z1 z2 
      obtain ⟨k, rfl⟩ : ∃ m, k = m + 1 := ⟨k - 1, by omega⟩
      have hi : i < 8 := by omega
      have hih := ih (i + 1) k (by omega) (by omega)
      rw [X12_isFamily_b2.eq_2, hin i hi, show (8 : Int32) = wI (8 : Nat) from rfl]
      simp only [q_leF hi (show 8 < 2147483648 by omega), ↓reduceIte]
      by_cases hx : ∀ j : Nat, i ≤ j → j < 8 → q_bt W i = 1 → q_bt W j = 1 → q_frd T t i j
      · rw [if_pos (q_dP_1 hx)]
        refine hih.trans ?_
        refine congrArg (fun x => some (q_ib x)) (q_dP_e ⟨fun q a h1 h2 j => ?_, fun q a h1 h2 => q a (by omega) h2⟩)
        by_cases ea : a = i
        · rw [ea]; exact hx j
        · exact q a (by omega) h2 j
      · rw [if_neg (by rw [q_dP_0 hx]; exact Bool.false_ne_true), q_dP_0 (fun q => hx (q i (Nat.le_refl i) hi))]
        rfl
  have h0 := hl 8 0 q_FU (by omega) (by unfold q_FU; omega)
  unfold X12_isFamily
  refine h0.trans ?_
  refine congrArg (fun x => some (q_ib x)) (q_dP_e ⟨fun q i hi j hj h1 h2 => ?_, fun q a _ ha j h1 h2 => q a ha j h2⟩)
  by_cases g : i ≤ j
  · exact q i (by omega) hi j g hj h1 h2
  · exact q_frd_sym ht (q j (by omega) hj i (by omega) hi h2 h1)
def q_bc (W : Nat) : Int := q_sum (fun k => (q_bt W k : Int)) 8
theorem q_bc_b (W : Nat) : 0 ≤ q_bc W ∧ q_bc W ≤ 8 := by
  have := q_sum01 (f := fun k => (q_bt W k : Int)) 8 (fun k _ => by
    have := q_bt_2 W k
    show (0 : Int) ≤ (q_bt W k : Int) ∧ (q_bt W k : Int) ≤ 1
    omega)
  unfold q_bc
  omega
theorem J_bc {W : Nat} (hW : W < 256) : J6_bitCount_0f7a4 (wI W) = some (wI (q_bc W)) := by
  have e : ∀ W : Nat, W < 256 → J6_bitCount_0f7a4 (wI W) = some (wI (q_bc W)) := by decide +kernel
  exact e W hW
theorem M_bits {W : Nat} (hW : W < 256) : X12_bits (wI W) = some (wI (q_bc W)) := by
  have hl : ∀ n i k : Nat, i + n = 8 → n < k → X12_bits_b4 (wI W) k (wI (q_sum (fun k => (q_bt W k : Int)) i)) (wI i) = some (wI (q_bc W)) := by
    intro n
    induction n with
    | zero =>
      intro i k z1 z2 
      obtain ⟨k, rfl⟩ : ∃ m, k = m + 1 := ⟨k - 1, by omega⟩
      have e : i = 8 := by omega
      rw [X12_bits_b4.eq_2, show (8 : Int32) = wI (8 : Nat) from rfl, e]
      simp only [q_leT (Nat.le_refl 8) (show 8 < 2147483648 by omega), ↓reduceIte]
      rfl
    | succ n ih =>
      intro i k z1 z2 
      obtain ⟨k, rfl⟩ : ∃ m, k = m + 1 := ⟨k - 1, by omega⟩
      have hi : i < 8 := by omega
      have hih := ih (i + 1) k (by omega) (by omega)
      rw [q_sum_s] at hih
      rw [X12_bits_b4.eq_2, show (8 : Int32) = wI (8 : Nat) from rfl, wI_bit (by omega) (show i < 32 by omega), wI_add, o1s, q_n1]
      simp only [q_leF hi (show 8 < 2147483648 by omega), ↓reduceIte]
      exact hih
  exact hl 8 0 q_FU (by omega) (by unfold q_FU; omega)
