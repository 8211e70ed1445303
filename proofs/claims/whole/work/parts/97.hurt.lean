/-! level two: hurt -/
theorem q_sum_at (i0 : Nat) (B : Int) (n : Nat) : q_sum (fun i => if i = i0 then B else 0) n = if i0 < n then B else 0 := by
  induction n with
  | zero => exact (if_neg (by omega)).symm
  | succ n ih =>
    rw [q_sum_s, ih]
    by_cases h : n = i0
    · rw [if_pos h, if_neg (by omega), if_pos (by omega)]
      omega
    · rw [if_neg h]
      by_cases h2 : i0 < n
      · rw [if_pos h2, if_pos (by omega)]
        omega
      · rw [if_neg h2, if_neg (by omega)]
        rfl
def q_apt (g : Nat → Nat → Int) (i0 : Nat) (A : Int) : Nat → Nat → Int := fun a i => g a i + if a = 0 ∧ i = i0 then A else 0
def q_pls (T : q_Tl) (g : Nat → Nat → Int) (lo hi : Nat) (A : Int) : Nat → Nat → Int := fun a i => g a i + if a = 0 ∧ (lo ≤ i ∧ i < hi) ∧ i < TN T then A else 0
theorem q_pls_0 (T : q_Tl) (g : Nat → Nat → Int) (lo : Nat) (A : Int) : q_pls T g lo lo A = g := by
  funext a i
  show g a i + (if a = 0 ∧ (lo ≤ i ∧ i < lo) ∧ i < TN T then A else 0) = g a i
  rw [if_neg (by omega), Int.add_zero]
theorem q_pls_up {T : q_Tl} {g : Nat → Nat → Int} {lo hi : Nat} {A : Int} (h : lo ≤ hi) (h2 : hi < TN T) : q_apt (q_pls T g lo hi A) hi A = q_pls T g lo (hi + 1) A := by
  funext a i
  show g a i + (if a = 0 ∧ (lo ≤ i ∧ i < hi) ∧ i < TN T then A else 0) + (if a = 0 ∧ i = hi then A else 0) = g a i + (if a = 0 ∧ (lo ≤ i ∧ i < hi + 1) ∧ i < TN T then A else 0)
  by_cases h1 : a = 0 ∧ i = hi
  · rw [if_pos h1, if_neg (by omega), if_pos (by omega)]
    omega
  · rw [if_neg h1, Int.add_zero]
    by_cases h3 : a = 0 ∧ (lo ≤ i ∧ i < hi) ∧ i < TN T
    · rw [if_pos h3, if_pos (by omega)]
    · rw [if_neg h3, if_neg (by omega)]
theorem q_pls_dn {T : q_Tl} {g : Nat → Nat → Int} {lo hi : Nat} {A : Int} (h : lo < hi) (h2 : lo < TN T) : q_apt (q_pls T g lo hi A) lo (-A) = q_pls T g (lo + 1) hi A := by
  funext a i
  show g a i + (if a = 0 ∧ (lo ≤ i ∧ i < hi) ∧ i < TN T then A else 0) + (if a = 0 ∧ i = lo then -A else 0) = g a i + (if a = 0 ∧ (lo + 1 ≤ i ∧ i < hi) ∧ i < TN T then A else 0)
  by_cases h1 : a = 0 ∧ i = lo
  · rw [if_pos h1, if_pos (by omega), if_neg (by omega)]
    omega
  · rw [if_neg h1, Int.add_zero]
    by_cases h3 : a = 0 ∧ (lo ≤ i ∧ i < hi) ∧ i < TN T
    · rw [if_pos h3, if_pos (by omega)]
    · rw [if_neg h3, if_neg (by omega)]
theorem q_pls_N {T : q_Tl} {g : Nat → Nat → Int} {lo hi hi' : Nat} {A : Int} (h : TN T ≤ hi) (h2 : TN T ≤ hi') : q_pls T g lo hi A = q_pls T g lo hi' A := by
  funext a i
  show g a i + (if a = 0 ∧ (lo ≤ i ∧ i < hi) ∧ i < TN T then A else 0) = g a i + (if a = 0 ∧ (lo ≤ i ∧ i < hi') ∧ i < TN T then A else 0)
  by_cases h3 : a = 0 ∧ (lo ≤ i ∧ i < hi) ∧ i < TN T
  · rw [if_pos h3, if_pos (by omega)]
  · rw [if_neg h3, if_neg (by omega)]
theorem q_pls_b {T : q_Tl} {g : Nat → Nat → Int} {lo hi : Nat} {A : Int} (hA : 0 ≤ A ∧ A ≤ 99) (hb : ∀ a i, -3300000 ≤ g a i ∧ g a i ≤ 3300000) : ∀ a i, -4000000 ≤ q_pls T g lo hi A a i ∧ q_pls T g lo hi A a i ≤ 4000000 := by
  intro a i
  have h := hb a i
  show -4000000 ≤ g a i + (if a = 0 ∧ (lo ≤ i ∧ i < hi) ∧ i < TN T then A else 0) ∧ g a i + (if a = 0 ∧ (lo ≤ i ∧ i < hi) ∧ i < TN T then A else 0) ≤ 4000000
  by_cases h3 : a = 0 ∧ (lo ≤ i ∧ i < hi) ∧ i < TN T
  · rw [if_pos h3]; omega
  · rw [if_neg h3]; omega
theorem q_rs_ap {T : q_Tl} {g : Nat → Nat → Int} {s p i0 : Nat} {A : Int} (h : i0 < TN T) : q_rs T (q_apt g i0 A) s p = q_rs T g s p + if q_per T s i0 = (p : Int) ∧ q_trn T s i0 % 2 = 0 then q_sgn T s i0 * A else 0 := by
  have e : ∀ i, (if q_per T s i = (p : Int) then q_sgn T s i * q_apt g i0 A (q_trn T s i % 2) i else 0) = (if q_per T s i = (p : Int) then q_sgn T s i * g (q_trn T s i % 2) i else 0) + (if i = i0 then (if q_per T s i0 = (p : Int) ∧ q_trn T s i0 % 2 = 0 then q_sgn T s i0 * A else 0) else 0) := by
    intro i
    unfold q_apt
    by_cases h1 : i = i0
    · rw [if_pos h1, h1]
      by_cases h2 : q_per T s i0 = (p : Int)
      · rw [if_pos h2, if_pos h2]
        by_cases h3 : q_trn T s i0 % 2 = 0
        · rw [if_pos ⟨h3, rfl⟩, if_pos ⟨h2, h3⟩, Int.mul_add]
        · rw [if_neg (fun q => h3 q.1), if_neg (fun q => h3 q.2), Int.add_zero, Int.add_zero]
      · rw [if_neg h2, if_neg h2, if_neg (fun q => h2 q.1)]
        rfl
    · rw [if_neg h1]
      by_cases h2 : q_per T s i = (p : Int)
      · rw [if_pos h2, if_pos h2, if_neg (fun q => h1 q.2), Int.add_zero, Int.add_zero]
      · rw [if_neg h2, if_neg h2]
        rfl
  show q_sum (fun i => if q_per T s i = (p : Int) then q_sgn T s i * q_apt g i0 A (q_trn T s i % 2) i else 0) (TN T) = q_sum (fun i => if q_per T s i = (p : Int) then q_sgn T s i * g (q_trn T s i % 2) i else 0) (TN T) + _
  rw [q_sum_congr (g := fun i => (if q_per T s i = (p : Int) then q_sgn T s i * g (q_trn T s i % 2) i else 0) + (if i = i0 then (if q_per T s i0 = (p : Int) ∧ q_trn T s i0 % 2 = 0 then q_sgn T s i0 * A else 0) else 0)) (TN T) (fun i _ => e i), q_sum_add, q_sum_at, if_pos h]
theorem q_sum_ud {f f' : Nat → Int} {p : Nat} (n : Nat) (hp : p < n) (h : ∀ i, i ≠ p → f' i = f i) : q_sum f' n = q_sum f n + (f' p - f p) := by
  have e : ∀ i, f' i = f i + (if i = p then f' p - f p else 0) := by
    intro i
    by_cases h1 : i = p
    · rw [if_pos h1, h1]; omega
    · rw [if_neg h1, h i h1]; omega
  rw [q_sum_congr (g := fun i => f i + (if i = p then f' p - f p else 0)) n (fun i _ => e i), q_sum_add, q_sum_at, if_pos hp]
def q_wb (T : q_Tl) (s : Nat) (z : Int) (p : Nat) : Int := if q_sgb1 z = q_bit T s (p : Int) then 0 else 1
theorem q_wb_b (T : q_Tl) (s : Nat) (z : Int) (p : Nat) : 0 ≤ q_wb T s z p ∧ q_wb T s z p ≤ 1 := by
  unfold q_wb
  by_cases h : q_sgb1 z = q_bit T s (p : Int)
  · rw [if_pos h]; omega
  · rw [if_neg h]; omega
def q_wn (T : q_Tl) (s : Nat) (g : Nat → Nat → Int) : Int := q_wr T s (q_rs T g s) (q_np T s)
theorem q_wn_b {T : q_Tl} (hw : q_wf T) {s : Nat} (hs : s < Tns T) (g : Nat → Nat → Int) : 0 ≤ q_wn T s g ∧ q_wn T s g ≤ 512 := by
  have h := q_wr_b T s (q_rs T g s) (q_np T s)
  have h2 := (q_np_e hw hs).2
  unfold q_wn
  omega
theorem T_more {b t s i0 : Nat} {d : q_Dt} {T : q_Tl} {g : Nat → Nat → Int} {A : Int} (hT : q_TT b t d T) (hs : s < Tns T) (hi : i0 < TN T) (hA : -99 ≤ A ∧ A ≤ 99) (hb : ∀ a i, -4000000 ≤ g a i ∧ g a i ≤ 4000000) (hb2 : ∀ a i, -4000000 ≤ q_apt g i0 A a i ∧ q_apt g i0 A a i ≤ 4000000) (hd : ∀ p, p < 512 → d.2.1 (b + 45) p = wJ (q_rs T g s p)) : ∃ d', X4_wrongMore (A1 b) d (b + 43) (t + 42 + 5 * s) (wI i0) (wI (TN T)) (wI A) = some (wI (q_wn T s (q_apt g i0 A) - q_wn T s g), d') ∧ q_fJ (b + 45) d d' ∧ ∀ p, p < 512 → d'.2.1 (b + 45) p = wJ (q_rs T (q_apt g i0 A) s p) := by
  have hN := hT.1.1
  have hpb := q_per_b hT.1 (i := i0) hs
  have hsb := q_sgn_b hT.1 (i := i0) hs
  have hno : (∀ p : Nat, ¬ (q_per T s i0 = (p : Int) ∧ q_trn T s i0 % 2 = 0)) → (∀ p, q_rs T (q_apt g i0 A) s p = q_rs T g s p) := fun h p => by
    rw [q_rs_ap hi, if_neg (h p), Int.add_zero]
  have hstay : (∀ p : Nat, ¬ (q_per T s i0 = (p : Int) ∧ q_trn T s i0 % 2 = 0)) → ∃ d', some ((0 : Int32), d) = some (wI (q_wn T s (q_apt g i0 A) - q_wn T s g), d') ∧ q_fJ (b + 45) d d' ∧ ∀ p, p < 512 → d'.2.1 (b + 45) p = wJ (q_rs T (q_apt g i0 A) s p) := fun h => by
    refine ⟨d, ?_, ⟨rfl, rfl, fun _ _ => rfl⟩, fun p hp => by rw [hno h p]; exact hd p hp⟩
    have : q_wn T s (q_apt g i0 A) = q_wn T s g := by
      unfold q_wn
      rw [show q_rs T (q_apt g i0 A) s = q_rs T g s from funext (hno h)]
    rw [this, Int.sub_self]
    rfl
  unfold X4_wrongMore
  rw [T_period hT hs (show i0 < 1000000 by omega), b1s, T_axis hT hs (show i0 < 1000000 by omega), T_sign hT hs (show i0 < 1000000 by omega)]
  simp only [q_leF hi (show TN T < 2147483648 by omega), ↓reduceIte, b1s]
  by_cases hp0 : q_per T s i0 < 0
  · rw [if_pos (show wI (q_per T s i0) < 0 by
      rw [show (0 : Int32) = wI 0 from rfl, wI_lt (by omega) (by omega) (by omega) (by omega)]
      exact hp0)]
    exact hstay (fun p q => by omega)
  · rw [if_neg (show ¬ wI (q_per T s i0) < 0 by
      rw [show (0 : Int32) = wI 0 from rfl, wI_lt (by omega) (by omega) (by omega) (by omega)]
      exact hp0)]
    have hax : q_trn T s i0 % 2 < 2 := Nat.mod_lt _ (by omega)
    by_cases ha : q_trn T s i0 % 2 = 0
    · obtain ⟨p, hp⟩ := Int.eq_ofNat_of_zero_le (show 0 ≤ q_per T s i0 by omega)
      have hp5 : p < 512 := by omega
      have hnp : p < q_np T s := by
        have h1 := q_per_np hT.1 hs (TN T) i0 hi
        have h2 := (q_np_e hT.1 hs).1
        omega
      have hr1 := q_rs_b (p := p) hT.1 hs hb
      have hr2 := q_rs_b (p := p) hT.1 hs hb2
      have hm := q_mulb (B := 1) (C := 99) (u := q_sgn T s i0) (c := A) (by omega) (by omega)
      have er : ∀ p', q_rs T (q_apt g i0 A) s p' = q_rs T g s p' + if p' = p then q_sgn T s i0 * A else 0 := fun p' => by
        rw [q_rs_ap hi]
        by_cases h : p' = p
        · rw [if_pos h, if_pos ⟨by omega, ha⟩]
        · rw [if_neg h, if_neg (fun q => h (by have := q.1; omega))]
      have e1 := T_wrongBit (z := q_rs T g s p) hT hs (hd p hp5) hp5 (by omega) (by omega)
      have ein := r_inc (dt := d) (v := wJ (A * q_sgn T s i0)) (s44_0 b) (l45 b) (by omega) hp5
      rw [hd p hp5, wJ_add] at ein
      have ez : q_rs T g s p + A * q_sgn T s i0 = q_rs T (q_apt g i0 A) s p := by
        rw [er p, if_pos rfl, Int.mul_comm]
      rw [ez] at ein
      have f1 : q_fJ (b + 45) d (q_pJ d (b + 45) p (wJ (q_rs T (q_apt g i0 A) s p))) := ⟨rfl, rfl, fun x hx => q_pJ_o hx⟩
      have hT2 := T_fJ hT f1
      have e2 := T_wrongBit (z := q_rs T (q_apt g i0 A) s p) hT2 hs q_pJ_s hp5 (by omega) (by omega)
      refine ⟨_, ?_, f1, fun p' hp' => ?_⟩
      · rw [ha, if_pos (show wI ((0 : Nat) : Int) = 0 from rfl), hp, e1, b1s, s43_0, wI_mul, wI_wJ (by rw [Int.mul_comm]; omega) (by rw [Int.mul_comm]; omega), ein, b1s, e2, b1s, wI_sub]
        have : q_wn T s (q_apt g i0 A) = q_wn T s g + (q_wb T s (q_rs T (q_apt g i0 A) s p) p - q_wb T s (q_rs T g s p) p) := q_sum_ud (f := fun p' => q_wb T s (q_rs T g s p') p') (f' := fun p' => q_wb T s (q_rs T (q_apt g i0 A) s p') p') (q_np T s) hnp (fun p' h => by
          show q_wb T s (q_rs T (q_apt g i0 A) s p') p' = q_wb T s (q_rs T g s p') p'
          rw [er p', if_neg h, Int.add_zero])
        rw [this, show q_wn T s g + (q_wb T s (q_rs T (q_apt g i0 A) s p) p - q_wb T s (q_rs T g s p) p) - q_wn T s g = q_wb T s (q_rs T (q_apt g i0 A) s p) p - q_wb T s (q_rs T g s p) p by omega]
        rfl
      · by_cases h : p' = p
        · rw [h, q_pJ_s]
        · rw [q_pJ_k h, er p', if_neg h, Int.add_zero]
          exact hd p' hp'
    · rw [show q_trn T s i0 % 2 = 1 by omega, if_neg (show ¬ wI ((1 : Nat) : Int) = 0 by decide)]
      exact hstay (fun p q => ha q.2)
theorem T_moreN {b t s i0 : Nat} {d : q_Dt} {T : q_Tl} {A : Int32} (hT : q_TT b t d T) (hs : s < Tns T) (hi : TN T ≤ i0) (hi2 : i0 < 1000000) : X4_wrongMore (A1 b) d (b + 43) (t + 42 + 5 * s) (wI i0) (wI (TN T)) A = some (0, d) := by
  unfold X4_wrongMore
  rw [T_period hT hs hi2, b1s]
  simp only [q_leT hi (show i0 < 2147483648 by omega), ↓reduceIte]
def q_bst (F : Nat → Int) : Nat → Nat × Int
  | 0 => (0, -1)
  | n + 1 => if (q_bst F n).2 < F n then (n, F n) else q_bst F n
theorem q_bst_b {F : Nat → Int} (h : ∀ n, 0 ≤ F n ∧ F n ≤ 512) (n : Nat) : (q_bst F n).1 ≤ n ∧ -1 ≤ (q_bst F n).2 ∧ (q_bst F n).2 ≤ 512 := by
  induction n with
  | zero => exact ⟨Nat.le_refl 0, by show (-1 : Int) ≤ -1; omega, by show (-1 : Int) ≤ 512; omega⟩
  | succ n ih =>
    have e : q_bst F (n + 1) = if (q_bst F n).2 < F n then (n, F n) else q_bst F n := rfl
    have h1 := h n
    rw [e]
    by_cases g : (q_bst F n).2 < F n
    · rw [if_pos g]
      exact ⟨by show n ≤ n + 1; omega, by show -1 ≤ F n; omega, h1.2⟩
    · rw [if_neg g]
      exact ⟨by omega, ih.2⟩
theorem T_pulse {b t s w : Nat} {dt : q_Dt} {T : q_Tl} {g : Nat → Nat → Int} {A : Int} (hT : q_TT b t dt T) (hg : q_sig (b + 21) (TN T) dt g) (hs : s < Tns T) (hw : 1 ≤ w ∧ w ≤ 99) (hA : 1 ≤ A ∧ A ≤ 99) (hb : ∀ a i, -3300000 ≤ g a i ∧ g a i ≤ 3300000) (hz : ∀ a i, TN T ≤ i → g a i = 0) : ∃ d', X4_findWorstPulse (A1 b) dt (b + 43) (b + 21) (t + 42 + 5 * s) (wI w) (wI A) = some d' ∧ q_e1 b dt d' ∧ d'.1 (b + 43) 4 = wI (q_bst (fun f => q_wn T s (q_pls T g f (f + w) A)) (TN T)).1 ∧ d'.1 (b + 43) 5 = wI (q_bst (fun f => q_wn T s (q_pls T g f (f + w) A)) (TN T)).2 := by
  have hN := hT.1.1
  have ht := hT.2.1
  have hFb : ∀ n, 0 ≤ q_wn T s (q_pls T g n (n + w) A) ∧ q_wn T s (q_pls T g n (n + w) A) ≤ 512 := fun n => q_wn_b hT.1 hs _
  have hpb : ∀ lo hi, ∀ a i, -4000000 ≤ q_pls T g lo hi A a i ∧ q_pls T g lo hi A a i ≤ 4000000 := fun lo hi => q_pls_b (by omega) hb
  have hup : ∀ (d : q_Dt) (lo hi : Nat), q_e1 b dt d → lo ≤ hi → hi < 1000 → (∀ p, p < 512 → d.2.1 (b + 45) p = wJ (q_rs T (q_pls T g lo hi A) s p)) → ∃ d', X4_wrongMore (A1 b) d (b + 43) (t + 42 + 5 * s) (wI hi) (wI (TN T)) (wI A) = some (wI (q_wn T s (q_pls T g lo (hi + 1) A) - q_wn T s (q_pls T g lo hi A)), d') ∧ q_fJ (b + 45) d d' ∧ ∀ p, p < 512 → d'.2.1 (b + 45) p = wJ (q_rs T (q_pls T g lo (hi + 1) A) s p) := by
    intro d lo hi q1 hl hh hd
    by_cases hc : hi < TN T
    · have h1 := T_more (A := A) (T_e1 hT q1) hs hc (by omega) (hpb lo hi) (by rw [q_pls_up hl hc]; exact hpb lo (hi + 1)) hd
      rw [q_pls_up hl hc] at h1
      exact h1
    · have e : q_pls T g lo (hi + 1) A = q_pls T g lo hi A := q_pls_N (by omega) (by omega)
      rw [e]
      refine ⟨d, ?_, ⟨rfl, rfl, fun _ _ => rfl⟩, hd⟩
      rw [T_moreN (T_e1 hT q1) hs (by omega) (by omega), Int.sub_self]
      rfl
  have h2 : ∀ n i k : Nat, i + n = TN T - 1 → n < k → ∀ d, q_e1 b dt d → (∀ p, p < 512 → d.2.1 (b + 45) p = wJ (q_rs T (q_pls T g i (i + w) A) s p)) → d.1 (b + 43) 4 = wI (q_bst (fun f => q_wn T s (q_pls T g f (f + w) A)) (i + 1)).1 → d.1 (b + 43) 5 = wI (q_bst (fun f => q_wn T s (q_pls T g f (f + w) A)) (i + 1)).2 → ∃ d', X4_findWorstPulse_b70 (A1 b) (b + 43) (t + 42 + 5 * s) (wI w) (wI A) (wI (TN T)) k (wI (q_wn T s (q_pls T g i (i + w) A))) (wI (i + 1 : Nat)) d = some d' ∧ q_e1 b dt d' ∧ d'.1 (b + 43) 4 = wI (q_bst (fun f => q_wn T s (q_pls T g f (f + w) A)) (TN T)).1 ∧ d'.1 (b + 43) 5 = wI (q_bst (fun f => q_wn T s (q_pls T g f (f + w) A)) (TN T)).2 := by
    intro n
    induction n with
    | zero =>
      intro i k z1 z2 
      obtain ⟨k, rfl⟩ : ∃ m, k = m + 1 := ⟨k - 1, by omega⟩
      have e : i = TN T - 1 := by omega
      intro d q1 q2 q3 q4
      rw [e, show TN T - 1 + 1 = TN T by omega] at q3 q4
      refine ⟨d, ?_, q1, q3, q4⟩
      rw [X4_findWorstPulse_b70.eq_2]
      simp only [q_leT (show TN T ≤ i + 1 by omega) (show i + 1 < 2147483648 by omega), ↓reduceIte]
    | succ n ih =>
      intro i k z1 z2 
      obtain ⟨k, rfl⟩ : ∃ m, k = m + 1 := ⟨k - 1, by omega⟩
      have hi : i < TN T - 1 := by omega
      intro d q1 q2 q3 q4
      have hT1 := T_e1 hT q1
      obtain ⟨d1, p1, p2, p3⟩ := T_more (A := -A) hT1 hs (show i < TN T by omega) (by omega) (hpb i (i + w)) (by rw [q_pls_dn (by omega) (by omega)]; exact hpb (i + 1) (i + w)) q2
      rw [q_pls_dn (by omega) (by omega)] at p1 p3
      have f1 := q_e1_t q1 (q_fJ_e1 p2)
      obtain ⟨d2, r1, r2, r3⟩ := hup d1 (i + 1) (i + w) f1 (by omega) (by omega) p3
      have f2 := q_e1_t f1 (q_fJ_e1 r2)
      rw [show i + w + 1 = i + 1 + w by omega] at r1 r3
      have hF1 := hFb i
      have hF2 := hFb (i + 1)
      have hbb := q_bst_b hFb (i + 1)
      have e1 : wI (i + 1 : Nat) - 1 = wI (i : Nat) := by
        rw [show (1 : Int32) = wI 1 from rfl, wI_sub]
        congr 1
        omega
      have e2 : wI (i + 1 : Nat) + wI (w : Nat) - 1 = wI (i + w : Nat) := by
        rw [show (1 : Int32) = wI 1 from rfl, wI_add, wI_sub]
        congr 1
        omega
      have e5 : d2.1 (b + 43) 5 = wI (q_bst (fun f => q_wn T s (q_pls T g f (f + w) A)) (i + 1)).2 := by
        rw [r2.1, p2.1]
        exact q4
      have e4 : d2.1 (b + 43) 4 = wI (q_bst (fun f => q_wn T s (q_pls T g f (f + w) A)) (i + 1)).1 := by
        rw [r2.1, p2.1]
        exact q3
      have eW : wI (q_wn T s (q_pls T g i (i + w) A)) + wI (q_wn T s (q_pls T g (i + 1) (i + w) A) - q_wn T s (q_pls T g i (i + w) A)) + wI (q_wn T s (q_pls T g (i + 1) (i + 1 + w) A) - q_wn T s (q_pls T g (i + 1) (i + w) A)) = wI (q_wn T s (q_pls T g (i + 1) (i + 1 + w) A)) := by
        rw [wI_add, wI_add]
        congr 1
        omega
      have eB : q_bst (fun f => q_wn T s (q_pls T g f (f + w) A)) (i + 1 + 1) = if (q_bst (fun f => q_wn T s (q_pls T g f (f + w) A)) (i + 1)).2 < q_wn T s (q_pls T g (i + 1) (i + 1 + w) A) then (i + 1, q_wn T s (q_pls T g (i + 1) (i + 1 + w) A)) else q_bst (fun f => q_wn T s (q_pls T g f (f + w) A)) (i + 1) := rfl
      have kk : (wI (q_wn T s (q_pls T g (i + 1) (i + 1 + w) A)) ≤ wI (q_bst (fun f => q_wn T s (q_pls T g f (f + w) A)) (i + 1)).2) = (q_wn T s (q_pls T g (i + 1) (i + 1 + w) A) ≤ (q_bst (fun f => q_wn T s (q_pls T g f (f + w) A)) (i + 1)).2) := wI_le (by omega) (by omega) (by omega) (by omega)
      rw [X4_findWorstPulse_b70.eq_2, wI_neg, e1, p1, b2s, e2, r1, b2s, eW, e5]
      simp only [q_leF (show i + 1 < TN T by omega) (show TN T < 2147483648 by omega), ↓reduceIte, kk, X4_findWorstPulse_b137, o1s, q_n1]
      by_cases h : (q_bst (fun f => q_wn T s (q_pls T g f (f + w) A)) (i + 1)).2 < q_wn T s (q_pls T g (i + 1) (i + 1 + w) A)
      · rw [if_pos h] at eB
        rw [if_neg (by omega)]
        refine ih (i + 1) k (by omega) (by omega) _ (q_e1_t f2 (q_e1_I (q_e1_I q_e1_r (by omega) (by omega)) (by omega) (by omega))) r3 ?_ ?_
        · rw [eB, q_pI_k (by omega), q_pI_s]
        · rw [eB, q_pI_s]
      · rw [if_neg h] at eB
        rw [if_pos (by omega)]
        refine ih (i + 1) k (by omega) (by omega) d2 f2 r3 ?_ ?_
        · rw [eB]; exact e4
        · rw [eB]; exact e5
  have h1 : ∀ n i k : Nat, i + n = w → n < k → ∀ d, q_e1 b dt d → (∀ p, p < 512 → d.2.1 (b + 45) p = wJ (q_rs T (q_pls T g 0 i A) s p)) → ∃ d', X4_findWorstPulse_b28 (A1 b) (b + 43) (t + 42 + 5 * s) (wI w) (wI A) (wI (TN T)) k (wI (q_wn T s (q_pls T g 0 i A))) (wI i) d = some d' ∧ q_e1 b dt d' ∧ d'.1 (b + 43) 4 = wI (q_bst (fun f => q_wn T s (q_pls T g f (f + w) A)) (TN T)).1 ∧ d'.1 (b + 43) 5 = wI (q_bst (fun f => q_wn T s (q_pls T g f (f + w) A)) (TN T)).2 := by
    intro n
    induction n with
    | zero =>
      intro i k z1 z2 
      obtain ⟨k, rfl⟩ : ∃ m, k = m + 1 := ⟨k - 1, by omega⟩
      have e : i = w := by omega
      intro d q1 q2
      rw [e] at q2 ⊢
      have eB : q_bst (fun f => q_wn T s (q_pls T g f (f + w) A)) (0 + 1) = (0, q_wn T s (q_pls T g 0 (0 + w) A)) := if_pos (show (-1 : Int) < q_wn T s (q_pls T g 0 (0 + w) A) by have := hFb 0; omega)
      rw [Nat.zero_add w] at eB
      obtain ⟨d', v1, v2⟩ := h2 (TN T - 1) 0 q_FU (by omega) (by unfold q_FU; omega) (q_pI (q_pI d (b + 43) 4 0) (b + 43) 5 (wI (q_wn T s (q_pls T g 0 w A)))) (q_e1_t q1 (q_e1_I (q_e1_I q_e1_r (by omega) (by omega)) (by omega) (by omega))) (by rw [Nat.zero_add]; exact q2) (by
        rw [eB, q_pI_k (by omega), q_pI_s]
        rfl) (by rw [eB, q_pI_s])
      rw [Nat.zero_add w] at v1
      refine ⟨d', ?_, v2⟩
      rw [X4_findWorstPulse_b28.eq_2]
      simp only [q_leT (Nat.le_refl w) (show w < 2147483648 by omega), ↓reduceIte, o1s]
      exact v1
    | succ n ih =>
      intro i k z1 z2 
      obtain ⟨k, rfl⟩ : ∃ m, k = m + 1 := ⟨k - 1, by omega⟩
      have hi : i < w := by omega
      intro d q1 q2
      obtain ⟨d1, r1, r2, r3⟩ := hup d 0 i q1 (by omega) (by omega) q2
      obtain ⟨d', v1, v2⟩ := ih (i + 1) k (by omega) (by omega) d1 (q_e1_t q1 (q_fJ_e1 r2)) r3
      refine ⟨d', ?_, v2⟩
      rw [X4_findWorstPulse_b28.eq_2, r1, b2s, wI_add, show q_wn T s (q_pls T g 0 i A) + (q_wn T s (q_pls T g 0 (i + 1) A) - q_wn T s (q_pls T g 0 i A)) = q_wn T s (q_pls T g 0 (i + 1) A) by omega]
      simp only [q_leF hi (show w < 2147483648 by omega), ↓reduceIte, q_n1]
      exact v1
  obtain ⟨d1, p1, p2, p3⟩ := T_gather hT (So_in b) hg hz (Or.inl rfl) hs
  have hT2 := T_fJ hT p2
  have hnp := (q_np_e hT.1 hs).2
  obtain ⟨d', v1, v2⟩ := h1 w 0 q_FU (by omega) (by unfold q_FU; omega) d1 (q_fJ_e1 p2) (by rw [q_pls_0]; exact p3)
  rw [q_pls_0] at v1
  refine ⟨d', ?_, v2⟩
  unfold X4_findWorstPulse
  rw [p1, b1s, p2.1, hg.1, T_periods hT2 hs, b1s, T_wrongBits (rs := q_rs T g s) hT2 hs hnp p3 (fun p => by have := q_rs_b (g := g) (p := p) hT.1 hs (fun a i => by have := hb a i; omega); omega), b1s]
  exact v1
