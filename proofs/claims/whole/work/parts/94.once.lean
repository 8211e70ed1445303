/-! level two: all at once: what is left -/
theorem q_sum_neg (f : Nat → Int) (n : Nat) : q_sum (fun i => - f i) n = - q_sum f n := by
  induction n with
  | zero => rfl
  | succ n ih =>
    rw [q_sum_s, q_sum_s, ih]
    omega
theorem q_sum_but (f : Nat → Int) (n s : Nat) (h : s < n) : q_sum f n = q_sum (fun o => if o = s then 0 else f o) n + f s := by
  induction n with
  | zero => exact absurd h (by omega)
  | succ n ih =>
    rw [q_sum_s, q_sum_s]
    by_cases e : n = s
    · subst e
      rw [if_pos rfl, q_sum_congr (g := f) n (fun i hi => if_neg (by omega))]
      omega
    · rw [if_neg e, ih (by omega)]
      omega
theorem q_sum_nob (f : Nat → Int) (n s : Nat) (h : n ≤ s) : q_sum (fun o => if o = s then 0 else f o) n = q_sum f n := q_sum_congr n (fun i hi => if_neg (by omega))
theorem q_ct_neg (T : q_Tl) (s : Nat) (tb : Nat → Bool) (a j i : Nat) : q_ct T s tb (-1) a j i = - q_ct T s tb 1 a j i := by
  unfold q_ct
  by_cases h : q_dl T s i ≤ i ∧ a = q_trn T s i % 2
  · rw [if_pos h, if_pos h]
    unfold q_un
    by_cases h2 : tb (q_per T s i).toNat = true
    · rw [if_pos h2, if_pos h2, Int.neg_neg, Int.mul_neg, Int.neg_mul, Int.neg_neg]
    · rw [if_neg h2, if_neg h2, Int.mul_neg, Int.neg_mul]
  · rw [if_neg h, if_neg h]
    rfl
/-- a sender's whole wave -/
def q_Wv (T : q_Tl) (s : Nat) (tb : Nat → Bool) : Nat → Nat → Int := fun a j => q_sum (fun i => q_ct T s tb 1 a j i) (TN T)
theorem q_wv_p (T : q_Tl) (s : Nat) (tb : Nat → Bool) (g : Nat → Nat → Int) : q_wv T s tb 1 g (TN T) = fun a j => g a j + q_Wv T s tb a j := rfl
theorem q_wv_m (T : q_Tl) (s : Nat) (tb : Nat → Bool) (g : Nat → Nat → Int) : q_wv T s tb (-1) g (TN T) = fun a j => g a j - q_Wv T s tb a j := by
  funext a j
  show g a j + q_sum (fun i => q_ct T s tb (-1) a j i) (TN T) = g a j - q_sum (fun i => q_ct T s tb 1 a j i) (TN T)
  rw [q_sum_congr (g := fun i => - q_ct T s tb 1 a j i) (TN T) (fun i _ => q_ct_neg T s tb a j i), q_sum_neg]
  exact Int.sub_eq_add_neg.symm
def q_rsb (R : Nat → Nat → Int) (o : Nat) : Nat → Bool := fun p => decide (R o p < 0)
/-- what is left without the waves of those below m, but not without that of s -/
def q_Gx (T : q_Tl) (g : Nat → Nat → Int) (R : Nat → Nat → Int) (s m : Nat) : Nat → Nat → Int := fun a j => g a j - q_sum (fun o => if o = s then 0 else q_Wv T o (q_rsb R o) a j) m
theorem q_Gx_0 (T : q_Tl) (g : Nat → Nat → Int) (R : Nat → Nat → Int) (s : Nat) : q_Gx T g R s 0 = g := by
  funext a j
  show g a j - 0 = g a j
  omega
theorem q_Gx_s (T : q_Tl) (g : Nat → Nat → Int) (R : Nat → Nat → Int) {s i : Nat} (h : i ≠ s) : q_wv T i (q_rsb R i) (-1) (q_Gx T g R s i) (TN T) = q_Gx T g R s (i + 1) := by
  rw [q_wv_m]
  funext a j
  show g a j - q_sum (fun o => if o = s then 0 else q_Wv T o (q_rsb R o) a j) i - q_Wv T i (q_rsb R i) a j = g a j - q_sum (fun o => if o = s then 0 else q_Wv T o (q_rsb R o) a j) (i + 1)
  rw [q_sum_s, if_neg h]
  omega
theorem q_Gx_e (T : q_Tl) (g : Nat → Nat → Int) (R : Nat → Nat → Int) (s : Nat) : q_Gx T g R s (s + 1) = q_Gx T g R s s := by
  funext a j
  show g a j - q_sum (fun o => if o = s then 0 else q_Wv T o (q_rsb R o) a j) (s + 1) = g a j - q_sum (fun o => if o = s then 0 else q_Wv T o (q_rsb R o) a j) s
  rw [q_sum_s, if_pos rfl]
  omega
theorem q_Gx_add (T : q_Tl) (g : Nat → Nat → Int) (R : Nat → Nat → Int) {s m : Nat} (h : s < m) (hm : m ≤ 6) : q_wv T s (q_rsb R s) 1 (q_Gx T g R 6 m) (TN T) = q_Gx T g R s m := by
  rw [q_wv_p]
  funext a j
  show g a j - q_sum (fun o => if o = 6 then 0 else q_Wv T o (q_rsb R o) a j) m + q_Wv T s (q_rsb R s) a j = g a j - q_sum (fun o => if o = s then 0 else q_Wv T o (q_rsb R o) a j) m
  rw [q_sum_nob (fun o => q_Wv T o (q_rsb R o) a j) m 6 hm, q_sum_but (fun o => q_Wv T o (q_rsb R o) a j) m s h]
  omega
theorem q_Gx_sub (T : q_Tl) (g : Nat → Nat → Int) (R : Nat → Nat → Int) {s m : Nat} (h : s < m) (hm : m ≤ 6) : q_wv T s (q_rsb R s) (-1) (q_Gx T g R s m) (TN T) = q_Gx T g R 6 m := by
  rw [q_wv_m]
  funext a j
  show g a j - q_sum (fun o => if o = s then 0 else q_Wv T o (q_rsb R o) a j) m - q_Wv T s (q_rsb R s) a j = g a j - q_sum (fun o => if o = 6 then 0 else q_Wv T o (q_rsb R o) a j) m
  rw [q_sum_nob (fun o => q_Wv T o (q_rsb R o) a j) m 6 hm, q_sum_but (fun o => q_Wv T o (q_rsb R o) a j) m s h]
  omega
theorem q_Wv_b {T : q_Tl} (hw : q_wf T) {s a j : Nat} {tb : Nat → Bool} (hs : s < Tns T) : -693 ≤ q_Wv T s tb a j ∧ q_Wv T s tb a j ≤ 693 := by
  have h := q_wv_b hw (a := a) (j := j) (n := TN T) (tb := tb) (f := 1) (g := fun _ _ => 0) hs (B := 1) (by omega) (by omega)
  rw [q_wv_p] at h
  have h2 : (0 : Int) - 693 * ((1 : Nat) : Int) ≤ 0 + q_Wv T s tb a j ∧ 0 + q_Wv T s tb a j ≤ 0 + 693 * ((1 : Nat) : Int) := h
  omega
theorem q_Wv_z {T : q_Tl} {s a j : Nat} {tb : Nat → Bool} (hj : TN T ≤ j) : q_Wv T s tb a j = 0 := by
  have h := q_wv_z (T := T) (s := s) (a := a) (tb := tb) (f := 1) (g := fun _ _ => 0) (Nat.le_refl (TN T)) hj
  rw [q_wv_p] at h
  have h2 : (0 : Int) + q_Wv T s tb a j = 0 := h
  omega
theorem q_Gx_b {T : q_Tl} (hw : q_wf T) {g : Nat → Nat → Int} {R : Nat → Nat → Int} {s m : Nat} (hm : m ≤ Tns T) (hb : ∀ a i, -3300000 ≤ g a i ∧ g a i ≤ 3300000) : ∀ a i, -4000000 ≤ q_Gx T g R s m a i ∧ q_Gx T g R s m a i ≤ 4000000 := by
  intro a i
  have hN := hw.1
  have h := q_sum_abs (f := fun o => if o = s then 0 else q_Wv T o (q_rsb R o) a i) (B := 693) m (fun o ho => by
    have h1 := q_Wv_b hw (a := a) (j := i) (tb := q_rsb R o) (show o < Tns T by omega)
    show -693 ≤ (if o = s then 0 else q_Wv T o (q_rsb R o) a i) ∧ (if o = s then 0 else q_Wv T o (q_rsb R o) a i) ≤ 693
    by_cases e : o = s
    · rw [if_pos e]; omega
    · rw [if_neg e]; exact h1)
  have h2 := hb a i
  show -4000000 ≤ g a i - q_sum (fun o => if o = s then 0 else q_Wv T o (q_rsb R o) a i) m ∧ g a i - q_sum (fun o => if o = s then 0 else q_Wv T o (q_rsb R o) a i) m ≤ 4000000
  omega
theorem q_Gx_z {T : q_Tl} {g : Nat → Nat → Int} {R : Nat → Nat → Int} {s m : Nat} (hz : ∀ a i, TN T ≤ i → g a i = 0) : ∀ a i, TN T ≤ i → q_Gx T g R s m a i = 0 := by
  intro a i hi
  show g a i - q_sum (fun o => if o = s then 0 else q_Wv T o (q_rsb R o) a i) m = 0
  rw [q_sum_congr (g := fun _ => 0) m (fun o _ => by
    rw [q_Wv_z hi, ite_self]), q_sum_z, hz a i hi]
  rfl
/-- the sums of all senders, round by round -/
def q_ao (T : q_Tl) (g : Nat → Nat → Int) : Nat → Nat → Nat → Int
  | 0 => fun s => q_rs T g s
  | r + 1 => fun s => q_rs T (q_Gx T g (q_ao T g r) s (Tns T)) s
def q_aw (T : q_Tl) (R : Nat → Nat → Int) (m : Nat) : Int := q_sum (fun s => q_wr T s (R s) (q_np T s)) m
theorem q_aw_s (T : q_Tl) (R : Nat → Nat → Int) (m : Nat) : q_aw T R (m + 1) = q_aw T R m + q_wr T m (R m) (q_np T m) := rfl
theorem q_ao_b {T : q_Tl} (hw : q_wf T) {g : Nat → Nat → Int} (hb : ∀ a i, -3300000 ≤ g a i ∧ g a i ≤ 3300000) (r : Nat) {s : Nat} (hs : s < Tns T) (p : Nat) : -9223372036854775808 ≤ q_ao T g r s p ∧ q_ao T g r s p < 9223372036854775808 := by
  cases r with
  | zero =>
    have := q_rs_b (g := g) (p := p) hw hs (fun a i => by have := hb a i; omega)
    show -9223372036854775808 ≤ q_rs T g s p ∧ q_rs T g s p < 9223372036854775808
    omega
  | succ r =>
    have := q_rs_b (g := q_Gx T g (q_ao T g r) s (Tns T)) (p := p) hw hs (q_Gx_b hw (Nat.le_refl _) hb)
    show -9223372036854775808 ≤ q_rs T (q_Gx T g (q_ao T g r) s (Tns T)) s p ∧ q_rs T (q_Gx T g (q_ao T g r) s (Tns T)) s p < 9223372036854775808
    omega
theorem q_ao_z {T : q_Tl} (hw : q_wf T) {g : Nat → Nat → Int} (r : Nat) {s p : Nat} (hs : s < Tns T) (h : q_np T s ≤ p) : q_ao T g r s p = 0 := by
  cases r with
  | zero => exact q_rs_z hw hs h
  | succ r => exact q_rs_z hw hs h
