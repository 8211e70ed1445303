/-! level two: depth: the shortest rule, grown bit by bit -/
def q_del (k : Nat) : Int := if k = 0 then 1 else 0
def q_mix (C B : Nat → Int) (gap : Nat) : Nat → Int := fun k => if gap ≤ k then (C k + B (k - gap)) % 2 else C k
def q_ds (s C : Nat → Int) (n m : Nat) : Int := q_sum (fun k => C k * s (n - k)) m
abbrev q_Bm : Type := ((Nat → Int) × (Nat → Int)) × (Nat × Nat)
def q_bms (s : Nat → Int) (n : Nat) (x : q_Bm) : q_Bm := if q_ds s x.1.1 n (x.2.1 + 1) % 2 = 0 then (x.1, (x.2.1, x.2.2 + 1)) else if n < 2 * x.2.1 then ((q_mix x.1.1 x.1.2 x.2.2, x.1.2), (x.2.1, x.2.2 + 1)) else ((q_mix x.1.1 x.1.2 x.2.2, x.1.1), (n + 1 - x.2.1, 1))
def q_bm (s : Nat → Int) : Nat → q_Bm
  | 0 => ((q_del, q_del), (0, 1))
  | n + 1 => q_bms s n (q_bm s n)
def q_bi (s : Nat → Int) (L n : Nat) (x : q_Bm) : Prop :=
  (∀ k, x.1.1 k = 0 ∨ x.1.1 k = 1) ∧ (∀ k, x.1.2 k = 0 ∨ x.1.2 k = 1) ∧ (∀ k, x.2.1 < k → x.1.1 k = 0) ∧ (x.2.1 ≤ n ∧ x.2.1 ≤ L ∧ 1 ≤ x.2.2 ∧ x.2.2 ≤ n + 1) ∧ (∀ j, x.2.1 ≤ j → j < n → q_ds s x.1.1 j (x.2.1 + 1) % 2 = 0) ∧
  ((x.2.1 = 0 ∧ x.2.2 = n + 1 ∧ x.1.1 = q_del ∧ x.1.2 = q_del) ∨ ∃ m LB, m + x.2.2 = n ∧ LB ≤ m ∧ x.2.1 + LB = m + 1 ∧ (∀ k, LB < k → x.1.2 k = 0) ∧ q_ds s x.1.2 m (LB + 1) % 2 = 1 ∧ ∀ j, LB ≤ j → j < m → q_ds s x.1.2 j (LB + 1) % 2 = 0)
theorem q_sum_ext {f : Nat → Int} {n : Nat} (m : Nat) (hnm : n ≤ m) (h : ∀ i, n ≤ i → i < m → f i = 0) : q_sum f m = q_sum f n := by
  induction m with
  | zero => rw [show n = 0 by omega]
  | succ m ih =>
    by_cases e : n = m + 1
    · rw [e]
    · rw [q_sum_s, ih (by omega) (fun i h1 h2 => h i h1 (by omega)), h m (by omega) (by omega), Int.add_zero]
theorem q_sum_m2 {f g : Nat → Int} (n : Nat) (h : ∀ i, i < n → f i % 2 = g i % 2) : q_sum f n % 2 = q_sum g n % 2 := by
  induction n with
  | zero => rfl
  | succ n ih =>
    rw [q_sum_s, q_sum_s]
    have h1 := ih (fun i hi => h i (by omega))
    have h2 := h n (by omega)
    omega
theorem q_sum_shf (F : Nat → Int) (g n : Nat) : q_sum (fun k => if g ≤ k then F (k - g) else 0) n = q_sum F (n - g) := by
  induction n with
  | zero => rw [Nat.zero_sub]; rfl
  | succ n ih =>
    rw [q_sum_s, ih]
    by_cases h : g ≤ n
    · rw [if_pos h, show n + 1 - g = n - g + 1 by omega, q_sum_s]
    · rw [if_neg h, show n + 1 - g = 0 by omega, show n - g = 0 by omega, Int.add_zero]
theorem q_ds_ext {s C : Nat → Int} {n D D' : Nat} (h : D ≤ D') (hC : ∀ k, D < k → C k = 0) : q_ds s C n (D' + 1) = q_ds s C n (D + 1) := q_sum_ext (D' + 1) (by omega) (fun i h1 h2 => by
  rw [hC i (by omega), Int.zero_mul])
theorem q_ds_mix {s C B : Nat → Int} {gap j M : Nat} (hs : ∀ i, s i = 0 ∨ s i = 1) : q_ds s (q_mix C B gap) j M % 2 = (q_ds s C j M + q_ds s B (j - gap) (M - gap)) % 2 := by
  unfold q_ds
  rw [← q_sum_shf (fun k => B k * s (j - gap - k)) gap M, ← q_sum_add]
  refine q_sum_m2 M (fun k _ => ?_)
  unfold q_mix
  by_cases h : gap ≤ k
  · rw [if_pos h, if_pos h, show j - gap - (k - gap) = j - k by omega]
    rcases hs (j - k) with e | e
    · rw [e, Int.mul_zero, Int.mul_zero, Int.mul_zero]; rfl
    · rw [e, Int.mul_one, Int.mul_one, Int.mul_one]; omega
  · rw [if_neg h, if_neg h, Int.add_zero]
theorem q_mix_b {C B : Nat → Int} {gap : Nat} (hC : ∀ k, C k = 0 ∨ C k = 1) (k : Nat) : q_mix C B gap k = 0 ∨ q_mix C B gap k = 1 := by
  unfold q_mix
  by_cases h : gap ≤ k
  · rw [if_pos h]; omega
  · rw [if_neg h]; exact hC k
theorem q_ds_del (s : Nat → Int) (n m : Nat) : q_ds s q_del n (m + 1) = s n := by
  rw [q_ds_ext (C := q_del) (D := 0) (Nat.zero_le m) (fun k hk => if_neg (show ¬ k = 0 by omega))]
  show (0 : Int) + q_del 0 * s (n - 0) = s n
  rw [show q_del 0 = 1 from rfl, Int.one_mul, Int.zero_add, Nat.sub_zero]
theorem q_ds_per {s C : Nat → Int} {L n D : Nat} (hp : ∀ i, s (i + L) = s i) (h : L + D ≤ n) : q_ds s C n (D + 1) = q_ds s C (n - L) (D + 1) := q_sum_congr (D + 1) (fun k hk => by
  rw [← hp (n - L - k), show n - L - k + L = n - k by omega])
theorem q_bi_s {s : Nat → Int} {L n : Nat} {x : q_Bm} (hs : ∀ i, s i = 0 ∨ s i = 1) (hp : ∀ i, s (i + L) = s i) (hL : 1 ≤ L) (h : q_bi s L n x) : q_bi s L (n + 1) (q_bms s n x) := by
  obtain ⟨⟨C, B⟩, deep, gap⟩ := x
  obtain ⟨h1, h2, h3, h4, h5, h6⟩ := h
  simp only at h1 h2 h3 h4 h5 h6
  unfold q_bms
  simp only
  by_cases hd : q_ds s C n (deep + 1) % 2 = 0
  · rw [if_pos hd]
    refine ⟨h1, h2, h3, by show deep ≤ n + 1 ∧ deep ≤ L ∧ 1 ≤ gap + 1 ∧ gap + 1 ≤ n + 1 + 1; omega, fun j g1 g2 => ?_, ?_⟩
    · by_cases e : j = n
      · rw [e]; exact hd
      · exact h5 j g1 (by omega)
    · rcases h6 with ⟨g1, g2, g3⟩ | ⟨m, LB, g1, g2⟩
      · exact Or.inl ⟨g1, by show gap + 1 = n + 1 + 1; omega, g3⟩
      · exact Or.inr ⟨m, LB, by show m + (gap + 1) = n + 1; omega, g2⟩
  · rw [if_neg hd]
    have hd1 : q_ds s C n (deep + 1) % 2 = 1 := by omega
    have hgr : n + 1 - deep ≤ L := by
      by_cases g : L + deep ≤ n
      · have e := q_ds_per (s := s) (C := C) hp g
        have e2 := h5 (n - L) (by omega) (by omega)
        rw [e] at hd1
        omega
      · omega
    rcases h6 with ⟨g1, g2, g3, g4⟩ | ⟨m, LB, g1, g2, g3, g4, g5, g6⟩
    · subst g3 g4
      rw [if_neg (by omega)]
      have hsn := q_ds_del s n deep
      rw [hsn] at hd1
      refine ⟨fun k => q_mix_b h1 k, h1, fun k hk => ?_, by show n + 1 - deep ≤ n + 1 ∧ n + 1 - deep ≤ L ∧ 1 ≤ 1 ∧ 1 ≤ n + 1 + 1; omega, fun j q1 q2 => ?_, Or.inr ⟨n, 0, rfl, Nat.zero_le n, by show n + 1 - deep + 0 = n + 1; omega, fun k hk => ?_, ?_, fun j q1 q2 => ?_⟩⟩
      · have hk2 : n + 1 - deep < k := hk
        show (if gap ≤ k then (q_del k + q_del (k - gap)) % 2 else q_del k) = 0
        unfold q_del
        rw [if_neg (show ¬ k = 0 by omega), if_neg (show ¬ k - gap = 0 by omega)]
        by_cases q : gap ≤ k
        · rw [if_pos q]; rfl
        · rw [if_neg q]
      · have q1' : n + 1 - deep ≤ j := q1
        omega
      · exact if_neg (by omega)
      · show q_ds s q_del n (0 + 1) % 2 = 1
        rw [q_ds_del]
        exact hd1
      · show q_ds s q_del j (0 + 1) % 2 = 0
        have := h5 j (by omega) q2
        rw [q_ds_del] at this ⊢
        exact this
    · have hgen : ∀ D' : Nat, deep ≤ D' → gap + LB ≤ D' → ∀ j, D' ≤ j → j < n + 1 → q_ds s (q_mix C B gap) j (D' + 1) % 2 = 0 := by
        intro D' q1 q2 j q3 q4
        rw [q_ds_mix hs, q_ds_ext q1 h3, show D' + 1 - gap = (D' - gap) + 1 by omega, q_ds_ext (D := LB) (D' := D' - gap) (by omega) g4]
        by_cases e : j = n
        · rw [e, show n - gap = m by omega]
          omega
        · have r1 := h5 j (by omega) (by omega)
          have r2 := g6 (j - gap) (by omega) (by omega)
          omega
      have hdeg : ∀ D' : Nat, deep ≤ D' → gap + LB ≤ D' → ∀ k, D' < k → q_mix C B gap k = 0 := by
        intro D' q1 q2 k hk
        unfold q_mix
        rw [if_pos (by omega), h3 k (by omega), g4 (k - gap) (by omega)]
        rfl
      by_cases hg : n < 2 * deep
      · rw [if_pos hg]
        refine ⟨fun k => q_mix_b h1 k, h2, fun k hk => hdeg deep (Nat.le_refl _) (by omega) k hk, by show deep ≤ n + 1 ∧ deep ≤ L ∧ 1 ≤ gap + 1 ∧ gap + 1 ≤ n + 1 + 1; omega, fun j q1 q2 => hgen deep (Nat.le_refl _) (by omega) j q1 q2, Or.inr ⟨m, LB, by show m + (gap + 1) = n + 1; omega, g2, g3, g4, g5, g6⟩⟩
      · rw [if_neg hg]
        refine ⟨fun k => q_mix_b h1 k, h1, fun k hk => hdeg (n + 1 - deep) (by omega) (by omega) k hk, by show n + 1 - deep ≤ n + 1 ∧ n + 1 - deep ≤ L ∧ 1 ≤ 1 ∧ 1 ≤ n + 1 + 1; omega, fun j q1 q2 => hgen (n + 1 - deep) (by omega) (by omega) j q1 q2, Or.inr ⟨n, deep, rfl, by omega, by show n + 1 - deep + deep = n + 1; omega, h3, hd1, h5⟩⟩
theorem q_bm_i {s : Nat → Int} {L : Nat} (hs : ∀ i, s i = 0 ∨ s i = 1) (hp : ∀ i, s (i + L) = s i) (hL : 1 ≤ L) (n : Nat) : q_bi s L n (q_bm s n) := by
  have hd : ∀ k, q_del k = 0 ∨ q_del k = 1 := fun k => by
    unfold q_del
    by_cases h : k = 0
    · rw [if_pos h]; exact Or.inr rfl
    · rw [if_neg h]; exact Or.inl rfl
  induction n with
  | zero => exact ⟨hd, hd, fun k hk => if_neg (by have : 0 < k := hk; omega), ⟨Nat.le_refl 0, Nat.zero_le L, Nat.le_refl 1, Nat.le_refl 1⟩, fun j _ h => absurd h (by omega), Or.inl ⟨rfl, rfl, rfl, rfl⟩⟩
  | succ n ih => exact q_bi_s hs hp hL ih
