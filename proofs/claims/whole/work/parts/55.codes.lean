/-! level two: what a code is by itself, in the class -/
def q_top (f : Nat → Int) : Nat → Int
  | 0 => 0
  | n + 1 => if q_top f n < f n then f n else q_top f n
def q_find (p : Nat → Prop) [DecidablePred p] : Nat → Nat → Nat
  | 0, i => i
  | c + 1, i => if p i then i else q_find p c (i + 1)
theorem q_alk_b {L : Nat} {f g : Nat → Int} {s : Nat} (hL : 1 ≤ L ∧ L ≤ 127) (hf : ∀ i, i < L → f i = 1 ∨ f i = -1) (hg : ∀ i, i < L → g i = 1 ∨ g i = -1) : -127 ≤ q_alk L f g s ∧ q_alk L f g s ≤ 127 := by
  have h := q_sum_abs (f := fun i => f i * g ((i + s) % L)) (B := 1) L (fun i hi => by
    have h2 := Nat.mod_lt (i + s) (show 0 < L by omega)
    rcases hf i hi with e | e <;> rcases hg _ h2 with e2 | e2 <;> simp only [e, e2] <;> decide)
  unfold q_alk
  omega
theorem c_minuses {al : q_Al} {dt : q_Dt} {c L : Nat} {f : Nat → Int} (h : q_Code al dt c L f) : X0_minuses al dt c = some (wI (q_sum (fun i => if f i < 0 then 1 else 0) L)) := by
  have hL := h.2.2.1
  have hl : ∀ n i k, i + n = L → n < k → X0_minuses_b4 al dt c k (wI (q_sum (fun i => if f i < 0 then 1 else 0) i)) (wI i) = some (wI (q_sum (fun i => if f i < 0 then 1 else 0) L)) := by
    intro n
    induction n with
    | zero =>
      intro i k h1 h2
      obtain ⟨k, rfl⟩ : ∃ m, k = m + 1 := ⟨k - 1, by omega⟩
      have e : i = L := by omega
      simp (disch := omega) only [X0_minuses_b4, h.2.1, wI_le]
      rw [if_pos (by omega), e]
    | succ n ih =>
      intro i k h1 h2
      obtain ⟨k, rfl⟩ : ∃ m, k = m + 1 := ⟨k - 1, by omega⟩
      have hih := ih (i + 1) k (by omega) (by omega)
      have e5 : q_sum (fun i => if f i < 0 then 1 else 0) (i + 1) = q_sum (fun i => if f i < 0 then 1 else 0) i + (if f i < 0 then 1 else 0) := rfl
      rw [e5] at hih
      have hb := h.2.2.2.2 i (by omega)
      simp (disch := omega) only [X0_minuses_b4, h.2.1, wI_le, c_chip h (show i < L by omega), q_b1, wI_lit, X0_minuses_b26, wI_add]
      rw [if_neg (by omega)]
      by_cases hw : f i < 0
      · rw [if_neg (by omega)]
        rw [if_pos hw] at hih
        exact hih
      · rw [if_pos (by omega)]
        rw [if_neg hw] at hih
        exact hih
  exact hl L 0 q_FU (by omega) (by unfold q_FU; omega)
