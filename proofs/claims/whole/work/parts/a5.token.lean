/-! level two: the tokens of a text -/
def qk_cl (c : Int) : Nat := if 97 ≤ c ∧ c ≤ 122 then 1 else if 48 ≤ c ∧ c ≤ 57 then 2 else 0
def qk_bl (B : Nat → Int) (L : Nat) : Nat → Nat → Nat
  | 0, i => i
  | n + 1, i => if i < L ∧ (B i = 9 ∨ B i = 10 ∨ B i = 13 ∨ B i = 32) then qk_bl B L n (i + 1) else i
def qk_rn (B : Nat → Int) (L q : Nat) : Nat → Nat → Nat
  | 0, i => i
  | n + 1, i => if i < L ∧ qk_cl (B i) = q then qk_rn B L q n (i + 1) else i
def qk_en (B : Nat → Int) (L s : Nat) : Nat := if L ≤ s then L else if qk_cl (B s) = 0 then s + 1 else qk_rn B L (qk_cl (B s)) L (s + 1)
def qk_ps (B : Nat → Int) (L : Nat) : Nat → Nat
  | 0 => 0
  | n + 1 => qk_en B L (qk_bl B L L (qk_ps B L n))
def qk_st (B : Nat → Int) (L n : Nat) : Nat := qk_bl B L L (qk_ps B L n)
def qk_gv (B : Nat → Int) (s : Nat) : Nat → Int
  | 0 => 0
  | n + 1 => if qk_cl (B (s + n)) = 2 then 10 * qk_gv B s n + (B (s + n) - 48) else 27 * qk_gv B s n + (B (s + n) - 96)
def qk_wf (v : Int) : Nat → Nat → Nat
  | 0, i => i
  | n + 1, i => if q_key i = v then i else qk_wf v n (i + 1)
def qk_wd (v : Int) : Nat := qk_wf v 11 0
def qk_k (B : Nat → Int) (L s : Nat) : Nat := if L ≤ s then 0 else if qk_cl (B s) = 1 then (if 8 < qk_en B L s - s then 1 else if qk_wd (qk_gv B s (qk_en B L s - s)) = 11 then 2 else 6) else if qk_cl (B s) = 2 then (if 4 < qk_en B L s - s then 1 else 3) else if B s = 59 then 4 else if B s = 45 then 5 else 1
def qk_v (B : Nat → Int) (L s : Nat) : Int := if qk_k B L s = 6 then (qk_wd (qk_gv B s (qk_en B L s - s)) : Int) else qk_gv B s (qk_en B L s - s)
theorem qe01 : ((0 : Nat) = 1) = False := by simp
theorem qe02 : ((0 : Nat) = 2) = False := by simp
theorem qe12 : ((1 : Nat) = 2) = False := by simp
theorem qe21 : ((2 : Nat) = 1) = False := by simp
theorem qe10 : ((1 : Nat) = 0) = False := by simp
theorem qe20 : ((2 : Nat) = 0) = False := by simp
theorem qk_cl_3 (c : Int) : qk_cl c = 0 ∨ qk_cl c = 1 ∨ qk_cl c = 2 := by
  unfold qk_cl
  by_cases h1 : 97 ≤ c ∧ c ≤ 122
  · rw [if_pos h1]; omega
  · rw [if_neg h1]
    by_cases h2 : 48 ≤ c ∧ c ≤ 57
    · rw [if_pos h2]; omega
    · rw [if_neg h2]; omega
theorem qk_cl_1 (c : Int) : qk_cl c = 1 ↔ 97 ≤ c ∧ c ≤ 122 := by
  unfold qk_cl
  by_cases h1 : 97 ≤ c ∧ c ≤ 122
  · rw [if_pos h1]; simp [h1]
  · rw [if_neg h1]
    by_cases h2 : 48 ≤ c ∧ c ≤ 57
    · rw [if_pos h2]; constructor
      · intro h; omega
      · intro h; exact absurd h h1
    · rw [if_neg h2]; constructor
      · intro h; omega
      · intro h; exact absurd h h1
theorem qk_cl_2 (c : Int) : qk_cl c = 2 ↔ 48 ≤ c ∧ c ≤ 57 := by
  unfold qk_cl
  by_cases h1 : 97 ≤ c ∧ c ≤ 122
  · rw [if_pos h1]; constructor
    · intro h; omega
    · intro h; omega
  · rw [if_neg h1]
    by_cases h2 : 48 ≤ c ∧ c ≤ 57
    · rw [if_pos h2]; simp [h2]
    · rw [if_neg h2]; constructor
      · intro h; omega
      · intro h; exact absurd h h2
theorem qk_bl_b (B : Nat → Int) (L : Nat) : ∀ n i, i ≤ L → i ≤ qk_bl B L n i ∧ qk_bl B L n i ≤ L := by
  intro n
  induction n with
  | zero => intro i hi; exact ⟨Nat.le_refl _, hi⟩
  | succ n ih =>
    intro i hi
    show i ≤ (if i < L ∧ (B i = 9 ∨ B i = 10 ∨ B i = 13 ∨ B i = 32) then qk_bl B L n (i + 1) else i) ∧ (if i < L ∧ (B i = 9 ∨ B i = 10 ∨ B i = 13 ∨ B i = 32) then qk_bl B L n (i + 1) else i) ≤ L
    by_cases h : i < L ∧ (B i = 9 ∨ B i = 10 ∨ B i = 13 ∨ B i = 32)
    · rw [if_pos h]
      have := ih (i + 1) (by omega)
      omega
    · rw [if_neg h]; omega
theorem qk_rn_b (B : Nat → Int) (L q : Nat) : ∀ n i, i ≤ L → i ≤ qk_rn B L q n i ∧ qk_rn B L q n i ≤ L ∧ (∀ j, i ≤ j → j < qk_rn B L q n i → qk_cl (B j) = q) ∧ (L ≤ i + n → qk_rn B L q n i < L → qk_cl (B (qk_rn B L q n i)) ≠ q) := by
  intro n
  induction n with
  | zero =>
    intro i hi
    have e : qk_rn B L q 0 i = i := rfl
    rw [e]
    exact ⟨Nat.le_refl _, hi, fun j h1 h2 => absurd h2 (by omega), fun h1 h2 => absurd h2 (by omega)⟩
  | succ n ih =>
    intro i hi
    by_cases h : i < L ∧ qk_cl (B i) = q
    · have e : qk_rn B L q (n + 1) i = qk_rn B L q n (i + 1) := if_pos h
      have h2 := ih (i + 1) (by omega)
      rw [e]
      refine ⟨by omega, h2.2.1, fun j h3 h4 => ?_, fun h3 h4 => h2.2.2.2 (by omega) h4⟩
      by_cases h5 : j = i
      · rw [h5]; exact h.2
      · exact h2.2.2.1 j (by omega) h4
    · have e : qk_rn B L q (n + 1) i = i := if_neg h
      rw [e]
      exact ⟨Nat.le_refl _, hi, fun j h1 h2 => absurd h2 (by omega), fun h1 h2 h3 => h ⟨h2, h3⟩⟩
theorem qk_en_b {B : Nat → Int} {L s : Nat} (h : s < L) : s < qk_en B L s ∧ qk_en B L s ≤ L ∧ (∀ j, s ≤ j → j < qk_en B L s → qk_cl (B j) = qk_cl (B s)) ∧ (qk_cl (B s) ≠ 0 → qk_en B L s < L → qk_cl (B (qk_en B L s)) ≠ qk_cl (B s)) := by
  unfold qk_en
  rw [if_neg (by omega)]
  by_cases h1 : qk_cl (B s) = 0
  · rw [if_pos h1]
    exact ⟨by omega, by omega, fun j h2 h3 => by rw [show j = s by omega], fun h2 => absurd h1 h2⟩
  · rw [if_neg h1]
    have h2 := qk_rn_b B L (qk_cl (B s)) L (s + 1) (by omega)
    refine ⟨by omega, h2.2.1, fun j h3 h4 => ?_, fun _ h4 => h2.2.2.2 (by omega) h4⟩
    by_cases h5 : j = s
    · rw [h5]
    · exact h2.2.2.1 j (by omega) h4
theorem qk_ps_b (B : Nat → Int) (L n : Nat) : qk_ps B L n ≤ L := by
  induction n with
  | zero => exact Nat.zero_le _
  | succ n ih =>
    have h := qk_bl_b B L L (qk_ps B L n) ih
    show qk_en B L (qk_bl B L L (qk_ps B L n)) ≤ L
    by_cases h1 : qk_bl B L L (qk_ps B L n) < L
    · exact (qk_en_b h1).2.1
    · unfold qk_en
      rw [if_pos (by omega)]
      exact Nat.le_refl _
theorem qk_st_b (B : Nat → Int) (L n : Nat) : qk_ps B L n ≤ qk_st B L n ∧ qk_st B L n ≤ L := qk_bl_b B L L _ (qk_ps_b B L n)
theorem qk_gv_b {B : Nat → Int} {s q : Nat} (hq : q = 1 ∨ q = 2) : ∀ n, (∀ j, j < n → qk_cl (B (s + j)) = q) → 0 ≤ qk_gv B s n ∧ (q = 2 → qk_gv B s n < (10 ^ n : Nat)) ∧ (q = 1 → qk_gv B s n < (27 ^ n : Nat)) := by
  intro n
  induction n with
  | zero => intro _; exact ⟨Int.le_refl _, fun _ => (by decide : (0 : Int) < ((10 ^ 0 : Nat) : Int)), fun _ => (by decide : (0 : Int) < ((27 ^ 0 : Nat) : Int))⟩
  | succ n ih =>
    intro h
    have h1 := ih (fun j hj => h j (by omega))
    have h2 := h n (by omega)
    rcases hq with rfl | rfl
    · have e : qk_gv B s (n + 1) = 27 * qk_gv B s n + (B (s + n) - 96) := if_neg (by omega)
      have h3 := (qk_cl_1 _).mp h2
      have h4 := h1.2.2 rfl
      rw [e]
      refine ⟨by omega, fun h => absurd h (by omega), fun _ => ?_⟩
      rw [Nat.pow_succ]
      omega
    · have e : qk_gv B s (n + 1) = 10 * qk_gv B s n + (B (s + n) - 48) := if_pos h2
      have h3 := (qk_cl_2 _).mp h2
      have h4 := h1.2.1 rfl
      rw [e]
      refine ⟨by omega, fun _ => ?_, fun h => absurd h (by omega)⟩
      rw [Nat.pow_succ]
      omega
theorem qk_gv_8 {B : Nat → Int} {s n : Nat} (h : ∀ j, j < n → qk_cl (B (s + j)) = 1) (hn : n ≤ 8) : 0 ≤ qk_gv B s n ∧ qk_gv B s n < 282429536481 := by
  have h1 := qk_gv_b (B := B) (s := s) (q := 1) (Or.inl rfl) n h
  have h2 : (27 : Nat) ^ n ≤ 27 ^ 8 := Nat.pow_le_pow_right (by omega) hn
  have h3 := h1.2.2 rfl
  exact ⟨h1.1, by omega⟩
theorem qk_gv_4 {B : Nat → Int} {s n : Nat} (h : ∀ j, j < n → qk_cl (B (s + j)) = 2) (hn : n ≤ 4) : 0 ≤ qk_gv B s n ∧ qk_gv B s n ≤ 9999 := by
  have h1 := qk_gv_b (B := B) (s := s) (q := 2) (Or.inr rfl) n h
  have h2 : (10 : Nat) ^ n ≤ 10 ^ 4 := Nat.pow_le_pow_right (by omega) hn
  have h3 := h1.2.1 rfl
  exact ⟨h1.1, by omega⟩
theorem qk_key_b {i : Nat} (h : i < 11) : 0 ≤ q_key i ∧ q_key i < 10460353203 := by
  have e : ∀ i, i < 11 → 0 ≤ q_key i ∧ q_key i < 10460353203 := by decide +kernel
  exact e i h
theorem qk_key_u {i j : Nat} (h : i < 11) (h2 : j < 11) (h3 : q_key i = q_key j) : i = j := by
  have e : ∀ i, i < 11 → ∀ j, j < 11 → q_key i = q_key j → i = j := by decide +kernel
  exact e i h j h2 h3
theorem qk_wf_b (v : Int) : ∀ n i, i ≤ qk_wf v n i ∧ qk_wf v n i ≤ i + n ∧ (qk_wf v n i < i + n → q_key (qk_wf v n i) = v) ∧ (∀ j, i ≤ j → j < qk_wf v n i → q_key j ≠ v) := by
  intro n
  induction n with
  | zero =>
    intro i
    have e : qk_wf v 0 i = i := rfl
    rw [e]
    exact ⟨by omega, by omega, fun h => absurd h (by omega), fun j h1 h2 => absurd h2 (by omega)⟩
  | succ n ih =>
    intro i
    by_cases h : q_key i = v
    · have e : qk_wf v (n + 1) i = i := if_pos h
      rw [e]
      exact ⟨by omega, by omega, fun _ => h, fun j h1 h2 => absurd h2 (by omega)⟩
    · have e : qk_wf v (n + 1) i = qk_wf v n (i + 1) := if_neg h
      have h2 := ih (i + 1)
      rw [e]
      refine ⟨by omega, by omega, fun h3 => h2.2.2.1 (by omega), fun j h3 h4 => ?_⟩
      by_cases h5 : j = i
      · rw [h5]; exact h
      · exact h2.2.2.2 j (by omega) h4
theorem qk_wd_b (v : Int) : qk_wd v ≤ 11 := by
  have := (qk_wf_b v 11 0).2.1
  exact this
/-- what cuts a text: its tokens, N of them -/
def qk_N (K : Nat → Nat) : Nat → Nat → Nat
  | 0, i => i
  | n + 1, i => if K i ≤ 1 then i else qk_N K n (i + 1)
theorem qk_N_b (K : Nat → Nat) : ∀ n i, i ≤ qk_N K n i ∧ qk_N K n i ≤ i + n ∧ (∀ m, i ≤ m → m < qk_N K n i → 2 ≤ K m) ∧ (qk_N K n i < i + n → K (qk_N K n i) ≤ 1) := by
  intro n
  induction n with
  | zero =>
    intro i
    have e : qk_N K 0 i = i := rfl
    rw [e]
    exact ⟨by omega, by omega, fun m h1 h2 => absurd h2 (by omega), fun h => absurd h (by omega)⟩
  | succ n ih =>
    intro i
    by_cases h : K i ≤ 1
    · have e : qk_N K (n + 1) i = i := if_pos h
      rw [e]
      exact ⟨by omega, by omega, fun m h1 h2 => absurd h2 (by omega), fun _ => h⟩
    · have e : qk_N K (n + 1) i = qk_N K n (i + 1) := if_neg h
      have h2 := ih (i + 1)
      rw [e]
      refine ⟨by omega, by omega, fun m h3 h4 => ?_, fun h3 => h2.2.2.2 (by omega)⟩
      by_cases h5 : m = i
      · rw [h5]; omega
      · exact h2.2.2.1 m (by omega) h4
def qk_tok (K P : Nat → Nat) (V : Nat → Int) (N : Nat) : Prop := N ≤ 400 ∧ (∀ m, m < N → 2 ≤ K m) ∧ (N < 400 → K N ≤ 1) ∧ (∀ m, K m ≤ 6 ∧ P m ≤ 2000) ∧ (∀ m, m < N → P m < P (m + 1)) ∧ ∀ m, (K m = 3 → 0 ≤ V m ∧ V m ≤ 9999) ∧ (K m = 6 → 0 ≤ V m ∧ V m ≤ 10) ∧ (K m = 2 → 0 ≤ V m ∧ V m < 282429536481)
theorem qk_k_b (B : Nat → Int) (L s : Nat) : qk_k B L s ≤ 6 := by
  unfold qk_k
  repeat' split
  all_goals omega
theorem qk_k_lt {B : Nat → Int} {L s : Nat} (h : qk_k B L s ≠ 0) : s < L := by
  by_cases h1 : L ≤ s
  · exact absurd (if_pos h1) h
  · omega
theorem qk_k_6 {B : Nat → Int} {L s : Nat} (h : qk_k B L s = 6 ∨ qk_k B L s = 2) : s < L ∧ qk_cl (B s) = 1 ∧ qk_en B L s - s ≤ 8 ∧ (qk_k B L s = 6 → qk_wd (qk_gv B s (qk_en B L s - s)) ≠ 11) ∧ (qk_k B L s = 2 → qk_wd (qk_gv B s (qk_en B L s - s)) = 11) := by
  have h1 : s < L := qk_k_lt (B := B) (by omega)
  unfold qk_k at h ⊢
  rw [if_neg (show ¬ L ≤ s by omega)] at h ⊢
  by_cases h2 : qk_cl (B s) = 1
  · rw [if_pos h2] at h ⊢
    by_cases h3 : 8 < qk_en B L s - s
    · rw [if_pos h3] at h; omega
    · rw [if_neg h3] at h ⊢
      by_cases h4 : qk_wd (qk_gv B s (qk_en B L s - s)) = 11
      · rw [if_pos h4]
        exact ⟨h1, h2, by omega, fun h => absurd h (by omega), fun _ => h4⟩
      · rw [if_neg h4]
        exact ⟨h1, h2, by omega, fun _ => h4, fun h => absurd h (by omega)⟩
  · rw [if_neg h2] at h
    exfalso
    revert h
    repeat' split
    all_goals omega
theorem qk_k_3 {B : Nat → Int} {L s : Nat} (h : qk_k B L s = 3) : s < L ∧ qk_cl (B s) = 2 ∧ qk_en B L s - s ≤ 4 := by
  have h1 : s < L := qk_k_lt (B := B) (by omega)
  unfold qk_k at h
  rw [if_neg (show ¬ L ≤ s by omega)] at h
  by_cases h2 : qk_cl (B s) = 1
  · rw [if_pos h2] at h
    exfalso
    revert h
    repeat' split
    all_goals omega
  · rw [if_neg h2] at h
    by_cases h3 : qk_cl (B s) = 2
    · rw [if_pos h3] at h
      by_cases h4 : 4 < qk_en B L s - s
      · rw [if_pos h4] at h; omega
      · exact ⟨h1, h3, by omega⟩
    · rw [if_neg h3] at h
      exfalso
      revert h
      repeat' split
      all_goals omega
theorem qk_run {B : Nat → Int} {L s : Nat} (h : s < L) : ∀ j, j < qk_en B L s - s → qk_cl (B (s + j)) = qk_cl (B s) := fun j hj => (qk_en_b h).2.2.1 (s + j) (by omega) (by omega)
theorem qk_tok_i (B : Nat → Int) {L : Nat} (hL : L ≤ 2000) : qk_tok (fun n => qk_k B L (qk_st B L n)) (qk_st B L) (fun n => qk_v B L (qk_st B L n)) (qk_N (fun n => qk_k B L (qk_st B L n)) 400 0) := by
  have h1 := qk_N_b (fun n => qk_k B L (qk_st B L n)) 400 0
  refine ⟨by omega, fun m hm => h1.2.2.1 m (by omega) hm, fun h => h1.2.2.2 (by omega), fun m => ⟨qk_k_b _ _ _, ?_⟩, fun m hm => ?_, fun m => ⟨fun h => ?_, fun h => ?_, fun h => ?_⟩⟩
  · have := qk_st_b B L m
    omega
  · have h2 := h1.2.2.1 m (by omega) hm
    have h3 : qk_st B L m < L := qk_k_lt (B := B) (by show qk_k B L (qk_st B L m) ≠ 0; have h4 : 2 ≤ qk_k B L (qk_st B L m) := h2; omega)
    have h4 := qk_en_b (B := B) h3
    have h5 := qk_st_b B L (m + 1)
    have h6 : qk_ps B L (m + 1) = qk_en B L (qk_st B L m) := rfl
    omega
  · have h2 : qk_k B L (qk_st B L m) = 3 := h
    obtain ⟨g1, g2, g3⟩ := qk_k_3 h2
    have g4 := qk_gv_4 (fun j hj => (qk_run g1 j hj).trans g2) g3
    show 0 ≤ qk_v B L (qk_st B L m) ∧ qk_v B L (qk_st B L m) ≤ 9999
    unfold qk_v
    rw [if_neg (by omega)]
    exact g4
  · have h2 : qk_k B L (qk_st B L m) = 6 := h
    obtain ⟨g1, g2, g3, g4, -⟩ := qk_k_6 (Or.inl h2)
    have g5 := g4 h2
    have g6 := qk_wd_b (qk_gv B (qk_st B L m) (qk_en B L (qk_st B L m) - qk_st B L m))
    show 0 ≤ qk_v B L (qk_st B L m) ∧ qk_v B L (qk_st B L m) ≤ 10
    unfold qk_v
    rw [if_pos h2]
    omega
  · have h2 : qk_k B L (qk_st B L m) = 2 := h
    obtain ⟨g1, g2, g3, -⟩ := qk_k_6 (Or.inr h2)
    have g4 := qk_gv_8 (fun j hj => (qk_run g1 j hj).trans g2) g3
    show 0 ≤ qk_v B L (qk_st B L m) ∧ qk_v B L (qk_st B L m) < 282429536481
    unfold qk_v
    rw [if_neg (by omega)]
    exact g4
