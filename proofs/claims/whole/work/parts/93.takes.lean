/-! level two: taken, rest -/
def q_ntb (T : q_Tl) (g : Nat → Nat → Int) (s : Nat) : Nat → Bool := fun p => decide (q_rs T g s p < 0)
def q_tko (T : q_Tl) (g : Nat → Nat → Int) : Nat → (Nat → Nat → Int) × Int
  | 0 => (g, 0)
  | r + 1 => (q_wv T (q_byA T (r : Nat)).toNat (q_ntb T (q_tko T g r).1 (q_byA T (r : Nat)).toNat) (-1) (q_tko T g r).1 (TN T), (q_tko T g r).2 + q_wr T (q_byA T (r : Nat)).toNat (q_rs T (q_tko T g r).1 (q_byA T (r : Nat)).toNat) (q_np T (q_byA T (r : Nat)).toNat))
theorem q_tko_s {T : q_Tl} {g : Nat → Nat → Int} {r s : Nat} (h : q_byA T (r : Nat) = (s : Nat)) : q_tko T g (r + 1) = (q_wv T s (q_ntb T (q_tko T g r).1 s) (-1) (q_tko T g r).1 (TN T), (q_tko T g r).2 + q_wr T s (q_rs T (q_tko T g r).1 s) (q_np T s)) := by
  have e : (q_byA T (r : Nat)).toNat = s := by
    rw [h]
    exact Int.toNat_natCast s
  have e2 : q_tko T g (r + 1) = (q_wv T (q_byA T (r : Nat)).toNat (q_ntb T (q_tko T g r).1 (q_byA T (r : Nat)).toNat) (-1) (q_tko T g r).1 (TN T), (q_tko T g r).2 + q_wr T (q_byA T (r : Nat)).toNat (q_rs T (q_tko T g r).1 (q_byA T (r : Nat)).toNat) (q_np T (q_byA T (r : Nat)).toNat)) := rfl
  rw [e2, e]
theorem q_wr_b (T : q_Tl) (s : Nat) (rs : Nat → Int) (n : Nat) : 0 ≤ q_wr T s rs n ∧ q_wr T s rs n ≤ n := q_sum01 n (fun p _ => by
  by_cases h : q_sgb1 (rs p) = q_bit T s (p : Int)
  · simp only [if_pos h]; omega
  · simp only [if_neg h]; omega)
theorem q_tko_b {T : q_Tl} {g : Nat → Nat → Int} (hw : q_wf T) (hb : ∀ a i, -3300000 ≤ g a i ∧ g a i ≤ 3300000) (hz : ∀ a i, TN T ≤ i → g a i = 0) : ∀ r : Nat, r ≤ Tns T → ((∀ a i, -(3300000 + 693 * (r : Int)) ≤ (q_tko T g r).1 a i ∧ (q_tko T g r).1 a i ≤ 3300000 + 693 * (r : Int)) ∧ ∀ a i, TN T ≤ i → (q_tko T g r).1 a i = 0) ∧ 0 ≤ (q_tko T g r).2 ∧ (q_tko T g r).2 ≤ 512 * (r : Int) := by
  intro r
  induction r with
  | zero =>
    intro _
    refine ⟨⟨fun a i => ?_, hz⟩, Int.le_refl 0, Int.le_refl 0⟩
    have := hb a i
    show -(3300000 + 693 * ((0 : Nat) : Int)) ≤ g a i ∧ g a i ≤ 3300000 + 693 * ((0 : Nat) : Int)
    omega
  | succ r ih =>
    intro hr
    obtain ⟨⟨h1, h2⟩, h3, h4⟩ := ih (by omega)
    obtain ⟨s, hs, hA⟩ := q_byA_in (T := T) (r := r) (by omega)
    have hnp := (q_np_e hw hs).2
    have hwr := q_wr_b T s (q_rs T (q_tko T g r).1 s) (q_np T s)
    rw [q_tko_s hA]
    refine ⟨⟨fun a i => ?_, fun a i hi => ?_⟩, ?_, ?_⟩
    · have g1 := q_wv_b hw (a := a) (j := i) (n := TN T) (tb := q_ntb T (q_tko T g r).1 s) (f := -1) (g := (q_tko T g r).1) hs (B := 1) (by omega) (by omega)
      have g2 := h1 a i
      show -(3300000 + 693 * ((r + 1 : Nat) : Int)) ≤ q_wv T s (q_ntb T (q_tko T g r).1 s) (-1) (q_tko T g r).1 (TN T) a i ∧ q_wv T s (q_ntb T (q_tko T g r).1 s) (-1) (q_tko T g r).1 (TN T) a i ≤ 3300000 + 693 * ((r + 1 : Nat) : Int)
      omega
    · show q_wv T s (q_ntb T (q_tko T g r).1 s) (-1) (q_tko T g r).1 (TN T) a i = 0
      rw [q_wv_z (Nat.le_refl _) hi]
      exact h2 a i hi
    · show 0 ≤ (q_tko T g r).2 + q_wr T s (q_rs T (q_tko T g r).1 s) (q_np T s)
      omega
    · show (q_tko T g r).2 + q_wr T s (q_rs T (q_tko T g r).1 s) (q_np T s) ≤ 512 * ((r + 1 : Nat) : Int)
      omega
theorem q_sum_z (n : Nat) : q_sum (fun _ => (0 : Int)) n = 0 := by
  induction n with
  | zero => rfl
  | succ n ih =>
    rw [q_sum_s, ih]
    rfl
theorem q_per_np {T : q_Tl} (hw : q_wf T) {s : Nat} (hs : s < Tns T) (n : Nat) : ∀ i, i < n → q_per T s i ≤ q_pla T s n := by
  induction n with
  | zero => intro i hi; omega
  | succ n ih =>
    intro i hi
    show q_per T s i ≤ q_per T s n
    by_cases e : i = n
    · rw [e]; exact Int.le_refl _
    · have h1 := ih i (by omega)
      have h2 := q_pla_s hw hs n
      omega
theorem q_rsv_z {T : q_Tl} (hw : q_wf T) {s p : Nat} {vv : Nat → Int} (hs : s < Tns T) (h : q_np T s ≤ p) : q_rsv T s vv (TN T) p = 0 := by
  have h1 := (q_np_e hw hs).1
  unfold q_rsv
  rw [q_sum_congr (g := fun _ => 0) (TN T) (fun i hi => by
    have := q_per_np hw hs (TN T) i hi
    exact if_neg (by omega)), q_sum_z]
theorem q_rs_z {T : q_Tl} (hw : q_wf T) {s p : Nat} {g : Nat → Nat → Int} (hs : s < Tns T) (h : q_np T s ≤ p) : q_rs T g s p = 0 := q_rsv_z hw hs h
/-- the check's cells outside work, laid, readBits, readSum, hasSample -/
def q_fk (b : Nat) (dt d : q_Dt) : Prop := (∀ x, x < b + 37 ∨ x = b + 39 ∨ (b + 41 ≤ x ∧ x ≠ b + 48) → d.1 x = dt.1 x) ∧ (∀ x, x ≠ b + 47 → d.2.1 x = dt.2.1 x) ∧ d.2.2 = dt.2.2
theorem q_fk_r {b : Nat} {dt : q_Dt} : q_fk b dt dt := ⟨fun _ _ => rfl, fun _ _ => rfl, rfl⟩
theorem q_fk_t {b : Nat} {dt d e : q_Dt} (h : q_fk b dt d) (h' : q_fk b d e) : q_fk b dt e := ⟨fun x hx => (h'.1 x hx).trans (h.1 x hx), fun x hx => (h'.2.1 x hx).trans (h.2.1 x hx), h'.2.2.trans h.2.2⟩
theorem q_fk_s {b : Nat} {dt d : q_Dt} (h : q_fs b dt d) : q_fk b dt d := ⟨fun x hx => h.1 x (by omega), fun x hx => h.2.1 x hx, h.2.2⟩
theorem q_fk_x {b x : Nat} {dt d : q_Dt} (h : q_fx x dt d) (hx : x = b + 37 ∨ x = b + 38 ∨ x = b + 40) : q_fk b dt d := ⟨fun y hy => h.1 y (by omega), fun y _ => by rw [h.2], by rw [h.2]⟩
theorem q_fk_w {b x off n : Nat} {dt : q_Dt} {f : Nat → Int32} (hx : x = b + 37 ∨ x = b + 38 ∨ x = b + 40) : q_fk b dt (q_irow dt x off n f) := ⟨fun y hy => q_irow_o (by omega), fun _ _ => rfl, rfl⟩
theorem q_fk_e2 {b : Nat} {dt d : q_Dt} (h : q_fk b dt d) : q_e2 b dt d := ⟨fun x h1 h2 h3 h4 => h.1 x (by omega), fun j _ => congrFun (h.1 b (by omega)) j, fun x hx => h.2.1 x (by omega)⟩
theorem M_fw {b sd : Nat} {dt d : q_Dt} {T : q_Tl} (h : q_M b sd dt T) (hf : q_fk b dt d) : q_M b sd d T := M_e2 h (q_fk_e2 hf)
theorem q_now_w {x y off n : Nat} {d : q_Dt} {g : Nat → Nat → Int} {f : Nat → Int32} (h : q_now x d g) (hxy : x ≠ y) : q_now x (q_irow d y off n f) g := by
  unfold q_now
  rw [q_irow_o hxy]
  exact h
/-- the bits laid, as the row holds them -/
def q_lb (T : q_Tl) (s : Nat) (rs : Nat → Int) (p : Nat) : Int32 := wI (if p < q_np T s then q_sgb1 (rs p) else 0 : Nat)
theorem q_lb_e {T : q_Tl} {s p : Nat} {rs : Nat → Int} (hz : q_np T s ≤ p → rs p = 0) : q_lb T s rs p = wI (if decide (rs p < 0) = true then 1 else 0) := by
  unfold q_lb q_sgb1
  by_cases h : p < q_np T s
  · rw [if_pos h]
    by_cases h2 : rs p < 0
    · rw [if_pos h2, if_pos (decide_eq_true h2)]
      rfl
    · rw [if_neg h2, if_neg (by rw [decide_eq_false h2]; exact Bool.false_ne_true)]
      rfl
  · rw [if_neg h, hz (by omega), if_neg (by decide)]
    rfl
theorem q_by1 {n : Nat} (h : n < 2) : Int8.toInt32 (Int32.toInt8 (Int8.toInt32 (Int32.toInt8 (wI n)))) = wI n := by
  rcases (show n = 0 ∨ n = 1 by omega) with rfl | rfl <;> rfl
theorem M_tcopy {b : Nat} {dt : q_Dt} {x1 : Int32} : X12_takesOut_b2 (A2 b) b x1 q_FU 0 dt = X12_takesOut_b31 (A2 b) b x1 q_FU 0 0 (q_irow dt (b + 40) 0 1024 (dt.1 (b + 39))) := by
  have hl : ∀ n i k : Nat, i + n = 1024 → n < k → X12_takesOut_b2 (A2 b) b x1 k (wI i) (q_irow dt (b + 40) 0 i (dt.1 (b + 39))) = X12_takesOut_b31 (A2 b) b x1 q_FU 0 0 (q_irow dt (b + 40) 0 1024 (dt.1 (b + 39))) := by
    intro n
    induction n with
    | zero =>
      intro i k z1 z2 
      obtain ⟨k, rfl⟩ : ∃ m, k = m + 1 := ⟨k - 1, by omega⟩
      have e : i = 1024 := by omega
      rw [X12_takesOut_b2.eq_2, show (1024 : Int32) = wI (1024 : Nat) from rfl, e]
      simp only [q_leT (Nat.le_refl 1024) (show 1024 < 2147483648 by omega), ↓reduceIte]
    | succ n ih =>
      intro i k z1 z2 
      obtain ⟨k, rfl⟩ : ∃ m, k = m + 1 := ⟨k - 1, by omega⟩
      have hi : i < 1024 := by omega
      have hih := ih (i + 1) k (by omega) (by omega)
      have es := q_irow_s dt (b + 40) 0 i (dt.1 (b + 39))
      rw [Nat.zero_add] at es
      rw [X12_takesOut_b2.eq_2, m53, m54, n53, n54, q_nn (show i < 2147483648 by omega), show (1024 : Int32) = wI (1024 : Nat) from rfl]
      simp only [q_leF hi (show 1024 < 2147483648 by omega), q_ge hi (show 1024 < 2147483648 by omega), ↓reduceIte, o1s, q_n1]
      rw [q_irow_o (show b + 39 ≠ b + 40 by omega), es]
      exact hih
  have h0 := hl 1024 0 q_FU (by omega) (by unfold q_FU; omega)
  rw [q_irow_0] at h0
  exact h0
theorem M_tlaid {b sd s : Nat} {d : q_Dt} {T : q_Tl} {rs : Nat → Int} {x1 x2 x3 : Int32} (kk : Int32 → Int32 → q_Dt → Option (Int32 × q_Dt)) (hM : q_M b sd d T) (hs : s < Tns T) (h : q_hs b d T s rs) (hb : ∀ p, -9223372036854775808 ≤ rs p ∧ rs p < 9223372036854775808) : X12_takesOut_b59 (A2 b) kk b x1 x2 x3 (wI s) q_FU 0 d = q_b1 (X12_addsWave (A2 b) (q_irow d (b + 37) (512 * s) 512 (q_lb T s rs)) b (b + 40) (wI s) (-1)) (fun d' => kk x2 (x3 + 1) d') := by
  have hN := hM.1.1
  have hl : ∀ n i k : Nat, i + n = 512 → n < k → X12_takesOut_b59 (A2 b) kk b x1 x2 x3 (wI s) k (wI i) (q_irow d (b + 37) (512 * s) i (q_lb T s rs)) = q_b1 (X12_addsWave (A2 b) (q_irow d (b + 37) (512 * s) 512 (q_lb T s rs)) b (b + 40) (wI s) (-1)) (fun d' => kk x2 (x3 + 1) d') := by
    intro n
    induction n with
    | zero =>
      intro i k z1 z2 
      obtain ⟨k, rfl⟩ : ∃ m, k = m + 1 := ⟨k - 1, by omega⟩
      have e : i = 512 := by omega
      rw [X12_takesOut_b59.eq_2, show (512 : Int32) = wI (512 : Nat) from rfl, m54, e]
      simp only [q_leT (Nat.le_refl 512) (show 512 < 2147483648 by omega), ↓reduceIte]
    | succ n ih =>
      intro i k z1 z2 
      obtain ⟨k, rfl⟩ : ∃ m, k = m + 1 := ⟨k - 1, by omega⟩
      have hi : i < 512 := by omega
      have hih := ih (i + 1) k (by omega) (by omega)
      have hh : q_hs b (q_irow d (b + 37) (512 * s) i (q_lb T s rs)) T s rs := ⟨h.1, fun p hp => by rw [q_irow_o (by omega)]; exact h.2 p hp⟩
      have hbo := M_bitOf hh hi (hb i).1 (hb i).2
      have e4 : (512 : Int32) * wI s + wI i = wI (512 * s + i : Nat) := by
        rw [show (512 : Int32) = wI (512 : Nat) from rfl, wI_mul, wI_add]
        rfl
      have hs1 := q_sgb1_b (rs i)
      have hfin : ∀ v : Int32, Int8.toInt32 (Int32.toInt8 (Int8.toInt32 (Int32.toInt8 v))) = q_lb T s rs i → X12_takesOut_b100 (A2 b) kk (X12_takesOut_b59 (A2 b) kk b x1 x2 x3 (wI s) k) b x1 x2 x3 (wI s) (wI i) (b + 37) (wI (512 * s + i : Nat)) v (q_irow d (b + 37) (512 * s) i (q_lb T s rs)) = q_b1 (X12_addsWave (A2 b) (q_irow d (b + 37) (512 * s) 512 (q_lb T s rs)) b (b + 40) (wI s) (-1)) (fun d' => kk x2 (x3 + 1) d') := by
        intro v hv
        unfold X12_takesOut_b100
        rw [hv, n51, q_nn (show 512 * s + i < 2147483648 by omega)]
        simp only [q_ge (show 512 * s + i < 3072 by omega) (show 3072 < 2147483648 by omega), ↓reduceIte, o1s, q_n1]
        rw [q_irow_s]
        exact hih
      rw [X12_takesOut_b59.eq_2, m64, n64, m51, e4, q_nn (show i < 2147483648 by omega), hh.2 i hi, hbo, show (512 : Int32) = wI (512 : Nat) from rfl]
      simp only [q_leF hi (show 512 < 2147483648 by omega), q_ge hi (show 512 < 2147483648 by omega), ↓reduceIte, b1s]
      by_cases hp : i < q_np T s
      · rw [if_pos hp, if_neg (show ¬ (1 : Int32) = 0 by decide), if_pos hp]
        refine hfin _ ?_
        rw [q_by1 hs1]
        unfold q_lb
        rw [if_pos hp]
      · rw [if_neg hp, if_pos rfl]
        refine hfin _ ?_
        unfold q_lb
        rw [if_neg hp]
        rfl
  have h0 := hl 512 0 q_FU (by omega) (by unfold q_FU; omega)
  rw [q_irow_0] at h0
  exact h0
theorem M_takesOut {b sd m : Nat} {dt : q_Dt} {T : q_Tl} {g : Nat → Nat → Int} (hM : q_M b sd dt T) (hg : q_now (b + 39) dt g) (hb : ∀ a i, -3300000 ≤ g a i ∧ g a i ≤ 3300000) (hz : ∀ a i, TN T ≤ i → g a i = 0) (hm : m ≤ Tns T) : ∃ d', X12_takesOut (A2 b) dt b (wI m) = some (wI (q_tko T g m).2, d') ∧ q_now (b + 40) d' (q_tko T g m).1 ∧ q_fk b dt d' := by
  have hN := hM.1.1
  have hl : ∀ n i k : Nat, i + n = m → n < k → ∀ d, q_fk b dt d → q_now (b + 40) d (q_tko T g i).1 → ∃ d', X12_takesOut_b31 (A2 b) b (wI m) k (wI (q_tko T g i).2) (wI i) d = some (wI (q_tko T g m).2, d') ∧ q_now (b + 40) d' (q_tko T g m).1 ∧ q_fk b dt d' := by
    intro n
    induction n with
    | zero =>
      intro i k z1 z2 
      obtain ⟨k, rfl⟩ : ∃ m, k = m + 1 := ⟨k - 1, by omega⟩
      have e : i = m := by omega
      intro d q1 q2
      rw [e] at q2 ⊢
      refine ⟨d, ?_, q2, q1⟩
      rw [X12_takesOut_b31.eq_2]
      simp only [q_leT (Nat.le_refl m) (show m < 2147483648 by omega), ↓reduceIte]
    | succ n ih =>
      intro i k z1 z2 
      obtain ⟨k, rfl⟩ : ∃ m, k = m + 1 := ⟨k - 1, by omega⟩
      have hi : i < m := by omega
      intro d q1 q2
      obtain ⟨s, hs, hA⟩ := q_byA_in (T := T) (r := i) (by omega)
      have hB := q_tko_b hM.1 hb hz i (by omega)
      have hb4 : ∀ a j, -4000000 ≤ (q_tko T g i).1 a j ∧ (q_tko T g i).1 a j ≤ 4000000 := fun a j => by
        have := hB.1.1 a j
        omega
      have hM2 := M_fw hM q1
      have eA := M_byAmp hM2 (r := (i : Nat)) (by omega) (by omega)
      rw [hA] at eA
      obtain ⟨d1, p1, p2, p3⟩ := M_wrong hM2 hs (n54 b) (by omega) q2 hb4
      have hM3 := M_fs hM2 p2
      have hrb : ∀ p, -9223372036854775808 ≤ q_rs T (q_tko T g i).1 s p ∧ q_rs T (q_tko T g i).1 s p < 9223372036854775808 := fun p => by
        have := q_rs_b (p := p) hM.1 hs hb4
        omega
      have f4 : q_fk b d1 (q_irow d1 (b + 37) (512 * s) 512 (q_lb T s (q_rs T (q_tko T g i).1 s))) := q_fk_w (Or.inl rfl)
      have hM4 := M_fw hM3 f4
      have hn1 : q_now (b + 40) d1 (q_tko T g i).1 := by
        unfold q_now
        rw [p2.1 (b + 40) (by omega)]
        exact q2
      have hn4 := q_now_w (y := b + 37) (off := 512 * s) (n := 512) (f := q_lb T s (q_rs T (q_tko T g i).1 s)) hn1 (by omega)
      obtain ⟨d3, r1, r2, r3⟩ := M_wave (tb := q_ntb T (q_tko T g i).1 s) (f := -1) hM4 (n54 b) (by omega) hn4 hs (by omega) (fun p hp => by
        rw [q_irow_i hp, q_lb_e (fun h => q_rs_z hM.1 hs h)]
        rfl)
      have et := q_tko_s (g := g) hA
      obtain ⟨d', v1, v2, v3⟩ := ih (i + 1) k (by omega) (by omega) d3 (q_fk_t (q_fk_t (q_fk_t q1 (q_fk_s p2)) f4) (q_fk_x r3 (by omega))) (by rw [et]; exact r2)
      refine ⟨d', ?_, v2, v3⟩
      rw [et] at v1
      rw [X12_takesOut_b31.eq_2, eA, m54]
      simp only [q_leF hi (show m < 2147483648 by omega), ↓reduceIte, b1s]
      rw [p1, b2s, M_tlaid _ hM3 hs p3 hrb, show (-1 : Int32) = wI (-1) from rfl, r1, b1s, q_n1, wI_add]
      exact v1
  have hn0 : q_now (b + 40) (q_irow dt (b + 40) 0 1024 (dt.1 (b + 39))) g := by
    intro i hi
    have h7 := hg i hi
    have k1 := q_irow_i (dt := dt) (arr := b + 40) (off := 0) (n := 1024) (j := i) (f := dt.1 (b + 39)) (by omega)
    have k2 := q_irow_i (dt := dt) (arr := b + 40) (off := 0) (n := 1024) (j := 512 + i) (f := dt.1 (b + 39)) (by omega)
    rw [Nat.zero_add] at k1 k2
    rw [k1, k2]
    exact h7
  obtain ⟨d', v1, v2⟩ := hl m 0 q_FU (by omega) (by unfold q_FU; omega) _ (q_fk_w (x := b + 40) (off := 0) (n := 1024) (f := dt.1 (b + 39)) (by omega)) hn0
  refine ⟨d', ?_, v2⟩
  unfold X12_takesOut
  rw [M_tcopy]
  exact v1
theorem T_takeOut {b t m : Nat} {dt : q_Dt} {T : q_Tl} {g : Nat → Nat → Int} (hT : q_TT b t dt T) (hg : q_sig (b + 21) (TN T) dt g) (hb : ∀ a i, -3300000 ≤ g a i ∧ g a i ≤ 3300000) (hz : ∀ a i, TN T ≤ i → g a i = 0) (hm : m ≤ Tns T) : ∃ d', X4_takeOut (A1 b) dt (b + 43) (some t) (b + 21) (wI m) = some (wI (q_tko T g m).2, d') ∧ q_sig (b + 46) (TN T) d' (q_tko T g m).1 ∧ q_e1 b dt d' := by
  have hN := hT.1.1
  have ht := hT.2.1
  have hl : ∀ n i k : Nat, i + n = m → n < k → ∀ d, q_e1 b dt d → q_sig (b + 46) (TN T) d (q_tko T g i).1 → ∃ d', X4_takeOut_b14 (A1 b) (b + 43) (some t) (wI m) k (wI (q_tko T g i).2) (wI i) d = some (wI (q_tko T g m).2, d') ∧ q_sig (b + 46) (TN T) d' (q_tko T g m).1 ∧ q_e1 b dt d' := by
    intro n
    induction n with
    | zero =>
      intro i k z1 z2 
      obtain ⟨k, rfl⟩ : ∃ m, k = m + 1 := ⟨k - 1, by omega⟩
      have e : i = m := by omega
      intro d q1 q2
      rw [e] at q2 ⊢
      refine ⟨d, ?_, q2, q1⟩
      rw [X4_takeOut_b14.eq_2]
      simp only [q_leT (Nat.le_refl m) (show m < 2147483648 by omega), ↓reduceIte]
    | succ n ih =>
      intro i k z1 z2 
      obtain ⟨k, rfl⟩ : ∃ m, k = m + 1 := ⟨k - 1, by omega⟩
      have hi : i < m := by omega
      intro d q1 q2
      obtain ⟨s, hs, hA⟩ := q_byA_in (T := T) (r := i) (by omega)
      have hB := q_tko_b hT.1 hb hz i (by omega)
      have hnp := (q_np_e hT.1 hs).2
      have hb4 : ∀ a j, -4000000 ≤ (q_tko T g i).1 a j ∧ (q_tko T g i).1 a j ≤ 4000000 := fun a j => by
        have := hB.1.1 a j
        omega
      have hT2 := T_keep hT (fun x h1 h2 => q1 x (by omega))
      have eA := T_strFirst hT2 (r := (i : Nat)) (by omega) (by omega)
      rw [hA] at eA
      obtain ⟨d1, p1, p2, p3⟩ := T_gather hT2 (So_left b) q2 hB.1.2 (Or.inr rfl) hs
      have hT3 := T_fJ hT2 p2
      have hrb : ∀ p, -9223372036854775808 ≤ q_rs T (q_tko T g i).1 s p ∧ q_rs T (q_tko T g i).1 s p < 9223372036854775808 := fun p => by
        have := q_rs_b (p := p) hT.1 hs hb4
        omega
      have hg3 : q_sig (b + 46) (TN T) d1 (q_tko T g i).1 := by
        unfold q_sig
        rw [p2.1, p2.2.2 (b + 46 + 2) (by omega), p2.2.2 (b + 46 + 4) (by omega)]
        exact q2
      obtain ⟨d2, r1, r2, r3⟩ := T_waveS (tb := q_ntb T (q_tko T g i).1 s) (f := -1) (sm := q_rs T (q_tko T g i).1 s) hT3 (So_left b) (by omega) hg3 hs (by omega) (s44_0 b) (l45 b) (Or.inl (by omega)) p3 (fun p _ => hrb p) (fun p _ => rfl)
      have et := q_tko_s (g := g) hA
      obtain ⟨d', v1, v2, v3⟩ := ih (i + 1) k (by omega) (by omega) d2 (q_e1_t (q_e1_t q1 (q_fJ_e1 p2)) (fun x hx => r3 x (by omega))) (by rw [et]; exact r2)
      refine ⟨d', ?_, v2, v3⟩
      rw [et] at v1
      rw [X4_takeOut_b14.eq_2, eA, s43_1, s43_0]
      simp only [q_leF hi (show m < 2147483648 by omega), ↓reduceIte, b1s, m1s, T_senderAt hT2 hs]
      rw [p1, b1s, hg3.1, T_periods hT3 hs, b1s, T_wrongBits (rs := q_rs T (q_tko T g i).1 s) hT3 hs hnp p3 hrb, b1s, show (-1 : Int32) = wI (-1) from rfl, r1, b1s]
      unfold X4_takeOut_b85
      rw [q_n1, wI_add]
      exact v1
  obtain ⟨d0, p1, p2, p3⟩ := T_take (So_left b) (So_in b) (by omega) hg
  obtain ⟨d', v1, v2⟩ := hl m 0 q_FU (by omega) (by unfold q_FU; omega) d0 (fun x hx => p3 x (by omega)) p2
  refine ⟨d', ?_, v2⟩
  unfold X4_takeOut
  rw [s43_1, p1, b1s]
  exact v1
theorem R_taken : q_c_taken q_Rel := by
  intro k b1 b2 dt1 dt2 a0 a1 hk hR
  obtain ⟨x, rfl, hx1, hx2⟩ := q_arg a0
  obtain ⟨y, rfl, hy1, hy2⟩ := q_arg a1
  have hR' := hR
  obtain ⟨T, tt, sd, g, hT, hM, ho, hs, hn, hg, -⟩ := hR'
  have hb := q_gb_i hg (by omega)
  have hN := hT.1.1
  have n10 : ¬ (1 : Int32) = 0 := by decide
  have z0 : (wI x = 0) = (x = 0) := wI_eq hx1 hx2 (show -2147483648 ≤ (0 : Int) by omega) (show (0 : Int) < 2147483648 by omega)
  have z1 : (wI x = 1) = (x = 1) := wI_eq hx1 hx2 (show -2147483648 ≤ (1 : Int) by omega) (show (1 : Int) < 2147483648 by omega)
  have w := hM.2.1
  have hsd := w.1
  show ∃ r d1 d2, X11_taken (A1 b1) dt1 b1 (wI x) (wI y) = some (r, d1) ∧ X12_taken (A2 b2) dt2 b2 (wI x) (wI y) = some (r, d2) ∧ _
  unfold X11_taken X12_taken
  simp only [z0, z1]
  by_cases h0 : x = 0
  · obtain ⟨d1, p1, -, p3⟩ := T_takeOut hT hs hb hg.2 (Nat.le_refl (Tns T))
    obtain ⟨d2, r1, -, r3⟩ := M_takesOut hM hn hb hg.2 (Nat.le_refl (Tns T))
    refine ⟨wI (q_tko T g (Tns T)).2, d1, d2, ?_, ?_, R_keep hR p3 (q_fk_e2 r3)⟩
    · rw [if_pos h0, ho.1, o1s, o1s, m1s, s0_5, s0_1, hT.2.2.1.2.2.1, p1, b2s]
    · rw [if_pos h0, m31, n31, w.2.1, q_nn (by omega), w.2.2.2.2.1, if_neg (by rw [q_ge w.1 (by omega)]; exact fun q => q), r1, b2s]
  · by_cases h1 : x = 1
    · have e1 := T_strFirst hT hy1 hy2
      have e2 := M_byAmp hM hy1 hy2
      have e3 := M_isSender hM hy1 hy2
      refine ⟨wI (q_byA T y), dt1, dt2, ?_, ?_, R_up hR⟩
      · rw [if_neg h0, if_pos h1, ho.1, o1s, s0_5, e1, b1s]
      · rw [if_neg h0, if_pos h1, e3, b1s]
        by_cases hc : 0 ≤ y ∧ y < Tns T
        · rw [if_pos hc, if_neg n10, e2, b1s]
        · rw [if_neg hc, if_pos rfl, q_byA_out hc]
          rfl
    · refine ⟨-1, dt1, dt2, ?_, ?_, R_up hR⟩
      · rw [if_neg h0, if_neg h1]
      · rw [if_neg h0, if_neg h1]
theorem R_rest : q_c_rest q_Rel := by
  intro k b1 b2 dt1 dt2 a0 hk hR
  obtain ⟨x, rfl, hx1, hx2⟩ := q_arg a0
  have hR' := hR
  obtain ⟨T, tt, sd, g, hT, hM, ho, hs, hn, hg, -⟩ := hR'
  have hb := q_gb_i hg (by omega)
  have hN := hT.1.1
  have n10 : ¬ (1 : Int32) = 0 := by decide
  have w := hM.2.1
  have hsd := w.1
  have z0 : (wI x < 0) = (x < 0) := by
    rw [show (0 : Int32) = wI 0 from rfl, wI_lt hx1 hx2 (by omega) (by omega)]
  have zl : (wI x ≤ wI (Tns T)) = (x ≤ Tns T) := wI_le hx1 hx2 (by omega) (by omega)
  have i1 : X12_in (wI x) 0 (wI (Tns T)) = some (if 0 ≤ x ∧ x ≤ Tns T then 1 else 0) := M_in (a := 0) hx1 hx2 (by omega) (by omega) (by omega) (by omega)
  show ∃ r d1 d2, X11_rest (A1 b1) dt1 b1 (wI x) = some (r, d1) ∧ X12_rest (A2 b2) dt2 b2 (wI x) = some (r, d2) ∧ _
  unfold X11_rest X12_rest X11_rest_b15
  rw [ho.1, o1s, m1s, hT.2.2.1.2.2.1, o1s, m31, n31, w.2.1, q_nn (by omega), w.2.2.2.2.1, i1, b1s, if_neg (show ¬ (wI sd < 0 ∨ 2 ≤ sd) by rw [q_ge w.1 (by omega)]; exact fun q => q)]
  simp only [z0, zl]
  by_cases hc : 0 ≤ x ∧ x ≤ Tns T
  · obtain ⟨m, rfl⟩ := Int.eq_ofNat_of_zero_le hc.1
    have hm : m ≤ Tns T := by omega
    obtain ⟨d1, p1, p2, p3⟩ := T_takeOut hT hs hb hg.2 hm
    obtain ⟨d2, r1, r2, r3⟩ := M_takesOut hM hn hb hg.2 hm
    have hB := q_tko_b hT.1 hb hg.2 m hm
    have hM2 := M_fw hM r3
    have e1 := T_squares (So_left b1) p2 (show TN T ≤ 512 by omega) (show TN T - 1 < TN T by omega) (show 0 ≤ TN T - 1 + 1 by omega)
    have e2 := M_power (n54 b2) r2 (fun a i => by have := hB.1.1 a i; omega) (show TN T - 1 < 512 by omega) (show 0 ≤ TN T - 1 + 1 by omega)
    have eN : wI (TN T) - 1 = wI (TN T - 1 : Nat) := by
      rw [show (1 : Int32) = wI 1 from rfl, wI_sub]
      congr 1
      omega
    have k0 : (0 ≤ wI (q_tko T g m).2) = True := by
      rw [show (0 : Int32) = wI 0 from rfl, wI_le (by omega) (by omega) (by omega) (by omega)]
      exact eq_true (by omega)
    refine ⟨wJ (q_sum (fun j => q_sq (q_tko T g m).1 (0 + j)) (TN T - 1 + 1 - 0)), d1, d2, ?_, ?_, R_keep hR p3 (q_fk_e2 r3)⟩
    · rw [if_neg (by omega), if_pos hc.2, s0_5, s0_1, p1, b2s]
      unfold X4_squaresLeft
      rw [s43_1, p2.1, eN, show (0 : Int32) = wI (0 : Nat) from rfl, e1, b1s, b1s]
    · rw [if_pos hc, if_neg n10, r1, b2s]
      simp only [k0, ↓reduceIte]
      rw [M_n hM2, b1s, m54, eN, show (0 : Int32) = wI (0 : Nat) from rfl, e2, b1s]
  · refine ⟨-1, dt1, dt2, ?_, ?_, R_up hR⟩
    · by_cases h : x < 0
      · rw [if_pos h]
      · rw [if_neg h, if_neg (by omega)]
    · rw [if_neg hc, if_pos rfl]
