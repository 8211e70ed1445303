/-! level two: noise -/
def q_str (h v : Int32) : Int32 := (((h ^^^ v) * 1103515245) + 12345) ^^^ (q_ushr (((h ^^^ v) * 1103515245) + 12345) 15)
theorem q_ushr1 (x : Int32) : 0 ≤ (q_ushr x 1).toInt := by
  have e : (q_ushr x 1).toInt = (x.toBitVec >>> (1 : Nat)).toInt := rfl
  rw [e, BitVec.toInt_ushiftRight_of_lt (by omega)]
  exact Int.natCast_nonneg _
def q_rw (s w : Int32) : Nat := (q_ushr (q_str (q_str s 21) w) 1).toInt.toNat
theorem q_rw_e (s w : Int32) : q_ushr (q_str (q_str s 21) w) 1 = wI (q_rw s w) ∧ q_rw s w < 2147483648 := by
  have h1 := q_ushr1 (q_str (q_str s 21) w)
  have h2 := Int32.toInt_lt (q_ushr (q_str (q_str s 21) w) 1)
  refine ⟨?_, ?_⟩
  · unfold q_rw
    rw [Int.toNat_of_nonneg h1]
    exact wI_of _
  · unfold q_rw
    omega
theorem T_lot {s w : Int32} {n : Nat} (h1 : 1 ≤ n) (h2 : n < 2147483648) : X8_lot s w (wI n) = some (wI (q_rw s w % n : Nat)) := by
  have h3 := q_rw_e s w
  have h4 := h3.2
  unfold X8_lot
  show q_b1 (some (q_str s 21)) _ = _
  rw [b1s]
  show q_b1 (some (q_str (q_str s 21) w)) _ = _
  rw [b1s, h3.1]
  simp (disch := omega) only [wI_lit, wI_le, wI_eq, wI_mod, ← Int.natCast_emod]
  rw [if_pos (by omega), if_neg (by omega)]
theorem M_lot {s w : Int32} {n : Nat} (h1 : 1 ≤ n) (h2 : n < 2147483648) : X12_lot s w (wI n) = some (wI (q_rw s w % n : Nat)) := by
  have h3 := q_rw_e s w
  have h4 := h3.2
  unfold X12_lot
  show q_b1 (some (q_str s 21)) _ = _
  rw [b1s]
  show q_b1 (some (q_str (q_str s 21) w)) _ = _
  rw [b1s, h3.1]
  simp (disch := omega) only [wI_lit, wI_eq, wI_mod, ← Int.natCast_emod]
  rw [if_neg (by omega)]
def q_nz (s : Int32) (m a i : Nat) : Int := if a = 0 then ((q_rw s (wI (2 * i : Nat)) % (2 * m + 1) : Nat) : Int) - m else if a = 1 then ((q_rw s (wI (2 * i + 1 : Nat)) % (2 * m + 1) : Nat) : Int) - m else 0
theorem q_nz_b (s : Int32) (m a i : Nat) : -(m : Int) ≤ q_nz s m a i ∧ q_nz s m a i ≤ m := by
  have h1 := Nat.mod_lt (q_rw s (wI (2 * i : Nat))) (show 0 < 2 * m + 1 by omega)
  have h2 := Nat.mod_lt (q_rw s (wI (2 * i + 1 : Nat))) (show 0 < 2 * m + 1 by omega)
  unfold q_nz
  by_cases g : a = 0
  · rw [if_pos g]; omega
  · rw [if_neg g]
    by_cases g2 : a = 1
    · rw [if_pos g2]; omega
    · rw [if_neg g2]; omega
theorem b1id {α : Type} (x : Option α) : q_b1 x (fun d => some d) = x := by
  cases x with
  | none => rfl
  | some a => rfl
theorem T_inc5 {b o N i a : Nat} {dt : q_Dt} {g : Nat → Nat → Int} {v : Int} (hs : q_So b o) (hg : q_sig o N dt g) (hN : N ≤ 512) (hi : i < N) (ha : a < 2) (hv1 : -2147483648 ≤ v) (hv2 : v < 2147483648) : ∃ d, X5_increase (A1 b) dt ((A1 b).2.2 o a) (wI i) (Int32.toInt64 (wI v)) = some d ∧ q_sig o N d (q_inc N g a i v) ∧ q_fob o dt d := by
  obtain ⟨d, h1, h2, h3⟩ := T_inc hs hg hN (show i < 1000000 by omega) ha hv1 hv2
  refine ⟨d, ?_, h2, h3⟩
  unfold X8_increase X8_increase_b25 at h1
  rw [hg.1, show (0 : Int32) = wI 0 from rfl] at h1
  simp (disch := omega) only [wI_le, wI_eq, b1id] at h1
  rw [if_neg (by omega)] at h1
  rcases (show a = 0 ∨ a = 1 by omega) with rfl | rfl
  · rw [if_pos (by omega)] at h1
    exact h1
  · rw [if_neg (by omega), if_neg (by omega)] at h1
    exact h1
def q_gn (g : Nat → Nat → Int) (s : Int32) (m i : Nat) : Nat → Nat → Int := fun a j => g a j + if j < i then q_nz s m a j else 0
theorem q_gn_0 (g : Nat → Nat → Int) (s : Int32) (m : Nat) : q_gn g s m 0 = g := by
  funext a j
  show g a j + (if j < 0 then q_nz s m a j else 0) = g a j
  rw [if_neg (by omega), Int.add_zero]
theorem q_gn_s (g : Nat → Nat → Int) (s : Int32) (m : Nat) {N i : Nat} (hi : i < N) : q_inc N (q_inc N (q_gn g s m i) 0 i (q_nz s m 0 i)) 1 i (q_nz s m 1 i) = q_gn g s m (i + 1) := by
  funext a j
  show (if a = 1 ∧ j = i ∧ i < N then (if a = 0 ∧ j = i ∧ i < N then (g a j + if j < i then q_nz s m a j else 0) + q_nz s m 0 i else (g a j + if j < i then q_nz s m a j else 0)) + q_nz s m 1 i else (if a = 0 ∧ j = i ∧ i < N then (g a j + if j < i then q_nz s m a j else 0) + q_nz s m 0 i else (g a j + if j < i then q_nz s m a j else 0))) = g a j + if j < i + 1 then q_nz s m a j else 0
  by_cases e : j = i
  · subst e
    rw [if_neg (show ¬ j < j by omega), if_pos (show j < j + 1 by omega)]
    by_cases e1 : a = 0
    · subst e1
      rw [if_neg (by omega), if_pos ⟨rfl, rfl, hi⟩]
      omega
    · by_cases e2 : a = 1
      · subst e2
        rw [if_pos ⟨rfl, rfl, hi⟩, if_neg (by omega)]
        omega
      · rw [if_neg (fun q => e2 q.1), if_neg (fun q => e1 q.1)]
        unfold q_nz
        rw [if_neg e1, if_neg e2]
  · rw [if_neg (fun q => e q.2.1), if_neg (fun q => e q.2.1)]
    by_cases e1 : j < i
    · rw [if_pos e1, if_pos (by omega)]
    · rw [if_neg e1, if_neg (by omega)]
theorem T_noise {b o N m : Nat} {dt : q_Dt} {g : Nat → Nat → Int} {s : Int32} (hs : q_So b o) (hg : q_sig o N dt g) (hN : N ≤ 512) (hm : m ≤ 50) : ∃ d, X8_layNoise (A1 b) dt o (wI m) s = some d ∧ q_sig o N d (q_gn g s m N) ∧ q_fob o dt d := by
  have hl : ∀ n i k : Nat, i + n = N → n < k → ∀ d, q_sig o N d (q_gn g s m i) → q_fob o dt d → ∃ d', X8_layNoise_b2 (A1 b) o (wI m) s k (wI i) d = some d' ∧ q_sig o N d' (q_gn g s m N) ∧ q_fob o dt d' := by
    intro n
    induction n with
    | zero =>
      intro i k z1 z2 
      obtain ⟨k, rfl⟩ : ∃ m, k = m + 1 := ⟨k - 1, by omega⟩
      have e : i = N := by omega
      intro d h1 h2
      refine ⟨d, ?_, e ▸ h1, h2⟩
      rw [X8_layNoise_b2.eq_2, h1.1]
      simp (disch := omega) only [wI_le]
      rw [if_pos (by omega)]
    | succ n ih =>
      intro i k z1 z2 
      obtain ⟨k, rfl⟩ : ∃ m, k = m + 1 := ⟨k - 1, by omega⟩
      have hi : i < N := by omega
      intro d h1 h2
      have b0 := q_nz_b s m 0 i
      have b1 := q_nz_b s m 1 i
      obtain ⟨d1, p1, p2, p3⟩ := T_inc5 (v := q_nz s m 0 i) hs h1 hN hi (show 0 < 2 by omega) (by omega) (by omega)
      obtain ⟨d2, r1, r2, r3⟩ := T_inc5 (v := q_nz s m 1 i) hs p2 hN hi (show 1 < 2 by omega) (by omega) (by omega)
      rw [q_gn_s g s m hi] at r2
      obtain ⟨d', q1, q2, q3⟩ := ih (i + 1) k (by omega) (by omega) d2 r2 (q_fob_t h2 (q_fob_t p3 r3))
      refine ⟨d', ?_, q2, q3⟩
      have e2 : 2 * wI i = wI (2 * i : Nat) := wI_mul 2 i
      have e3 : wI (2 * i : Nat) + 1 = wI (2 * i + 1 : Nat) := wI_add _ 1
      have e4 : 2 * wI m + 1 = wI (2 * m + 1 : Nat) := by
        rw [show (2 : Int32) = wI (2 : Nat) from rfl, wI_mul, show (1 : Int32) = wI (1 : Nat) from rfl, wI_add]
        rfl
      have ei : wI i + 1 = wI (i + 1 : Nat) := wI_add i 1
      rw [X8_layNoise_b2.eq_2, h1.1, e2, e3, e4, ei, T_lot (by omega) (by omega), T_lot (by omega) (by omega)]
      simp (disch := omega) only [wI_le, b1s, wI_sub]
      rw [if_neg (by omega)]
      have z0 : ((q_rw s (wI (2 * i : Nat)) % (2 * m + 1) : Nat) : Int) - m = q_nz s m 0 i := rfl
      have z1 : ((q_rw s (wI (2 * i + 1 : Nat)) % (2 * m + 1) : Nat) : Int) - m = q_nz s m 1 i := rfl
      rw [z0, z1, p1]
      simp only [b1s]
      rw [r1]
      simp only [b1s]
      exact q1
  exact hl N 0 q_FU (by omega) (by unfold q_FU; omega) dt (by rw [q_gn_0]; exact hg) q_fob_r
def q_fx (x : Nat) (dt d : q_Dt) : Prop := (∀ y, y ≠ x → d.1 y = dt.1 y) ∧ d.2 = dt.2
theorem q_fx_r {x : Nat} {dt : q_Dt} : q_fx x dt dt := ⟨fun _ _ => rfl, rfl⟩
theorem q_fx_t {x : Nat} {dt d e : q_Dt} (h : q_fx x dt d) (h' : q_fx x d e) : q_fx x dt e := ⟨fun y hy => (h'.1 y hy).trans (h.1 y hy), h'.2.trans h.2⟩
theorem q_fx_I {x k : Nat} {dt d : q_Dt} {v : Int32} (h : q_fx x dt d) : q_fx x dt (q_pI d x k v) := ⟨fun y hy => (q_pI_o hy).trans (h.1 y hy), h.2⟩
theorem M_fx {b sd x : Nat} {dt d : q_Dt} {T : q_Tl} (h : q_M b sd dt T) (hf : q_fx x dt d) (hx : b + 37 ≤ x) : q_M b sd d T := M_keep h (congrFun (hf.1 b (by omega)) 18) (fun y h1 h2 => hf.1 y (by omega))
theorem M_noise {b sd m : Nat} {dt : q_Dt} {T : q_Tl} {g : Nat → Nat → Int} {s : Int32} (hM : q_M b sd dt T) (hg : q_now (b + 39) dt g) (hm : m ≤ 50) : ∃ d, X12_addsNoise (A2 b) dt b (wI m) s = some d ∧ q_now (b + 39) d (q_gn g s m (TN T)) ∧ q_fx (b + 39) dt d := by
  have hN := hM.1.1
  have hl : ∀ n i k : Nat, i + n = TN T → n < k → ∀ d, q_now (b + 39) d (q_gn g s m i) → q_fx (b + 39) dt d → ∃ d', X12_addsNoise_b2 (A2 b) b (wI m) s k (wI i) d = some d' ∧ q_now (b + 39) d' (q_gn g s m (TN T)) ∧ q_fx (b + 39) dt d' := by
    intro n
    induction n with
    | zero =>
      intro i k z1 z2 
      obtain ⟨k, rfl⟩ : ∃ m, k = m + 1 := ⟨k - 1, by omega⟩
      have e : i = TN T := by omega
      intro d h1 h2
      have hM2 := M_fx hM h2 (by omega)
      refine ⟨d, ?_, e ▸ h1, h2⟩
      rw [X12_addsNoise_b2.eq_2, M_n hM2]
      simp (disch := omega) only [wI_le, b1s]
      rw [if_pos (by omega)]
    | succ n ih =>
      intro i k z1 z2 
      obtain ⟨k, rfl⟩ : ∃ m, k = m + 1 := ⟨k - 1, by omega⟩
      have hi : i < TN T := by omega
      intro d h1 h2
      have hM2 := M_fx hM h2 (by omega)
      have p2 := M_inc (v := q_nz s m 0 i) h1 (show TN T ≤ 512 by omega) hi (show 0 < 2 by omega)
      have r2 := M_inc (v := q_nz s m 1 i) p2 (show TN T ≤ 512 by omega) hi (show 1 < 2 by omega)
      rw [q_gn_s g s m hi] at r2
      obtain ⟨d', q1, q2, q3⟩ := ih (i + 1) k (by omega) (by omega) _ r2 (q_fx_I (q_fx_I h2))
      refine ⟨d', ?_, q2, q3⟩
      have e2 : 2 * wI i = wI (2 * i : Nat) := wI_mul 2 i
      have e3 : wI (2 * i : Nat) + 1 = wI (2 * i + 1 : Nat) := wI_add _ 1
      have e4 : 2 * wI m + 1 = wI (2 * m + 1 : Nat) := by
        rw [show (2 : Int32) = wI (2 : Nat) from rfl, wI_mul, show (1 : Int32) = wI (1 : Nat) from rfl, wI_add]
        rfl
      have ei : wI i + 1 = wI (i + 1 : Nat) := wI_add i 1
      have e5 : 512 + wI i = wI (512 + i : Nat) := wI_add 512 i
      rw [X12_addsNoise_b2.eq_2, M_n hM2, e2, e3, e4, ei, e5, m53, n53, M_lot (by omega) (by omega), M_lot (by omega) (by omega), show (0 : Int32) = wI 0 from rfl]
      simp (disch := omega) only [wI_le, wI_lt, wI_nat, Int.toNat_natCast, b1s, o1s, wI_sub]
      rw [if_neg (by omega), if_neg (by omega), if_neg (by omega), if_neg (by omega), if_neg (by omega)]
      have z0 : ((q_rw s (wI (2 * i : Nat)) % (2 * m + 1) : Nat) : Int) - m = q_nz s m 0 i := rfl
      have z1 : ((q_rw s (wI (2 * i + 1 : Nat)) % (2 * m + 1) : Nat) : Int) - m = q_nz s m 1 i := rfl
      rw [z0, z1]
      rw [show 512 * 0 + i = i by omega, show 512 * 1 + i = 512 + i by omega] at q1
      exact q1
  exact hl (TN T) 0 q_FU (by omega) (by unfold q_FU; omega) dt (by rw [q_gn_0]; exact hg) q_fx_r
theorem R_noise : q_c_noise q_Rel := by
  intro k b1 b2 dt1 dt2 a0 a1 hk hR
  obtain ⟨x, rfl, hx1, hx2⟩ := q_arg a0
  have hR' := hR
  obtain ⟨T, t, sd, g, hT, hM, ho, hs, hn, hg, hrt, hrh, hk2, hp⟩ := hR'
  have hN := hT.1.1
  show ∃ r d1 d2, X11_noise (A1 b1) dt1 b1 (wI x) a1 = some (r, d1) ∧ X12_noise (A2 b2) dt2 b2 (wI x) a1 = some (r, d2) ∧ _
  unfold X11_noise X12_noise
  rw [s0_1, show (0 : Int32) = wI 0 from rfl, show (50 : Int32) = wI 50 from rfl]
  by_cases h : 0 ≤ x ∧ x ≤ 50
  · obtain ⟨m, rfl⟩ := Int.eq_ofNat_of_zero_le h.1
    obtain ⟨d1, p1, p2, p3⟩ := T_noise (s := a1) (So_in b1) hs (show TN T ≤ 512 by omega) (show m ≤ 50 by omega)
    obtain ⟨d2, r1, r2, r3⟩ := M_noise (s := a1) hM hn (show m ≤ 50 by omega)
    rw [M_in1 (by omega) (by omega) (by omega) (by omega) (by omega) (by omega) (by omega), p1]
    simp (disch := omega) only [wI_lt, wI_le, b1s]
    rw [if_neg (by omega), if_pos (by omega), if_neg (show ¬ (1 : Int32) = wI 0 by decide), r1]
    simp only [b1s]
    refine ⟨1, d1, d2, rfl, rfl, R_sig ⟨hT, hM, ho, hs, hn, hg, hrt, hrh, hk2, hp⟩ (fun x hx => p3 x (by omega)) (fun x h1 h2 h3 h4 => r3.1 x (by omega)) (fun j _ => congrFun (r3.1 b2 (by omega)) j) (fun x _ => by rw [r3.2]) p2 r2 ⟨fun a i => ?_, fun a i hi => ?_⟩⟩
    · have h1 := hg.1 a i
      have h2 := q_nz_b a1 m a i
      show -(2000 + 6240 * ((k + 1 : Nat) : Int)) ≤ g a i + (if i < TN T then q_nz a1 m a i else 0) ∧ g a i + (if i < TN T then q_nz a1 m a i else 0) ≤ 2000 + 6240 * ((k + 1 : Nat) : Int)
      by_cases e : i < TN T
      · rw [if_pos e]; omega
      · rw [if_neg e]; omega
    · show g a i + (if i < TN T then q_nz a1 m a i else 0) = 0
      rw [if_neg (by omega), hg.2 a i hi]
      rfl
  · rw [M_in0 (by omega) (by omega) (by omega) (by omega) (by omega) (by omega) (by omega)]
    simp (disch := omega) only [wI_lt, wI_le, b1s]
    rw [if_pos (show (0 : Int32) = wI 0 from rfl)]
    by_cases h2 : x < 0
    · rw [if_pos h2]
      exact ⟨_, _, _, rfl, rfl, R_up hR⟩
    · rw [if_neg h2, if_neg (by omega)]
      exact ⟨_, _, _, rfl, rfl, R_up hR⟩
