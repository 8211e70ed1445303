/-! level two: the relation of the two worlds -/
def q_sig (o n : Nat) (dt : q_Dt) (g : Nat → Nat → Int) : Prop := dt.1 o 2 = wI n ∧ ∀ i, i < 512 → dt.2.1 (o + 2) i = wJ (g 0 i) ∧ dt.2.1 (o + 4) i = wJ (g 1 i)
def q_now (x : Nat) (dt : q_Dt) (g : Nat → Nat → Int) : Prop := ∀ i, i < 512 → dt.1 x i = wI (g 0 i) ∧ dt.1 x (512 + i) = wI (g 1 i)
def q_gb (k : Nat) (T : q_Tl) (g : Nat → Nat → Int) : Prop := (∀ a i, -(2000 + 6240 * (k : Int)) ≤ g a i ∧ g a i ≤ 2000 + 6240 * (k : Int)) ∧ ∀ a i, TN T ≤ i → g a i = 0
def q_sgb (z : Int) : Int := if z < 128 then z else z - 256
def q_Rt (b1 b2 : Nat) (dt1 dt2 : q_Dt) : Prop := ∃ (L : Nat) (by' : Nat → Int), L ≤ 2000 ∧ dt1.1 (b1 + 2) 6 = wI L ∧ dt2.1 b2 2 = wI L ∧ ∀ i, i < L → (0 ≤ by' i ∧ by' i ≤ 255) ∧ dt1.2.1 (b1 + 4) i = wJ (by' i) ∧ dt2.1 (b2 + 1) i = wI (q_sgb (by' i))
def q_Rh (k b1 b2 : Nat) (dt1 dt2 : q_Dt) (T : q_Tl) : Prop := ∃ M : Nat, M < 8 ∧ dt1.1 b1 9 = wI M ∧ ∀ s, s < 3 → dt2.1 (b2 + 49) s = wI (M / 2 ^ s % 2 : Nat) ∧ (M / 2 ^ s % 2 = 1 → ∃ g, q_sig (b1 + 221 + 5 * s) (TN T) dt1 g ∧ q_gb k T g ∧ ∀ i, i < 512 → dt2.1 (b2 + 50) (1024 * s + i) = wI (g 0 i) ∧ dt2.1 (b2 + 50) (1024 * s + (512 + i)) = wI (g 1 i))
def q_key (i : Nat) : Int := (q_cJ q_S2 7 i).toInt
def q_Rkk (b1 b2 : Nat) (dt1 dt2 : q_Dt) : Prop := (∀ i, i < 11 → dt1.2.1 (b1 + 12) i = wJ (q_key i) ∧ dt2.2.1 (b2 + 7) i = wJ (q_key i)) ∧ ∀ j, j < 16 → ∃ n : Nat, n ≤ 127 ∧ dt2.1 (b2 + 12) j = wI n
def q_own (b t : Nat) (dt : q_Dt) : Prop := dt.2.2 b 6 = some t ∧ dt.2.2 b 7 = some (2 * b + 226 - t)
def q_Rel (k b1 b2 : Nat) (dt1 dt2 : q_Dt) : Prop := ∃ (T : q_Tl) (t sd : Nat) (g : Nat → Nat → Int), q_TT b1 t dt1 T ∧ q_M b2 sd dt2 T ∧ q_own b1 t dt1 ∧ q_sig (b1 + 21) (TN T) dt1 g ∧ q_now (b2 + 39) dt2 g ∧ q_gb k T g ∧ q_Rt b1 b2 dt1 dt2 ∧ q_Rh k b1 b2 dt1 dt2 T ∧ q_Rkk b1 b2 dt1 dt2 ∧ dt1.1 b1 8 = dt2.1 b2 17
/-- the class's cells outside its working rows -/
def q_e1 (b : Nat) (dt d : q_Dt) : Prop := ∀ x, x < b + 27 ∨ b + 77 ≤ x → d.1 x = dt.1 x ∧ d.2.1 x = dt.2.1 x ∧ d.2.2 x = dt.2.2 x
/-- the check's cells outside its working rows -/
def q_e2 (b : Nat) (dt d : q_Dt) : Prop := (∀ x, x ≠ b → x ≠ b + 37 → x ≠ b + 38 → (x < b + 40 ∨ b + 49 ≤ x) → d.1 x = dt.1 x) ∧ (∀ j, j < 60 → d.1 b j = dt.1 b j) ∧ ∀ x, x < b + 46 → d.2.1 x = dt.2.1 x
theorem q_e1_r {b : Nat} {dt : q_Dt} : q_e1 b dt dt := fun _ _ => ⟨rfl, rfl, rfl⟩
theorem q_e2_r {b : Nat} {dt : q_Dt} : q_e2 b dt dt := ⟨fun _ _ _ _ _ => rfl, fun _ _ => rfl, fun _ _ => rfl⟩
theorem q_e1_t {b : Nat} {dt d e : q_Dt} (h : q_e1 b dt d) (h' : q_e1 b d e) : q_e1 b dt e := fun x hx => ⟨(h' x hx).1.trans (h x hx).1, (h' x hx).2.1.trans (h x hx).2.1, (h' x hx).2.2.trans (h x hx).2.2⟩
theorem q_e2_t {b : Nat} {dt d e : q_Dt} (h : q_e2 b dt d) (h' : q_e2 b d e) : q_e2 b dt e := ⟨fun x h1 h2 h3 h4 => (h'.1 x h1 h2 h3 h4).trans (h.1 x h1 h2 h3 h4), fun j hj => (h'.2.1 j hj).trans (h.2.1 j hj), fun x hx => (h'.2.2 x hx).trans (h.2.2 x hx)⟩
theorem q_pI_o {dt : q_Dt} {a k x : Nat} {v : Int32} (h : x ≠ a) : (q_pI dt a k v).1 x = dt.1 x := by
  funext j
  show (if x = a ∧ j = k then v else dt.1 x j) = dt.1 x j
  rw [if_neg (fun q => h q.1)]
theorem q_pI_k {dt : q_Dt} {a k x j : Nat} {v : Int32} (h : j ≠ k) : (q_pI dt a k v).1 x j = dt.1 x j := by
  show (if x = a ∧ j = k then v else dt.1 x j) = dt.1 x j
  rw [if_neg (fun q => h q.2)]
theorem q_pI_s {dt : q_Dt} {a k : Nat} {v : Int32} : (q_pI dt a k v).1 a k = v := by
  show (if a = a ∧ k = k then v else dt.1 a k) = v
  rw [if_pos ⟨rfl, rfl⟩]
theorem q_pI_2 {dt : q_Dt} {a k : Nat} {v : Int32} : (q_pI dt a k v).2 = dt.2 := rfl
theorem q_pJ_o {dt : q_Dt} {a k x : Nat} {v : Int64} (h : x ≠ a) : (q_pJ dt a k v).2.1 x = dt.2.1 x := by
  funext j
  show (if x = a ∧ j = k then v else dt.2.1 x j) = dt.2.1 x j
  rw [if_neg (fun q => h q.1)]
theorem q_pJ_k {dt : q_Dt} {a k x j : Nat} {v : Int64} (h : j ≠ k) : (q_pJ dt a k v).2.1 x j = dt.2.1 x j := by
  show (if x = a ∧ j = k then v else dt.2.1 x j) = dt.2.1 x j
  rw [if_neg (fun q => h q.2)]
theorem q_pJ_s {dt : q_Dt} {a k : Nat} {v : Int64} : (q_pJ dt a k v).2.1 a k = v := by
  show (if a = a ∧ k = k then v else dt.2.1 a k) = v
  rw [if_pos ⟨rfl, rfl⟩]
theorem q_pJ_1 {dt : q_Dt} {a k : Nat} {v : Int64} : (q_pJ dt a k v).1 = dt.1 := rfl
theorem q_pJ_3 {dt : q_Dt} {a k : Nat} {v : Int64} : (q_pJ dt a k v).2.2 = dt.2.2 := rfl
theorem q_e1_I {b : Nat} {dt d : q_Dt} {a k : Nat} {v : Int32} (h : q_e1 b dt d) (h1 : b + 27 ≤ a) (h2 : a < b + 77) : q_e1 b dt (q_pI d a k v) := fun x hx => ⟨(q_pI_o (by omega)).trans (h x hx).1, (h x hx).2⟩
theorem q_e1_J {b : Nat} {dt d : q_Dt} {a k : Nat} {v : Int64} (h : q_e1 b dt d) (h1 : b + 27 ≤ a) (h2 : a < b + 77) : q_e1 b dt (q_pJ d a k v) := fun x hx => ⟨(h x hx).1, (q_pJ_o (by omega)).trans (h x hx).2.1, (h x hx).2.2⟩
theorem q_e1_row {b : Nat} {dt d : q_Dt} {a n : Nat} {f : Nat → Int64} (h : q_e1 b dt d) (h1 : b + 27 ≤ a) (h2 : a < b + 77) : q_e1 b dt (q_row d a n f) := fun x hx => ⟨(h x hx).1, (q_row_o (by omega)).trans (h x hx).2.1, (h x hx).2.2⟩
theorem q_e2_I {b : Nat} {dt d : q_Dt} {a k : Nat} {v : Int32} (h : q_e2 b dt d) (h1 : a = b + 37 ∨ a = b + 38 ∨ (b + 40 ≤ a ∧ a < b + 49) ∨ (a = b ∧ 60 ≤ k)) : q_e2 b dt (q_pI d a k v) := by
  refine ⟨fun x g1 g2 g3 g4 => (q_pI_o (by omega)).trans (h.1 x g1 g2 g3 g4), fun j hj => ?_, h.2.2⟩
  by_cases hb : b = a
  · rw [q_pI_k (by omega)]; exact h.2.1 j hj
  · rw [q_pI_o (by omega)]; exact h.2.1 j hj
theorem q_e2_J {b : Nat} {dt d : q_Dt} {a k : Nat} {v : Int64} (h : q_e2 b dt d) (h1 : b + 46 ≤ a) : q_e2 b dt (q_pJ d a k v) := ⟨h.1, h.2.1, fun x hx => (q_pJ_o (by omega)).trans (h.2.2 x hx)⟩

theorem T_keep {b t : Nat} {dt d : q_Dt} {T : q_Tl} (h : q_TT b t dt T) (hh : ∀ x, t ≤ x → x < t + 72 → d.1 x = dt.1 x ∧ d.2.1 x = dt.2.1 x ∧ d.2.2 x = dt.2.2 x) : q_TT b t d T := by
  obtain ⟨hw, ht, h0, hC, hH, hS, hE, hJ⟩ := h
  have hn := hw.1
  refine ⟨hw, ht, ?_, fun c hc => ?_, fun p hp => ?_, fun s hs => ?_, fun s hs => ?_, fun j hj => ?_⟩
  · unfold q_T0
    rw [(hh t (by omega) (by omega)).1]
    exact h0
  · rw [(hh (t + 12 + 3 * c) (by omega) (by omega)).1, (hh (t + 14 + 3 * c) (by omega) (by omega)).2.1]
    exact hC c hc
  · rw [(hh (t + 36 + p) (by omega) (by omega)).1]
    exact hH p hp
  · rw [(hh (t + 42 + 5 * s) (by omega) (by omega)).1, (hh (t + 42 + 5 * s) (by omega) (by omega)).2.2]
    exact hS s hs
  · rw [(hh (t + 42 + 5 * s) (by omega) (by omega)).1, (hh (t + 44 + 5 * s) (by omega) (by omega)).2.1, (hh (t + 46 + 5 * s) (by omega) (by omega)).2.1]
    exact hE s hs
  · rw [(hh (t + 5) (by omega) (by omega)).2.1, (hh (t + 7) (by omega) (by omega)).2.1, (hh (t + 9) (by omega) (by omega)).2.1, (hh (t + 11) (by omega) (by omega)).2.1]
    exact hJ j hj
theorem M_keep {b sd : Nat} {dt d : q_Dt} {T : q_Tl} (h : q_M b sd dt T) (h18 : d.1 b 18 = dt.1 b 18) (hh : ∀ x, b + 11 ≤ x → x < b + 37 → d.1 x = dt.1 x) : q_M b sd d T := by
  unfold q_M q_M0 q_MC q_MH q_MS q_ME q_MJ at h ⊢
  rw [h18, hh (b + 11) (by omega) (by omega), hh (b + 14) (by omega) (by omega), hh (b + 18) (by omega) (by omega), hh (b + 25) (by omega) (by omega), hh (b + 29) (by omega) (by omega), hh (b + 34) (by omega) (by omega), hh (b + 35) (by omega) (by omega), hh (b + 36) (by omega) (by omega), hh (b + 12) (by omega) (by omega), hh (b + 13) (by omega) (by omega), hh (b + 15) (by omega) (by omega), hh (b + 16) (by omega) (by omega), hh (b + 17) (by omega) (by omega), hh (b + 19) (by omega) (by omega), hh (b + 20) (by omega) (by omega), hh (b + 21) (by omega) (by omega), hh (b + 22) (by omega) (by omega), hh (b + 23) (by omega) (by omega), hh (b + 24) (by omega) (by omega), hh (b + 26) (by omega) (by omega), hh (b + 27) (by omega) (by omega), hh (b + 28) (by omega) (by omega), hh (b + 30) (by omega) (by omega), hh (b + 31) (by omega) (by omega), hh (b + 32) (by omega) (by omega), hh (b + 33) (by omega) (by omega)]
  exact h
theorem q_gb_up {k k2 : Nat} {T : q_Tl} {g : Nat → Nat → Int} (h : q_gb k T g) (hk : k ≤ k2) : q_gb k2 T g := ⟨fun a i => by have := h.1 a i; omega, h.2⟩
theorem R_keep {k b1 b2 : Nat} {dt1 dt2 d1 d2 : q_Dt} (h : q_Rel k b1 b2 dt1 dt2) (e1 : q_e1 b1 dt1 d1) (e2 : q_e2 b2 dt2 d2) : q_Rel (k + 1) b1 b2 d1 d2 := by
  obtain ⟨T, t, sd, g, hT, hM, ho, hs, hn, hg, ⟨L, by', hL, hL1, hL2, hL3⟩, ⟨M, hM8, hM9, hM3⟩, hk, hp⟩ := h
  have ht := hT.2.1
  refine ⟨T, t, sd, g, T_keep hT (fun x h1 h2 => e1 x (by omega)), M_keep hM (e2.2.1 18 (by omega)) (fun x h1 h2 => e2.1 x (by omega) (by omega) (by omega) (by omega)), ?_, ?_, ?_, q_gb_up hg (by omega), ⟨L, by', hL, ?_, ?_, ?_⟩, ⟨M, hM8, ?_, ?_⟩, ?_, ?_⟩
  · unfold q_own
    rw [(e1 b1 (by omega)).2.2]
    exact ho
  · unfold q_sig
    rw [(e1 (b1 + 21) (by omega)).1, (e1 (b1 + 21 + 2) (by omega)).2.1, (e1 (b1 + 21 + 4) (by omega)).2.1]
    exact hs
  · unfold q_now
    rw [e2.1 (b2 + 39) (by omega) (by omega) (by omega) (by omega)]
    exact hn
  · rw [(e1 (b1 + 2) (by omega)).1]
    exact hL1
  · rw [e2.2.1 2 (by omega)]
    exact hL2
  · rw [(e1 (b1 + 4) (by omega)).2.1, e2.1 (b2 + 1) (by omega) (by omega) (by omega) (by omega)]
    exact hL3
  · rw [(e1 b1 (by omega)).1]
    exact hM9
  · intro s hs3
    rw [e2.1 (b2 + 49) (by omega) (by omega) (by omega) (by omega), e2.1 (b2 + 50) (by omega) (by omega) (by omega) (by omega)]
    refine ⟨(hM3 s hs3).1, fun hm => ?_⟩
    obtain ⟨g2, hg1, hg2, hg3⟩ := (hM3 s hs3).2 hm
    refine ⟨g2, ?_, q_gb_up hg2 (by omega), hg3⟩
    unfold q_sig
    rw [(e1 (b1 + 221 + 5 * s) (by omega)).1, (e1 (b1 + 221 + 5 * s + 2) (by omega)).2.1, (e1 (b1 + 221 + 5 * s + 4) (by omega)).2.1]
    exact hg1
  · unfold q_Rkk
    rw [(e1 (b1 + 12) (by omega)).2.1, e2.2.2 (b2 + 7) (by omega), e2.1 (b2 + 12) (by omega) (by omega) (by omega) (by omega)]
    exact hk
  · rw [(e1 b1 (by omega)).1, e2.2.1 17 (by omega)]
    exact hp
theorem R_up {k b1 b2 : Nat} {dt1 dt2 : q_Dt} (h : q_Rel k b1 b2 dt1 dt2) : q_Rel (k + 1) b1 b2 dt1 dt2 := R_keep h q_e1_r q_e2_r
