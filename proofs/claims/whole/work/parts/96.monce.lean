/-! level two: all at once, the check -/
/-- bits laid in a row of bytes -/
def q_bl (x : Nat) (d : q_Dt) (T : q_Tl) (m : Nat) (R : Nat → Nat → Int) : Prop := ∀ s, s < m → ∀ p, p < 512 → d.1 x (512 * s + p) = q_lb T s (R s) p
def q_fq (b : Nat) (dt d : q_Dt) : Prop := (∀ x, x ≠ b + 38 → x ≠ b + 40 → x ≠ b + 48 → d.1 x = dt.1 x) ∧ (∀ x, x ≠ b + 47 → d.2.1 x = dt.2.1 x) ∧ d.2.2 = dt.2.2
theorem q_fq_r {b : Nat} {dt : q_Dt} : q_fq b dt dt := ⟨fun _ _ _ _ => rfl, fun _ _ => rfl, rfl⟩
theorem q_fq_t {b : Nat} {dt d e : q_Dt} (h : q_fq b dt d) (h' : q_fq b d e) : q_fq b dt e := ⟨fun x h1 h2 h3 => (h'.1 x h1 h2 h3).trans (h.1 x h1 h2 h3), fun x hx => (h'.2.1 x hx).trans (h.2.1 x hx), h'.2.2.trans h.2.2⟩
theorem q_fq_w {b : Nat} {dt d : q_Dt} (h : q_fq b dt d) : q_fk b dt d := ⟨fun x hx => h.1 x (by omega) (by omega) (by omega), h.2.1, h.2.2⟩
theorem q_fq_x {b x : Nat} {dt d : q_Dt} (h : q_fx x dt d) (hx : x = b + 38 ∨ x = b + 40) : q_fq b dt d := ⟨fun y h1 h2 _ => h.1 y (by omega), fun y _ => by rw [h.2], by rw [h.2]⟩
theorem q_fq_s {b : Nat} {dt d : q_Dt} (h : q_fs b dt d) : q_fq b dt d := ⟨fun x _ _ h3 => h.1 x h3, h.2.1, h.2.2⟩
theorem q_fq_i {b x off n : Nat} {dt : q_Dt} {f : Nat → Int32} (hx : x = b + 38 ∨ x = b + 40) : q_fq b dt (q_irow dt x off n f) := ⟨fun y h1 h2 _ => q_irow_o (by omega), fun _ _ => rfl, rfl⟩
theorem M_rdL {b sd s : Nat} {d : q_Dt} {T : q_Tl} {rs : Nat → Int} {v : Int32} (hM : q_M b sd d T) (hs : s < Tns T) (h : q_hs b d T s rs) (hb : ∀ p, -9223372036854775808 ≤ rs p ∧ rs p < 9223372036854775808) : X12_readsAll_b12 (A2 b) b (wI s) v q_FU 0 d = some (v, q_irow d (b + 38) (512 * s) 512 (q_lb T s rs)) := by
  have hN := hM.1.1
  have hl : ∀ n i k : Nat, i + n = 512 → n < k → X12_readsAll_b12 (A2 b) b (wI s) v k (wI i) (q_irow d (b + 38) (512 * s) i (q_lb T s rs)) = some (v, q_irow d (b + 38) (512 * s) 512 (q_lb T s rs)) := by
    intro n
    induction n with
    | zero =>
      intro i k z1 z2 
      obtain ⟨k, rfl⟩ : ∃ m, k = m + 1 := ⟨k - 1, by omega⟩
      have e : i = 512 := by omega
      rw [X12_readsAll_b12.eq_2, show (512 : Int32) = wI (512 : Nat) from rfl, e]
      simp only [q_leT (Nat.le_refl 512) (show 512 < 2147483648 by omega), ↓reduceIte]
    | succ n ih =>
      intro i k z1 z2 
      obtain ⟨k, rfl⟩ : ∃ m, k = m + 1 := ⟨k - 1, by omega⟩
      have hi : i < 512 := by omega
      have hih := ih (i + 1) k (by omega) (by omega)
      have hh : q_hs b (q_irow d (b + 38) (512 * s) i (q_lb T s rs)) T s rs := ⟨h.1, fun p hp => by rw [q_irow_o (by omega)]; exact h.2 p hp⟩
      have hbo := M_bitOf hh hi (hb i).1 (hb i).2
      have e4 : (512 : Int32) * wI s + wI i = wI (512 * s + i : Nat) := by
        rw [show (512 : Int32) = wI (512 : Nat) from rfl, wI_mul, wI_add]
        rfl
      have hs1 := q_sgb1_b (rs i)
      have hfin : ∀ w : Int32, Int8.toInt32 (Int32.toInt8 (Int8.toInt32 (Int32.toInt8 w))) = q_lb T s rs i → X12_readsAll_b48 (A2 b) (X12_readsAll_b12 (A2 b) b (wI s) v k) b (wI s) v (wI i) (b + 38) (wI (512 * s + i : Nat)) w (q_irow d (b + 38) (512 * s) i (q_lb T s rs)) = some (v, q_irow d (b + 38) (512 * s) 512 (q_lb T s rs)) := by
        intro w hv
        unfold X12_readsAll_b48
        rw [hv, n52, q_nn (show 512 * s + i < 2147483648 by omega)]
        simp only [q_ge (show 512 * s + i < 3072 by omega) (show 3072 < 2147483648 by omega), ↓reduceIte, o1s, q_n1]
        rw [q_irow_s]
        exact hih
      rw [X12_readsAll_b12.eq_2, m64, n64, m52, e4, q_nn (show i < 2147483648 by omega), hh.2 i hi, hbo, show (512 : Int32) = wI (512 : Nat) from rfl]
      simp only [q_leF hi (show 512 < 2147483648 by omega), q_ge hi (show 512 < 2147483648 by omega), ↓reduceIte, b1s]
      by_cases hp : i < q_np T s
      · rw [if_pos hp, if_neg (show ¬ (1 : Int32) = 0 by decide), if_pos hp]
        refine hfin _ ?_
        rw [q_by1 hs1]
        unfold q_lb
        rw [if_pos hp]
      · rw [if_neg hp, if_pos rfl]
        refine hfin _ ?_
        unfold q_lb
        rw [if_neg hp]
        rfl
  have h0 := hl 512 0 q_FU (by omega) (by unfold q_FU; omega)
  rw [q_irow_0] at h0
  exact h0
theorem M_readsAll {b sd s : Nat} {dt : q_Dt} {T : q_Tl} {g : Nat → Nat → Int} (hM : q_M b sd dt T) (hs : s < Tns T) (hg : q_now (b + 40) dt g) (hb : ∀ a i, -4000000 ≤ g a i ∧ g a i ≤ 4000000) : ∃ d', X12_readsAll (A2 b) dt b (wI s) = some (wI (q_wr T s (q_rs T g s) (q_np T s)), d') ∧ (∀ p, p < 512 → d'.1 (b + 38) (512 * s + p) = q_lb T s (q_rs T g s) p) ∧ (∀ j, j < 512 * s → d'.1 (b + 38) j = dt.1 (b + 38) j) ∧ q_fq b dt d' := by
  obtain ⟨d1, p1, p2, p3⟩ := M_wrong hM hs (n54 b) (by omega) hg hb
  have hM1 := M_fs hM p2
  have hL := M_rdL (v := wI (q_wr T s (q_rs T g s) (q_np T s))) hM1 hs p3 (fun p => by have := q_rs_b (p := p) hM.1 hs hb; omega)
  refine ⟨_, ?_, fun p hp => q_irow_i hp, fun j hj => ?_, q_fq_t (q_fq_s p2) (q_fq_i (x := b + 38) (off := 512 * s) (n := 512) (f := q_lb T s (q_rs T g s)) (Or.inl rfl))⟩
  · unfold X12_readsAll
    rw [m54, p1, b2s]
    exact hL
  · rw [q_irow_u (Or.inl hj), p2.1 (b + 38) (by omega)]
theorem M_ocopy {b : Nat} {dt : q_Dt} {x1 x2 x3 x4 : Int32} (kA kB : Int32 → Int32 → q_Dt → Option (Int32 × q_Dt)) : X12_atOnce_b74 (A2 b) kA kB b x1 x2 x3 x4 q_FU 0 dt = X12_atOnce_b105 (A2 b) kA kB b x1 x2 x3 x4 q_FU 0 (q_irow dt (b + 40) 0 1024 (dt.1 (b + 39))) := by
  have hl : ∀ n i k : Nat, i + n = 1024 → n < k → X12_atOnce_b74 (A2 b) kA kB b x1 x2 x3 x4 k (wI i) (q_irow dt (b + 40) 0 i (dt.1 (b + 39))) = X12_atOnce_b105 (A2 b) kA kB b x1 x2 x3 x4 q_FU 0 (q_irow dt (b + 40) 0 1024 (dt.1 (b + 39))) := by
    intro n
    induction n with
    | zero =>
      intro i k z1 z2 
      obtain ⟨k, rfl⟩ : ∃ m, k = m + 1 := ⟨k - 1, by omega⟩
      have e : i = 1024 := by omega
      rw [X12_atOnce_b74.eq_2, show (1024 : Int32) = wI (1024 : Nat) from rfl, e]
      simp only [q_leT (Nat.le_refl 1024) (show 1024 < 2147483648 by omega), ↓reduceIte]
    | succ n ih =>
      intro i k z1 z2 
      obtain ⟨k, rfl⟩ : ∃ m, k = m + 1 := ⟨k - 1, by omega⟩
      have hi : i < 1024 := by omega
      have hih := ih (i + 1) k (by omega) (by omega)
      have es := q_irow_s dt (b + 40) 0 i (dt.1 (b + 39))
      rw [Nat.zero_add] at es
      rw [X12_atOnce_b74.eq_2, m53, m54, n53, n54, q_nn (show i < 2147483648 by omega), show (1024 : Int32) = wI (1024 : Nat) from rfl]
      simp only [q_leF hi (show 1024 < 2147483648 by omega), q_ge hi (show 1024 < 2147483648 by omega), ↓reduceIte, o1s, q_n1]
      rw [q_irow_o (show b + 39 ≠ b + 40 by omega), es]
      exact hih
  have h0 := hl 1024 0 q_FU (by omega) (by unfold q_FU; omega)
  rw [q_irow_0] at h0
  exact h0
theorem q_now_cp {b : Nat} {dt : q_Dt} {g : Nat → Nat → Int} (hg : q_now (b + 39) dt g) : q_now (b + 40) (q_irow dt (b + 40) 0 1024 (dt.1 (b + 39))) g := by
  intro i hi
  have h7 := hg i hi
  have k1 := q_irow_i (dt := dt) (arr := b + 40) (off := 0) (n := 1024) (j := i) (f := dt.1 (b + 39)) (by omega)
  have k2 := q_irow_i (dt := dt) (arr := b + 40) (off := 0) (n := 1024) (j := 512 + i) (f := dt.1 (b + 39)) (by omega)
  rw [Nat.zero_add] at k1 k2
  rw [k1, k2]
  exact h7
theorem M_oW1 {b sd s : Nat} {d : q_Dt} {T : q_Tl} {x1 x2 : Int32} (kA kB : Int32 → Int32 → q_Dt → Option (Int32 × q_Dt)) (hM : q_M b sd d T) : X12_atOnce_b105 (A2 b) kA kB b x1 x2 1 (wI s) q_FU 0 d = X12_atOnce_b148 (A2 b) kA kB b x1 x2 1 (wI s) d := by
  have hN := hM.1.1
  obtain ⟨u1, u2, -, -, u3, -⟩ := hM.2.1
  obtain ⟨k0, hk0⟩ : ∃ k0, q_FU = k0 + 1 := ⟨q_FU - 1, by unfold q_FU; omega⟩
  rw [hk0, X12_atOnce_b105.eq_2, m31, n31, u2, q_nn (show sd < 2147483648 by omega), u3]
  simp only [q_ge u1 (show 2 < 2147483648 by omega), ↓reduceIte]
  rw [if_pos (show (1 : Int32) ≤ 1 by decide), ite_self]
theorem M_oW2 {b sd s c : Nat} {dt : q_Dt} {T : q_Tl} {g : Nat → Nat → Int} {R : Nat → Nat → Int} {x1 x2 : Int32} (kA kB : Int32 → Int32 → q_Dt → Option (Int32 × q_Dt)) (hM : q_M b sd dt T) (hc : 2 ≤ c) (hc2 : c < 100) (hs : s < Tns T) (hg : q_now (b + 40) dt g) (hR : q_bl (b + 37) dt T (Tns T) R) (hRz : ∀ s, s < Tns T → ∀ p, q_np T s ≤ p → R s p = 0) : ∃ d', X12_atOnce_b105 (A2 b) kA kB b x1 x2 (wI c) (wI s) q_FU 0 dt = X12_atOnce_b148 (A2 b) kA kB b x1 x2 (wI c) (wI s) d' ∧ q_now (b + 40) d' (q_Gx T g R s (Tns T)) ∧ q_fx (b + 40) dt d' := by
  have hN := hM.1.1
  have kc : (wI c ≤ 1) = False := q_leF (a := c) (b := 1) (by omega) (by omega)
  have hl : ∀ n i k : Nat, i + n = Tns T → n < k → ∀ d, q_fx (b + 40) dt d → q_now (b + 40) d (q_Gx T g R s i) → ∃ d', X12_atOnce_b105 (A2 b) kA kB b x1 x2 (wI c) (wI s) k (wI i) d = X12_atOnce_b148 (A2 b) kA kB b x1 x2 (wI c) (wI s) d' ∧ q_now (b + 40) d' (q_Gx T g R s (Tns T)) ∧ q_fx (b + 40) dt d' := by
    intro n
    induction n with
    | zero =>
      intro i k z1 z2 
      obtain ⟨k, rfl⟩ : ∃ m, k = m + 1 := ⟨k - 1, by omega⟩
      have e : i = Tns T := by omega
      intro d q1 q2
      rw [e] at q2
      refine ⟨d, ?_, q2, q1⟩
      have hM1 := M_fx hM q1 (by omega)
      obtain ⟨u1, u2, -, -, u3, -⟩ := hM1.2.1
      rw [X12_atOnce_b105.eq_2, m31, n31, u2, q_nn (show sd < 2147483648 by omega), u3, e]
      simp only [q_ge u1 (show 2 < 2147483648 by omega), q_leT (Nat.le_refl (Tns T)) (show Tns T < 2147483648 by omega), ↓reduceIte]
    | succ n ih =>
      intro i k z1 z2 
      obtain ⟨k, rfl⟩ : ∃ m, k = m + 1 := ⟨k - 1, by omega⟩
      have hi : i < Tns T := by omega
      intro d q1 q2
      have hM1 := M_fx hM q1 (by omega)
      have hM1' := hM1
      obtain ⟨u1, u2, -, -, u3, -⟩ := hM1'.2.1
      have kE : (wI i = wI s) = (i = s) := by
        rw [wI_eq (by omega) (by omega) (by omega) (by omega)]
        exact propext ⟨fun q => by omega, fun q => by omega⟩
      rw [X12_atOnce_b105.eq_2, m31, n31, u2, q_nn (show sd < 2147483648 by omega), u3, m54]
      simp only [q_ge u1 (show 2 < 2147483648 by omega), q_leF hi (show Tns T < 2147483648 by omega), ↓reduceIte, kc, kE, X12_atOnce_b142, q_n1]
      by_cases es : i = s
      · rw [if_pos es]
        refine ih (i + 1) k (by omega) (by omega) d q1 ?_
        rw [es, q_Gx_e]
        rw [es] at q2
        exact q2
      · rw [if_neg es]
        obtain ⟨d1, r1, r2, r3⟩ := M_wave (tb := q_rsb R i) (f := -1) hM1 (n54 b) (by omega) q2 hi (by omega) (fun p hp => by
          rw [q1.1 (b + 37) (by omega), hR i hi p hp, q_lb_e (fun h => hRz i hi p h)]
          rfl)
        rw [q_Gx_s T g R es] at r2
        obtain ⟨d', v1, v2⟩ := ih (i + 1) k (by omega) (by omega) d1 (q_fx_t q1 r3) r2
        refine ⟨d', ?_, v2⟩
        rw [show (-1 : Int32) = wI (-1) from rfl, r1, b1s]
        exact v1
  exact hl (Tns T) 0 q_FU (by omega) (by unfold q_FU; omega) dt q_fx_r (by rw [q_Gx_0]; exact hg)
theorem M_oS {b sd c : Nat} {dt : q_Dt} {T : q_Tl} {g : Nat → Nat → Int} {V : Nat → Nat → Nat → Int} {x1 : Int32} (kA : Int32 → Int32 → q_Dt → Option (Int32 × q_Dt)) (hM : q_M b sd dt T) (hg : q_now (b + 39) dt g) (hV : ∀ s, s < Tns T → ∀ a i, -4000000 ≤ V s a i ∧ V s a i ≤ 4000000)
    (hst : ∀ s, s < Tns T → ∀ (kB : Int32 → Int32 → q_Dt → Option (Int32 × q_Dt)) (x2 : Int32) d, q_fq b dt d → q_now (b + 40) d g → ∃ d', X12_atOnce_b105 (A2 b) kA kB b x1 x2 (wI c) (wI s) q_FU 0 d = X12_atOnce_b148 (A2 b) kA kB b x1 x2 (wI c) (wI s) d' ∧ q_now (b + 40) d' (V s) ∧ q_fx (b + 40) d d') :
    ∃ d', X12_atOnce_b57 (A2 b) kA b x1 (wI c) q_FU 0 0 dt = kA (wI (q_aw T (fun s => q_rs T (V s) s) (Tns T))) (wI (c + 1 : Nat)) d' ∧ q_bl (b + 38) d' T (Tns T) (fun s => q_rs T (V s) s) ∧ q_fq b dt d' := by
  have hN := hM.1.1
  have hl : ∀ n i k : Nat, i + n = Tns T → n < k → ∀ d, q_fq b dt d → q_bl (b + 38) d T i (fun s => q_rs T (V s) s) → ∃ d', X12_atOnce_b57 (A2 b) kA b x1 (wI c) k (wI (q_aw T (fun s => q_rs T (V s) s) i)) (wI i) d = kA (wI (q_aw T (fun s => q_rs T (V s) s) (Tns T))) (wI (c + 1 : Nat)) d' ∧ q_bl (b + 38) d' T (Tns T) (fun s => q_rs T (V s) s) ∧ q_fq b dt d' := by
    intro n
    induction n with
    | zero =>
      intro i k z1 z2 
      obtain ⟨k, rfl⟩ : ∃ m, k = m + 1 := ⟨k - 1, by omega⟩
      have e : i = Tns T := by omega
      intro d q1 q2
      rw [e] at q2
      refine ⟨d, ?_, q2, q1⟩
      have hM1 := M_fw hM (q_fq_w q1)
      obtain ⟨u1, u2, -, -, u3, -⟩ := hM1.2.1
      rw [X12_atOnce_b57.eq_2, m31, n31, u2, q_nn (show sd < 2147483648 by omega), u3, e]
      simp only [q_ge u1 (show 2 < 2147483648 by omega), q_leT (Nat.le_refl (Tns T)) (show Tns T < 2147483648 by omega), ↓reduceIte, q_n1]
    | succ n ih =>
      intro i k z1 z2 
      obtain ⟨k, rfl⟩ : ∃ m, k = m + 1 := ⟨k - 1, by omega⟩
      have hi : i < Tns T := by omega
      intro d q1 q2
      have hM1 := M_fw hM (q_fq_w q1)
      have hM1' := hM1
      obtain ⟨u1, u2, -, -, u3, -⟩ := hM1'.2.1
      have hgd : q_now (b + 39) d g := by
        unfold q_now
        rw [q1.1 (b + 39) (by omega) (by omega) (by omega)]
        exact hg
      have fc : q_fq b d (q_irow d (b + 40) 0 1024 (d.1 (b + 39))) := q_fq_i (Or.inr rfl)
      obtain ⟨d1, r1, r2, r3⟩ := hst i hi (X12_atOnce_b57 (A2 b) kA b x1 (wI c) k) (wI (q_aw T (fun s => q_rs T (V s) s) i)) _ (q_fq_t q1 fc) (q_now_cp hgd)
      have f3 : q_fq b d d1 := q_fq_t fc (q_fq_x r3 (Or.inr rfl))
      have hM2 := M_fw hM1 (q_fq_w f3)
      obtain ⟨d2, w1, w2, w3, w4⟩ := M_readsAll hM2 hi r2 (hV i hi)
      obtain ⟨d', v1, v2⟩ := ih (i + 1) k (by omega) (by omega) d2 (q_fq_t (q_fq_t q1 f3) w4) (fun s hs p hp => by
        by_cases es : s = i
        · rw [es]
          exact w2 p hp
        · rw [w3 _ (by omega), r3.1 (b + 38) (by omega), q_irow_o (by omega)]
          exact q2 s (by omega) p hp)
      refine ⟨d', ?_, v2⟩
      rw [X12_atOnce_b57.eq_2, m31, n31, u2, q_nn (show sd < 2147483648 by omega), u3, M_ocopy, r1]
      simp only [q_ge u1 (show 2 < 2147483648 by omega), q_leF hi (show Tns T < 2147483648 by omega), ↓reduceIte]
      unfold X12_atOnce_b148
      rw [w1, b2s, wI_add, q_n1]
      exact v1
  exact hl (Tns T) 0 q_FU (by omega) (by unfold q_FU; omega) dt q_fq_r (fun s hs => absurd hs (by omega))
theorem M_olay {b : Nat} {dt : q_Dt} {x1 x2 x3 : Int32} (kA : Int32 → Int32 → q_Dt → Option (Int32 × q_Dt)) : X12_atOnce_b26 (A2 b) kA b x1 x2 x3 q_FU 0 dt = X12_atOnce_b57 (A2 b) kA b x1 x3 q_FU x2 0 (q_irow dt (b + 37) 0 3072 (fun j => Int8.toInt32 (Int32.toInt8 (dt.1 (b + 38) j)))) := by
  have hl : ∀ n i k : Nat, i + n = 3072 → n < k → X12_atOnce_b26 (A2 b) kA b x1 x2 x3 k (wI i) (q_irow dt (b + 37) 0 i (fun j => Int8.toInt32 (Int32.toInt8 (dt.1 (b + 38) j)))) = X12_atOnce_b57 (A2 b) kA b x1 x3 q_FU x2 0 (q_irow dt (b + 37) 0 3072 (fun j => Int8.toInt32 (Int32.toInt8 (dt.1 (b + 38) j)))) := by
    intro n
    induction n with
    | zero =>
      intro i k z1 z2 
      obtain ⟨k, rfl⟩ : ∃ m, k = m + 1 := ⟨k - 1, by omega⟩
      have e : i = 3072 := by omega
      rw [X12_atOnce_b26.eq_2, show (3072 : Int32) = wI (3072 : Nat) from rfl, e]
      simp only [q_leT (Nat.le_refl 3072) (show 3072 < 2147483648 by omega), ↓reduceIte]
    | succ n ih =>
      intro i k z1 z2 
      obtain ⟨k, rfl⟩ : ∃ m, k = m + 1 := ⟨k - 1, by omega⟩
      have hi : i < 3072 := by omega
      have hih := ih (i + 1) k (by omega) (by omega)
      have es := q_irow_s dt (b + 37) 0 i (fun j => Int8.toInt32 (Int32.toInt8 (dt.1 (b + 38) j)))
      rw [Nat.zero_add] at es
      rw [X12_atOnce_b26.eq_2, m51, m52, n51, n52, q_nn (show i < 2147483648 by omega), show (3072 : Int32) = wI (3072 : Nat) from rfl]
      simp only [q_leF hi (show 3072 < 2147483648 by omega), q_ge hi (show 3072 < 2147483648 by omega), ↓reduceIte, o1s, q_n1]
      rw [q_irow_o (show b + 38 ≠ b + 37 by omega), es]
      exact hih
  have h0 := hl 3072 0 q_FU (by omega) (by unfold q_FU; omega)
  rw [q_irow_0] at h0
  exact h0
theorem q_lb_8 (T : q_Tl) (s : Nat) (rs : Nat → Int) (p : Nat) : Int8.toInt32 (Int32.toInt8 (q_lb T s rs p)) = q_lb T s rs p := by
  unfold q_lb
  have h := q_sgb1_b (rs p)
  have e : ∀ n : Nat, n < 2 → Int8.toInt32 (Int32.toInt8 (wI n)) = wI n := by
    intro n hn
    rcases (show n = 0 ∨ n = 1 by omega) with rfl | rfl <;> rfl
  by_cases h2 : p < q_np T s
  · rw [if_pos h2]
    exact e _ h
  · rw [if_neg h2]
    exact e 0 (by omega)
theorem M_once {b sd r : Nat} {dt : q_Dt} {T : q_Tl} {g : Nat → Nat → Int} (hM : q_M b sd dt T) (hg : q_now (b + 39) dt g) (hb : ∀ a i, -3300000 ≤ g a i ∧ g a i ≤ 3300000) (hr : 1 ≤ r) (hr6 : r ≤ 6) : ∃ d', X12_atOnce_b16 (A2 b) b (wI r) q_FU 0 1 dt = some (wI (q_aw T (q_ao T g (r - 1)) (Tns T)), d') ∧ q_fk b dt d' := by
  have hN := hM.1.1
  have hb4 : ∀ a i, -4000000 ≤ g a i ∧ g a i ≤ 4000000 := fun a i => by have := hb a i; omega
  have hlt : ∀ c : Nat, c < 100 → (wI r < wI c) = (r < c) := fun c hc => by
    rw [wI_lt (by omega) (by omega) (by omega) (by omega)]
    exact propext ⟨fun q => by omega, fun q => by omega⟩
  have hfl : ∀ d : q_Dt, q_fk b d (q_irow d (b + 37) 0 3072 (fun j => Int8.toInt32 (Int32.toInt8 (d.1 (b + 38) j)))) := fun d => q_fk_w (Or.inl rfl)
  have hgk : ∀ d, q_fk b dt d → q_now (b + 39) d g := fun d h => by
    unfold q_now
    rw [h.1 (b + 39) (by omega)]
    exact hg
  have hl : ∀ n i k : Nat, i + n = r - 1 → n < k → ∀ d, q_fk b dt d → q_bl (b + 38) d T (Tns T) (q_ao T g i) → ∃ d', X12_atOnce_b16 (A2 b) b (wI r) k (wI (q_aw T (q_ao T g i) (Tns T))) (wI (i + 2 : Nat)) d = some (wI (q_aw T (q_ao T g (r - 1)) (Tns T)), d') ∧ q_fk b dt d' := by
    intro n
    induction n with
    | zero =>
      intro i k z1 z2 
      obtain ⟨k, rfl⟩ : ∃ m, k = m + 1 := ⟨k - 1, by omega⟩
      have e : i = r - 1 := by omega
      intro d q1 q2
      refine ⟨d, ?_, q1⟩
      rw [X12_atOnce_b16.eq_2, if_pos (show wI r < wI (i + 2 : Nat) by rw [hlt _ (by omega)]; omega), e]
    | succ n ih =>
      intro i k z1 z2 
      obtain ⟨k, rfl⟩ : ∃ m, k = m + 1 := ⟨k - 1, by omega⟩
      have hi : i < r - 1 := by omega
      intro d q1 q2
      have hM1 := M_fw hM q1
      have hM2 := M_fw hM1 (hfl d)
      have hfw2 := q_fk_t q1 (hfl d)
      have hbl : q_bl (b + 37) (q_irow d (b + 37) 0 3072 (fun j => Int8.toInt32 (Int32.toInt8 (d.1 (b + 38) j)))) T (Tns T) (q_ao T g i) := fun s hs p hp => by
        have k1 := q_irow_i (dt := d) (arr := b + 37) (off := 0) (n := 3072) (j := 512 * s + p) (f := fun j => Int8.toInt32 (Int32.toInt8 (d.1 (b + 38) j))) (by omega)
        rw [Nat.zero_add] at k1
        rw [k1, q2 s hs p hp]
        exact q_lb_8 T s _ p
      obtain ⟨d1, r1, r2, r3⟩ := M_oS (c := i + 2) (V := fun s => q_Gx T g (q_ao T g i) s (Tns T)) (x1 := wI r) (X12_atOnce_b16 (A2 b) b (wI r) k) hM2 (hgk _ hfw2) (fun s hs => q_Gx_b hM.1 (Nat.le_refl (Tns T)) hb) (fun s hs kB x2 d3 h1 h2 => M_oW2 _ kB (M_fw hM2 (q_fq_w h1)) (by omega) (by omega) hs h2 (fun s' hs' p hp => by
        rw [h1.1 (b + 37) (by omega) (by omega) (by omega)]
        exact hbl s' hs' p hp) (fun s' hs' p hp => q_ao_z hM.1 i hs' hp))
      obtain ⟨d', v1, v2⟩ := ih (i + 1) k (by omega) (by omega) d1 (q_fk_t hfw2 (q_fq_w r3)) r2
      refine ⟨d', ?_, v2⟩
      rw [X12_atOnce_b16.eq_2, if_neg (show ¬ wI r < wI (i + 2 : Nat) by rw [hlt _ (by omega)]; omega), M_olay, r1]
      exact v1
  obtain ⟨k0, hk0⟩ : ∃ k0, q_FU = k0 + 1 := ⟨q_FU - 1, by unfold q_FU; omega⟩
  have hk1 : 100 < k0 := by unfold q_FU at hk0; omega
  have hM2 := M_fw hM (hfl dt)
  obtain ⟨d1, r1, r2, r3⟩ := M_oS (c := 1) (V := fun _ => g) (x1 := wI r) (X12_atOnce_b16 (A2 b) b (wI r) k0) hM2 (hgk _ (hfl dt)) (fun s hs => hb4) (fun s hs kB x2 d3 h1 h2 => ⟨d3, M_oW1 _ kB (M_fw hM2 (q_fq_w h1)), h2, q_fx_r⟩)
  obtain ⟨d', v1, v2⟩ := hl (r - 1) 0 k0 (by omega) (by omega) d1 (q_fk_t (hfl dt) (q_fq_w r3)) r2
  refine ⟨d', ?_, v2⟩
  rw [hk0, X12_atOnce_b16.eq_2, show (1 : Int32) = wI (1 : Nat) from rfl, if_neg (show ¬ wI r < wI (1 : Nat) by rw [hlt 1 (by omega)]; omega), M_olay, r1]
  exact v1
theorem R_atOnce : q_c_atOnce q_Rel := by
  intro k b1 b2 dt1 dt2 a0 hk hR
  obtain ⟨x, rfl, hx1, hx2⟩ := q_arg a0
  have hR' := hR
  obtain ⟨T, tt, sd, g, hT, hM, ho, hs, hn, hg, -⟩ := hR'
  have hb := q_gb_i hg (by omega)
  have hN := hT.1.1
  have n10 : ¬ (1 : Int32) = 0 := by decide
  have z1 : (wI x < 1) = (x < 1) := by
    rw [show (1 : Int32) = wI 1 from rfl, wI_lt hx1 hx2 (by omega) (by omega)]
  have z6 : (wI x ≤ 6) = (x ≤ 6) := by
    rw [show (6 : Int32) = wI 6 from rfl, wI_le hx1 hx2 (by omega) (by omega)]
  have i1 : X12_in (wI x) 1 6 = some (if 1 ≤ x ∧ x ≤ 6 then 1 else 0) := M_in (a := 1) (b := 6) hx1 hx2 (by omega) (by omega) (by omega) (by omega)
  show ∃ r d1 d2, X11_atOnce (A1 b1) dt1 b1 (wI x) = some (r, d1) ∧ X12_atOnce (A2 b2) dt2 b2 (wI x) = some (r, d2) ∧ _
  unfold X11_atOnce X12_atOnce X11_atOnce_b11
  rw [ho.1, o1s, s0_5, s0_1, i1, b1s]
  simp only [z1, z6]
  by_cases hc : 1 ≤ x ∧ x ≤ 6
  · obtain ⟨r, rfl⟩ := Int.eq_ofNat_of_zero_le (show 0 ≤ x by omega)
    obtain ⟨d1, p1, p2⟩ := T_once (r := r) hT hs hg.2 hb (by omega) (by omega)
    obtain ⟨d2, r1, r2⟩ := M_once (r := r) hM hn hb (by omega) (by omega)
    refine ⟨wI (q_aw T (q_ao T g (r - 1)) (Tns T)), d1, d2, ?_, ?_, R_keep hR p2 (q_fk_e2 r2)⟩
    · rw [if_neg (by omega), if_pos hc.2, p1, b2s]
    · rw [if_pos hc, if_neg n10, r1]
  · refine ⟨-1, dt1, dt2, ?_, ?_, R_up hR⟩
    · by_cases h : x < 1
      · rw [if_pos h]
      · rw [if_neg h, if_neg (by omega)]
    · rw [if_neg hc, if_pos rfl]
