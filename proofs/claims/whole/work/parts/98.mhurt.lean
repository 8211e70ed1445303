/-! level two: hurt, the check -/
theorem q_inc_ap {T : q_Tl} {g : Nat → Nat → Int} {i : Nat} {A : Int} (h : i < TN T) : q_inc (TN T) g 0 i A = q_apt g i A := by
  funext a j
  show (if a = 0 ∧ j = i ∧ i < TN T then g a j + A else g a j) = g a j + if a = 0 ∧ j = i then A else 0
  by_cases h1 : a = 0 ∧ j = i
  · rw [if_pos ⟨h1.1, h1.2, h⟩, if_pos h1]
  · rw [if_neg (fun q => h1 ⟨q.1, q.2.1⟩), if_neg h1, Int.add_zero]
theorem M_hcopy {b : Nat} {dt : q_Dt} {x1 x2 x3 x4 x5 x6 x7 : Int32} (kA : Int32 → Int32 → Int32 → q_Dt → Option (Int32 × q_Dt)) : X12_hurt_b61 (A2 b) kA b x1 x2 x3 x4 x5 x6 x7 q_FU 0 dt = X12_hurt_b93 (A2 b) kA b x1 x2 x3 x4 x5 x6 x7 q_FU x7 (q_irow dt (b + 40) 0 1024 (dt.1 (b + 39))) := by
  have hl : ∀ n i k : Nat, i + n = 1024 → n < k → X12_hurt_b61 (A2 b) kA b x1 x2 x3 x4 x5 x6 x7 k (wI i) (q_irow dt (b + 40) 0 i (dt.1 (b + 39))) = X12_hurt_b93 (A2 b) kA b x1 x2 x3 x4 x5 x6 x7 q_FU x7 (q_irow dt (b + 40) 0 1024 (dt.1 (b + 39))) := by
    intro n
    induction n with
    | zero =>
      intro i k z1 z2 
      obtain ⟨k, rfl⟩ : ∃ m, k = m + 1 := ⟨k - 1, by omega⟩
      have e : i = 1024 := by omega
      rw [X12_hurt_b61.eq_2, show (1024 : Int32) = wI (1024 : Nat) from rfl, e]
      simp only [q_leT (Nat.le_refl 1024) (show 1024 < 2147483648 by omega), ↓reduceIte]
    | succ n ih =>
      intro i k z1 z2 
      obtain ⟨k, rfl⟩ : ∃ m, k = m + 1 := ⟨k - 1, by omega⟩
      have hi : i < 1024 := by omega
      have hih := ih (i + 1) k (by omega) (by omega)
      have es := q_irow_s dt (b + 40) 0 i (dt.1 (b + 39))
      rw [Nat.zero_add] at es
      rw [X12_hurt_b61.eq_2, m53, m54, n53, n54, q_nn (show i < 2147483648 by omega), show (1024 : Int32) = wI (1024 : Nat) from rfl]
      simp only [q_leF hi (show 1024 < 2147483648 by omega), q_ge hi (show 1024 < 2147483648 by omega), ↓reduceIte, o1s, q_n1]
      rw [q_irow_o (show b + 39 ≠ b + 40 by omega), es]
      exact hih
  have h0 := hl 1024 0 q_FU (by omega) (by unfold q_FU; omega)
  rw [q_irow_0] at h0
  exact h0
theorem M_hpulse {b sd f w : Nat} {dt : q_Dt} {T : q_Tl} {g : Nat → Nat → Int} {A : Int} {x1 x4 x5 x6 : Int32} (kA : Int32 → Int32 → Int32 → q_Dt → Option (Int32 × q_Dt)) (hM : q_M b sd dt T) (hf : f < TN T) (hw : w ≤ 99) (hg : q_now (b + 40) dt g) : ∃ d', X12_hurt_b93 (A2 b) kA b x1 (wI w) (wI A) x4 x5 x6 (wI f) q_FU (wI f) dt = X12_hurt_b128 (A2 b) kA b x1 (wI w) (wI A) x4 x5 x6 (wI f) d' ∧ q_now (b + 40) d' (q_pls T g f (f + w) A) ∧ q_fx (b + 40) dt d' := by
  have hN := hM.1.1
  have efw : wI f + wI w = wI (f + w : Nat) := wI_add _ _
  have hl : ∀ n i k : Nat, i + n = f + w → n < k → ∀ d, f ≤ i → q_fx (b + 40) dt d → q_now (b + 40) d (q_pls T g f i A) → ∃ d', X12_hurt_b93 (A2 b) kA b x1 (wI w) (wI A) x4 x5 x6 (wI f) k (wI i) d = X12_hurt_b128 (A2 b) kA b x1 (wI w) (wI A) x4 x5 x6 (wI f) d' ∧ q_now (b + 40) d' (q_pls T g f (f + w) A) ∧ q_fx (b + 40) dt d' := by
    intro n
    induction n with
    | zero =>
      intro i k z1 z2 
      obtain ⟨k, rfl⟩ : ∃ m, k = m + 1 := ⟨k - 1, by omega⟩
      have e : i = f + w := by omega
      intro d q0 q1 q2
      rw [e] at q2
      refine ⟨d, ?_, q2, q1⟩
      rw [X12_hurt_b93.eq_2, efw, e]
      simp only [q_leT (Nat.le_refl (f + w)) (show f + w < 2147483648 by omega), ↓reduceIte]
    | succ n ih =>
      intro i k z1 z2 
      obtain ⟨k, rfl⟩ : ∃ m, k = m + 1 := ⟨k - 1, by omega⟩
      have hi : i < f + w := by omega
      intro d q0 q1 q2
      have hM1 := M_fx hM q1 (by omega)
      rw [X12_hurt_b93.eq_2, efw, M_n hM1]
      simp only [q_leF hi (show f + w < 2147483648 by omega), ↓reduceIte, b1s]
      by_cases hN2 : i < TN T
      · have r2 := M_inc (a := 0) (v := A) q2 (show TN T ≤ 512 by omega) hN2 (by omega)
        rw [show 512 * 0 + i = i by omega, q_inc_ap hN2, q_pls_up q0 hN2] at r2
        rw [m54, n54, q_nn (show i < 2147483648 by omega)]
        simp only [q_leF hN2 (show TN T < 2147483648 by omega), q_ge (show i < 1024 by omega) (show 1024 < 2147483648 by omega), ↓reduceIte, o1s, q_n1]
        exact ih (i + 1) k (by omega) (by omega) _ (by omega) (q_fx_I q1) r2
      · refine ⟨d, ?_, ?_, q1⟩
        · simp only [q_leT (show TN T ≤ i by omega) (show i < 2147483648 by omega), ↓reduceIte]
        · rw [q_pls_N (hi := f + w) (hi' := i) (by omega) (by omega)]
          exact q2
  exact hl w f q_FU (by omega) (by unfold q_FU; omega) dt (Nat.le_refl f) q_fx_r (by rw [q_pls_0]; exact hg)
theorem M_hurtL {b sd s w : Nat} {dt : q_Dt} {T : q_Tl} {g : Nat → Nat → Int} {A : Int} {u : Int32} (hM : q_M b sd dt T) (hg : q_now (b + 39) dt g) (hs : s < Tns T) (hw : 1 ≤ w ∧ w ≤ 99) (hA : 1 ≤ A ∧ A ≤ 99) (hb : ∀ a i, -3300000 ≤ g a i ∧ g a i ≤ 3300000) : ∃ d', X12_hurt_b49 (A2 b) b (wI s) (wI w) (wI A) u q_FU 0 (-1) 0 dt = some (if u = 0 then wI (q_bst (fun f => q_wn T s (q_pls T g f (f + w) A)) (TN T)).1 else wI (q_bst (fun f => q_wn T s (q_pls T g f (f + w) A)) (TN T)).2, d') ∧ q_fq b dt d' := by
  have hN := hM.1.1
  have hFb : ∀ n, 0 ≤ q_wn T s (q_pls T g n (n + w) A) ∧ q_wn T s (q_pls T g n (n + w) A) ≤ 512 := fun n => q_wn_b hM.1 hs _
  have hl : ∀ n i k : Nat, i + n = TN T → n < k → ∀ d, q_fq b dt d → ∃ d', X12_hurt_b49 (A2 b) b (wI s) (wI w) (wI A) u k (wI (q_bst (fun f => q_wn T s (q_pls T g f (f + w) A)) i).1) (wI (q_bst (fun f => q_wn T s (q_pls T g f (f + w) A)) i).2) (wI i) d = some (if u = 0 then wI (q_bst (fun f => q_wn T s (q_pls T g f (f + w) A)) (TN T)).1 else wI (q_bst (fun f => q_wn T s (q_pls T g f (f + w) A)) (TN T)).2, d') ∧ q_fq b dt d' := by
    intro n
    induction n with
    | zero =>
      intro i k z1 z2 
      obtain ⟨k, rfl⟩ : ∃ m, k = m + 1 := ⟨k - 1, by omega⟩
      have e : i = TN T := by omega
      intro d q1
      refine ⟨d, ?_, q1⟩
      have hM1 := M_fw hM (q_fq_w q1)
      rw [X12_hurt_b49.eq_2, M_n hM1, b1s, e]
      simp only [q_leT (Nat.le_refl (TN T)) (show TN T < 2147483648 by omega), ↓reduceIte]
      by_cases hu : u = 0
      · rw [if_pos hu, if_pos hu]
      · rw [if_neg hu, if_neg hu]
    | succ n ih =>
      intro i k z1 z2 
      obtain ⟨k, rfl⟩ : ∃ m, k = m + 1 := ⟨k - 1, by omega⟩
      have hi : i < TN T := by omega
      intro d q1
      have hM1 := M_fw hM (q_fq_w q1)
      have hgd : q_now (b + 39) d g := by
        unfold q_now
        rw [q1.1 (b + 39) (by omega) (by omega) (by omega)]
        exact hg
      have fc : q_fq b d (q_irow d (b + 40) 0 1024 (d.1 (b + 39))) := q_fq_i (Or.inr rfl)
      have hM2 := M_fw hM1 (q_fq_w fc)
      obtain ⟨d1, r1, r2, r3⟩ := M_hpulse (f := i) (w := w) (A := A) (x1 := wI s) (x4 := u) (x5 := wI (q_bst (fun f => q_wn T s (q_pls T g f (f + w) A)) i).1) (x6 := wI (q_bst (fun f => q_wn T s (q_pls T g f (f + w) A)) i).2) (X12_hurt_b49 (A2 b) b (wI s) (wI w) (wI A) u k) hM2 hi hw.2 (q_now_cp hgd)
      have f3 : q_fq b d d1 := q_fq_t fc (q_fq_x r3 (Or.inr rfl))
      have hM3 := M_fw hM1 (q_fq_w f3)
      obtain ⟨d2, w1, w2, -⟩ := M_wrong hM3 hs (n54 b) (by omega) r2 (q_pls_b (by omega) hb)
      have hF := hFb i
      have hbb := q_bst_b hFb i
      have kk : (wI (q_bst (fun f => q_wn T s (q_pls T g f (f + w) A)) i).2 < wI (q_wn T s (q_pls T g i (i + w) A))) = ((q_bst (fun f => q_wn T s (q_pls T g f (f + w) A)) i).2 < q_wn T s (q_pls T g i (i + w) A)) := wI_lt (by omega) (by omega) (by omega) (by omega)
      have eB : q_bst (fun f => q_wn T s (q_pls T g f (f + w) A)) (i + 1) = if (q_bst (fun f => q_wn T s (q_pls T g f (f + w) A)) i).2 < q_wn T s (q_pls T g i (i + w) A) then (i, q_wn T s (q_pls T g i (i + w) A)) else q_bst (fun f => q_wn T s (q_pls T g f (f + w) A)) i := rfl
      obtain ⟨d', v1, v2⟩ := ih (i + 1) k (by omega) (by omega) d2 (q_fq_t (q_fq_t q1 f3) (q_fq_s w2))
      refine ⟨d', ?_, v2⟩
      rw [eB] at v1
      rw [X12_hurt_b49.eq_2, M_n hM1, b1s, M_hcopy, r1]
      simp only [q_leF hi (show TN T < 2147483648 by omega), ↓reduceIte]
      unfold X12_hurt_b128 X12_hurt_b157
      rw [m54, w1, b2s, q_n1]
      rw [show q_wr T s (q_rs T (q_pls T g i (i + w) A) s) (q_np T s) = q_wn T s (q_pls T g i (i + w) A) from rfl]
      simp only [kk]
      by_cases h : (q_bst (fun f => q_wn T s (q_pls T g f (f + w) A)) i).2 < q_wn T s (q_pls T g i (i + w) A)
      · rw [if_pos h] at v1 ⊢
        exact v1
      · rw [if_neg h] at v1 ⊢
        exact v1
  exact hl (TN T) 0 q_FU (by omega) (by unfold q_FU; omega) dt q_fq_r
theorem R_hurt : q_c_hurt q_Rel := by
  intro k b1 b2 dt1 dt2 a0 a1 a2 a3 hk hR
  obtain ⟨x, rfl, hx1, hx2⟩ := q_arg a0
  obtain ⟨y, rfl, hy1, hy2⟩ := q_arg a1
  obtain ⟨v, rfl, hv1, hv2⟩ := q_arg a2
  obtain ⟨u, rfl, hu1, hu2⟩ := q_arg a3
  have hR' := hR
  obtain ⟨T, tt, sd, g, hT, hM, ho, hs, hn, hg, -⟩ := hR'
  have hb := q_gb_i hg (by omega)
  have hN := hT.1.1
  have n10 : ¬ (1 : Int32) = 0 := by decide
  have e2 := M_isSender hM hx1 hx2
  have zy1 : (wI y < 1) = (y < 1) := by
    rw [show (1 : Int32) = wI 1 from rfl, wI_lt hy1 hy2 (by omega) (by omega)]
  have zy9 : (99 < wI y) = (99 < y) := by
    rw [show (99 : Int32) = wI 99 from rfl, wI_lt (by omega) (by omega) hy1 hy2]
  have zv1 : (wI v < 1) = (v < 1) := by
    rw [show (1 : Int32) = wI 1 from rfl, wI_lt hv1 hv2 (by omega) (by omega)]
  have zv9 : (99 < wI v) = (99 < v) := by
    rw [show (99 : Int32) = wI 99 from rfl, wI_lt (by omega) (by omega) hv1 hv2]
  have zu0 : (wI u < 0) = (u < 0) := by
    rw [show (0 : Int32) = wI 0 from rfl, wI_lt hu1 hu2 (by omega) (by omega)]
  have zu1 : (wI u ≤ 1) = (u ≤ 1) := by
    rw [show (1 : Int32) = wI 1 from rfl, wI_le hu1 hu2 (by omega) (by omega)]
  have iy : X12_in (wI y) 1 99 = some (if 1 ≤ y ∧ y ≤ 99 then 1 else 0) := M_in (a := 1) (b := 99) hy1 hy2 (by omega) (by omega) (by omega) (by omega)
  have iv : X12_in (wI v) 1 99 = some (if 1 ≤ v ∧ v ≤ 99 then 1 else 0) := M_in (a := 1) (b := 99) hv1 hv2 (by omega) (by omega) (by omega) (by omega)
  have iu : X12_in (wI u) 0 1 = some (if 0 ≤ u ∧ u ≤ 1 then 1 else 0) := M_in (a := 0) (b := 1) hu1 hu2 (by omega) (by omega) (by omega) (by omega)
  show ∃ r d1 d2, X11_hurt (A1 b1) dt1 b1 (wI x) (wI y) (wI v) (wI u) = some (r, d1) ∧ X12_hurt (A2 b2) dt2 b2 (wI x) (wI y) (wI v) (wI u) = some (r, d2) ∧ _
  by_cases hok : ((0 ≤ x ∧ x < Tns T) ∧ (1 ≤ y ∧ y ≤ 99)) ∧ (1 ≤ v ∧ v ≤ 99) ∧ 0 ≤ u ∧ u ≤ 1
  · obtain ⟨⟨hc, hy⟩, hv, hu⟩ := hok
    rw [if_pos hc] at e2
    rw [if_pos hy] at iy
    rw [if_pos hv] at iv
    rw [if_pos hu] at iu
    obtain ⟨s, rfl⟩ := Int.eq_ofNat_of_zero_le hc.1
    have hsn : s < Tns T := by omega
    obtain ⟨w, rfl⟩ := Int.eq_ofNat_of_zero_le (show 0 ≤ y by omega)
    have hw : 1 ≤ w ∧ w ≤ 99 := by omega
    obtain ⟨d1, p1, p2, p3, p4⟩ := T_pulse hT hs hsn hw hv hb hg.2
    obtain ⟨d2, r1, r2⟩ := M_hurtL (u := wI u) hM hn hsn hw hv hb
    refine ⟨if wI u = 0 then wI (q_bst (fun f => q_wn T s (q_pls T g f (f + w) v)) (TN T)).1 else wI (q_bst (fun f => q_wn T s (q_pls T g f (f + w) v)) (TN T)).2, d1, d2, ?_, ?_, R_keep hR p2 (q_fk_e2 (q_fq_w r2))⟩
    rotate_left
    · unfold X12_hurt
      rw [e2, b1s, if_neg n10, iy, b1s, if_neg n10, iv, b1s, if_neg n10, iu, b1s, if_neg n10]
      exact r1
    · unfold X11_hurt X11_hurt_b37
      rw [ho.1, o1s, m1s, T_senderAt hT hsn, b1s]
      simp only [zy1, zy9, zv1, zv9, zu0, zu1]
      rw [if_neg (by omega), if_neg (by omega), if_neg (by omega), if_neg (by omega), m1s, if_neg n10, if_neg (by omega), if_pos hu.2, s0_5, s0_1, p1, b1s, p3, p4]
      by_cases h : wI u = 0
      · rw [if_pos h, if_pos h]
      · rw [if_neg h, if_neg h]
  · refine ⟨-1, dt1, dt2, ?_, ?_, R_up hR⟩
    · have hb37 : ∀ (o : Option Nat) (tt0 : Int32), (o = none ∨ tt0 = 0 ∨ u < 0 ∨ ¬ u ≤ 1) → X11_hurt_b37 (A1 b1) b1 (wI y) (wI v) (wI u) o tt0 dt1 = some (-1, dt1) := by
        intro o tt0 h
        unfold X11_hurt_b37
        cases o with
        | none => rfl
        | some a =>
          rw [m1s]
          simp only [zu0, zu1]
          by_cases h1 : tt0 = 0
          · rw [if_pos h1]
          · rw [if_neg h1]
            by_cases h2 : u < 0
            · rw [if_pos h2]
            · rw [if_neg h2, if_neg (by
                rcases h with h | h | h | h
                · exact absurd h (by simp)
                · exact absurd h h1
                · exact absurd h h2
                · exact h)]
      by_cases hc : 0 ≤ x ∧ x < Tns T
      · obtain ⟨s, rfl⟩ := Int.eq_ofNat_of_zero_le hc.1
        have hsn : s < Tns T := by omega
        unfold X11_hurt X11_hurt_b36
        rw [ho.1, o1s, m1s, T_senderAt hT hsn, b1s]
        simp only [zy1, zy9, zv1, zv9]
        by_cases h1 : y < 1
        · rw [if_pos h1]; exact hb37 _ _ (Or.inr (Or.inl rfl))
        · rw [if_neg h1]
          by_cases h2 : 99 < y
          · rw [if_pos h2]; exact hb37 _ _ (Or.inr (Or.inl rfl))
          · rw [if_neg h2]
            by_cases h3 : v < 1
            · rw [if_pos h3]; exact hb37 _ _ (Or.inr (Or.inl rfl))
            · rw [if_neg h3]
              by_cases h4 : 99 < v
              · rw [if_pos h4]; exact hb37 _ _ (Or.inr (Or.inl rfl))
              · rw [if_neg h4]
                exact hb37 _ _ (Or.inr (Or.inr (by omega)))
      · unfold X11_hurt X11_hurt_b36
        rw [ho.1, o1s, m1s, T_senderNo hT hx1 hx2 hc, b1s]
        simp only [hb37 none _ (Or.inl rfl), ite_self]
    · unfold X12_hurt
      rw [e2, b1s]
      by_cases hc : 0 ≤ x ∧ x < Tns T
      · rw [if_pos hc, if_neg n10, iy, b1s]
        by_cases hy : 1 ≤ y ∧ y ≤ 99
        · rw [if_pos hy, if_neg n10, iv, b1s]
          by_cases hv : 1 ≤ v ∧ v ≤ 99
          · rw [if_pos hv, if_neg n10, iu, b1s, if_neg (show ¬ (0 ≤ u ∧ u ≤ 1) from fun q => hok ⟨⟨hc, hy⟩, hv, q⟩), if_pos rfl]
          · rw [if_neg hv, if_pos rfl]
        · rw [if_neg hy, if_pos rfl]
      · rw [if_neg hc, if_pos rfl]
