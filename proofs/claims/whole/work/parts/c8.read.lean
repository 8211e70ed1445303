/-! level two: both read a text -/
theorem q_b2x {α β γ : Type} {o : Option (α × γ)} {x : α} {y : γ} {f : α → γ → Option β} {r : Option β} (c : o = some (x, y)) (h : f x y = r) : q_b2 o f = r := by rw [c]; exact h
theorem q_msx {β : Type} {x : Nat} {n : β} {f : Nat → β} {r : β} (h : f x = r) : q_m (some x) n f = r := h
theorem q_pR_o {dt : q_Dt} {a k x : Nat} {v : Option Nat} (h : x ≠ a) : (q_pR dt a k v).2.2 x = dt.2.2 x := by
  funext j
  show (if x = a ∧ j = k then v else dt.2.2 x j) = dt.2.2 x j
  rw [if_neg (fun q => h q.1)]
theorem q_pR_k {dt : q_Dt} {a k x j : Nat} {v : Option Nat} (h : j ≠ k) : (q_pR dt a k v).2.2 x j = dt.2.2 x j := by
  show (if x = a ∧ j = k then v else dt.2.2 x j) = dt.2.2 x j
  rw [if_neg (fun q => h q.2)]
theorem q_pR_s {dt : q_Dt} {a k : Nat} {v : Option Nat} : (q_pR dt a k v).2.2 a k = v := by
  show (if a = a ∧ k = k then v else dt.2.2 a k) = v
  rw [if_pos ⟨rfl, rfl⟩]
theorem R_read : q_c_read q_Rel := by
  intro k b1 b2 dt1 dt2 hk hR
  obtain ⟨T, t, sd, g, hT, hM, ho, hs, hn, hg, ⟨L, B, hL, hL1, hL2, hL3⟩, ⟨M, hM8, hM9, hM3⟩, hkk, hp⟩ := hR
  show ∃ r d1 d2, X11_read (A1 b1) dt1 b1 = some (r, d1) ∧ X12_read (A2 b2) dt2 b2 = some (r, d2) ∧ _
  have ht := hT.2.1
  obtain ⟨t', ht'⟩ : ∃ z, z = 2 * b1 + 226 - t := ⟨_, rfl⟩
  have ht2 : t' = b1 + 77 ∨ t' = b1 + 149 := by omega
  obtain ⟨K, hK⟩ : ∃ z, z = fun n => qk_k B L (qk_st B L n) := ⟨_, rfl⟩
  obtain ⟨P, hP⟩ : ∃ z, z = qk_st B L := ⟨_, rfl⟩
  obtain ⟨V, hV⟩ : ∃ z, z = fun n => qk_v B L (qk_st B L n) := ⟨_, rfl⟩
  obtain ⟨N, hN⟩ : ∃ z, z = qk_N K 400 0 := ⟨_, rfl⟩
  have htx : qk_tx b1 L B dt1 := ⟨hL, hL1, fun i hi => ⟨(hL3 i hi).1, (hL3 i hi).2.1⟩, fun i hi => (hkk.1 i hi).1⟩
  obtain ⟨d1, y1, y2, y3, y4, y5, y6⟩ := y_make htx ht2 hK hP hV hN
  obtain ⟨d2, k1, k2, k3, k4, k5, k6, k7⟩ := k_read hM hkk.2 hL hL2 (fun i hi => ⟨(hL3 i hi).1, (hL3 i hi).2.2⟩) (fun i hi => (hkk.1 i hi).2) hK hP hV hN
  obtain ⟨c1, hc1⟩ : ∃ z, z = q_pI d1 b1 8 (d1.1 (b1 + 1) 7) := ⟨_, rfl⟩
  have h8 : c1.1 b1 8 = d2.1 b2 17 := by
    rw [hc1, q_pI_s]
    by_cases q : (kz_res K P V).1 = 0
    · rw [y2.2 q, k2.2 q]
    · rw [y2.1 q, k2.1 q]
  have c1x : ∀ x, x ≠ b1 → c1.1 x = d1.1 x := fun x hx => by rw [hc1, q_pI_o hx]
  have c12 : c1.2 = d1.2 := by rw [hc1]; rfl
  have yb := y6 b1 (by omega) (by omega) (by omega) (by omega) (by omega) (by omega) (by omega) (by omega) (by omega) (by omega)
  have y12 := y6 (b1 + 12) (by omega) (by omega) (by omega) (by omega) (by omega) (by omega) (by omega) (by omega) (by omega) (by omega)
  have o6 : c1.2.2 b1 6 = some t := by rw [c12, yb.2.2]; exact ho.1
  have o7 : c1.2.2 b1 7 = some t' := by rw [c12, yb.2.2, ht']; exact ho.2
  have h9 : c1.1 b1 9 = wI M := by rw [hc1, q_pI_k (by omega), yb.1]; exact hM9
  have ho2 : dt1.2.2 b1 7 = some t' := by rw [ht']; exact ho.2
  by_cases q : (kz_res K P V).1 = 0
  · obtain ⟨w3, e3⟩ : ∃ z, z = q_pR c1 b1 6 (some t') := ⟨_, rfl⟩
    obtain ⟨w4, e4⟩ : ∃ z, z = q_pR w3 b1 7 (some t) := ⟨_, rfl⟩
    obtain ⟨w5, e5⟩ : ∃ z, z = q_pI w4 b1 9 0 := ⟨_, rfl⟩
    have f1 : ∀ x, x ≠ b1 → w5.1 x = d1.1 x ∧ w5.2.1 x = d1.2.1 x ∧ w5.2.2 x = d1.2.2 x := fun x hx => by
      rw [e5, q_pI_o hx, q_pI_2, e4, e3]
      refine ⟨c1x x hx, congrFun (congrArg Prod.fst c12) x, ?_⟩
      rw [q_pR_o hx, q_pR_o hx, c12]
    have g6 : w5.2.2 b1 6 = some t' := by rw [e5, q_pI_2, e4, q_pR_k (by omega), e3, q_pR_s]
    have g7 : w5.2.2 b1 7 = some t := by rw [e5, q_pI_2, e4, q_pR_s]
    have g8 : w5.1 b1 8 = c1.1 b1 8 := by rw [e5, q_pI_k (by omega), e4, e3]; rfl
    have g9 : w5.1 b1 9 = 0 := by rw [e5, q_pI_s]
    have hT5 : q_TT b1 t' w5 (kz_told K P V) := T_keep (y4 q) (fun x x1 x2 => f1 x (by omega))
    obtain ⟨d6, p1, p2, p3⟩ := T_lay hT5 (So_in b1) (by omega)
    have hb6 := p3 b1 (by omega)
    refine ⟨wI (kz_res K P V).1, d6, d2, ?_, k1, kz_told K P V, t', 1 - sd, q_lay (kz_told K P V), T_keep hT5 (fun x x1 x2 => p3 x (by omega)), (k7 q).1, ⟨?_, ?_⟩, p2, (k7 q).2.1, q_lay_b (y4 q).1 (by omega), ⟨0, fun _ => 0, by omega, ?_, ?_, fun i hi => absurd hi (Nat.not_lt_zero i)⟩, ⟨0, by omega, ?_, fun s hs3 => ⟨?_, fun z => ?_⟩⟩, ⟨fun i hi => ⟨?_, k5 i hi⟩, k4⟩, ?_⟩
    · unfold X11_read
      rw [s0_0, s0_1]
      refine q_ox ?_
      rw [ho2]
      refine q_b2x y1 ?_
      refine q_ox ?_
      rw [← hc1, if_pos (show wI (((kz_res K P V).1 : Nat) : Int) = 0 by rw [q]; rfl)]
      refine q_ox (q_ox ?_)
      rw [o6, o7]
      refine q_msx ?_
      refine q_ox ?_
      rw [← e3]
      refine q_msx ?_
      refine q_ox ?_
      rw [← e4]
      refine q_ox ?_
      rw [← e5]
      refine q_ox ?_
      rw [g6]
      exact q_b1x p1 rfl
    · rw [hb6.2.2]; exact g6
    · rw [hb6.2.2, g7]; congr 1; omega
    · rw [(p3 (b1 + 2) (by omega)).1, (f1 (b1 + 2) (by omega)).1]; exact y5
    · exact k3
    · rw [hb6.1]; exact g9
    · rw [(k7 q).2.2 s hs3, Nat.zero_div]; rfl
    · rw [Nat.zero_div] at z; exact absurd z (by decide)
    · rw [(p3 (b1 + 12) (by omega)).2.1, (f1 (b1 + 12) (by omega)).2.1, y12.2.1]; exact (hkk.1 i hi).1
    · rw [hb6.1, g8]; exact h8
  · obtain ⟨kM, kx⟩ := k6 q
    have y6' : ∀ x, x ≠ b1 + 1 → x ≠ b1 + 2 → x ≠ b1 + 6 → x ≠ b1 + 8 → x ≠ b1 + 10 → x ≠ b1 + 14 → x ≠ b1 + 16 → x ≠ b1 + 18 → x ≠ b1 + 20 → (x < t' ∨ t' + 72 ≤ x) → x ≠ b1 → c1.1 x = dt1.1 x ∧ c1.2.1 x = dt1.2.1 x ∧ c1.2.2 x = dt1.2.2 x := fun x a1 a2 a3 a4 a5 a6 a7 a8 a9 a10 a11 => by
      rw [c1x x a11, c12]
      exact y6 x a1 a2 a3 a4 a5 a6 a7 a8 a9 a10
    have far : ∀ x, b1 + 21 ≤ x → (x < t' ∨ t' + 72 ≤ x) → c1.1 x = dt1.1 x ∧ c1.2.1 x = dt1.2.1 x ∧ c1.2.2 x = dt1.2.2 x := fun x a1 a2 => y6' x (by omega) (by omega) (by omega) (by omega) (by omega) (by omega) (by omega) (by omega) (by omega) a2 (by omega)
    refine ⟨wI (kz_res K P V).1, c1, d2, ?_, k1, T, t, sd, g, T_keep hT (fun x x1 x2 => far x (by omega) (by omega)), kM, ⟨o6, ?_⟩, ⟨?_, fun i hi => ?_⟩, fun i hi => ?_, q_gb_up hg (by omega), ⟨0, fun _ => 0, by omega, ?_, ?_, fun i hi => absurd hi (Nat.not_lt_zero i)⟩, ⟨M, hM8, h9, fun s hs3 => ?_⟩, ⟨fun i hi => ⟨?_, k5 i hi⟩, k4⟩, h8⟩
    · unfold X11_read
      rw [s0_0, s0_1]
      refine q_ox ?_
      rw [ho2]
      refine q_b2x y1 ?_
      refine q_ox ?_
      rw [← hc1, if_neg (show ¬ wI (((kz_res K P V).1 : Nat) : Int) = 0 by rw [show (0 : Int32) = wI (0 : Nat) from rfl, wI_eq (by omega) (by omega) (by omega) (by omega)]; omega)]
      rfl
    · rw [o7, ht']
    · rw [(far (b1 + 21) (by omega) (by omega)).1]; exact hs.1
    · rw [(far (b1 + 21 + 2) (by omega) (by omega)).2.1, (far (b1 + 21 + 4) (by omega) (by omega)).2.1]; exact hs.2 i hi
    · rw [kx (b2 + 39) (by omega)]; exact hn i hi
    · rw [c1x (b1 + 2) (by omega)]; exact y5
    · exact k3
    · rw [kx (b2 + 49) (by omega), kx (b2 + 50) (by omega)]
      obtain ⟨z1, z2⟩ := hM3 s hs3
      refine ⟨z1, fun z => ?_⟩
      obtain ⟨g2, z3, z4, z5⟩ := z2 z
      refine ⟨g2, ⟨?_, fun i hi => ?_⟩, q_gb_up z4 (by omega), z5⟩
      · rw [(far (b1 + 221 + 5 * s) (by omega) (by omega)).1]; exact z3.1
      · rw [(far (b1 + 221 + 5 * s + 2) (by omega) (by omega)).2.1, (far (b1 + 221 + 5 * s + 4) (by omega) (by omega)).2.1]; exact z3.2 i hi
    · rw [c12, y12.2.1]; exact (hkk.1 i hi).1
