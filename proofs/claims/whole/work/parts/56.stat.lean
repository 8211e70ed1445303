/-! level two: what stands fast in the two worlds -/
def A1 (b : Nat) : q_Al := q_ca b q_S1
def A2 (b : Nat) : q_Al := q_ca b q_S2
theorem A1_f {b x a a2 k : Nat} (hx : x = b + a) (h : q_cR q_S1 a k = some a2) : (A1 b).2.2 x k = b + a2 := by
  subst hx
  unfold A1
  rw [q_ca_f, h]
  rfl
theorem A1_l {b x a n : Nat} (hx : x = b + a) (h : q_cln q_S1 a = n) : (A1 b).2.1 x = n := by
  subst hx
  unfold A1
  rw [q_ca_l, h]
theorem A2_f {b a k : Nat} (h : q_cR q_S2 0 k = some a) : (A2 b).2.2 b k = b + a := by
  unfold A2
  have h2 := q_ca_f b q_S2 0 k
  rw [Nat.add_zero] at h2
  rw [h2, h]
  rfl
theorem A2_l {b a n : Nat} (h : q_cln q_S2 a = n) : (A2 b).2.1 (b + a) = n := by
  unfold A2
  rw [q_ca_l, h]
def q_F1 : List (Bool × Nat × Nat × Nat) := [(true, 0, 0, 1), (true, 0, 1, 21), (true, 0, 2, 26), (true, 0, 3, 27), (true, 0, 4, 36), (true, 0, 5, 43), (true, 1, 0, 2), (true, 2, 0, 3), (true, 3, 0, 4), (true, 2, 1, 5), (true, 5, 0, 6), (true, 2, 2, 7), (true, 7, 0, 8), (true, 2, 3, 9), (true, 9, 0, 10), (true, 2, 4, 11), (true, 11, 0, 12), (true, 2, 5, 13), (true, 13, 0, 14), (true, 1, 1, 15), (true, 15, 0, 16), (true, 1, 2, 17), (true, 17, 0, 18), (true, 1, 3, 19), (true, 19, 0, 20), (true, 21, 0, 22), (true, 22, 0, 23), (true, 21, 1, 24), (true, 24, 0, 25), (true, 27, 0, 28), (true, 28, 0, 29), (true, 27, 1, 30), (true, 30, 0, 31), (true, 27, 2, 32), (true, 32, 0, 33), (true, 27, 3, 34), (true, 34, 0, 35), (true, 36, 0, 37), (true, 37, 0, 38), (true, 36, 1, 39), (true, 39, 0, 40), (true, 36, 2, 41), (true, 41, 0, 42), (true, 43, 0, 44), (true, 44, 0, 45), (true, 43, 1, 46), (true, 46, 0, 47), (true, 47, 0, 48), (true, 46, 1, 49), (true, 49, 0, 50), (true, 43, 2, 51), (true, 43, 3, 52), (false, 4, 0, 2000), (false, 6, 0, 401), (false, 8, 0, 401), (false, 10, 0, 401), (false, 12, 0, 11), (false, 14, 0, 8), (false, 16, 0, 20), (false, 18, 0, 20), (false, 20, 0, 20), (false, 23, 0, 512), (false, 25, 0, 512), (false, 26, 0, 3), (false, 29, 0, 8), (false, 31, 0, 128), (false, 33, 0, 128), (false, 35, 0, 128), (false, 38, 0, 127), (false, 40, 0, 127), (false, 42, 0, 508), (false, 45, 0, 512), (false, 48, 0, 512), (false, 50, 0, 512), (false, 51, 0, 6), (false, 52, 0, 6), (true, 77, 0, 78), (true, 149, 0, 150), (true, 77, 1, 79), (true, 149, 1, 151), (true, 77, 2, 80), (true, 149, 2, 152), (true, 77, 3, 81), (true, 149, 3, 153), (true, 77, 4, 83), (true, 149, 4, 155), (true, 77, 5, 85), (true, 149, 5, 157), (true, 77, 6, 87), (true, 149, 6, 159), (true, 81, 0, 82), (true, 153, 0, 154), (true, 83, 0, 84), (true, 155, 0, 156), (true, 85, 0, 86), (true, 157, 0, 158), (true, 87, 0, 88), (true, 159, 0, 160), (false, 78, 0, 8), (false, 150, 0, 8), (false, 79, 0, 6), (false, 151, 0, 6), (false, 80, 0, 6), (false, 152, 0, 6), (false, 82, 0, 4), (false, 154, 0, 4), (false, 84, 0, 4), (false, 156, 0, 4), (false, 86, 0, 4), (false, 158, 0, 4), (false, 88, 0, 4), (false, 160, 0, 4)]
def q_ck1 (p : Bool × Nat × Nat × Nat) : Bool := if p.1 then q_cR q_S1 p.2.1 p.2.2.1 == some p.2.2.2 else q_cln q_S1 p.2.1 == p.2.2.2
def q_F2 : List (Bool × Nat × Nat × Nat) := [(true, 0, 1, 1), (true, 0, 3, 2), (true, 0, 5, 3), (true, 0, 6, 4), (true, 0, 7, 5), (true, 0, 8, 6), (true, 0, 9, 7), (true, 0, 21, 8), (true, 0, 22, 9), (true, 0, 23, 10), (true, 0, 24, 11), (true, 0, 25, 12), (true, 0, 26, 13), (true, 0, 27, 14), (true, 0, 28, 15), (true, 0, 29, 16), (true, 0, 30, 17), (true, 0, 31, 18), (true, 0, 32, 19), (true, 0, 33, 20), (true, 0, 34, 21), (true, 0, 35, 22), (true, 0, 36, 23), (true, 0, 37, 24), (true, 0, 38, 25), (true, 0, 39, 26), (true, 0, 40, 27), (true, 0, 41, 28), (true, 0, 42, 29), (true, 0, 43, 30), (true, 0, 44, 31), (true, 0, 45, 32), (true, 0, 46, 33), (true, 0, 47, 34), (true, 0, 48, 35), (true, 0, 49, 36), (true, 0, 51, 37), (true, 0, 52, 38), (true, 0, 53, 39), (true, 0, 54, 40), (true, 0, 55, 41), (true, 0, 56, 42), (true, 0, 57, 43), (true, 0, 58, 44), (true, 0, 59, 45), (true, 0, 62, 46), (true, 0, 63, 47), (true, 0, 64, 48), (true, 0, 65, 49), (true, 0, 66, 50), (false, 1, 0, 2000), (false, 2, 0, 2000), (false, 3, 0, 403), (false, 4, 0, 403), (false, 5, 0, 403), (false, 6, 0, 403), (false, 7, 0, 11), (false, 8, 0, 20), (false, 9, 0, 20), (false, 10, 0, 20), (false, 11, 0, 2), (false, 12, 0, 16), (false, 13, 0, 2048), (false, 14, 0, 2), (false, 15, 0, 12), (false, 16, 0, 12), (false, 17, 0, 12), (false, 18, 0, 2), (false, 19, 0, 12), (false, 20, 0, 12), (false, 21, 0, 12), (false, 22, 0, 12), (false, 23, 0, 12), (false, 24, 0, 12), (false, 25, 0, 2), (false, 26, 0, 12), (false, 27, 0, 12), (false, 28, 0, 12), (false, 29, 0, 2), (false, 30, 0, 8), (false, 31, 0, 8), (false, 32, 0, 8), (false, 33, 0, 8), (false, 34, 0, 2), (false, 35, 0, 2), (false, 36, 0, 2), (false, 37, 0, 3072), (false, 38, 0, 3072), (false, 39, 0, 1024), (false, 40, 0, 1024), (false, 41, 0, 260), (false, 42, 0, 260), (false, 43, 0, 260), (false, 44, 0, 260), (false, 45, 0, 64), (false, 46, 0, 128), (false, 47, 0, 512), (false, 48, 0, 512), (false, 49, 0, 3), (false, 50, 0, 3072)]
def q_ck2 (p : Bool × Nat × Nat × Nat) : Bool := if p.1 then q_cR q_S2 p.2.1 p.2.2.1 == some p.2.2.2 else q_cln q_S2 p.2.1 == p.2.2.2
set_option maxRecDepth 100000 in
theorem s2_all : q_F2.all q_ck2 = true := by decide +kernel
set_option maxRecDepth 100000 in
theorem s1_all : q_F1.all q_ck1 = true := by decide +kernel
set_option maxRecDepth 100000 in
theorem s1_fam0 : (∀ i, i < 3 → q_cR q_S1 (26) (i) = some (221+5*i) ∧ q_cR q_S1 (221+5*i) 0 = some (222+5*i) ∧ q_cR q_S1 (221+5*i) (1) = some (224+5*i) ∧ q_cR q_S1 (222+5*i) 0 = some (223+5*i) ∧ q_cR q_S1 (224+5*i) 0 = some (225+5*i) ∧ q_cln q_S1 (223+5*i) = 512 ∧ q_cln q_S1 (225+5*i) = 512) ∧ (∀ i, i < 6 → q_cR q_S1 (51) (i) = some (53+4*i) ∧ q_cR q_S1 (52) (i) = some (55+4*i) ∧ q_cR q_S1 (53+4*i) 0 = some (54+4*i) ∧ q_cR q_S1 (55+4*i) 0 = some (56+4*i) ∧ q_cln q_S1 (54+4*i) = 512 ∧ q_cln q_S1 (56+4*i) = 512) ∧ (∀ i, i < 8 → q_cR q_S1 (77+1) (i) = some (77+12+3*i) ∧ q_cR q_S1 (77+12+3*i) 0 = some (77+13+3*i) ∧ q_cR q_S1 (77+13+3*i) 0 = some (77+14+3*i) ∧ q_cln q_S1 (77+14+3*i) = 127) ∧ (∀ i, i < 8 → q_cR q_S1 (149+1) (i) = some (149+12+3*i) ∧ q_cR q_S1 (149+12+3*i) 0 = some (149+13+3*i) ∧ q_cR q_S1 (149+13+3*i) 0 = some (149+14+3*i) ∧ q_cln q_S1 (149+14+3*i) = 127) := by decide +kernel
theorem s1_slot : ∀ i, i < 3 → q_cR q_S1 (26) (i) = some (221+5*i) ∧ q_cR q_S1 (221+5*i) 0 = some (222+5*i) ∧ q_cR q_S1 (221+5*i) (1) = some (224+5*i) ∧ q_cR q_S1 (222+5*i) 0 = some (223+5*i) ∧ q_cR q_S1 (224+5*i) 0 = some (225+5*i) ∧ q_cln q_S1 (223+5*i) = 512 ∧ q_cln q_S1 (225+5*i) = 512 := s1_fam0.1
theorem s1_rec : ∀ i, i < 6 → q_cR q_S1 (51) (i) = some (53+4*i) ∧ q_cR q_S1 (52) (i) = some (55+4*i) ∧ q_cR q_S1 (53+4*i) 0 = some (54+4*i) ∧ q_cR q_S1 (55+4*i) 0 = some (56+4*i) ∧ q_cln q_S1 (54+4*i) = 512 ∧ q_cln q_S1 (56+4*i) = 512 := s1_fam0.2.1
theorem s1_tc_77 : ∀ i, i < 8 → q_cR q_S1 (77+1) (i) = some (77+12+3*i) ∧ q_cR q_S1 (77+12+3*i) 0 = some (77+13+3*i) ∧ q_cR q_S1 (77+13+3*i) 0 = some (77+14+3*i) ∧ q_cln q_S1 (77+14+3*i) = 127 := s1_fam0.2.2.1
theorem s1_tc_149 : ∀ i, i < 8 → q_cR q_S1 (149+1) (i) = some (149+12+3*i) ∧ q_cR q_S1 (149+12+3*i) 0 = some (149+13+3*i) ∧ q_cR q_S1 (149+13+3*i) 0 = some (149+14+3*i) ∧ q_cln q_S1 (149+14+3*i) = 127 := s1_fam0.2.2.2
set_option maxRecDepth 100000 in
theorem s1_fam4 : (∀ i, i < 6 → q_cR q_S1 (77+2) (i) = some (77+36+i)) ∧ (∀ i, i < 6 → q_cR q_S1 (149+2) (i) = some (149+36+i)) ∧ (∀ i, i < 6 → q_cR q_S1 (77+3) (i) = some (77+42+5*i) ∧ q_cR q_S1 (77+42+5*i) 0 = some (77+43+5*i) ∧ q_cR q_S1 (77+42+5*i) (1) = some (77+45+5*i) ∧ q_cR q_S1 (77+43+5*i) 0 = some (77+44+5*i) ∧ q_cR q_S1 (77+45+5*i) 0 = some (77+46+5*i) ∧ q_cln q_S1 (77+44+5*i) = 6 ∧ q_cln q_S1 (77+46+5*i) = 6) ∧ (∀ i, i < 6 → q_cR q_S1 (149+3) (i) = some (149+42+5*i) ∧ q_cR q_S1 (149+42+5*i) 0 = some (149+43+5*i) ∧ q_cR q_S1 (149+42+5*i) (1) = some (149+45+5*i) ∧ q_cR q_S1 (149+43+5*i) 0 = some (149+44+5*i) ∧ q_cR q_S1 (149+45+5*i) 0 = some (149+46+5*i) ∧ q_cln q_S1 (149+44+5*i) = 6 ∧ q_cln q_S1 (149+46+5*i) = 6) := by decide +kernel
theorem s1_th_77 : ∀ i, i < 6 → q_cR q_S1 (77+2) (i) = some (77+36+i) := s1_fam4.1
theorem s1_th_149 : ∀ i, i < 6 → q_cR q_S1 (149+2) (i) = some (149+36+i) := s1_fam4.2.1
theorem s1_ts_77 : ∀ i, i < 6 → q_cR q_S1 (77+3) (i) = some (77+42+5*i) ∧ q_cR q_S1 (77+42+5*i) 0 = some (77+43+5*i) ∧ q_cR q_S1 (77+42+5*i) (1) = some (77+45+5*i) ∧ q_cR q_S1 (77+43+5*i) 0 = some (77+44+5*i) ∧ q_cR q_S1 (77+45+5*i) 0 = some (77+46+5*i) ∧ q_cln q_S1 (77+44+5*i) = 6 ∧ q_cln q_S1 (77+46+5*i) = 6 := s1_fam4.2.2.1
theorem s1_ts_149 : ∀ i, i < 6 → q_cR q_S1 (149+3) (i) = some (149+42+5*i) ∧ q_cR q_S1 (149+42+5*i) 0 = some (149+43+5*i) ∧ q_cR q_S1 (149+42+5*i) (1) = some (149+45+5*i) ∧ q_cR q_S1 (149+43+5*i) 0 = some (149+44+5*i) ∧ q_cR q_S1 (149+45+5*i) 0 = some (149+46+5*i) ∧ q_cln q_S1 (149+44+5*i) = 6 ∧ q_cln q_S1 (149+46+5*i) = 6 := s1_fam4.2.2.2
theorem q_fR1 {a f t i : Nat} (h : q_F1[i]? = some (true, a, f, t)) : q_cR q_S1 a f = some t := by
  have h2 := List.all_eq_true.mp s1_all _ (List.mem_of_getElem? h)
  unfold q_ck1 at h2
  rw [if_pos rfl] at h2
  dsimp only at h2
  exact eq_of_beq h2
theorem q_fL1 {a f t i : Nat} (h : q_F1[i]? = some (false, a, f, t)) : q_cln q_S1 a = t := by
  have h2 := List.all_eq_true.mp s1_all _ (List.mem_of_getElem? h)
  unfold q_ck1 at h2
  rw [if_neg (fun q => Bool.false_ne_true q)] at h2
  dsimp only at h2
  exact eq_of_beq h2
theorem q_fR2 {a f t i : Nat} (h : q_F2[i]? = some (true, a, f, t)) : q_cR q_S2 a f = some t := by
  have h2 := List.all_eq_true.mp s2_all _ (List.mem_of_getElem? h)
  unfold q_ck2 at h2
  rw [if_pos rfl] at h2
  dsimp only at h2
  exact eq_of_beq h2
theorem q_fL2 {a f t i : Nat} (h : q_F2[i]? = some (false, a, f, t)) : q_cln q_S2 a = t := by
  have h2 := List.all_eq_true.mp s2_all _ (List.mem_of_getElem? h)
  unfold q_ck2 at h2
  rw [if_neg (fun q => Bool.false_ne_true q)] at h2
  dsimp only at h2
  exact eq_of_beq h2
theorem m1 (b : Nat) : (A2 b).2.2 b 1 = b + 1 := A2_f (q_fR2 (i := 0) rfl)
theorem m3 (b : Nat) : (A2 b).2.2 b 3 = b + 2 := A2_f (q_fR2 (i := 1) rfl)
theorem m5 (b : Nat) : (A2 b).2.2 b 5 = b + 3 := A2_f (q_fR2 (i := 2) rfl)
theorem m6 (b : Nat) : (A2 b).2.2 b 6 = b + 4 := A2_f (q_fR2 (i := 3) rfl)
theorem m7 (b : Nat) : (A2 b).2.2 b 7 = b + 5 := A2_f (q_fR2 (i := 4) rfl)
theorem m8 (b : Nat) : (A2 b).2.2 b 8 = b + 6 := A2_f (q_fR2 (i := 5) rfl)
theorem m9 (b : Nat) : (A2 b).2.2 b 9 = b + 7 := A2_f (q_fR2 (i := 6) rfl)
theorem m21 (b : Nat) : (A2 b).2.2 b 21 = b + 8 := A2_f (q_fR2 (i := 7) rfl)
theorem m22 (b : Nat) : (A2 b).2.2 b 22 = b + 9 := A2_f (q_fR2 (i := 8) rfl)
theorem m23 (b : Nat) : (A2 b).2.2 b 23 = b + 10 := A2_f (q_fR2 (i := 9) rfl)
theorem m24 (b : Nat) : (A2 b).2.2 b 24 = b + 11 := A2_f (q_fR2 (i := 10) rfl)
theorem m25 (b : Nat) : (A2 b).2.2 b 25 = b + 12 := A2_f (q_fR2 (i := 11) rfl)
theorem m26 (b : Nat) : (A2 b).2.2 b 26 = b + 13 := A2_f (q_fR2 (i := 12) rfl)
theorem m27 (b : Nat) : (A2 b).2.2 b 27 = b + 14 := A2_f (q_fR2 (i := 13) rfl)
theorem m28 (b : Nat) : (A2 b).2.2 b 28 = b + 15 := A2_f (q_fR2 (i := 14) rfl)
theorem m29 (b : Nat) : (A2 b).2.2 b 29 = b + 16 := A2_f (q_fR2 (i := 15) rfl)
theorem m30 (b : Nat) : (A2 b).2.2 b 30 = b + 17 := A2_f (q_fR2 (i := 16) rfl)
theorem m31 (b : Nat) : (A2 b).2.2 b 31 = b + 18 := A2_f (q_fR2 (i := 17) rfl)
theorem m32 (b : Nat) : (A2 b).2.2 b 32 = b + 19 := A2_f (q_fR2 (i := 18) rfl)
theorem m33 (b : Nat) : (A2 b).2.2 b 33 = b + 20 := A2_f (q_fR2 (i := 19) rfl)
theorem m34 (b : Nat) : (A2 b).2.2 b 34 = b + 21 := A2_f (q_fR2 (i := 20) rfl)
theorem m35 (b : Nat) : (A2 b).2.2 b 35 = b + 22 := A2_f (q_fR2 (i := 21) rfl)
theorem m36 (b : Nat) : (A2 b).2.2 b 36 = b + 23 := A2_f (q_fR2 (i := 22) rfl)
theorem m37 (b : Nat) : (A2 b).2.2 b 37 = b + 24 := A2_f (q_fR2 (i := 23) rfl)
theorem m38 (b : Nat) : (A2 b).2.2 b 38 = b + 25 := A2_f (q_fR2 (i := 24) rfl)
theorem m39 (b : Nat) : (A2 b).2.2 b 39 = b + 26 := A2_f (q_fR2 (i := 25) rfl)
theorem m40 (b : Nat) : (A2 b).2.2 b 40 = b + 27 := A2_f (q_fR2 (i := 26) rfl)
theorem m41 (b : Nat) : (A2 b).2.2 b 41 = b + 28 := A2_f (q_fR2 (i := 27) rfl)
theorem m42 (b : Nat) : (A2 b).2.2 b 42 = b + 29 := A2_f (q_fR2 (i := 28) rfl)
theorem m43 (b : Nat) : (A2 b).2.2 b 43 = b + 30 := A2_f (q_fR2 (i := 29) rfl)
theorem m44 (b : Nat) : (A2 b).2.2 b 44 = b + 31 := A2_f (q_fR2 (i := 30) rfl)
theorem m45 (b : Nat) : (A2 b).2.2 b 45 = b + 32 := A2_f (q_fR2 (i := 31) rfl)
theorem m46 (b : Nat) : (A2 b).2.2 b 46 = b + 33 := A2_f (q_fR2 (i := 32) rfl)
theorem m47 (b : Nat) : (A2 b).2.2 b 47 = b + 34 := A2_f (q_fR2 (i := 33) rfl)
theorem m48 (b : Nat) : (A2 b).2.2 b 48 = b + 35 := A2_f (q_fR2 (i := 34) rfl)
theorem m49 (b : Nat) : (A2 b).2.2 b 49 = b + 36 := A2_f (q_fR2 (i := 35) rfl)
theorem m51 (b : Nat) : (A2 b).2.2 b 51 = b + 37 := A2_f (q_fR2 (i := 36) rfl)
theorem m52 (b : Nat) : (A2 b).2.2 b 52 = b + 38 := A2_f (q_fR2 (i := 37) rfl)
theorem m53 (b : Nat) : (A2 b).2.2 b 53 = b + 39 := A2_f (q_fR2 (i := 38) rfl)
theorem m54 (b : Nat) : (A2 b).2.2 b 54 = b + 40 := A2_f (q_fR2 (i := 39) rfl)
theorem m55 (b : Nat) : (A2 b).2.2 b 55 = b + 41 := A2_f (q_fR2 (i := 40) rfl)
theorem m56 (b : Nat) : (A2 b).2.2 b 56 = b + 42 := A2_f (q_fR2 (i := 41) rfl)
theorem m57 (b : Nat) : (A2 b).2.2 b 57 = b + 43 := A2_f (q_fR2 (i := 42) rfl)
theorem m58 (b : Nat) : (A2 b).2.2 b 58 = b + 44 := A2_f (q_fR2 (i := 43) rfl)
theorem m59 (b : Nat) : (A2 b).2.2 b 59 = b + 45 := A2_f (q_fR2 (i := 44) rfl)
theorem m62 (b : Nat) : (A2 b).2.2 b 62 = b + 46 := A2_f (q_fR2 (i := 45) rfl)
theorem m63 (b : Nat) : (A2 b).2.2 b 63 = b + 47 := A2_f (q_fR2 (i := 46) rfl)
theorem m64 (b : Nat) : (A2 b).2.2 b 64 = b + 48 := A2_f (q_fR2 (i := 47) rfl)
theorem m65 (b : Nat) : (A2 b).2.2 b 65 = b + 49 := A2_f (q_fR2 (i := 48) rfl)
theorem m66 (b : Nat) : (A2 b).2.2 b 66 = b + 50 := A2_f (q_fR2 (i := 49) rfl)
theorem n1 (b : Nat) : (A2 b).2.1 (b + 1) = 2000 := A2_l (q_fL2 (i := 50) rfl)
theorem n3 (b : Nat) : (A2 b).2.1 (b + 2) = 2000 := A2_l (q_fL2 (i := 51) rfl)
theorem n5 (b : Nat) : (A2 b).2.1 (b + 3) = 403 := A2_l (q_fL2 (i := 52) rfl)
theorem n6 (b : Nat) : (A2 b).2.1 (b + 4) = 403 := A2_l (q_fL2 (i := 53) rfl)
theorem n7 (b : Nat) : (A2 b).2.1 (b + 5) = 403 := A2_l (q_fL2 (i := 54) rfl)
theorem n8 (b : Nat) : (A2 b).2.1 (b + 6) = 403 := A2_l (q_fL2 (i := 55) rfl)
theorem n9 (b : Nat) : (A2 b).2.1 (b + 7) = 11 := A2_l (q_fL2 (i := 56) rfl)
theorem n21 (b : Nat) : (A2 b).2.1 (b + 8) = 20 := A2_l (q_fL2 (i := 57) rfl)
theorem n22 (b : Nat) : (A2 b).2.1 (b + 9) = 20 := A2_l (q_fL2 (i := 58) rfl)
theorem n23 (b : Nat) : (A2 b).2.1 (b + 10) = 20 := A2_l (q_fL2 (i := 59) rfl)
theorem n24 (b : Nat) : (A2 b).2.1 (b + 11) = 2 := A2_l (q_fL2 (i := 60) rfl)
theorem n25 (b : Nat) : (A2 b).2.1 (b + 12) = 16 := A2_l (q_fL2 (i := 61) rfl)
theorem n26 (b : Nat) : (A2 b).2.1 (b + 13) = 2048 := A2_l (q_fL2 (i := 62) rfl)
theorem n27 (b : Nat) : (A2 b).2.1 (b + 14) = 2 := A2_l (q_fL2 (i := 63) rfl)
theorem n28 (b : Nat) : (A2 b).2.1 (b + 15) = 12 := A2_l (q_fL2 (i := 64) rfl)
theorem n29 (b : Nat) : (A2 b).2.1 (b + 16) = 12 := A2_l (q_fL2 (i := 65) rfl)
theorem n30 (b : Nat) : (A2 b).2.1 (b + 17) = 12 := A2_l (q_fL2 (i := 66) rfl)
theorem n31 (b : Nat) : (A2 b).2.1 (b + 18) = 2 := A2_l (q_fL2 (i := 67) rfl)
theorem n32 (b : Nat) : (A2 b).2.1 (b + 19) = 12 := A2_l (q_fL2 (i := 68) rfl)
theorem n33 (b : Nat) : (A2 b).2.1 (b + 20) = 12 := A2_l (q_fL2 (i := 69) rfl)
theorem n34 (b : Nat) : (A2 b).2.1 (b + 21) = 12 := A2_l (q_fL2 (i := 70) rfl)
theorem n35 (b : Nat) : (A2 b).2.1 (b + 22) = 12 := A2_l (q_fL2 (i := 71) rfl)
theorem n36 (b : Nat) : (A2 b).2.1 (b + 23) = 12 := A2_l (q_fL2 (i := 72) rfl)
theorem n37 (b : Nat) : (A2 b).2.1 (b + 24) = 12 := A2_l (q_fL2 (i := 73) rfl)
theorem n38 (b : Nat) : (A2 b).2.1 (b + 25) = 2 := A2_l (q_fL2 (i := 74) rfl)
theorem n39 (b : Nat) : (A2 b).2.1 (b + 26) = 12 := A2_l (q_fL2 (i := 75) rfl)
theorem n40 (b : Nat) : (A2 b).2.1 (b + 27) = 12 := A2_l (q_fL2 (i := 76) rfl)
theorem n41 (b : Nat) : (A2 b).2.1 (b + 28) = 12 := A2_l (q_fL2 (i := 77) rfl)
theorem n42 (b : Nat) : (A2 b).2.1 (b + 29) = 2 := A2_l (q_fL2 (i := 78) rfl)
theorem n43 (b : Nat) : (A2 b).2.1 (b + 30) = 8 := A2_l (q_fL2 (i := 79) rfl)
theorem n44 (b : Nat) : (A2 b).2.1 (b + 31) = 8 := A2_l (q_fL2 (i := 80) rfl)
theorem n45 (b : Nat) : (A2 b).2.1 (b + 32) = 8 := A2_l (q_fL2 (i := 81) rfl)
theorem n46 (b : Nat) : (A2 b).2.1 (b + 33) = 8 := A2_l (q_fL2 (i := 82) rfl)
theorem n47 (b : Nat) : (A2 b).2.1 (b + 34) = 2 := A2_l (q_fL2 (i := 83) rfl)
theorem n48 (b : Nat) : (A2 b).2.1 (b + 35) = 2 := A2_l (q_fL2 (i := 84) rfl)
theorem n49 (b : Nat) : (A2 b).2.1 (b + 36) = 2 := A2_l (q_fL2 (i := 85) rfl)
theorem n51 (b : Nat) : (A2 b).2.1 (b + 37) = 3072 := A2_l (q_fL2 (i := 86) rfl)
theorem n52 (b : Nat) : (A2 b).2.1 (b + 38) = 3072 := A2_l (q_fL2 (i := 87) rfl)
theorem n53 (b : Nat) : (A2 b).2.1 (b + 39) = 1024 := A2_l (q_fL2 (i := 88) rfl)
theorem n54 (b : Nat) : (A2 b).2.1 (b + 40) = 1024 := A2_l (q_fL2 (i := 89) rfl)
theorem n55 (b : Nat) : (A2 b).2.1 (b + 41) = 260 := A2_l (q_fL2 (i := 90) rfl)
theorem n56 (b : Nat) : (A2 b).2.1 (b + 42) = 260 := A2_l (q_fL2 (i := 91) rfl)
theorem n57 (b : Nat) : (A2 b).2.1 (b + 43) = 260 := A2_l (q_fL2 (i := 92) rfl)
theorem n58 (b : Nat) : (A2 b).2.1 (b + 44) = 260 := A2_l (q_fL2 (i := 93) rfl)
theorem n59 (b : Nat) : (A2 b).2.1 (b + 45) = 64 := A2_l (q_fL2 (i := 94) rfl)
theorem n62 (b : Nat) : (A2 b).2.1 (b + 46) = 128 := A2_l (q_fL2 (i := 95) rfl)
theorem n63 (b : Nat) : (A2 b).2.1 (b + 47) = 512 := A2_l (q_fL2 (i := 96) rfl)
theorem n64 (b : Nat) : (A2 b).2.1 (b + 48) = 512 := A2_l (q_fL2 (i := 97) rfl)
theorem n65 (b : Nat) : (A2 b).2.1 (b + 49) = 3 := A2_l (q_fL2 (i := 98) rfl)
theorem n66 (b : Nat) : (A2 b).2.1 (b + 50) = 3072 := A2_l (q_fL2 (i := 99) rfl)
theorem s0_0 (b : Nat) : (A1 b).2.2 (b) 0 = b + 1 := A1_f rfl (q_fR1 (i := 0) rfl)
theorem s0_1 (b : Nat) : (A1 b).2.2 (b) 1 = b + 21 := A1_f rfl (q_fR1 (i := 1) rfl)
theorem s0_2 (b : Nat) : (A1 b).2.2 (b) 2 = b + 26 := A1_f rfl (q_fR1 (i := 2) rfl)
theorem s0_3 (b : Nat) : (A1 b).2.2 (b) 3 = b + 27 := A1_f rfl (q_fR1 (i := 3) rfl)
theorem s0_4 (b : Nat) : (A1 b).2.2 (b) 4 = b + 36 := A1_f rfl (q_fR1 (i := 4) rfl)
theorem s0_5 (b : Nat) : (A1 b).2.2 (b) 5 = b + 43 := A1_f rfl (q_fR1 (i := 5) rfl)
theorem s1_0 (b : Nat) : (A1 b).2.2 (b + 1) 0 = b + 2 := A1_f rfl (q_fR1 (i := 6) rfl)
theorem s2_0 (b : Nat) : (A1 b).2.2 (b + 2) 0 = b + 3 := A1_f rfl (q_fR1 (i := 7) rfl)
theorem s3_0 (b : Nat) : (A1 b).2.2 (b + 3) 0 = b + 4 := A1_f rfl (q_fR1 (i := 8) rfl)
theorem s2_1 (b : Nat) : (A1 b).2.2 (b + 2) 1 = b + 5 := A1_f rfl (q_fR1 (i := 9) rfl)
theorem s5_0 (b : Nat) : (A1 b).2.2 (b + 5) 0 = b + 6 := A1_f rfl (q_fR1 (i := 10) rfl)
theorem s2_2 (b : Nat) : (A1 b).2.2 (b + 2) 2 = b + 7 := A1_f rfl (q_fR1 (i := 11) rfl)
theorem s7_0 (b : Nat) : (A1 b).2.2 (b + 7) 0 = b + 8 := A1_f rfl (q_fR1 (i := 12) rfl)
theorem s2_3 (b : Nat) : (A1 b).2.2 (b + 2) 3 = b + 9 := A1_f rfl (q_fR1 (i := 13) rfl)
theorem s9_0 (b : Nat) : (A1 b).2.2 (b + 9) 0 = b + 10 := A1_f rfl (q_fR1 (i := 14) rfl)
theorem s2_4 (b : Nat) : (A1 b).2.2 (b + 2) 4 = b + 11 := A1_f rfl (q_fR1 (i := 15) rfl)
theorem s11_0 (b : Nat) : (A1 b).2.2 (b + 11) 0 = b + 12 := A1_f rfl (q_fR1 (i := 16) rfl)
theorem s2_5 (b : Nat) : (A1 b).2.2 (b + 2) 5 = b + 13 := A1_f rfl (q_fR1 (i := 17) rfl)
theorem s13_0 (b : Nat) : (A1 b).2.2 (b + 13) 0 = b + 14 := A1_f rfl (q_fR1 (i := 18) rfl)
theorem s1_1 (b : Nat) : (A1 b).2.2 (b + 1) 1 = b + 15 := A1_f rfl (q_fR1 (i := 19) rfl)
theorem s15_0 (b : Nat) : (A1 b).2.2 (b + 15) 0 = b + 16 := A1_f rfl (q_fR1 (i := 20) rfl)
theorem s1_2 (b : Nat) : (A1 b).2.2 (b + 1) 2 = b + 17 := A1_f rfl (q_fR1 (i := 21) rfl)
theorem s17_0 (b : Nat) : (A1 b).2.2 (b + 17) 0 = b + 18 := A1_f rfl (q_fR1 (i := 22) rfl)
theorem s1_3 (b : Nat) : (A1 b).2.2 (b + 1) 3 = b + 19 := A1_f rfl (q_fR1 (i := 23) rfl)
theorem s19_0 (b : Nat) : (A1 b).2.2 (b + 19) 0 = b + 20 := A1_f rfl (q_fR1 (i := 24) rfl)
theorem s21_0 (b : Nat) : (A1 b).2.2 (b + 21) 0 = b + 22 := A1_f rfl (q_fR1 (i := 25) rfl)
theorem s22_0 (b : Nat) : (A1 b).2.2 (b + 22) 0 = b + 23 := A1_f rfl (q_fR1 (i := 26) rfl)
theorem s21_1 (b : Nat) : (A1 b).2.2 (b + 21) 1 = b + 24 := A1_f rfl (q_fR1 (i := 27) rfl)
theorem s24_0 (b : Nat) : (A1 b).2.2 (b + 24) 0 = b + 25 := A1_f rfl (q_fR1 (i := 28) rfl)
theorem s27_0 (b : Nat) : (A1 b).2.2 (b + 27) 0 = b + 28 := A1_f rfl (q_fR1 (i := 29) rfl)
theorem s28_0 (b : Nat) : (A1 b).2.2 (b + 28) 0 = b + 29 := A1_f rfl (q_fR1 (i := 30) rfl)
theorem s27_1 (b : Nat) : (A1 b).2.2 (b + 27) 1 = b + 30 := A1_f rfl (q_fR1 (i := 31) rfl)
theorem s30_0 (b : Nat) : (A1 b).2.2 (b + 30) 0 = b + 31 := A1_f rfl (q_fR1 (i := 32) rfl)
theorem s27_2 (b : Nat) : (A1 b).2.2 (b + 27) 2 = b + 32 := A1_f rfl (q_fR1 (i := 33) rfl)
theorem s32_0 (b : Nat) : (A1 b).2.2 (b + 32) 0 = b + 33 := A1_f rfl (q_fR1 (i := 34) rfl)
theorem s27_3 (b : Nat) : (A1 b).2.2 (b + 27) 3 = b + 34 := A1_f rfl (q_fR1 (i := 35) rfl)
theorem s34_0 (b : Nat) : (A1 b).2.2 (b + 34) 0 = b + 35 := A1_f rfl (q_fR1 (i := 36) rfl)
theorem s36_0 (b : Nat) : (A1 b).2.2 (b + 36) 0 = b + 37 := A1_f rfl (q_fR1 (i := 37) rfl)
theorem s37_0 (b : Nat) : (A1 b).2.2 (b + 37) 0 = b + 38 := A1_f rfl (q_fR1 (i := 38) rfl)
theorem s36_1 (b : Nat) : (A1 b).2.2 (b + 36) 1 = b + 39 := A1_f rfl (q_fR1 (i := 39) rfl)
theorem s39_0 (b : Nat) : (A1 b).2.2 (b + 39) 0 = b + 40 := A1_f rfl (q_fR1 (i := 40) rfl)
theorem s36_2 (b : Nat) : (A1 b).2.2 (b + 36) 2 = b + 41 := A1_f rfl (q_fR1 (i := 41) rfl)
theorem s41_0 (b : Nat) : (A1 b).2.2 (b + 41) 0 = b + 42 := A1_f rfl (q_fR1 (i := 42) rfl)
theorem s43_0 (b : Nat) : (A1 b).2.2 (b + 43) 0 = b + 44 := A1_f rfl (q_fR1 (i := 43) rfl)
theorem s44_0 (b : Nat) : (A1 b).2.2 (b + 44) 0 = b + 45 := A1_f rfl (q_fR1 (i := 44) rfl)
theorem s43_1 (b : Nat) : (A1 b).2.2 (b + 43) 1 = b + 46 := A1_f rfl (q_fR1 (i := 45) rfl)
theorem s46_0 (b : Nat) : (A1 b).2.2 (b + 46) 0 = b + 47 := A1_f rfl (q_fR1 (i := 46) rfl)
theorem s47_0 (b : Nat) : (A1 b).2.2 (b + 47) 0 = b + 48 := A1_f rfl (q_fR1 (i := 47) rfl)
theorem s46_1 (b : Nat) : (A1 b).2.2 (b + 46) 1 = b + 49 := A1_f rfl (q_fR1 (i := 48) rfl)
theorem s49_0 (b : Nat) : (A1 b).2.2 (b + 49) 0 = b + 50 := A1_f rfl (q_fR1 (i := 49) rfl)
theorem s43_2 (b : Nat) : (A1 b).2.2 (b + 43) 2 = b + 51 := A1_f rfl (q_fR1 (i := 50) rfl)
theorem s43_3 (b : Nat) : (A1 b).2.2 (b + 43) 3 = b + 52 := A1_f rfl (q_fR1 (i := 51) rfl)
theorem l4 (b : Nat) : (A1 b).2.1 (b + 4) = 2000 := A1_l rfl (q_fL1 (i := 52) rfl)
theorem l6 (b : Nat) : (A1 b).2.1 (b + 6) = 401 := A1_l rfl (q_fL1 (i := 53) rfl)
theorem l8 (b : Nat) : (A1 b).2.1 (b + 8) = 401 := A1_l rfl (q_fL1 (i := 54) rfl)
theorem l10 (b : Nat) : (A1 b).2.1 (b + 10) = 401 := A1_l rfl (q_fL1 (i := 55) rfl)
theorem l12 (b : Nat) : (A1 b).2.1 (b + 12) = 11 := A1_l rfl (q_fL1 (i := 56) rfl)
theorem l14 (b : Nat) : (A1 b).2.1 (b + 14) = 8 := A1_l rfl (q_fL1 (i := 57) rfl)
theorem l16 (b : Nat) : (A1 b).2.1 (b + 16) = 20 := A1_l rfl (q_fL1 (i := 58) rfl)
theorem l18 (b : Nat) : (A1 b).2.1 (b + 18) = 20 := A1_l rfl (q_fL1 (i := 59) rfl)
theorem l20 (b : Nat) : (A1 b).2.1 (b + 20) = 20 := A1_l rfl (q_fL1 (i := 60) rfl)
theorem l23 (b : Nat) : (A1 b).2.1 (b + 23) = 512 := A1_l rfl (q_fL1 (i := 61) rfl)
theorem l25 (b : Nat) : (A1 b).2.1 (b + 25) = 512 := A1_l rfl (q_fL1 (i := 62) rfl)
theorem l26 (b : Nat) : (A1 b).2.1 (b + 26) = 3 := A1_l rfl (q_fL1 (i := 63) rfl)
theorem l29 (b : Nat) : (A1 b).2.1 (b + 29) = 8 := A1_l rfl (q_fL1 (i := 64) rfl)
theorem l31 (b : Nat) : (A1 b).2.1 (b + 31) = 128 := A1_l rfl (q_fL1 (i := 65) rfl)
theorem l33 (b : Nat) : (A1 b).2.1 (b + 33) = 128 := A1_l rfl (q_fL1 (i := 66) rfl)
theorem l35 (b : Nat) : (A1 b).2.1 (b + 35) = 128 := A1_l rfl (q_fL1 (i := 67) rfl)
theorem l38 (b : Nat) : (A1 b).2.1 (b + 38) = 127 := A1_l rfl (q_fL1 (i := 68) rfl)
theorem l40 (b : Nat) : (A1 b).2.1 (b + 40) = 127 := A1_l rfl (q_fL1 (i := 69) rfl)
theorem l42 (b : Nat) : (A1 b).2.1 (b + 42) = 508 := A1_l rfl (q_fL1 (i := 70) rfl)
theorem l45 (b : Nat) : (A1 b).2.1 (b + 45) = 512 := A1_l rfl (q_fL1 (i := 71) rfl)
theorem l48 (b : Nat) : (A1 b).2.1 (b + 48) = 512 := A1_l rfl (q_fL1 (i := 72) rfl)
theorem l50 (b : Nat) : (A1 b).2.1 (b + 50) = 512 := A1_l rfl (q_fL1 (i := 73) rfl)
theorem l51 (b : Nat) : (A1 b).2.1 (b + 51) = 6 := A1_l rfl (q_fL1 (i := 74) rfl)
theorem l52 (b : Nat) : (A1 b).2.1 (b + 52) = 6 := A1_l rfl (q_fL1 (i := 75) rfl)
theorem sl_0 {b i : Nat} (h : i < 3) : (A1 b).2.2 (b + (26)) (i) = b + (221+5*i) := A1_f rfl ((s1_slot i h).1)
theorem sl_1 {b i : Nat} (h : i < 3) : (A1 b).2.2 (b + (221+5*i)) 0 = b + (222+5*i) := A1_f rfl ((s1_slot i h).2.1)
theorem sl_2 {b i : Nat} (h : i < 3) : (A1 b).2.2 (b + (221+5*i)) (1) = b + (224+5*i) := A1_f rfl ((s1_slot i h).2.2.1)
theorem sl_3 {b i : Nat} (h : i < 3) : (A1 b).2.2 (b + (222+5*i)) 0 = b + (223+5*i) := A1_f rfl ((s1_slot i h).2.2.2.1)
theorem sl_4 {b i : Nat} (h : i < 3) : (A1 b).2.2 (b + (224+5*i)) 0 = b + (225+5*i) := A1_f rfl ((s1_slot i h).2.2.2.2.1)
theorem sl_l0 {b i : Nat} (h : i < 3) : (A1 b).2.1 (b + (223+5*i)) = 512 := A1_l rfl ((s1_slot i h).2.2.2.2.2.1)
theorem sl_l1 {b i : Nat} (h : i < 3) : (A1 b).2.1 (b + (225+5*i)) = 512 := A1_l rfl ((s1_slot i h).2.2.2.2.2.2)
theorem rc_0 {b i : Nat} (h : i < 6) : (A1 b).2.2 (b + (51)) (i) = b + (53+4*i) := A1_f rfl ((s1_rec i h).1)
theorem rc_1 {b i : Nat} (h : i < 6) : (A1 b).2.2 (b + (52)) (i) = b + (55+4*i) := A1_f rfl ((s1_rec i h).2.1)
theorem rc_2 {b i : Nat} (h : i < 6) : (A1 b).2.2 (b + (53+4*i)) 0 = b + (54+4*i) := A1_f rfl ((s1_rec i h).2.2.1)
theorem rc_3 {b i : Nat} (h : i < 6) : (A1 b).2.2 (b + (55+4*i)) 0 = b + (56+4*i) := A1_f rfl ((s1_rec i h).2.2.2.1)
theorem rc_l0 {b i : Nat} (h : i < 6) : (A1 b).2.1 (b + (54+4*i)) = 512 := A1_l rfl ((s1_rec i h).2.2.2.2.1)
theorem rc_l1 {b i : Nat} (h : i < 6) : (A1 b).2.1 (b + (56+4*i)) = 512 := A1_l rfl ((s1_rec i h).2.2.2.2.2)
theorem t1_0 {b t : Nat} (ht : t = b + 77 ∨ t = b + 149) : (A1 b).2.2 t 0 = t + 1 := by
  rcases ht with rfl | rfl
  · exact (A1_f (a := 77) (by omega) (q_fR1 (i := 76) rfl)).trans (by omega)
  · exact (A1_f (a := 149) (by omega) (q_fR1 (i := 77) rfl)).trans (by omega)
theorem t1_1 {b t : Nat} (ht : t = b + 77 ∨ t = b + 149) : (A1 b).2.2 t (1) = t + 2 := by
  rcases ht with rfl | rfl
  · exact (A1_f (a := 77) (by omega) (q_fR1 (i := 78) rfl)).trans (by omega)
  · exact (A1_f (a := 149) (by omega) (q_fR1 (i := 79) rfl)).trans (by omega)
theorem t1_2 {b t : Nat} (ht : t = b + 77 ∨ t = b + 149) : (A1 b).2.2 t (2) = t + 3 := by
  rcases ht with rfl | rfl
  · exact (A1_f (a := 77) (by omega) (q_fR1 (i := 80) rfl)).trans (by omega)
  · exact (A1_f (a := 149) (by omega) (q_fR1 (i := 81) rfl)).trans (by omega)
theorem t1_3 {b t : Nat} (ht : t = b + 77 ∨ t = b + 149) : (A1 b).2.2 t (3) = t + 4 := by
  rcases ht with rfl | rfl
  · exact (A1_f (a := 77) (by omega) (q_fR1 (i := 82) rfl)).trans (by omega)
  · exact (A1_f (a := 149) (by omega) (q_fR1 (i := 83) rfl)).trans (by omega)
theorem t1_4 {b t : Nat} (ht : t = b + 77 ∨ t = b + 149) : (A1 b).2.2 t (4) = t + 6 := by
  rcases ht with rfl | rfl
  · exact (A1_f (a := 77) (by omega) (q_fR1 (i := 84) rfl)).trans (by omega)
  · exact (A1_f (a := 149) (by omega) (q_fR1 (i := 85) rfl)).trans (by omega)
theorem t1_5 {b t : Nat} (ht : t = b + 77 ∨ t = b + 149) : (A1 b).2.2 t (5) = t + 8 := by
  rcases ht with rfl | rfl
  · exact (A1_f (a := 77) (by omega) (q_fR1 (i := 86) rfl)).trans (by omega)
  · exact (A1_f (a := 149) (by omega) (q_fR1 (i := 87) rfl)).trans (by omega)
theorem t1_6 {b t : Nat} (ht : t = b + 77 ∨ t = b + 149) : (A1 b).2.2 t (6) = t + 10 := by
  rcases ht with rfl | rfl
  · exact (A1_f (a := 77) (by omega) (q_fR1 (i := 88) rfl)).trans (by omega)
  · exact (A1_f (a := 149) (by omega) (q_fR1 (i := 89) rfl)).trans (by omega)
theorem t1_7 {b t : Nat} (ht : t = b + 77 ∨ t = b + 149) : (A1 b).2.2 (t+4) 0 = t + 5 := by
  rcases ht with rfl | rfl
  · exact (A1_f (a := 77+4) (by omega) (q_fR1 (i := 90) rfl)).trans (by omega)
  · exact (A1_f (a := 149+4) (by omega) (q_fR1 (i := 91) rfl)).trans (by omega)
theorem t1_8 {b t : Nat} (ht : t = b + 77 ∨ t = b + 149) : (A1 b).2.2 (t+6) 0 = t + 7 := by
  rcases ht with rfl | rfl
  · exact (A1_f (a := 77+6) (by omega) (q_fR1 (i := 92) rfl)).trans (by omega)
  · exact (A1_f (a := 149+6) (by omega) (q_fR1 (i := 93) rfl)).trans (by omega)
theorem t1_9 {b t : Nat} (ht : t = b + 77 ∨ t = b + 149) : (A1 b).2.2 (t+8) 0 = t + 9 := by
  rcases ht with rfl | rfl
  · exact (A1_f (a := 77+8) (by omega) (q_fR1 (i := 94) rfl)).trans (by omega)
  · exact (A1_f (a := 149+8) (by omega) (q_fR1 (i := 95) rfl)).trans (by omega)
theorem t1_10 {b t : Nat} (ht : t = b + 77 ∨ t = b + 149) : (A1 b).2.2 (t+10) 0 = t + 11 := by
  rcases ht with rfl | rfl
  · exact (A1_f (a := 77+10) (by omega) (q_fR1 (i := 96) rfl)).trans (by omega)
  · exact (A1_f (a := 149+10) (by omega) (q_fR1 (i := 97) rfl)).trans (by omega)
theorem t1_l0 {b t : Nat} (ht : t = b + 77 ∨ t = b + 149) : (A1 b).2.1 (t + 1) = 8 := by
  rcases ht with rfl | rfl
  · exact A1_l (a := 77+1) (by omega) (q_fL1 (i := 98) rfl)
  · exact A1_l (a := 149+1) (by omega) (q_fL1 (i := 99) rfl)
theorem t1_l1 {b t : Nat} (ht : t = b + 77 ∨ t = b + 149) : (A1 b).2.1 (t + 2) = 6 := by
  rcases ht with rfl | rfl
  · exact A1_l (a := 77+2) (by omega) (q_fL1 (i := 100) rfl)
  · exact A1_l (a := 149+2) (by omega) (q_fL1 (i := 101) rfl)
theorem t1_l2 {b t : Nat} (ht : t = b + 77 ∨ t = b + 149) : (A1 b).2.1 (t + 3) = 6 := by
  rcases ht with rfl | rfl
  · exact A1_l (a := 77+3) (by omega) (q_fL1 (i := 102) rfl)
  · exact A1_l (a := 149+3) (by omega) (q_fL1 (i := 103) rfl)
theorem t1_l3 {b t : Nat} (ht : t = b + 77 ∨ t = b + 149) : (A1 b).2.1 (t + 5) = 4 := by
  rcases ht with rfl | rfl
  · exact A1_l (a := 77+5) (by omega) (q_fL1 (i := 104) rfl)
  · exact A1_l (a := 149+5) (by omega) (q_fL1 (i := 105) rfl)
theorem t1_l4 {b t : Nat} (ht : t = b + 77 ∨ t = b + 149) : (A1 b).2.1 (t + 7) = 4 := by
  rcases ht with rfl | rfl
  · exact A1_l (a := 77+7) (by omega) (q_fL1 (i := 106) rfl)
  · exact A1_l (a := 149+7) (by omega) (q_fL1 (i := 107) rfl)
theorem t1_l5 {b t : Nat} (ht : t = b + 77 ∨ t = b + 149) : (A1 b).2.1 (t + 9) = 4 := by
  rcases ht with rfl | rfl
  · exact A1_l (a := 77+9) (by omega) (q_fL1 (i := 108) rfl)
  · exact A1_l (a := 149+9) (by omega) (q_fL1 (i := 109) rfl)
theorem t1_l6 {b t : Nat} (ht : t = b + 77 ∨ t = b + 149) : (A1 b).2.1 (t + 11) = 4 := by
  rcases ht with rfl | rfl
  · exact A1_l (a := 77+11) (by omega) (q_fL1 (i := 110) rfl)
  · exact A1_l (a := 149+11) (by omega) (q_fL1 (i := 111) rfl)
theorem tc_0 {b t i : Nat} (ht : t = b + 77 ∨ t = b + 149) (h : i < 8) : (A1 b).2.2 (t+1) (i) = t + 12 + 3 * i := by
  rcases ht with rfl | rfl
  · exact (A1_f (a := 77+1) (by omega) ((s1_tc_77 i h).1)).trans (by omega)
  · exact (A1_f (a := 149+1) (by omega) ((s1_tc_149 i h).1)).trans (by omega)
theorem tc_1 {b t i : Nat} (ht : t = b + 77 ∨ t = b + 149) (h : i < 8) : (A1 b).2.2 (t+12+3*i) 0 = t + 13 + 3 * i := by
  rcases ht with rfl | rfl
  · exact (A1_f (a := 77+12+3*i) (by omega) ((s1_tc_77 i h).2.1)).trans (by omega)
  · exact (A1_f (a := 149+12+3*i) (by omega) ((s1_tc_149 i h).2.1)).trans (by omega)
theorem tc_2 {b t i : Nat} (ht : t = b + 77 ∨ t = b + 149) (h : i < 8) : (A1 b).2.2 (t+13+3*i) 0 = t + 14 + 3 * i := by
  rcases ht with rfl | rfl
  · exact (A1_f (a := 77+13+3*i) (by omega) ((s1_tc_77 i h).2.2.1)).trans (by omega)
  · exact (A1_f (a := 149+13+3*i) (by omega) ((s1_tc_149 i h).2.2.1)).trans (by omega)
theorem tc_l0 {b t i : Nat} (ht : t = b + 77 ∨ t = b + 149) (h : i < 8) : (A1 b).2.1 (t + 14 + 3 * i) = 127 := by
  rcases ht with rfl | rfl
  · exact A1_l (a := 77+14+3*i) (by omega) ((s1_tc_77 i h).2.2.2)
  · exact A1_l (a := 149+14+3*i) (by omega) ((s1_tc_149 i h).2.2.2)
theorem th_0 {b t i : Nat} (ht : t = b + 77 ∨ t = b + 149) (h : i < 6) : (A1 b).2.2 (t+2) (i) = t + 36 + i := by
  rcases ht with rfl | rfl
  · exact (A1_f (a := 77+2) (by omega) ((s1_th_77 i h))).trans (by omega)
  · exact (A1_f (a := 149+2) (by omega) ((s1_th_149 i h))).trans (by omega)
theorem ts_0 {b t i : Nat} (ht : t = b + 77 ∨ t = b + 149) (h : i < 6) : (A1 b).2.2 (t+3) (i) = t + 42 + 5 * i := by
  rcases ht with rfl | rfl
  · exact (A1_f (a := 77+3) (by omega) ((s1_ts_77 i h).1)).trans (by omega)
  · exact (A1_f (a := 149+3) (by omega) ((s1_ts_149 i h).1)).trans (by omega)
theorem ts_1 {b t i : Nat} (ht : t = b + 77 ∨ t = b + 149) (h : i < 6) : (A1 b).2.2 (t+42+5*i) 0 = t + 43 + 5 * i := by
  rcases ht with rfl | rfl
  · exact (A1_f (a := 77+42+5*i) (by omega) ((s1_ts_77 i h).2.1)).trans (by omega)
  · exact (A1_f (a := 149+42+5*i) (by omega) ((s1_ts_149 i h).2.1)).trans (by omega)
theorem ts_2 {b t i : Nat} (ht : t = b + 77 ∨ t = b + 149) (h : i < 6) : (A1 b).2.2 (t+42+5*i) (1) = t + 45 + 5 * i := by
  rcases ht with rfl | rfl
  · exact (A1_f (a := 77+42+5*i) (by omega) ((s1_ts_77 i h).2.2.1)).trans (by omega)
  · exact (A1_f (a := 149+42+5*i) (by omega) ((s1_ts_149 i h).2.2.1)).trans (by omega)
theorem ts_3 {b t i : Nat} (ht : t = b + 77 ∨ t = b + 149) (h : i < 6) : (A1 b).2.2 (t+43+5*i) 0 = t + 44 + 5 * i := by
  rcases ht with rfl | rfl
  · exact (A1_f (a := 77+43+5*i) (by omega) ((s1_ts_77 i h).2.2.2.1)).trans (by omega)
  · exact (A1_f (a := 149+43+5*i) (by omega) ((s1_ts_149 i h).2.2.2.1)).trans (by omega)
theorem ts_4 {b t i : Nat} (ht : t = b + 77 ∨ t = b + 149) (h : i < 6) : (A1 b).2.2 (t+45+5*i) 0 = t + 46 + 5 * i := by
  rcases ht with rfl | rfl
  · exact (A1_f (a := 77+45+5*i) (by omega) ((s1_ts_77 i h).2.2.2.2.1)).trans (by omega)
  · exact (A1_f (a := 149+45+5*i) (by omega) ((s1_ts_149 i h).2.2.2.2.1)).trans (by omega)
theorem ts_l0 {b t i : Nat} (ht : t = b + 77 ∨ t = b + 149) (h : i < 6) : (A1 b).2.1 (t + 44 + 5 * i) = 6 := by
  rcases ht with rfl | rfl
  · exact A1_l (a := 77+44+5*i) (by omega) ((s1_ts_77 i h).2.2.2.2.2.1)
  · exact A1_l (a := 149+44+5*i) (by omega) ((s1_ts_149 i h).2.2.2.2.2.1)
theorem ts_l1 {b t i : Nat} (ht : t = b + 77 ∨ t = b + 149) (h : i < 6) : (A1 b).2.1 (t + 46 + 5 * i) = 6 := by
  rcases ht with rfl | rfl
  · exact A1_l (a := 77+46+5*i) (by omega) ((s1_ts_77 i h).2.2.2.2.2.2)
  · exact A1_l (a := 149+46+5*i) (by omega) ((s1_ts_149 i h).2.2.2.2.2.2)
