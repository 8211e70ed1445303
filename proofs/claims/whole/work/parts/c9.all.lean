/-! level two: all 47, and how it begins -/
theorem R_all : q_L2 q_Rel := ⟨R_feed, R_back, R_read, R_place, R_code, R_chip, R_alike, R_worst, R_times, R_depth, R_family, R_sample, R_power, R_wave, R_add, R_noise, R_anew, R_sum, R_metric, R_best, R_second, R_peak, R_alarms, R_plan, R_mean, R_over, R_bit, R_wrong, R_joined, R_frame, R_hurt, R_atOnce, R_taken, R_rest, R_loop, R_follows, R_range, R_near, R_hop, R_hits, R_worstHits, R_crowded, R_jammed, R_strongest, R_hold, R_restore, R_count⟩
def q_z1 : Bool := (q_cI q_S1 77 7 == 0) && (q_cI q_S1 77 8 == 0) && (q_cI q_S1 77 9 == 0) && (q_cI q_S1 77 10 == 0) && (q_cI q_S1 77 11 == 0) && (q_cI q_S1 77 12 == 256) && (q_cI q_S1 77 13 == 0) && (q_cI q_S1 77 14 == 0) && (q_cR q_S1 0 6 == some 77) && (q_cR q_S1 0 7 == some 149) && (q_cI q_S1 21 2 == 256) && (q_cI q_S1 2 6 == 0) && (q_cI q_S1 0 9 == 0) && (q_cI q_S1 0 8 == q_cI q_S2 0 17)
def q_z2 : Bool := (q_cI q_S2 0 18 == 0) && (q_cI q_S2 11 0 == 0) && (q_cI q_S2 14 0 == 0) && (q_cI q_S2 18 0 == 0) && (q_cI q_S2 25 0 == 0) && (q_cI q_S2 29 0 == 0) && (q_cI q_S2 34 0 == 0) && (q_cI q_S2 35 0 == 0) && (q_cI q_S2 36 0 == 256) && (q_cI q_S2 0 2 == 0)
def q_z3 : Bool := (q_cg q_S1 23).2.2.2.2.all (fun x => x == 0) && (q_cg q_S1 25).2.2.2.2.all (fun x => x == 0) && (q_cg q_S2 39).2.2.2.1.all (fun x => x == 0) && (q_cg q_S2 49).2.2.2.1.all (fun x => x == 0) && (q_cg q_S2 12).2.2.2.1.all (fun x => x == 0) && ((q_cg q_S1 12).2.2.2.2 == (q_cg q_S2 7).2.2.2.2)
set_option maxRecDepth 100000 in
theorem q_z1_t : q_z1 = true := by decide +kernel
set_option maxRecDepth 100000 in
theorem q_z2_t : q_z2 = true := by decide +kernel
set_option maxRecDepth 100000 in
theorem q_z3_t : q_z3 = true := by decide +kernel
theorem q_az {α : Type} [DecidableEq α] {z : α} {l : List α} (h : l.all (fun x => x == z) = true) (k : Nat) : l.getD k z = z := by
  rw [List.getD_eq_getElem?_getD]
  cases g : l[k]? with
  | none => rfl
  | some y =>
    have h2 := List.all_eq_true.mp h y (List.mem_of_getElem? g)
    exact eq_of_beq h2
theorem R_0 (b1 b2 : Nat) : q_Rel 0 b1 b2 (q_cd b1 q_S1) (q_cd b2 q_S2) := by
  have z1 := q_z1_t
  have z2 := q_z2_t
  have z3 := q_z3_t
  unfold q_z1 at z1
  unfold q_z2 at z2
  unfold q_z3 at z3
  simp only [Bool.and_eq_true, beq_iff_eq] at z1 z2 z3
  obtain ⟨⟨⟨⟨⟨⟨⟨⟨⟨⟨⟨⟨⟨a1, a2⟩, a3⟩, a4⟩, a5⟩, a6⟩, a7⟩, a8⟩, a9⟩, a10⟩, a11⟩, a12⟩, a13⟩, a14⟩ := z1
  obtain ⟨⟨⟨⟨⟨⟨⟨⟨⟨c1, c2⟩, c3⟩, c4⟩, c5⟩, c6⟩, c7⟩, c8⟩, c9⟩, c10⟩ := z2
  obtain ⟨⟨⟨⟨⟨e1, e2⟩, e3⟩, e4⟩, e5⟩, e6⟩ := z3
  have I1 : ∀ a k, (q_cd b1 q_S1).1 (b1 + a) k = q_cI q_S1 a k := q_cd_I b1 q_S1
  have I2 : ∀ a k, (q_cd b2 q_S2).1 (b2 + a) k = q_cI q_S2 a k := q_cd_I b2 q_S2
  have J1 : ∀ a k, (q_cd b1 q_S1).2.1 (b1 + a) k = q_cJ q_S1 a k := q_cd_J b1 q_S1
  have J2 : ∀ a k, (q_cd b2 q_S2).2.1 (b2 + a) k = q_cJ q_S2 a k := q_cd_J b2 q_S2
  have R1 : ∀ a k, (q_cd b1 q_S1).2.2 (b1 + a) k = (q_cR q_S1 a k).map (b1 + ·) := q_cd_R b1 q_S1
  have I10 : ∀ k, (q_cd b1 q_S1).1 b1 k = q_cI q_S1 0 k := fun k => by have h := I1 0 k; rw [Nat.add_zero] at h; exact h
  have I20 : ∀ k, (q_cd b2 q_S2).1 b2 k = q_cI q_S2 0 k := fun k => by have h := I2 0 k; rw [Nat.add_zero] at h; exact h
  have R10 : ∀ k, (q_cd b1 q_S1).2.2 b1 k = (q_cR q_S1 0 k).map (b1 + ·) := fun k => by have h := R1 0 k; rw [Nat.add_zero] at h; exact h
  have key : ∀ i, q_cJ q_S2 7 i = wJ (q_key i) := fun i => (Int64.ofInt_toInt _).symm
  have w0 : (0 : Int32) = wI ((0 : Nat) : Int) := rfl
  have w256 : (256 : Int32) = wI ((256 : Nat) : Int) := rfl
  refine ⟨kt_0, b1 + 77, 0, fun _ _ => 0, ⟨kt_0_wf, Or.inl rfl, ?_, fun c hc => absurd hc (Nat.not_lt_zero c), fun c hc => absurd hc (Nat.not_lt_zero c), fun c hc => absurd hc (Nat.not_lt_zero c), fun c hc => absurd hc (Nat.not_lt_zero c), fun c hc => absurd hc (Nat.not_lt_zero c)⟩, ⟨kt_0_wf, ?_, fun c hc => absurd hc (Nat.not_lt_zero c), fun c hc => absurd hc (Nat.not_lt_zero c), fun c hc => absurd hc (Nat.not_lt_zero c), fun c hc => absurd hc (Nat.not_lt_zero c), fun c hc => absurd hc (Nat.not_lt_zero c)⟩, ⟨?_, ?_⟩, ⟨?_, fun i hi => ⟨?_, ?_⟩⟩, fun i hi => ⟨?_, ?_⟩, ⟨fun a i => ⟨by show -(2000 + 6240 * ((0 : Nat) : Int)) ≤ (0 : Int); omega, by show (0 : Int) ≤ 2000 + 6240 * ((0 : Nat) : Int); omega⟩, fun _ _ _ => rfl⟩, ⟨0, fun _ => 0, by omega, ?_, ?_, fun i hi => absurd hi (Nat.not_lt_zero i)⟩, ⟨0, by omega, ?_, fun s hs => ⟨?_, fun z => ?_⟩⟩, ⟨fun i hi => ⟨?_, ?_⟩, fun j hj => ⟨0, by omega, ?_⟩⟩, ?_⟩
  · unfold q_T0
    rw [I1, I1, I1, I1, I1, I1, I1, I1, a1, a2, a3, a4, a5, a6, a7, a8]
    exact ⟨rfl, rfl, rfl, rfl, rfl, rfl, rfl, rfl⟩
  · unfold q_M0
    rw [I20, I2, I2, I2, I2, I2, I2, I2, I2, c1, c2, c3, c4, c5, c6, c7, c8, c9]
    exact ⟨by omega, rfl, rfl, rfl, rfl, rfl, rfl, rfl, rfl, rfl⟩
  · rw [R10, a9]; rfl
  · rw [R10, a10]
    show some (b1 + 149) = some (2 * b1 + 226 - (b1 + 77))
    rw [show 2 * b1 + 226 - (b1 + 77) = b1 + 149 by omega]
  · rw [I1, a11]; rfl
  · rw [show b1 + 21 + 2 = b1 + 23 from rfl, J1]; exact q_az e1 i
  · rw [show b1 + 21 + 4 = b1 + 25 from rfl, J1]; exact q_az e2 i
  · rw [I2]; exact q_az e3 i
  · rw [I2]; exact q_az e3 _
  · rw [I1, a12]; rfl
  · rw [I20, c10]; rfl
  · rw [I10, a13]; rfl
  · rw [I2, Nat.zero_div]; exact q_az e4 s
  · rw [Nat.zero_div] at z; exact absurd z (by decide)
  · rw [J1, ← key]
    show (q_cg q_S1 12).2.2.2.2.getD i 0 = (q_cg q_S2 7).2.2.2.2.getD i 0
    rw [e6]
  · rw [J2, ← key]
  · rw [I2]; exact q_az e5 j
  · rw [I10, I20]; exact a14
