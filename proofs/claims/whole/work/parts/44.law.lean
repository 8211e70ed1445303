/-! all is made: kinds as they stay; the law's two worlds -/
def q_seal (C : List q_Ce) : List q_Ce := C.map (fun e => if 100 < e.1 then (e.1 - 100, e.2) else e)
theorem q_cg_seal (C : List q_Ce) (a : Nat) : q_cg (q_seal C) a = if 100 < (q_cg C a).1 then ((q_cg C a).1 - 100, (q_cg C a).2) else q_cg C a := by
  unfold q_cg q_seal
  simp only [List.getD_eq_getElem?_getD, List.getElem?_map]
  cases C[a]? with
  | none => rfl
  | some e => rfl
theorem q_sk (C : List q_Ce) (a : Nat) : q_ckd (q_seal C) a = if 100 < q_ckd C a then q_ckd C a - 100 else q_ckd C a := by
  unfold q_ckd
  rw [q_cg_seal]
  split <;> rfl
theorem q_s2 (C : List q_Ce) (a : Nat) : (q_cg (q_seal C) a).2 = (q_cg C a).2 := by
  rw [q_cg_seal]
  split <;> rfl
def q_okS (C : List q_Ce) : Bool := (List.range C.length).all fun a =>
  if 101 ≤ q_ckd C a ∧ q_ckd C a ≤ 113 then (List.range (q_nf (q_ckd C a - 101))).all (fun j => if q_ft (q_ckd C a - 101) j = 0 then true else match q_cR C a j with
    | some o => decide (q_ckd (q_seal C) o = q_tg (q_ckd C a - 101) j)
    | none => decide (q_ft (q_ckd C a - 101) j = 2))
  else if 130 ≤ q_ckd C a ∧ q_ckd C a ≤ 142 then (List.range (q_cln C a)).all (fun j => match q_cR C a j with
    | some o => decide (q_ckd (q_seal C) o = q_ckd C a - 129)
    | none => false)
  else decide (20 ≤ q_ckd C a ∧ q_ckd C a < 30)
theorem q_ft_lt {ci k f : Nat} (h : q_ft ci k = f) (hf : f ≠ 0) : k < q_nf ci := by
  rcases Nat.lt_or_ge k (q_nf ci) with h1 | h1
  · exact h1
  · exfalso
    apply hf
    rw [← h]
    unfold q_ft
    unfold q_nf at h1
    rw [List.getD_eq_getElem?_getD (l := q_tb.getD ci []), List.getElem?_eq_none h1]
    rfl
theorem q_ok1 {C : List q_Ce} (h : q_okS C = true) {a ci j : Nat} (hk : q_ckd C a = ci + 101) (h13 : ci < 13) (hj : j < q_nf ci) (hf : ¬ q_ft ci j = 0) : (∃ o, q_cR C a j = some o ∧ q_ckd (q_seal C) o = q_tg ci j) ∨ (q_cR C a j = none ∧ q_ft ci j = 2) := by
  have ha := q_in_of hk (by omega)
  have h1 := List.all_eq_true.mp h a (List.mem_range.mpr ha)
  rw [if_pos (by omega), show q_ckd C a - 101 = ci by omega] at h1
  have h2 := List.all_eq_true.mp h1 j (List.mem_range.mpr hj)
  rw [if_neg hf] at h2
  cases hr : q_cR C a j with
  | none => rw [hr] at h2; exact Or.inr ⟨rfl, of_decide_eq_true h2⟩
  | some o => rw [hr] at h2; exact Or.inl ⟨o, rfl, of_decide_eq_true h2⟩
theorem q_ok2 {C : List q_Ce} (h : q_okS C = true) {a ci j : Nat} (hk : q_ckd C a = ci + 130) (h13 : ci < 13) (hj : j < q_cln C a) : ∃ o, q_cR C a j = some o ∧ q_ckd (q_seal C) o = ci + 1 := by
  have ha := q_in_of hk (by omega)
  have h1 := List.all_eq_true.mp h a (List.mem_range.mpr ha)
  rw [if_neg (by omega), if_pos (by omega)] at h1
  have h2 := List.all_eq_true.mp h1 j (List.mem_range.mpr hj)
  cases hr : q_cR C a j with
  | none => rw [hr] at h2; cases h2
  | some o =>
    rw [hr] at h2
    refine ⟨o, rfl, ?_⟩
    have := of_decide_eq_true h2
    omega
theorem q_ok0 {C : List q_Ce} (h : q_okS C = true) (a : Nat) : q_ckd C a = 0 ∨ (20 ≤ q_ckd C a ∧ q_ckd C a < 30) ∨ (∃ ci, ci < 13 ∧ q_ckd C a = ci + 101) ∨ ∃ ci, ci < 13 ∧ q_ckd C a = ci + 130 := by
  by_cases h0 : q_ckd C a = 0
  · exact Or.inl h0
  have ha := q_in_of rfl h0
  have h1 := List.all_eq_true.mp h a (List.mem_range.mpr ha)
  by_cases h2 : 101 ≤ q_ckd C a ∧ q_ckd C a ≤ 113
  · exact Or.inr (Or.inr (Or.inl ⟨q_ckd C a - 101, by omega, by omega⟩))
  rw [if_neg h2] at h1
  by_cases h3 : 130 ≤ q_ckd C a ∧ q_ckd C a ≤ 142
  · exact Or.inr (Or.inr (Or.inr ⟨q_ckd C a - 130, by omega, by omega⟩))
  rw [if_neg h3] at h1
  exact Or.inr (Or.inl (of_decide_eq_true h1))
theorem q_ca_f (b : Nat) (C : List q_Ce) (a k : Nat) : (q_ca b C).2.2 (b + a) k = ((q_cR C a k).map (b + ·)).getD 0 := by simp [q_ca, q_cR]
theorem q_cR_s (C : List q_Ce) (a k : Nat) : q_cR (q_seal C) a k = q_cR C a k := by unfold q_cR; rw [q_s2]
theorem q_cI_s (C : List q_Ce) (a k : Nat) : q_cI (q_seal C) a k = q_cI C a k := by unfold q_cI; rw [q_s2]
theorem q_cJ_s (C : List q_Ce) (a k : Nat) : q_cJ (q_seal C) a k = q_cJ C a k := by unfold q_cJ; rw [q_s2]
theorem q_cl_s (C : List q_Ce) (a : Nat) : q_cln (q_seal C) a = q_cln C a := by unfold q_cln; rw [q_s2]
theorem q_ca_0 {b : Nat} {C : List q_Ce} {x : Nat} (h : x < b) : (q_ca b C).1 x = 0 := by simp [q_ca]; omega
theorem q_sealW {D : q_D} {b : Nat} {C : List q_Ce} {H : Heap} (h : q_CW D b C H) (hok : q_okS C = true) : q_W D (q_ca b (q_seal C)) (q_cd b (q_seal C)) H := by
  have hb : ∀ x, (q_ca b (q_seal C)).1 x ≠ 0 → ∃ a, x = b + a := fun x hx => by
    rcases Nat.lt_or_ge x b with h1 | h1
    · exact absurd (q_ca_0 h1) hx
    · exact ⟨x - b, by omega⟩
  refine ⟨fun x => ?_, fun x ci k h1 h2 h3 => ?_, fun x ci k o h1 h2 h3 h4 => ?_, fun x ci j h1 h2 h3 => ?_⟩
  · by_cases hx : (q_ca b (q_seal C)).1 x = 0
    · unfold q_at; rw [if_pos hx]; trivial
    obtain ⟨a, rfl⟩ := hb x hx
    have hk := q_ca_k b (q_seal C) a
    rw [q_sk] at hk
    have hat := h.1 (b + a)
    rcases q_ok0 hok a with h0 | h0 | ⟨ci, h13, h0⟩ | ⟨ci, h13, h0⟩
    · rw [h0] at hk; exact absurd hk hx
    · refine hat.frame ?_ ?_ ?_ ?_ ?_ ?_ rfl
      · rw [hk, q_ca_k, if_neg (by omega)]
      · rw [q_ca_l, q_ca_l, q_cl_s]
      · funext k; rw [q_ca_f, q_ca_f, q_cR_s]
      · funext k; rw [q_cd_I, q_cd_I, q_cI_s]
      · funext k; rw [q_cd_J, q_cd_J, q_cJ_s]
      · funext k; rw [q_cd_R, q_cd_R, q_cR_s]
    · rw [h0, if_pos (by omega), show ci + 101 - 100 = ci + 1 by omega] at hk
      rw [q_at_new (by rw [q_ca_k]; exact h0) h13] at hat
      rw [q_at_obj hk h13]
      refine hat.to fun j hj => ?_
      unfold q_fw q_fv
      by_cases hf : q_ft ci j = 0
      · rw [if_pos hf, if_pos hf, q_cd_I, q_cd_I, q_cI_s]
      · rw [if_neg hf, if_neg hf, q_cd_R, q_cd_R, q_ca_f, q_cR_s]
        rcases q_ok1 hok h0 h13 hj hf with ⟨o, ho, -⟩ | ⟨ho, h2⟩
        · rw [ho]
          by_cases h2 : q_ft ci j = 2
          · rw [if_pos h2]
          · rw [if_neg h2]; rfl
        · rw [if_pos h2]
    · rw [h0, if_pos (by omega), show ci + 130 - 100 = ci + 30 by omega] at hk
      rw [q_at_RN (k := ci + 30) (by rw [q_ca_k, h0]) (by omega)] at hat
      rw [q_at_R hk (by omega) (by omega), hat, q_ca_l, q_ca_l, q_cl_s, vp_cell_q, vp_cell_q]
      congr 1
      unfold arrV
      congr 2
      funext j
      have hj : j.val < q_cln C a := j.isLt
      obtain ⟨o, ho, -⟩ := q_ok2 hok h0 h13 hj
      dsimp only
      rw [q_cd_R, q_ca_f, q_cR_s, ho]
      rfl
  · obtain ⟨a, rfl⟩ := hb x (by omega)
    rw [q_ca_k, q_sk] at h1
    have h0 : q_ckd C a = ci + 101 := by
      rcases q_ok0 hok a with h0 | h0 | ⟨c2, -, h0⟩ | ⟨c2, -, h0⟩
      · rw [h0] at h1; simp at h1
      · rw [if_neg (by omega)] at h1; omega
      · rw [if_pos (by omega)] at h1; omega
      · rw [if_pos (by omega)] at h1; omega
    rcases q_ok1 hok h0 h2 (q_ft_lt h3 (by decide)) (by rw [h3]; decide) with ⟨o, ho, ht⟩ | ⟨-, h5⟩
    · rw [q_ca_f, q_cR_s, ho]
      show (q_ca b (q_seal C)).1 (b + o) = _
      rw [q_ca_k, ht]
    · rw [h3] at h5; exact absurd h5 (by decide)
  · obtain ⟨a, rfl⟩ := hb x (by omega)
    rw [q_ca_k, q_sk] at h1
    have h0 : q_ckd C a = ci + 101 := by
      rcases q_ok0 hok a with h0 | h0 | ⟨c2, -, h0⟩ | ⟨c2, -, h0⟩
      · rw [h0] at h1; simp at h1
      · rw [if_neg (by omega)] at h1; omega
      · rw [if_pos (by omega)] at h1; omega
      · rw [if_pos (by omega)] at h1; omega
    rw [q_cd_R, q_cR_s] at h4
    rcases q_ok1 hok h0 h2 (q_ft_lt h3 (by decide)) (by rw [h3]; decide) with ⟨o2, ho, ht⟩ | ⟨ho, -⟩
    · rw [ho] at h4
      cases h4
      rw [q_ca_k, ht]
    · rw [ho] at h4; cases h4
  · obtain ⟨a, rfl⟩ := hb x (by omega)
    rw [q_ca_k, q_sk] at h1
    have h0 : q_ckd C a = ci + 130 := by
      rcases q_ok0 hok a with h0 | h0 | ⟨c2, -, h0⟩ | ⟨c2, -, h0⟩
      · rw [h0] at h1; simp at h1
      · rw [if_neg (by omega)] at h1; omega
      · rw [if_pos (by omega)] at h1; omega
      · rw [if_pos (by omega)] at h1; omega
    rw [q_ca_l, q_cl_s] at h3
    obtain ⟨o, ho, ht⟩ := q_ok2 hok h0 h2 h3
    rw [q_ca_f, q_cR_s, ho]
    show (q_ca b (q_seal C)).1 (b + o) = _
    rw [q_ca_k, ht]
def q_N1 : List q_Ce := (IX11_init [(11 + 101, 0, [], [], [])] 0).getD []
def q_N2 : List q_Ce := (IX12_init [(12 + 101, 0, [], [], [])] 0).getD []
theorem q_some {α : Type} {o : Option α} {d : α} (h : o.isSome = true) : o = some (o.getD d) := by
  cases o with
  | none => cases h
  | some a => rfl
set_option maxRecDepth 100000 in
theorem q_N1_ok : IX11_init [(11 + 101, 0, [], [], [])] 0 = some q_N1 := q_some (by decide +kernel)
set_option maxRecDepth 100000 in
theorem q_N2_ok : IX12_init [(12 + 101, 0, [], [], [])] 0 = some q_N2 := q_some (by decide +kernel)
set_option maxRecDepth 100000 in
theorem q_N1_s : q_okS q_N1 = true := by decide +kernel
set_option maxRecDepth 100000 in
theorem q_N2_s : q_okS q_N2 = true := by decide +kernel
set_option maxRecDepth 100000 in
theorem q_N1_l : q_N1.length = 236 := by decide +kernel
set_option maxRecDepth 100000 in
theorem q_N2_l : q_N2.length = 51 := by decide +kernel
def q_S1 : List q_Ce := q_seal q_N1
def q_S2 : List q_Ce := q_seal q_N2
