/-! at the law's entry: the classes, the rows' classes, the texts -/
theorem q_kn1 {s : State} {args : Array Value} (hq : ∀ w ∈ q_tbl, w.before args s = true) {ci : Nat} {ty : Nat → FieldType} (hc : q_Cl ci ty) {own : String} {idx : Nat} (hn : q_Nl own idx ci) : ∃ x : ClassId × (Nat → Nat), ∀ q : vw_C, vwCl[ci]? = some q → u_Kn s q.1 q.2.1 q.2.2 x.1 x.2 := by
  obtain ⟨C, T, N, h1, hin, -, -⟩ := hc
  obtain ⟨C', T', N', h2, -, -, w2, -⟩ := hn
  have h3 := Option.some.inj (h2.symm.trans h1)
  cases h3
  obtain ⟨cC, iS, h⟩ := u_known hq hin (hq _ w2)
  refine ⟨(cC, iS), fun q hq => ?_⟩
  rw [h1] at hq
  cases hq
  exact h
theorem q_arrP {s : State} {args : Array Value} {ty : FieldType} (h : (Cond.arrayClass ty).before args s = true) (hra : ∀ cA, s.vm.findClass ("[" ++ ty.toString) = some cA → va_RA s cA ty) : ∃ cA, ArrOfT s cA ty ∧ va_RA s cA ty := by
  obtain ⟨c, k, comp, h1, h2, h3⟩ := Cond.arrayClass_spec h
  exact ⟨c, fun n z => ⟨fun k h => (by cases h), k, h2, comp, h3⟩, hra c h1⟩
theorem q_arrO {s : State} {args : Array Value} {n : String} (h : (Cond.arrayOver (.object n)).before args s = true) : ∃ cA, ArrOfT s cA (.object n) ∧ va_RA s cA (.object n) := by
  obtain ⟨comp, c, k, h1, -, h3, h4, h5⟩ := Cond.arrayOver_spec h
  exact ⟨c, fun n z => ⟨fun k h => (by cases h), k, h3, comp, h4⟩, k, comp, h3, h4, h1, h5⟩
theorem q_sof0 : ∀ i, i < 9 → (Cond.exactly (.string RX9 (q_sx.getD i 0)) "java/lang/String") ∈ flatC (Jvm.Cond.and given_1 narrow_1) := by decide +kernel
theorem q_sof1 : ∀ i, i < 9 → (Cond.eq (.field (.string RX9 (q_sx.getD i 0)) "java/lang/String" "coder" "B") (.int 0)) ∈ flatC (Jvm.Cond.and given_1 narrow_1) := by decide +kernel
theorem q_sof2 : ∀ i, i < 9 → (Cond.arrayOf (.field (.string RX9 (q_sx.getD i 0)) "java/lang/String" "value" "[B") .byte) ∈ flatC (Jvm.Cond.and given_1 narrow_1) := by decide +kernel
theorem q_sof3 : ∀ i, i < 9 → (Cond.eq (.length (.field (.string RX9 (q_sx.getD i 0)) "java/lang/String" "value" "[B")) (.int (Int32.ofNat (q_sl.getD i 0)))) ∈ flatC (Jvm.Cond.and given_1 narrow_1) := by decide +kernel
theorem q_sof4 : ∀ i, i < 9 → ∀ j, j < q_sl.getD i 0 → (Cond.eq (.elem (.field (.string RX9 (q_sx.getD i 0)) "java/lang/String" "value" "[B") (.int (Int32.ofNat j))) (.int ((q_sb.getD i []).getD j 0))) ∈ flatC (Jvm.Cond.and given_1 narrow_1) := by decide +kernel
theorem q_sof5 : ∀ i, i < 9 → ∀ j, j < 9 → i ≠ j → (Cond.not (Cond.eq (.string RX9 (q_sx.getD i 0)) (.string RX9 (q_sx.getD j 0)))) ∈ flatC (Jvm.Cond.and given_1 narrow_1) ∨ (Cond.not (Cond.eq (.string RX9 (q_sx.getD j 0)) (.string RX9 (q_sx.getD i 0)))) ∈ flatC (Jvm.Cond.and given_1 narrow_1) := by decide +kernel
theorem q_sof6 : ∀ i, i < 9 → (Cond.stringRef RX9 (q_sx.getD i 0) (q_st.getD i "")) ∈ lw_tbl := by decide +kernel
theorem q_sof7 : (Cond.eq (.static "java/lang/String" "COMPACT_STRINGS" "Z") (.int 1)) ∈ flatC (Jvm.Cond.and given_1 narrow_1) ∧ (Cond.isRef (.static "jdk/internal/util/Preconditions" "SIOOBE_FORMATTER" "Ljava/util/function/BiFunction;")) ∈ flatC (Jvm.Cond.and given_1 narrow_1) := by decide +kernel
theorem q_sof8 : (Cond.laysStatic "java/lang/String" "COMPACT_STRINGS" "Z") ∈ lw_tbl ∧ (Cond.initialized "java/lang/String") ∈ lw_tbl ∧ (Cond.laysStatic "jdk/internal/util/Preconditions" "SIOOBE_FORMATTER" "Ljava/util/function/BiFunction;") ∈ lw_tbl ∧ (Cond.initialized "jdk/internal/util/Preconditions") ∈ lw_tbl := by decide +kernel
set_option maxRecDepth 100000 in
theorem q_start {p : Program} {s : State} {m : MethodId} {meth : Method} {c : Code} {b L : Nat} {xs : Nat → Int32} (C0 : lw_At p s m meth c b L xs) : ∃ D : q_D, q_K D s ∧ q_S D (fun q => s.heap.size ≤ q) s := by
  obtain ⟨-, -, -, -, -, hts, -, -, -, hgv⟩ := C0
  have hf := flat_of_before _ hgv
  have hq : ∀ w ∈ q_tbl, w.before #[Value.ref b] s = true := fun w hw => hts w (List.mem_filter.mp hw).1
  have hn : ∀ w ∈ q_nst, w.before #[Value.ref b] s = true := fun w hw => hts w (List.mem_filter.mp hw).1
  have h0 : ∀ ci : Nat, ∃ x : ClassId × (Nat → Nat), ∀ q : vw_C, vwCl[ci]? = some q → u_Kn s q.1 q.2.1 q.2.2 x.1 x.2 := by
    intro ci
    match ci with
    | 0 => exact q_kn1 hq cl_0 nl_RX10_9
    | 1 => exact q_kn1 hq cl_1 nl_RX10_17
    | 2 => exact q_kn1 hq cl_2 nl_RX11_27
    | 3 => exact q_kn1 hq cl_3 nl_RX11_7
    | 4 => exact q_kn1 hq cl_4 nl_RX11_41
    | 5 => exact q_kn1 hq cl_5 nl_RX9_9
    | 6 => exact q_kn1 hq cl_6 nl_RX11_34
    | 7 => exact q_kn1 hq cl_7 nl_RX10_23
    | 8 => exact q_kn1 hq cl_8 nl_RX11_16
    | 9 => exact q_kn1 hq cl_9 nl_RX3_9
    | 10 => exact q_kn1 hq cl_10 nl_RX11_48
    | 11 => exact q_kn1 hq cl_11 nl_RL_7
    | 12 => exact q_kn1 hq cl_12 nl_RL_10
    | ci + 13 => exact ⟨(0, fun _ => 0), fun q hq => by simp [vwCl] at hq⟩
  obtain ⟨f, hf0⟩ := Classical.axiomOfChoice h0
  obtain ⟨a20, p20⟩ := q_arrP (hq _ wa_byte) (fun _ h => h)
  obtain ⟨a21, p21⟩ := q_arrP (hq _ wa_int) (fun _ h => h)
  obtain ⟨a22, p22⟩ := q_arrP (hq _ wa_long) (fun _ h => h)
  obtain ⟨a23, p23⟩ := q_arrP (hq _ wa_boolean) (fun _ h => h)
  obtain ⟨a30, p30⟩ := q_arrO (hn _ wo_0)
  obtain ⟨a31, p31⟩ := q_arrO (hn _ wo_1)
  obtain ⟨a35, p35⟩ := q_arrO (hn _ wo_5)
  obtain ⟨a37, p37⟩ := q_arrO (hn _ wo_7)
  obtain ⟨a38, p38⟩ := q_arrO (hn _ wo_8)
  obtain ⟨adK, adV, hS1, hS2⟩ := vk_Sof (args := #[Value.ref b]) (s := s) (N := 9) (tm := fun i => .string RX9 (q_sx.getD i 0)) (len := q_sl) (byt := q_sb) (A := fun q => s.heap.size ≤ q) q_sl31 (fun i hi => hf _ (q_sof0 i hi)) (fun i hi => hf _ (q_sof1 i hi)) (fun i hi => hf _ (q_sof2 i hi)) (fun i hi => hf _ (q_sof3 i hi)) (fun i hi j hj => hf _ (q_sof4 i hi j hj)) (fun i j hi hj hne => (q_sof5 i hi j hj hne).imp (hf _) (hf _)) (fun a ha => Nat.not_le.mpr ha)
  refine ⟨((fun ci => (f ci).1, fun ci => (f ci).2), (fun k => if k = 20 then a20 else if k = 21 then a21 else if k = 22 then a22 else if k = 23 then a23 else if k = 30 then a30 else if k = 31 then a31 else if k = 35 then a35 else if k = 37 then a37 else a38), adK, adV), ⟨⟨fun ci q h => hf0 ci q h, fun k q h => ?_⟩, fun w hw => ?_, fun i hi => ?_⟩, hS1, ?_, ?_⟩
  · match k, h with
    | 0, h => cases h; exact p20
    | 1, h => cases h; exact p21
    | 2, h => cases h; exact p22
    | 3, h => cases h; exact p23
    | 4, h => cases h; exact p30
    | 5, h => cases h; exact p31
    | 6, h => cases h; exact p35
    | 7, h => cases h; exact p37
    | 8, h => cases h; exact p38
    | k + 9, h => simp [q_tys] at h
  · have h1 := hn w hw
    have h2 := (List.mem_filter.mp hw).2
    cases w <;> first | exact va_Nw.of rfl h1 | (simp [q_isN] at h2; done) | (rename_i t; cases t <;> first | (simp [q_isN] at h2; done) | exact va_AO.of h1)
  · exact vk_R.of (hts _ (q_sof6 i hi)) (hS2 i hi)
  · exact va_Zof (hts _ q_sof8.1) (hts _ q_sof8.2.1) (va_eqi (hf _ q_sof7.1)) (fun a ha => Nat.not_le.mpr ha)
  · exact va_Zqof (hts _ q_sof8.2.2.1) (hts _ q_sof8.2.2.2) (hf _ q_sof7.2) (fun a ha => Nat.not_le.mpr ha)
