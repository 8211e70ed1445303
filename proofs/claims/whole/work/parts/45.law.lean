/-! the law's calls: two worlds side by side -/
section QL
variable {p : Program} {l : Launch} {e : Env} {R : Room} {s : State} {m : MethodId} {args : Array Value} {below : List Frame} {meth : Method} {c : Code} {H : Heap} {locs : List Loc} {cells slots : Nat} {Q : State → Prop}
variable {D : q_D} {cc : ByteArray} {nL : Nat} {ret : Option FieldType} {own : String} {pc : Nat} {ls : Array Slot} {rest : List Value} {β : Type} {u : β}
theorem q_A_ca {b : Nat} {C : List q_Ce} {q : Nat} (h : q_A (q_ca b C) q) : b ≤ q ∧ q < b + C.length := by
  rcases Nat.lt_or_ge q b with h1 | h1
  · exact absurd (q_ca_0 h1) h
  · refine ⟨h1, ?_⟩
    rcases Nat.lt_or_ge q (b + C.length) with h2 | h2
    · exact h2
    · exfalso
      apply h
      show (if b ≤ q then (q_cg C (q - b)).1 else 0) = 0
      rw [if_pos h1]
      unfold q_cg
      rw [List.getD_eq_getElem?_getD, List.getElem?_eq_none (by omega)]
      rfl
theorem q_callL (Y : q_Cy D s.heap.size cc nL ret own p s m args meth c) {b bo : Nat} {C Co : List q_Ce} {dt dto dt' : q_Dt} (hW : q_W D (q_ca b C) dt H) (hWo : q_W D (q_ca bo Co) dto H) (hdis : b + C.length ≤ bo ∨ bo + Co.length ≤ b) (hlo : s.heap.size ≤ b) (hS : va_S (fun q => s.heap.size ≤ q) s.heap H locs) {y : MethodName} {cc' : ByteArray} {maxL' : Nat} {ret' : Option FieldType} {fr lo n idx rk : Nat} {As : List Value} {rv : Option Value} {st0 st1 : List Value} {lv : List (Nat × Value)}
    (hM : q_Mt l y cc' maxL' ret' fr lo D (q_ca b C) (.ref b :: As) dt rk rv dt') (hY : q_Yl y cc' maxL' ret' n) (hV : q_Vl y) (hL : q_Ml own idx y) {ci : Nat} {T : u_T} {N : Nat} (hc : vwCl[ci]? = some (y.cls, T, N)) (hk : (q_ca b C).1 b = ci + 1) (h13 : ci < 13) (hn : As.length = n) (hR : fr + 1 ≤ R.frames ∧ 8 + (maxL' + 11) + lo ≤ R.locals) (hl : lv_has ls nL lv) (hst : st0 = As.reverse ++ .ref b :: rest) (hcat : (rest.map fun v => v.category).sum ≤ 8) (hdg : decode cc pc = .ok (.invokevirtual idx, 3)) (hcs : cells ≤ R.cells ∧ slots ≤ R.slots) (hs1 : rv.toList ++ rest = st1)
    (kk : ∀ (H1 : Heap) (locs1 : List Loc), q_W D (q_ca b C) dt' H1 → q_W D (q_ca bo Co) dto H1 → va_S (fun q => s.heap.size ≤ q) s.heap H1 locs1 → W p l e R s m args below meth c H1 locs1 cells slots Q (F0 m (pc + 3) ls st1)) : W p l e R s m args below meth c H locs cells slots Q (F0 m pc ls st0) := by
  obtain ⟨hx, hb, hml, -, -, hown, hts, hK, hSb⟩ := Y
  have hrecv : ∃ cell : Cell, H[b]? = some cell ∧ cell.vm.isStatics = false ∧ s.vm.findClass y.cls = some cell.cls := by
    have hO := hW.1 b
    rw [q_at_obj hk h13] at hO
    obtain ⟨cell, h1, h2, h3, -⟩ := hO
    exact ⟨cell, h1, by rw [h3]; rfl, by rw [h2]; exact (hK.1.1 ci _ hc).2.1⟩
  have hg : GoodIn q_tbl (.code y cc' maxL' ret' :: q_tbl) := fun w hw => by
    rcases List.mem_cons.mp hw with rfl | hw
    · exact q_good _ hY.1
    · exact q_good _ hw
  have hA : ∀ q, q_A (q_ca b C) q → s.heap.size ≤ q := fun q hq => Nat.le_trans hlo (q_A_ca hq).1
  have hpp : ∀ U : State, U.heap = H → s.WarmedH U.vm → va_Pc (.ref b :: As) (q_B D (q_ca b C) dt) (Value.ref b :: As).toArray U := by
    intro U hU hWm
    refine ⟨rfl, by rw [hU]; exact hW, hK.warm hWm, ?_⟩
    show q_S0 D (q_A (q_ca b C)) U U.heap
    rw [hU]
    exact q_S0.narrow (A := fun q => s.heap.size ≤ q) ((q_S0.kept (H1 := H) hSb (fun a h1 h2 => hS.2.1 a h1 h2)).moved hWm.alike) hA
  have hpre : PreV s H y.cls b (va_Pc (.ref b :: As) (q_B D (q_ca b C) dt)) As := ⟨q_B.blind, hrecv, hpp⟩
  have fin : ∀ (hr : va_Run p l e R s m args below meth c H locs cells slots 0 0 (F0 m pc ls st0) rest (q_Q rv (fun H => q_W D (q_ca b C) dt' H ∧ q_Rk (q_ca b C) rk rv) (q_A (q_ca b C)) (Value.ref b :: As).toArray) (q_A (q_ca b C))), W p l e R s m args below meth c H locs cells slots Q (F0 m pc ls st0) := by
    intro hr T hT X
    obtain ⟨v, st₀, t, T', L, h0, X', hLL, e1, e2, ⟨hv, ⟨hw, -⟩, hz, hkp⟩, st⟩ := hr T hT X
    cases hv
    rw [h0] at hz hkp
    subst hs1
    have ho : q_W D (q_ca bo Co) dto T'.heap := by
      refine ⟨fun x => ?_, hWo.2⟩
      by_cases hx0 : (q_ca bo Co).1 x = 0
      · unfold q_at; rw [if_pos hx0]; trivial
      · have h5 := q_A_ca hx0
        refine (hWo.1 x).frame rfl rfl rfl rfl rfl rfl ?_
        rw [e1]
        refine hkp x ?_ (fun h6 => ?_)
        · have h8 := hWo.1 x
          unfold q_at at h8
          rw [if_neg hx0] at h8
          have some_lt : ∀ {y : Cell}, H[x]? = some y → x < H.size := fun h => (Array.getElem?_eq_some_iff.mp h).1
          split at h8
          · obtain ⟨cell, h9, -⟩ := h8; exact some_lt h9
          split at h8
          · exact some_lt h8
          split at h8
          · exact some_lt h8
          split at h8
          · exact some_lt h8
          split at h8
          · obtain ⟨cell, h9, -⟩ := h8; exact some_lt h9
          · exact some_lt h8
        · have h7 := q_A_ca h6
          omega
    obtain ⟨t2, a1, b1⟩ := kk T'.heap (locs ++ L) (by rw [e1]; exact hw) ho
      ⟨Nat.le_trans hS.1 (by rw [e1]; exact hz), fun q h1 h2 => by rw [e1, hkp q (Nat.lt_of_lt_of_le h1 hS.1) (fun z => h2 (hA q z))]; exact hS.2.1 q h1 h2, fun q hq => by
        rcases List.mem_append.mp hq with h | h
        · exact hS.2.2 q h
        · exact hA _ (hLL q h)⟩ T' rfl X'
    exact ⟨t2, st t2 a1, b1⟩
  rcases hL with hL | ⟨host, hL⟩
  · exact fin (va_runV (As := As) (rest := rest) ⟨hx, hb, hml, hown, hts⟩ hM ⟨callB_of n hts hg rfl rfl rfl (hts _ hY.2.1) (hts _ hL) hY.2.2 hR, hts _ hV.1, hts _ hV.2⟩ hpre rfl hn hl.1 hst (lv_room hcat) hdg hcs)
  · exact fin (va_runVN (As := As) (rest := rest) (host := host) ⟨hx, hb, hml, hown, hts⟩ hM ⟨va_cnB n hts hg rfl rfl rfl (hK.2.1 _ hL) (hts _ hY.2.1) hY.2.2 hR, hts _ hV.1, hts _ hV.2⟩ hpre rfl hn hl.1 hst (lv_room hcat) hdg hcs)
/-- what lies below is as it was -/
theorem i_backF {rv : Option Value} {av : Array Value} {b : Nat} {C' : List q_Ce} {mc ms : Nat} {st0 st1 : List Value} (hr : va_Run p l e R s m args below meth c H locs cells slots mc ms (F0 m pc ls st0) rest (q_Q rv (q_CW D b C') (fun q => b ≤ q) av) (fun q => b ≤ q)) (hS : va_S (fun q => s.heap.size ≤ q) s.heap H locs) (hb0 : s.heap.size ≤ b) (hs1 : rv.toList ++ rest = st1)
    (kk : ∀ (H1 : Heap) (locs1 : List Loc), q_CW D b C' H1 → (∀ q, q < b → q < H.size → H1[q]? = H[q]?) → va_S (fun q => s.heap.size ≤ q) s.heap H1 locs1 → W p l e R s m args below meth c H1 locs1 (cells + mc) (slots + ms) Q (F0 m (pc + 3) ls st1)) : W p l e R s m args below meth c H locs cells slots Q (F0 m pc ls st0) := by
  intro T hT X
  obtain ⟨v, st₀, t, T', L, h0, X', hL, e1, e2, ⟨hv, hw, hz, hk⟩, st⟩ := hr T hT X
  cases hv
  rw [h0] at hz hk
  subst hs1
  obtain ⟨t2, a1, b1⟩ := kk T'.heap (locs ++ L) (by rw [e1]; exact hw) (fun q h1 h2 => by rw [e1]; exact hk q h2 (Nat.not_le.mpr h1))
    ⟨Nat.le_trans hS.1 (by rw [e1]; exact hz), fun q h1 h2 => by rw [e1, hk q (Nat.lt_of_lt_of_le h1 hS.1) (fun z => h2 (Nat.le_trans hb0 z))]; exact hS.2.1 q h1 h2, fun q hq => by
      rcases List.mem_append.mp hq with h | h
      · exact hS.2.2 q h
      · exact Nat.le_trans hb0 (hL q h)⟩ T' rfl X'
  exact ⟨t2, st t2 a1, b1⟩
theorem i_newF (Y : q_Cy D s.heap.size cc nL ret own p s m args meth c) {b : Nat} (hH : H.size = b) (hb0 : s.heap.size ≤ b) (hS : va_S (fun q => s.heap.size ≤ q) s.heap H locs) {ci idx : Nat} {ty : Nat → FieldType} (h13 : ci < 13) (hc : q_Cl ci ty) (hd : q_Df ci ty) (hn : q_Nl own idx ci) (hdg : decode cc pc = .ok (.new idx, 3)) (hcells : cells + 1 ≤ R.cells) (hslots : slots + q_nf ci ≤ R.slots)
    (kk : ∀ (H1 : Heap), q_CW D b [(ci + 101, 0, [], [], [])] H1 → (∀ q, q < H.size → H1[q]? = H[q]?) → va_S (fun q => s.heap.size ≤ q) s.heap H1 locs → W p l e R s m args below meth c H1 locs (cells + 1) (slots + q_nf ci) Q (F0 m (pc + 3) ls (.ref b :: rest))) : W p l e R s m args below meth c H locs cells slots Q (F0 m pc ls rest) := by
  obtain ⟨hx, hb, -, -, -, hown, hts, hK, -⟩ := Y
  obtain ⟨Cn, T, N, h1, rfl, w1, w2, w3⟩ := hn
  obtain ⟨C', T', N', h2, hin, hpt, hnm⟩ := hc
  obtain ⟨rfl, rfl, rfl⟩ : C' = Cn ∧ T' = T ∧ N' = q_nf ci := by
    have h3 := Option.some.inj (h2.symm.trans h1)
    exact ⟨congrArg (·.1) h3, congrArg (·.2.1) h3, congrArg (·.2.2) h3⟩
  have hKn := hK.1.1 ci _ h1
  have hE : q_CW D b [] H := by
    refine ⟨fun x => ?_, by rw [hH]; rfl, fun j => Or.inl (by simp [q_cg])⟩
    unfold q_at
    rw [if_pos (by simp [q_ca, q_cg])]
    trivial
  refine W.newcK hx hb hown (hts _ w1) (hts _ w2) (hts _ w3) rfl hdg hcells hslots hKn.2.1 hH fun H1 kC hkC e1 z1 o1 => ?_
  have z2 : H1.size = H.size + 1 := by rw [z1, hH]
  refine kk H1 (hE.push (e := (ci + 101, 0, [], [], [])) (Or.inr (Or.inr (by show 100 < ci + 101; omega))) z2 (fun q hq => o1 q (by rw [← hH]; exact hq)) ?_) (fun q hq => o1 q (by rw [← hH]; exact hq)) ⟨Nat.le_trans hS.1 (by omega), fun x g1 g2 => (o1 x (by rw [← hH]; exact Nat.lt_of_lt_of_le g1 hS.1)).trans (hS.2.1 x g1 g2), hS.2.2⟩
  have hkd : (q_ca b ([] ++ [(ci + 101, 0, [], [], [])])).1 (b + 0) = ci + 101 := by rw [q_ca_k]; rfl
  show q_at D _ _ H1 (b + 0)
  rw [q_at_new hkd h13]
  refine (u_born ty hts hin hKn hkC e1 hpt).to fun k hk => ?_
  rw [hd k hk]
  unfold q_fw
  rw [q_cd_I, q_cd_R]
  by_cases hf : q_ft ci k = 0
  · rw [if_pos hf, if_pos hf]; rfl
  · rw [if_neg hf, if_neg hf]; rfl
theorem i_callIF (Y : q_Cy D s.heap.size cc nL ret own p s m args meth c) {b : Nat} {C : List q_Ce} (hb0 : s.heap.size ≤ b) (hW : q_CW D b C H) (hS : va_S (fun q => s.heap.size ≤ q) s.heap H locs) {y : MethodName} {cc' : ByteArray} {maxL' fr lo n idx mc ms : Nat} {As : List Value} {C' : List q_Ce} {st0 : List Value} {lv : List (Nat × Value)}
    (hM : q_Mi l y cc' maxL' none fr lo D b (.ref b :: As) C none C' mc ms) (hY : q_Yl y cc' maxL' none n) (hV : .instanceMethod y ∈ q_tbl) (hy1 : y.name = "<init>") (hL : q_Ml own idx y) (hn : As.length = n) (hR : fr + 1 ≤ R.frames ∧ 8 + (maxL' + 11) + lo ≤ R.locals) (hl : lv_has ls nL lv) (hst : st0 = As.reverse ++ .ref b :: rest) (hcat : (rest.map fun v => v.category).sum ≤ 8) (hdg : decode cc pc = .ok (.invokespecial idx, 3)) (hcs : cells + mc ≤ R.cells ∧ slots + ms ≤ R.slots)
    (kk : ∀ (H1 : Heap) (locs1 : List Loc), q_CW D b C' H1 → (∀ q, q < b → q < H.size → H1[q]? = H[q]?) → va_S (fun q => s.heap.size ≤ q) s.heap H1 locs1 → W p l e R s m args below meth c H1 locs1 (cells + mc) (slots + ms) Q (F0 m (pc + 3) ls rest)) : W p l e R s m args below meth c H locs cells slots Q (F0 m pc ls st0) := by
  obtain ⟨hx, hb, hml, -, -, hown, hts, hK, hSb⟩ := Y
  have hg : GoodIn q_tbl (.code y cc' maxL' none :: q_tbl) := fun w hw => by
    rcases List.mem_cons.mp hw with rfl | hw
    · exact q_good _ hY.1
    · exact q_good _ hw
  have hpp : ∀ U : State, U.heap = H → s.WarmedH U.vm → va_Pc (.ref b :: As) (fun U => q_CW D b C U.heap ∧ q_K D U ∧ q_S D (fun q => b ≤ q) U) (Value.ref b :: As).toArray U := by
    intro U hU hWm
    refine ⟨rfl, by rw [hU]; exact hW, hK.warm hWm, ?_⟩
    show q_S0 D (fun q => b ≤ q) U U.heap
    rw [hU]
    exact q_S0.narrow (A := fun q => s.heap.size ≤ q) ((q_S0.kept (H1 := H) hSb (fun a h1 h2 => hS.2.1 a h1 h2)).moved hWm.alike) (fun q hq => Nat.le_trans hb0 hq)
  have hpre : PreS s H (va_Pc (.ref b :: As) (fun U => q_CW D b C U.heap ∧ q_K D U ∧ q_S D (fun q => b ≤ q) U)) (.ref b :: As) := ⟨q_CB.blind, hpp⟩
  rcases hL with hL | ⟨host, hL⟩
  · exact i_backF (va_runI (As := As) (rest := rest) ⟨hx, hb, hml, hown, hts⟩ hM ⟨callB_of n hts hg rfl rfl rfl (hts _ hY.2.1) (hts _ hL) hY.2.2 hR, hy1, hts _ hV⟩ hpre rfl hn hl.1 hst (lv_room hcat) hdg hcs) hS hb0 rfl kk
  · exact i_backF (va_runIN (As := As) (rest := rest) (host := host) ⟨hx, hb, hml, hown, hts⟩ hM ⟨va_cnB n hts hg rfl rfl rfl (hK.2.1 _ hL) (hts _ hY.2.1) hY.2.2 hR, hy1, hts _ hV⟩ hpre rfl hn hl.1 hst (lv_room hcat) hdg hcs) hS hb0 rfl kk
end QL
