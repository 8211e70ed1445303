/-! the pictures' words; rows that go along with a picture; calls and ends -/
def q_o {α β : Sort _} (x : α) (f : α → β) : β := f x
def q_m {β : Type} (o : Option Nat) (A : β) (B : Nat → β) : β := match o with
  | none => A
  | some b => B b
def q_b1 {α β : Type} (x : Option α) (f : α → Option β) : Option β := match x with
  | none => none
  | some a => f a
def q_b2 {α β γ : Type} (x : Option (α × β)) (f : α → β → Option γ) : Option γ := match x with
  | none => none
  | some q => f q.1 q.2
def q_ir (x y : Int32) : Int32 := x - x / y * y
def q_lr (x y : Int64) : Int64 := x - x / y * y
def q_max (x y : Int32) : Int32 := if x < y then y else x
def q_min (x y : Int32) : Int32 := if y < x then y else x
def q_abs (x : Int32) : Int32 := if 0 ≤ x then x else 0 - x
def q_ushr (x y : Int32) : Int32 := (x.toUInt32 >>> (y.toUInt32 &&& Int32.toUInt32 31)).toInt32
def q_FU : Nat := 2000000
theorem q_b1i {α β : Type} {x : Option α} {f : α → Option β} {o : β} (h : q_b1 x f = some o) : ∃ a, x = some a ∧ f a = some o := by
  cases x with
  | none => cases h
  | some a => exact ⟨a, rfl, h⟩
theorem q_b2i {α β γ : Type} {x : Option (α × β)} {f : α → β → Option γ} {o : γ} (h : q_b2 x f = some o) : ∃ a d, x = some (a, d) ∧ f a d = some o := by
  cases x with
  | none => cases h
  | some a => exact ⟨a.1, a.2, rfl, h⟩
theorem q_mi {β : Type} {o : Option Nat} {B : Nat → Option β} {u : β} (h : q_m o none B = some u) : ∃ b, o = some b ∧ B b = some u := by
  cases o with
  | none => cases h
  | some b => exact ⟨b, rfl, h⟩
theorem q_ini {β : Type} {x : Prop} [Decidable x] {B : Option β} {u : β} (h : (if x then none else B) = some u) : ¬ x ∧ B = some u := by
  by_cases hx : x
  · rw [if_pos hx] at h; cases h
  · rw [if_neg hx] at h; exact ⟨hx, h⟩
theorem q_ini' {β : Type} {x : Prop} [Decidable x] {B : Option β} {u : β} (h : (if x then B else none) = some u) : x ∧ B = some u := by
  by_cases hx : x
  · rw [if_pos hx] at h; exact ⟨hx, h⟩
  · rw [if_neg hx] at h; cases h
theorem q_cmp_lt {x y : Int64} : lg_cmp x y < 0 ↔ x < y := by
  unfold lg_cmp
  by_cases h1 : x > y
  · rw [if_pos h1]
    exact ⟨fun h => absurd h (by decide), fun h => absurd h (by simp only [Int64.lt_iff_toInt_lt, GT.gt] at *; omega)⟩
  · rw [if_neg h1]
    by_cases h2 : x = y
    · rw [if_pos h2]
      exact ⟨fun h => absurd h (by decide), fun h => absurd h (by rw [h2]; simp [Int64.lt_iff_toInt_lt])⟩
    · rw [if_neg h2]
      refine ⟨fun _ => ?_, fun _ => by decide⟩
      simp only [Int64.lt_iff_toInt_lt, GT.gt] at *
      have : x.toInt ≠ y.toInt := fun q => h2 (Int64.toInt_inj.mp q)
      omega
theorem q_cmp_gt {x y : Int64} : 0 < lg_cmp x y ↔ y < x := by
  unfold lg_cmp
  by_cases h1 : x > y
  · rw [if_pos h1]
    exact ⟨fun _ => h1, fun _ => by decide⟩
  · rw [if_neg h1]
    refine ⟨fun h => ?_, fun h => absurd h h1⟩
    by_cases h2 : x = y
    · rw [if_pos h2] at h; exact absurd h (by decide)
    · rw [if_neg h2] at h; exact absurd h (by decide)
theorem q_cmp_eq {x y : Int64} : lg_cmp x y = 0 ↔ x = y := by
  unfold lg_cmp
  by_cases h1 : x > y
  · rw [if_pos h1]
    exact ⟨fun h => absurd h (by decide), fun h => absurd h1 (by rw [h]; simp [Int64.lt_iff_toInt_lt])⟩
  · rw [if_neg h1]
    by_cases h2 : x = y
    · rw [if_pos h2]; exact ⟨fun _ => h2, fun _ => rfl⟩
    · rw [if_neg h2]
      exact ⟨fun h => absurd h (by decide), fun h => absurd h h2⟩
theorem q_cmp_ge {x y : Int64} : 0 ≤ lg_cmp x y ↔ y ≤ x := by
  have h := @q_cmp_lt x y
  constructor
  · intro h1
    have : ¬ x < y := fun q => by have := h.mpr q; simp only [Int32.lt_iff_toInt_lt, Int32.le_iff_toInt_le] at *; omega
    simp only [Int64.lt_iff_toInt_lt, Int64.le_iff_toInt_le] at *; omega
  · intro h1
    have : ¬ lg_cmp x y < 0 := fun q => by have := h.mp q; simp only [Int64.lt_iff_toInt_lt, Int64.le_iff_toInt_le] at *; omega
    simp only [Int32.lt_iff_toInt_lt, Int32.le_iff_toInt_le] at *; omega
theorem q_cmp_le {x y : Int64} : lg_cmp x y ≤ 0 ↔ x ≤ y := by
  have h := @q_cmp_gt x y
  constructor
  · intro h1
    have : ¬ y < x := fun q => by have := h.mpr q; simp only [Int32.lt_iff_toInt_lt, Int32.le_iff_toInt_le] at *; omega
    simp only [Int64.lt_iff_toInt_lt, Int64.le_iff_toInt_le] at *; omega
  · intro h1
    have : ¬ 0 < lg_cmp x y := fun q => by have := h.mp q; simp only [Int64.lt_iff_toInt_lt, Int64.le_iff_toInt_le] at *; omega
    simp only [Int32.lt_iff_toInt_lt, Int32.le_iff_toInt_le] at *; omega
def q_Yl (y : MethodName) (cc : ByteArray) (maxL : Nat) (ret : Option FieldType) (n : Nat) : Prop := .code y cc maxL ret ∈ q_tbl ∧ .initialized y.cls ∈ q_tbl ∧ y.cls ≠ "java/lang/invoke/MethodHandle" ∧ y.cls ≠ "java/lang/invoke/VarHandle" ∧ (parseMethodDescriptor y.desc).map (fun d => d.parameters.length) = some n
def q_Ml (own : String) (idx : Nat) (y : MethodName) : Prop := Cond.methodLink own idx y ∈ q_tbl ∨ ∃ host, Cond.methodLinkNest own idx y host ∈ q_nst
def q_Vl (y : MethodName) : Prop := .instanceMethod y ∈ q_tbl ∧ .selects y.cls y y ∈ q_tbl
section QC
variable {p : Program} {l : Launch} {e : Env} {R : Room} {s : State} {m : MethodId} {args : Array Value} {below : List Frame} {meth : Method} {c : Code} {H : Heap} {locs : List Loc} {cells slots : Nat} {Q : State → Prop}
variable {D : q_D} {al : q_Al} {dt : q_Dt} {cc : ByteArray} {nL : Nat} {ret : Option FieldType} {own : String} {pc : Nat} {ls : Array Slot} {rest : List Value} {H0 : Heap}
theorem q_go {α β : Sort _} {x : α} {f : α → Option β} {u : β} {G : Prop} (hm : q_o x f = some u) (k : ∀ v, v = x → f v = some u → G) : G := k x rfl hm
theorem q_nmI {β : Type} {x : Int32} {f : Int32 → Option β} {u : β} (hm : q_o x f = some u) (k : ∀ v, v = x → f v = some u → W p l e R s m args below meth c H locs cells slots Q (F0 m pc ls (.int v :: rest))) : W p l e R s m args below meth c H locs cells slots Q (F0 m pc ls (.int x :: rest)) := k x rfl hm
theorem q_nmL {β : Type} {x : Int64} {f : Int64 → Option β} {u : β} (hm : q_o x f = some u) (k : ∀ v, v = x → f v = some u → W p l e R s m args below meth c H locs cells slots Q (F0 m pc ls (.long v :: rest))) : W p l e R s m args below meth c H locs cells slots Q (F0 m pc ls (.long x :: rest)) := k x rfl hm
theorem q_nmQ {β : Type} {x : Option Nat} {f : Option Nat → Option β} {u : β} (hm : q_o x f = some u) (k : ∀ v, v = x → f v = some u → W p l e R s m args below meth c H locs cells slots Q (F0 m pc ls (va_rf v :: rest))) : W p l e R s m args below meth c H locs cells slots Q (F0 m pc ls (va_rf x :: rest)) := k x rfl hm
theorem q_ifc {β : Type} {P : Prop} [Decidable P] {A B : Option β} {u : β} {G : Prop} (hm : (if P then A else B) = some u) (kt : P → A = some u → G) (kf : ¬ P → B = some u → G) : G := by
  by_cases h : P
  · rw [if_pos h] at hm; exact kt h hm
  · rw [if_neg h] at hm; exact kf h hm
theorem q_ifnull (C : q_Cx D al cc nL ret own p s m args meth c) {β : Type} {o : Option Nat} {A : Option β} {B : Nat → Option β} {u : β} (hm : q_m o A B = some u) {off : Int} {tgt : Nat} (hdg : decode cc pc = .ok (.ifnull off, 3)) (ht : (pc : Int) + off = (tgt : Int))
    (kt : o = none → A = some u → W p l e R s m args below meth c H locs cells slots Q (F0 m tgt ls rest)) (kf : ∀ b, o = some b → B b = some u → W p l e R s m args below meth c H locs cells slots Q (F0 m (pc + 3) ls rest)) : W p l e R s m args below meth c H locs cells slots Q (F0 m pc ls (va_rf o :: rest)) := by
  cases o with
  | none => exact lv_ifnullN C.1 C.2.1 hdg ht (kt rfl hm)
  | some b => exact lv_ifnull C.1 C.2.1 hdg (kf b rfl hm)
theorem q_ifnonnull (C : q_Cx D al cc nL ret own p s m args meth c) {β : Type} {o : Option Nat} {A : Option β} {B : Nat → Option β} {u : β} (hm : q_m o A B = some u) {off : Int} {tgt : Nat} (hdg : decode cc pc = .ok (.ifnonnull off, 3)) (ht : (pc : Int) + off = (tgt : Int))
    (kt : o = none → A = some u → W p l e R s m args below meth c H locs cells slots Q (F0 m (pc + 3) ls rest)) (kf : ∀ b, o = some b → B b = some u → W p l e R s m args below meth c H locs cells slots Q (F0 m tgt ls rest)) : W p l e R s m args below meth c H locs cells slots Q (F0 m pc ls (va_rf o :: rest)) := by
  cases o with
  | none => exact lv_ifnonnullN C.1 C.2.1 hdg (kt rfl hm)
  | some b => exact lv_ifnonnull C.1 C.2.1 hdg ht (kf b rfl hm)
theorem q_aloadQ_n (C : q_Cx D al cc nL ret own p s m args meth c) {o : Option Nat} {k : Fin 4} {i : Nat} (hdg : decode cc pc = .ok (.aload_n k, 1)) (hi : (k : Nat) = i) (hl : ls[i]? = some (.val (va_rf o)))
    (kk : W p l e R s m args below meth c H locs cells slots Q (F0 m (pc + 1) ls (va_rf o :: rest))) : W p l e R s m args below meth c H locs cells slots Q (F0 m pc ls rest) := by
  cases o with
  | none => exact lv_aload_nN C.1 C.2.1 hdg hi hl kk
  | some b => exact lv_aload_n C.1 C.2.1 hdg hi hl kk
theorem q_aloadQ (C : q_Cx D al cc nL ret own p s m args meth c) {o : Option Nat} {i : Nat} (hdg : decode cc pc = .ok (.aload i, 2)) (hl : ls[i]? = some (.val (va_rf o)))
    (kk : W p l e R s m args below meth c H locs cells slots Q (F0 m (pc + 2) ls (va_rf o :: rest))) : W p l e R s m args below meth c H locs cells slots Q (F0 m pc ls rest) := by
  cases o with
  | none => exact lv_aloadN C.1 C.2.1 hdg hl kk
  | some b => exact lv_aload C.1 C.2.1 hdg hl kk
theorem q_astoreQ_n (C : q_Cx D al cc nL ret own p s m args meth c) {o : Option Nat} {k : Fin 4} {i nl : Nat} {lv lv' : List (Nat × Value)} (hdg : decode cc pc = .ok (.astore_n k, 1)) (hi : (k : Nat) = i) (h : lv_has ls nl lv) (hn : i < nl) (hl : (i, va_rf o) :: lv.filter (fun q => !(q.1 == i) && !(q.1 + 1 == i && q.2.category == 2)) = lv')
    (kk : ∀ ls' : Array Slot, lv_has ls' nl lv' → W p l e R s m args below meth c H locs cells slots Q (F0 m (pc + 1) ls' rest)) : W p l e R s m args below meth c H locs cells slots Q (F0 m pc ls (va_rf o :: rest)) := by
  cases o with
  | none => exact lv_astore_nN C.1 C.2.1 hdg hi h hn hl kk
  | some b => exact lv_astore_n C.1 C.2.1 hdg hi h hn hl kk
theorem q_astoreQ (C : q_Cx D al cc nL ret own p s m args meth c) {o : Option Nat} {i nl : Nat} {lv lv' : List (Nat × Value)} (hdg : decode cc pc = .ok (.astore i, 2)) (h : lv_has ls nl lv) (hn : i < nl) (hl : (i, va_rf o) :: lv.filter (fun q => !(q.1 == i) && !(q.1 + 1 == i && q.2.category == 2)) = lv')
    (kk : ∀ ls' : Array Slot, lv_has ls' nl lv' → W p l e R s m args below meth c H locs cells slots Q (F0 m (pc + 2) ls' rest)) : W p l e R s m args below meth c H locs cells slots Q (F0 m pc ls (va_rf o :: rest)) := by
  cases o with
  | none => exact lv_astoreN C.1 C.2.1 hdg h hn hl kk
  | some b => exact lv_astore C.1 C.2.1 hdg h hn hl kk
theorem q_back {rv : Option Value} {av : Array Value} {dt' : q_Dt} {st0 st1 : List Value} (hr : va_Run p l e R s m args below meth c H locs cells slots 0 0 (F0 m pc ls st0) rest (q_Q rv (q_W D al dt') (q_A al) av) (q_A al)) (hS : va_S (q_A al) H0 H locs) (hs1 : rv.toList ++ rest = st1)
    (kk : ∀ (H1 : Heap) (locs1 : List Loc), q_W D al dt' H1 → va_S (q_A al) H0 H1 locs1 → W p l e R s m args below meth c H1 locs1 cells slots Q (F0 m (pc + 3) ls st1)) : W p l e R s m args below meth c H locs cells slots Q (F0 m pc ls st0) := by
  intro T hT X
  obtain ⟨v, st₀, t, T', L, h0, X', hL, e1, e2, ⟨hv, hw, hz, hk⟩, st⟩ := hr T hT X
  cases hv
  rw [h0] at hz hk
  subst hs1
  obtain ⟨t2, a1, b1⟩ := kk T'.heap (locs ++ L) (by rw [e1]; exact hw)
    ⟨Nat.le_trans hS.1 (by rw [e1]; exact hz), fun q h1 h2 => by rw [e1, hk q (Nat.lt_of_lt_of_le h1 hS.1) h2]; exact hS.2.1 q h1 h2, fun q hq => by
      rcases List.mem_append.mp hq with h | h
      · exact hS.2.2 q h
      · exact hL q h⟩ T' rfl X'
  exact ⟨t2, st t2 a1, b1⟩
theorem q_pre (C : q_Cx D al cc nL ret own p s m args meth c) (hW : q_W D al dt H) (hS : va_S (q_A al) s.heap H locs) {av : List Value} : ∀ U : State, U.heap = H → s.WarmedH U.vm → va_Pc av (q_B D al dt) av.toArray U := by
  intro U hU hWm
  obtain ⟨-, -, -, -, -, -, -, hK, hSt⟩ := C
  refine ⟨rfl, by rw [hU]; exact hW, hK.warm hWm, ?_⟩
  show vk_S 9 q_sl q_sb D.2.2.1 D.2.2.2 (q_A al) U U.heap
  rw [hU]
  exact (vk_S.kept (H1 := H) hSt (fun a h1 h2 => hS.2.1 a h1 h2)).moved hWm.alike
theorem q_callV (C : q_Cx D al cc nL ret own p s m args meth c) (hW : q_W D al dt H) (hS : va_S (q_A al) s.heap H locs) {y : MethodName} {cc' : ByteArray} {maxL' : Nat} {ret' : Option FieldType} {fr lo b n idx : Nat} {As : List Value} {rv : Option Value} {dt' : q_Dt} {st0 st1 : List Value} {lv : List (Nat × Value)}
    (hM : q_Mt l y cc' maxL' ret' fr lo D al (.ref b :: As) dt rv dt') (hY : q_Yl y cc' maxL' ret' n) (hV : q_Vl y) (hL : q_Ml own idx y) {ci : Nat} {T : u_T} {N : Nat} (hc : vwCl[ci]? = some (y.cls, T, N)) (hk : al.1 b = ci + 1) (h13 : ci < 13) (hn : As.length = n) (hR : fr + 1 ≤ R.frames ∧ 8 + (maxL' + 11) + lo ≤ R.locals) (hl : lv_has ls nL lv) (hst : st0 = As.reverse ++ .ref b :: rest) (hcat : (rest.map fun v => v.category).sum ≤ 8) (hdg : decode cc pc = .ok (.invokevirtual idx, 3)) (hcs : cells ≤ R.cells ∧ slots ≤ R.slots) (hs1 : rv.toList ++ rest = st1)
    (kk : ∀ (H1 : Heap) (locs1 : List Loc), q_W D al dt' H1 → va_S (q_A al) s.heap H1 locs1 → W p l e R s m args below meth c H1 locs1 cells slots Q (F0 m (pc + 3) ls st1)) : W p l e R s m args below meth c H locs cells slots Q (F0 m pc ls st0) := by
  have C' := C
  obtain ⟨hx, hb, hml, -, -, hown, hts, hK, -⟩ := C
  have hrecv : ∃ cell : Cell, H[b]? = some cell ∧ cell.vm.isStatics = false ∧ s.vm.findClass y.cls = some cell.cls := by
    have hO := hW.1 b
    rw [q_at_obj hk h13] at hO
    obtain ⟨cell, h1, h2, h3, -⟩ := hO
    exact ⟨cell, h1, by rw [h3]; rfl, by rw [h2]; exact (hK.1.1 ci _ hc).2.1⟩
  have hg : GoodIn q_tbl (.code y cc' maxL' ret' :: q_tbl) := fun w hw => by
    rcases List.mem_cons.mp hw with rfl | hw
    · exact q_good _ hY.1
    · exact q_good _ hw
  have hpre : PreV s H y.cls b (va_Pc (.ref b :: As) (q_B D al dt)) As := ⟨q_B.blind, hrecv, q_pre C' hW hS⟩
  rcases hL with hL | ⟨host, hL⟩
  · exact q_back (va_runV (As := As) (rest := rest) ⟨hx, hb, hml, hown, hts⟩ hM ⟨callB_of n hts hg rfl rfl rfl (hts _ hY.2.1) (hts _ hL) hY.2.2 hR, hts _ hV.1, hts _ hV.2⟩ hpre rfl hn hl.1 hst (lv_room hcat) hdg hcs) hS hs1 kk
  · exact q_back (va_runVN (As := As) (rest := rest) (host := host) ⟨hx, hb, hml, hown, hts⟩ hM ⟨va_cnB n hts hg rfl rfl rfl (hK.2.1 _ hL) (hts _ hY.2.1) hY.2.2 hR, hts _ hV.1, hts _ hV.2⟩ hpre rfl hn hl.1 hst (lv_room hcat) hdg hcs) hS hs1 kk
theorem q_callS (C : q_Cx D al cc nL ret own p s m args meth c) (hW : q_W D al dt H) (hS : va_S (q_A al) s.heap H locs) {y : MethodName} {cc' : ByteArray} {maxL' : Nat} {ret' : Option FieldType} {fr lo n idx : Nat} {As : List Value} {rv : Option Value} {dt' : q_Dt} {st0 st1 : List Value} {lv : List (Nat × Value)}
    (hM : q_Mt l y cc' maxL' ret' fr lo D al As dt rv dt') (hY : q_Yl y cc' maxL' ret' n) (hV : .static y ∈ q_tbl) (hL : q_Ml own idx y) (hn : As.length = n) (hR : fr + 1 ≤ R.frames ∧ 8 + (maxL' + 11) + lo ≤ R.locals) (hl : lv_has ls nL lv) (hst : st0 = As.reverse ++ rest) (hcat : (rest.map fun v => v.category).sum ≤ 8) (hdg : decode cc pc = .ok (.invokestatic idx, 3)) (hcs : cells ≤ R.cells ∧ slots ≤ R.slots) (hs1 : rv.toList ++ rest = st1)
    (kk : ∀ (H1 : Heap) (locs1 : List Loc), q_W D al dt' H1 → va_S (q_A al) s.heap H1 locs1 → W p l e R s m args below meth c H1 locs1 cells slots Q (F0 m (pc + 3) ls st1)) : W p l e R s m args below meth c H locs cells slots Q (F0 m pc ls st0) := by
  have C' := C
  obtain ⟨hx, hb, hml, -, -, hown, hts, hK, -⟩ := C
  have hg : GoodIn q_tbl (.code y cc' maxL' ret' :: q_tbl) := fun w hw => by
    rcases List.mem_cons.mp hw with rfl | hw
    · exact q_good _ hY.1
    · exact q_good _ hw
  have hpre : PreS s H (va_Pc As (q_B D al dt)) As := ⟨q_B.blind, q_pre C' hW hS⟩
  rcases hL with hL | ⟨host, hL⟩
  · exact q_back (va_runS (As := As) (rest := rest) ⟨hx, hb, hml, hown, hts⟩ hM ⟨callB_of n hts hg rfl rfl rfl (hts _ hY.2.1) (hts _ hL) hY.2.2 hR, hts _ hV⟩ hpre rfl hn hl.1 hst (lv_room hcat) hdg hcs) hS hs1 kk
  · exact q_back (va_runSN (As := As) (rest := rest) (host := host) ⟨hx, hb, hml, hown, hts⟩ hM ⟨va_cnB n hts hg rfl rfl rfl (hK.2.1 _ hL) (hts _ hY.2.1) hY.2.2 hR, hts _ hV, trivial⟩ hpre rfl hn hl.1 hst (lv_room hcat) hdg hcs) hS hs1 kk
theorem q_reti (C : q_Cx D al cc nL (some .int) own p s m args meth c) (hW : q_W D al dt H) (hS : va_S (q_A al) s.heap H locs) {v : Int32} (hdg : decode cc pc = .ok (.ireturn, 1)) : W p l e R s m args below meth c H locs cells slots (MQ below (q_Q (some (.int v)) (q_W D al dt) (q_A al)) args s cells slots (q_A al)) (F0 m pc ls [.int v]) :=
  W.iret C.1 C.2.1 C.2.2.2.1 (fun t ht _ => ⟨rfl, by rw [ht]; exact hW, hS.F ht⟩) hS.2.2 hdg C.2.2.2.2.1
theorem q_retz (C : q_Cx D al cc nL (some .boolean) own p s m args meth c) (hW : q_W D al dt H) (hS : va_S (q_A al) s.heap H locs) {v : Int32} (hv : v = 0 ∨ v = 1) (hdg : decode cc pc = .ok (.ireturn, 1)) : W p l e R s m args below meth c H locs cells slots (MQ below (q_Q (some (.int v)) (q_W D al dt) (q_A al)) args s cells slots (q_A al)) (F0 m pc ls [.int v]) :=
  W.zret C.1 C.2.1 C.2.2.2.1 (by rcases hv with rfl | rfl <;> rfl) (fun t ht _ => ⟨rfl, by rw [ht]; exact hW, hS.F ht⟩) hS.2.2 hdg C.2.2.2.2.1
theorem q_retl (C : q_Cx D al cc nL (some .long) own p s m args meth c) (hW : q_W D al dt H) (hS : va_S (q_A al) s.heap H locs) {v : Int64} (hdg : decode cc pc = .ok (.lreturn, 1)) : W p l e R s m args below meth c H locs cells slots (MQ below (q_Q (some (.long v)) (q_W D al dt) (q_A al)) args s cells slots (q_A al)) (F0 m pc ls [.long v]) :=
  W.lret C.1 C.2.1 C.2.2.2.1 (fun t ht _ => ⟨rfl, by rw [ht]; exact hW, hS.F ht⟩) hS.2.2 hdg C.2.2.2.2.1
theorem q_retv (C : q_Cx D al cc nL none own p s m args meth c) (hW : q_W D al dt H) (hS : va_S (q_A al) s.heap H locs) (hdg : decode cc pc = .ok (.return_, 1)) : W p l e R s m args below meth c H locs cells slots (MQ below (q_Q none (q_W D al dt) (q_A al)) args s cells slots (q_A al)) (F0 m pc ls []) :=
  W.vret C.1 C.2.1 C.2.2.2.1 (fun t ht _ => ⟨rfl, by rw [ht]; exact hW, hS.F ht⟩) hS.2.2 hdg C.2.2.2.2.1
theorem q_reta {cn : String} (C : q_Cx D al cc nL (some (.object cn)) own p s m args meth c) (hW : q_W D al dt H) (hS : va_S (q_A al) s.heap H locs) {v : Option Nat} (hdg : decode cc pc = .ok (.areturn, 1)) : W p l e R s m args below meth c H locs cells slots (MQ below (q_Q (some (va_rf v)) (q_W D al dt) (q_A al)) args s cells slots (q_A al)) (F0 m pc ls [va_rf v]) :=
  W.aret C.1 C.2.1 C.2.2.2.1 (Or.inl ⟨cn, rfl⟩) (by cases v with | none => exact Or.inl rfl | some b => exact Or.inr ⟨b, rfl⟩) (fun t ht _ => ⟨rfl, by rw [ht]; exact hW, hS.F ht⟩) hS.2.2 hdg C.2.2.2.2.1
theorem q_mmax (C : q_Cx D al cc nL ret own p s m args meth c) {lv : List (Nat × Value)} (hl : lv_has ls nL lv) {idx : Nat} (h1 : Cond.methodLink own idx Lib.Math.max.name ∈ q_tbl) (h2 : Cond.static Lib.Math.max.name ∈ q_tbl) (h3 : Cond.initialized "java/lang/Math" ∈ q_tbl) (h4 : Cond.code Lib.Math.max.name Lib.Math.max.code 2 (some .int) ∈ q_tbl)
    (hframes : 1 ≤ R.frames) (hlocals : (rest.map fun v => v.category).sum + 13 ≤ R.locals) (hcs : cells ≤ R.cells ∧ slots ≤ R.slots) {x y : Int32} (hdg : decode cc pc = .ok (.invokestatic idx, 3))
    (kk : W p l e R s m args below meth c H locs cells slots Q (F0 m (pc + 3) ls (.int (q_max x y) :: rest))) : W p l e R s m args below meth c H locs cells slots Q (F0 m pc ls (.int y :: .int x :: rest)) :=
  va_mmax C.1 C.2.1 (C.2.2.1.trans hl.1.symm) C.2.2.2.2.2.1 (C.2.2.2.2.2.2.1 _ h1) (C.2.2.2.2.2.2.1 _ h2) (C.2.2.2.2.2.2.1 _ h3) (C.2.2.2.2.2.2.1 _ h4) hframes hlocals hcs.1 hcs.2 hdg kk
theorem q_mmin (C : q_Cx D al cc nL ret own p s m args meth c) {lv : List (Nat × Value)} (hl : lv_has ls nL lv) {idx : Nat} (h1 : Cond.methodLink own idx Lib.Math.min.name ∈ q_tbl) (h2 : Cond.static Lib.Math.min.name ∈ q_tbl) (h3 : Cond.initialized "java/lang/Math" ∈ q_tbl) (h4 : Cond.code Lib.Math.min.name Lib.Math.min.code 2 (some .int) ∈ q_tbl)
    (hframes : 1 ≤ R.frames) (hlocals : (rest.map fun v => v.category).sum + 13 ≤ R.locals) (hcs : cells ≤ R.cells ∧ slots ≤ R.slots) {x y : Int32} (hdg : decode cc pc = .ok (.invokestatic idx, 3))
    (kk : W p l e R s m args below meth c H locs cells slots Q (F0 m (pc + 3) ls (.int (q_min x y) :: rest))) : W p l e R s m args below meth c H locs cells slots Q (F0 m pc ls (.int y :: .int x :: rest)) :=
  va_mmin C.1 C.2.1 (C.2.2.1.trans hl.1.symm) C.2.2.2.2.2.1 (C.2.2.2.2.2.2.1 _ h1) (C.2.2.2.2.2.2.1 _ h2) (C.2.2.2.2.2.2.1 _ h3) (C.2.2.2.2.2.2.1 _ h4) hframes hlocals hcs.1 hcs.2 hdg kk
theorem q_mabs (C : q_Cx D al cc nL ret own p s m args meth c) {lv : List (Nat × Value)} (hl : lv_has ls nL lv) {idx : Nat} (h1 : Cond.methodLink own idx Lib.Math.abs.name ∈ q_tbl) (h2 : Cond.static Lib.Math.abs.name ∈ q_tbl) (h3 : Cond.initialized "java/lang/Math" ∈ q_tbl) (h4 : Cond.code Lib.Math.abs.name Lib.Math.abs.code 1 (some .int) ∈ q_tbl)
    (hframes : 1 ≤ R.frames) (hlocals : (rest.map fun v => v.category).sum + 13 ≤ R.locals) (hcs : cells ≤ R.cells ∧ slots ≤ R.slots) {x : Int32} (hdg : decode cc pc = .ok (.invokestatic idx, 3))
    (kk : W p l e R s m args below meth c H locs cells slots Q (F0 m (pc + 3) ls (.int (q_abs x) :: rest))) : W p l e R s m args below meth c H locs cells slots Q (F0 m pc ls (.int x :: rest)) :=
  va_mabs C.1 C.2.1 (C.2.2.1.trans hl.1.symm) C.2.2.2.2.2.1 (C.2.2.2.2.2.2.1 _ h1) (C.2.2.2.2.2.2.1 _ h2) (C.2.2.2.2.2.2.1 _ h3) (C.2.2.2.2.2.2.1 _ h4) hframes hlocals hcs.1 hcs.2 hdg kk
theorem q_sw0 {x : Int32} {lo hi : Int} (h : ¬ (lo ≤ x.toInt ∧ x.toInt ≤ hi)) : x.toInt < lo ∨ hi < x.toInt := by omega
end QC
