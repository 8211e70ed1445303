def q_slen (i : Nat) : Int32 := Int32.ofNat (q_sl.getD i 0)
def q_sch (i : Nat) (j : Int32) : Int32 := (q_sb.getD i []).getD j.toNatClampNeg 0
/-! the pictures' words; rows that go along with a picture; calls and ends -/
def q_o {α β : Sort _} (x : α) (f : α → β) : β := f x
def q_m {β : Type} (o : Option Nat) (A : β) (B : Nat → β) : β := match o with
  | none => A
  | some b => B b
def q_b1 {α β : Type} (x : Option α) (f : α → Option β) : Option β := match x with
  | none => none
  | some a => f a
def q_b2 {α β γ : Type} (x : Option (α × β)) (f : α → β → Option γ) : Option γ := match x with
  | none => none
  | some q => f q.1 q.2
def q_ir (x y : Int32) : Int32 := x - x / y * y
def q_lr (x y : Int64) : Int64 := x - x / y * y
def q_max (x y : Int32) : Int32 := if x < y then y else x
def q_min (x y : Int32) : Int32 := if y < x then y else x
def q_abs (x : Int32) : Int32 := if 0 ≤ x then x else 0 - x
def q_ushr (x y : Int32) : Int32 := (x.toUInt32 >>> (y.toUInt32 &&& Int32.toUInt32 31)).toInt32
def q_FU : Nat := 2000000
theorem q_b1i {α β : Type} {x : Option α} {f : α → Option β} {o : β} (h : q_b1 x f = some o) : ∃ a, x = some a ∧ f a = some o := by
  cases x with
  | none => cases h
  | some a => exact ⟨a, rfl, h⟩
theorem q_b2i {α β γ : Type} {x : Option (α × β)} {f : α → β → Option γ} {o : γ} (h : q_b2 x f = some o) : ∃ a d, x = some (a, d) ∧ f a d = some o := by
  cases x with
  | none => cases h
  | some a => exact ⟨a.1, a.2, rfl, h⟩
theorem q_mi {β : Type} {o : Option Nat} {B : Nat → Option β} {u : β} (h : q_m o none B = some u) : ∃ b, o = some b ∧ B b = some u := by
  cases o with
  | none => cases h
  | some b => exact ⟨b, rfl, h⟩
theorem q_ini {β : Type} {x : Prop} [Decidable x] {B : Option β} {u : β} (h : (if x then none else B) = some u) : ¬ x ∧ B = some u := by
  by_cases hx : x
  · rw [if_pos hx] at h; cases h
  · rw [if_neg hx] at h; exact ⟨hx, h⟩
theorem q_ini' {β : Type} {x : Prop} [Decidable x] {B : Option β} {u : β} (h : (if x then B else none) = some u) : x ∧ B = some u := by
  by_cases hx : x
  · rw [if_pos hx] at h; exact ⟨hx, h⟩
  · rw [if_neg hx] at h; cases h
theorem q_cmp_lt {x y : Int64} : lg_cmp x y < 0 ↔ x < y := by
  unfold lg_cmp
  by_cases h1 : x > y
  · rw [if_pos h1]
    exact ⟨fun h => absurd h (by decide), fun h => absurd h (by simp only [Int64.lt_iff_toInt_lt, GT.gt] at *; omega)⟩
  · rw [if_neg h1]
    by_cases h2 : x = y
    · rw [if_pos h2]
      exact ⟨fun h => absurd h (by decide), fun h => absurd h (by rw [h2]; simp [Int64.lt_iff_toInt_lt])⟩
    · rw [if_neg h2]
      refine ⟨fun _ => ?_, fun _ => by decide⟩
      simp only [Int64.lt_iff_toInt_lt, GT.gt] at *
      have : x.toInt ≠ y.toInt := fun q => h2 (Int64.toInt_inj.mp q)
      omega
theorem q_cmp_gt {x y : Int64} : 0 < lg_cmp x y ↔ y < x := by
  unfold lg_cmp
  by_cases h1 : x > y
  · rw [if_pos h1]
    exact ⟨fun _ => h1, fun _ => by decide⟩
  · rw [if_neg h1]
    refine ⟨fun h => ?_, fun h => absurd h h1⟩
    by_cases h2 : x = y
    · rw [if_pos h2] at h; exact absurd h (by decide)
    · rw [if_neg h2] at h; exact absurd h (by decide)
theorem q_cmp_eq {x y : Int64} : lg_cmp x y = 0 ↔ x = y := by
  unfold lg_cmp
  by_cases h1 : x > y
  · rw [if_pos h1]
    exact ⟨fun h => absurd h (by decide), fun h => absurd h1 (by rw [h]; simp [Int64.lt_iff_toInt_lt])⟩
  · rw [if_neg h1]
    by_cases h2 : x = y
    · rw [if_pos h2]; exact ⟨fun _ => h2, fun _ => rfl⟩
    · rw [if_neg h2]
      exact ⟨fun h => absurd h (by decide), fun h => absurd h h2⟩
theorem q_cmp_ge {x y : Int64} : 0 ≤ lg_cmp x y ↔ y ≤ x := by
  have h := @q_cmp_lt x y
  constructor
  · intro h1
    have : ¬ x < y := fun q => by have := h.mpr q; simp only [Int32.lt_iff_toInt_lt, Int32.le_iff_toInt_le] at *; omega
    simp only [Int64.lt_iff_toInt_lt, Int64.le_iff_toInt_le] at *; omega
  · intro h1
    have : ¬ lg_cmp x y < 0 := fun q => by have := h.mp q; simp only [Int64.lt_iff_toInt_lt, Int64.le_iff_toInt_le] at *; omega
    simp only [Int32.lt_iff_toInt_lt, Int32.le_iff_toInt_le] at *; omega
theorem q_cmp_le {x y : Int64} : lg_cmp x y ≤ 0 ↔ x ≤ y := by
  have h := @q_cmp_gt x y
  constructor
  · intro h1
    have : ¬ y < x := fun q => by have := h.mpr q; simp only [Int32.lt_iff_toInt_lt, Int32.le_iff_toInt_le] at *; omega
    simp only [Int64.lt_iff_toInt_lt, Int64.le_iff_toInt_le] at *; omega
  · intro h1
    have : ¬ 0 < lg_cmp x y := fun q => by have := h.mp q; simp only [Int64.lt_iff_toInt_lt, Int64.le_iff_toInt_le] at *; omega
    simp only [Int32.lt_iff_toInt_lt, Int32.le_iff_toInt_le] at *; omega
def q_Yl (y : MethodName) (cc : ByteArray) (maxL : Nat) (ret : Option FieldType) (n : Nat) : Prop := .code y cc maxL ret ∈ q_tbl ∧ .initialized y.cls ∈ q_tbl ∧ y.cls ≠ "java/lang/invoke/MethodHandle" ∧ y.cls ≠ "java/lang/invoke/VarHandle" ∧ (parseMethodDescriptor y.desc).map (fun d => d.parameters.length) = some n
def q_Ml (own : String) (idx : Nat) (y : MethodName) : Prop := Cond.methodLink own idx y ∈ q_tbl ∨ ∃ host, Cond.methodLinkNest own idx y host ∈ q_nst
def q_Vl (y : MethodName) : Prop := .instanceMethod y ∈ q_tbl ∧ .selects y.cls y y ∈ q_tbl
section QC
variable {p : Program} {l : Launch} {e : Env} {R : Room} {s : State} {m : MethodId} {args : Array Value} {below : List Frame} {meth : Method} {c : Code} {H : Heap} {locs : List Loc} {cells slots : Nat} {Q : State → Prop}
variable {D : q_D} {al : q_Al} {dt : q_Dt} {cc : ByteArray} {nL : Nat} {ret : Option FieldType} {own : String} {pc : Nat} {ls : Array Slot} {rest : List Value} {H0 : Heap}
theorem q_go {α β : Sort _} {x : α} {f : α → Option β} {u : β} {G : Prop} (hm : q_o x f = some u) (k : ∀ v, v = x → f v = some u → G) : G := k x rfl hm
theorem q_nmI {β : Type} {x : Int32} {f : Int32 → Option β} {u : β} (hm : q_o x f = some u) (k : ∀ v, v = x → f v = some u → W p l e R s m args below meth c H locs cells slots Q (F0 m pc ls (.int v :: rest))) : W p l e R s m args below meth c H locs cells slots Q (F0 m pc ls (.int x :: rest)) := k x rfl hm
theorem q_nmL {β : Type} {x : Int64} {f : Int64 → Option β} {u : β} (hm : q_o x f = some u) (k : ∀ v, v = x → f v = some u → W p l e R s m args below meth c H locs cells slots Q (F0 m pc ls (.long v :: rest))) : W p l e R s m args below meth c H locs cells slots Q (F0 m pc ls (.long x :: rest)) := k x rfl hm
theorem q_nmQ {β : Type} {x : Option Nat} {f : Option Nat → Option β} {u : β} (hm : q_o x f = some u) (k : ∀ v, v = x → f v = some u → W p l e R s m args below meth c H locs cells slots Q (F0 m pc ls (va_rf v :: rest))) : W p l e R s m args below meth c H locs cells slots Q (F0 m pc ls (va_rf x :: rest)) := k x rfl hm
theorem q_ifc {β : Type} {P : Prop} [Decidable P] {A B : Option β} {u : β} {G : Prop} (hm : (if P then A else B) = some u) (kt : P → A = some u → G) (kf : ¬ P → B = some u → G) : G := by
  by_cases h : P
  · rw [if_pos h] at hm; exact kt h hm
  · rw [if_neg h] at hm; exact kf h hm
theorem q_ifnull (C : q_Cx D al cc nL ret own p s m args meth c) {β : Type} {o : Option Nat} {A : Option β} {B : Nat → Option β} {u : β} (hm : q_m o A B = some u) {off : Int} {tgt : Nat} (hdg : decode cc pc = .ok (.ifnull off, 3)) (ht : (pc : Int) + off = (tgt : Int))
    (kt : o = none → A = some u → W p l e R s m args below meth c H locs cells slots Q (F0 m tgt ls rest)) (kf : ∀ b, o = some b → B b = some u → W p l e R s m args below meth c H locs cells slots Q (F0 m (pc + 3) ls rest)) : W p l e R s m args below meth c H locs cells slots Q (F0 m pc ls (va_rf o :: rest)) := by
  cases o with
  | none => exact lv_ifnullN C.1 C.2.1 hdg ht (kt rfl hm)
  | some b => exact lv_ifnull C.1 C.2.1 hdg (kf b rfl hm)
theorem q_ifnonnull (C : q_Cx D al cc nL ret own p s m args meth c) {β : Type} {o : Option Nat} {A : Option β} {B : Nat → Option β} {u : β} (hm : q_m o A B = some u) {off : Int} {tgt : Nat} (hdg : decode cc pc = .ok (.ifnonnull off, 3)) (ht : (pc : Int) + off = (tgt : Int))
    (kt : o = none → A = some u → W p l e R s m args below meth c H locs cells slots Q (F0 m (pc + 3) ls rest)) (kf : ∀ b, o = some b → B b = some u → W p l e R s m args below meth c H locs cells slots Q (F0 m tgt ls rest)) : W p l e R s m args below meth c H locs cells slots Q (F0 m pc ls (va_rf o :: rest)) := by
  cases o with
  | none => exact lv_ifnonnullN C.1 C.2.1 hdg (kt rfl hm)
  | some b => exact lv_ifnonnull C.1 C.2.1 hdg ht (kf b rfl hm)
theorem q_aloadQ_n (C : q_Cx D al cc nL ret own p s m args meth c) {o : Option Nat} {k : Fin 4} {i : Nat} (hdg : decode cc pc = .ok (.aload_n k, 1)) (hi : (k : Nat) = i) (hl : ls[i]? = some (.val (va_rf o)))
    (kk : W p l e R s m args below meth c H locs cells slots Q (F0 m (pc + 1) ls (va_rf o :: rest))) : W p l e R s m args below meth c H locs cells slots Q (F0 m pc ls rest) := by
  cases o with
  | none => exact lv_aload_nN C.1 C.2.1 hdg hi hl kk
  | some b => exact lv_aload_n C.1 C.2.1 hdg hi hl kk
theorem q_aloadQ (C : q_Cx D al cc nL ret own p s m args meth c) {o : Option Nat} {i : Nat} (hdg : decode cc pc = .ok (.aload i, 2)) (hl : ls[i]? = some (.val (va_rf o)))
    (kk : W p l e R s m args below meth c H locs cells slots Q (F0 m (pc + 2) ls (va_rf o :: rest))) : W p l e R s m args below meth c H locs cells slots Q (F0 m pc ls rest) := by
  cases o with
  | none => exact lv_aloadN C.1 C.2.1 hdg hl kk
  | some b => exact lv_aload C.1 C.2.1 hdg hl kk
theorem q_astoreQ_n (C : q_Cx D al cc nL ret own p s m args meth c) {o : Option Nat} {k : Fin 4} {i nl : Nat} {lv lv' : List (Nat × Value)} (hdg : decode cc pc = .ok (.astore_n k, 1)) (hi : (k : Nat) = i) (h : lv_has ls nl lv) (hn : i < nl) (hl : (i, va_rf o) :: lv.filter (fun q => !(q.1 == i) && !(q.1 + 1 == i && q.2.category == 2)) = lv')
    (kk : ∀ ls' : Array Slot, lv_has ls' nl lv' → W p l e R s m args below meth c H locs cells slots Q (F0 m (pc + 1) ls' rest)) : W p l e R s m args below meth c H locs cells slots Q (F0 m pc ls (va_rf o :: rest)) := by
  cases o with
  | none => exact lv_astore_nN C.1 C.2.1 hdg hi h hn hl kk
  | some b => exact lv_astore_n C.1 C.2.1 hdg hi h hn hl kk
theorem q_astoreQ (C : q_Cx D al cc nL ret own p s m args meth c) {o : Option Nat} {i nl : Nat} {lv lv' : List (Nat × Value)} (hdg : decode cc pc = .ok (.astore i, 2)) (h : lv_has ls nl lv) (hn : i < nl) (hl : (i, va_rf o) :: lv.filter (fun q => !(q.1 == i) && !(q.1 + 1 == i && q.2.category == 2)) = lv')
    (kk : ∀ ls' : Array Slot, lv_has ls' nl lv' → W p l e R s m args below meth c H locs cells slots Q (F0 m (pc + 2) ls' rest)) : W p l e R s m args below meth c H locs cells slots Q (F0 m pc ls (va_rf o :: rest)) := by
  cases o with
  | none => exact lv_astoreN C.1 C.2.1 hdg h hn hl kk
  | some b => exact lv_astore C.1 C.2.1 hdg h hn hl kk
theorem q_back {rk : Nat} {rv : Option Value} {av : Array Value} {dt' : q_Dt} {st0 st1 : List Value} (hr : va_Run p l e R s m args below meth c H locs cells slots 0 0 (F0 m pc ls st0) rest (q_Q rv (fun H => q_W D al dt' H ∧ q_Rk al rk rv) (q_A al) av) (q_A al)) (hS : va_S (q_A al) H0 H locs) (hs1 : rv.toList ++ rest = st1)
    (kk : ∀ (H1 : Heap) (locs1 : List Loc), q_Rk al rk rv → q_W D al dt' H1 → va_S (q_A al) H0 H1 locs1 → W p l e R s m args below meth c H1 locs1 cells slots Q (F0 m (pc + 3) ls st1)) : W p l e R s m args below meth c H locs cells slots Q (F0 m pc ls st0) := by
  intro T hT X
  obtain ⟨v, st₀, t, T', L, h0, X', hL, e1, e2, ⟨hv, ⟨hw, hrk⟩, hz, hk⟩, st⟩ := hr T hT X
  cases hv
  rw [h0] at hz hk
  subst hs1
  obtain ⟨t2, a1, b1⟩ := kk T'.heap (locs ++ L) hrk (by rw [e1]; exact hw)
    ⟨Nat.le_trans hS.1 (by rw [e1]; exact hz), fun q h1 h2 => by rw [e1, hk q (Nat.lt_of_lt_of_le h1 hS.1) h2]; exact hS.2.1 q h1 h2, fun q hq => by
      rcases List.mem_append.mp hq with h | h
      · exact hS.2.2 q h
      · exact hL q h⟩ T' rfl X'
  exact ⟨t2, st t2 a1, b1⟩
theorem q_pre (C : q_Cx D al cc nL ret own p s m args meth c) (hW : q_W D al dt H) (hS : va_S (q_A al) s.heap H locs) {av : List Value} : ∀ U : State, U.heap = H → s.WarmedH U.vm → va_Pc av (q_B D al dt) av.toArray U := by
  intro U hU hWm
  obtain ⟨-, -, -, -, -, -, -, hK, hSt⟩ := C
  refine ⟨rfl, by rw [hU]; exact hW, hK.warm hWm, ?_⟩
  show q_S0 D (q_A al) U U.heap
  rw [hU]
  exact (q_S0.kept (H1 := H) hSt (fun a h1 h2 => hS.2.1 a h1 h2)).moved hWm.alike
theorem q_callG (C : q_Cx D al cc nL ret own p s m args meth c) (hW : q_W D al dt H) (hS : va_S (q_A al) s.heap H locs) {y : MethodName} {cc' : ByteArray} {maxL' : Nat} {ret' : Option FieldType} {fr lo b n idx : Nat} {As : List Value} {rk : Nat} {rv : Option Value} {dt' : q_Dt} {st0 st1 : List Value} {lv : List (Nat × Value)}
    (hM : q_Mt l y cc' maxL' ret' fr lo D al (.ref b :: As) dt rk rv dt') (hY : q_Yl y cc' maxL' ret' n) (hV : q_Vl y) (hL : q_Ml own idx y) (hrecv : ∃ cell : Cell, H[b]? = some cell ∧ cell.vm.isStatics = false ∧ s.vm.findClass y.cls = some cell.cls) (hn : As.length = n) (hR : fr + 1 ≤ R.frames ∧ 8 + (maxL' + 11) + lo ≤ R.locals) (hl : lv_has ls nL lv) (hst : st0 = As.reverse ++ .ref b :: rest) (hcat : (rest.map fun v => v.category).sum ≤ 8) (hdg : decode cc pc = .ok (.invokevirtual idx, 3)) (hcs : cells ≤ R.cells ∧ slots ≤ R.slots) (hs1 : rv.toList ++ rest = st1)
    (kk : ∀ (H1 : Heap) (locs1 : List Loc), q_Rk al rk rv → q_W D al dt' H1 → va_S (q_A al) s.heap H1 locs1 → W p l e R s m args below meth c H1 locs1 cells slots Q (F0 m (pc + 3) ls st1)) : W p l e R s m args below meth c H locs cells slots Q (F0 m pc ls st0) := by
  have C' := C
  obtain ⟨hx, hb, hml, -, -, hown, hts, hK, -⟩ := C
  have hg : GoodIn q_tbl (.code y cc' maxL' ret' :: q_tbl) := fun w hw => by
    rcases List.mem_cons.mp hw with rfl | hw
    · exact q_good _ hY.1
    · exact q_good _ hw
  have hpre : PreV s H y.cls b (va_Pc (.ref b :: As) (q_B D al dt)) As := ⟨q_B.blind, hrecv, q_pre C' hW hS⟩
  rcases hL with hL | ⟨host, hL⟩
  · exact q_back (va_runV (As := As) (rest := rest) ⟨hx, hb, hml, hown, hts⟩ hM ⟨callB_of n hts hg rfl rfl rfl (hts _ hY.2.1) (hts _ hL) hY.2.2 hR, hts _ hV.1, hts _ hV.2⟩ hpre rfl hn hl.1 hst (lv_room hcat) hdg hcs) hS hs1 kk
  · exact q_back (va_runVN (As := As) (rest := rest) (host := host) ⟨hx, hb, hml, hown, hts⟩ hM ⟨va_cnB n hts hg rfl rfl rfl (hK.2.1 _ hL) (hts _ hY.2.1) hY.2.2 hR, hts _ hV.1, hts _ hV.2⟩ hpre rfl hn hl.1 hst (lv_room hcat) hdg hcs) hS hs1 kk
theorem q_callV (C : q_Cx D al cc nL ret own p s m args meth c) (hW : q_W D al dt H) (hS : va_S (q_A al) s.heap H locs) {y : MethodName} {cc' : ByteArray} {maxL' : Nat} {ret' : Option FieldType} {fr lo b n idx : Nat} {As : List Value} {rk : Nat} {rv : Option Value} {dt' : q_Dt} {st0 st1 : List Value} {lv : List (Nat × Value)}
    (hM : q_Mt l y cc' maxL' ret' fr lo D al (.ref b :: As) dt rk rv dt') (hY : q_Yl y cc' maxL' ret' n) (hV : q_Vl y) (hL : q_Ml own idx y) {ci : Nat} {T : u_T} {N : Nat} (hc : vwCl[ci]? = some (y.cls, T, N)) (hk : al.1 b = ci + 1) (h13 : ci < 13) (hn : As.length = n) (hR : fr + 1 ≤ R.frames ∧ 8 + (maxL' + 11) + lo ≤ R.locals) (hl : lv_has ls nL lv) (hst : st0 = As.reverse ++ .ref b :: rest) (hcat : (rest.map fun v => v.category).sum ≤ 8) (hdg : decode cc pc = .ok (.invokevirtual idx, 3)) (hcs : cells ≤ R.cells ∧ slots ≤ R.slots) (hs1 : rv.toList ++ rest = st1)
    (kk : ∀ (H1 : Heap) (locs1 : List Loc), q_Rk al rk rv → q_W D al dt' H1 → va_S (q_A al) s.heap H1 locs1 → W p l e R s m args below meth c H1 locs1 cells slots Q (F0 m (pc + 3) ls st1)) : W p l e R s m args below meth c H locs cells slots Q (F0 m pc ls st0) := by
  refine q_callG C hW hS hM hY hV hL ?_ hn hR hl hst hcat hdg hcs hs1 kk
  have hO := hW.1 b
  rw [q_at_obj hk h13] at hO
  obtain ⟨cell, h1, h2, h3, -⟩ := hO
  exact ⟨cell, h1, by rw [h3]; rfl, by rw [h2]; exact (C.2.2.2.2.2.2.2.1.1.1 ci _ hc).2.1⟩
theorem q_callS (C : q_Cx D al cc nL ret own p s m args meth c) (hW : q_W D al dt H) (hS : va_S (q_A al) s.heap H locs) {y : MethodName} {cc' : ByteArray} {maxL' : Nat} {ret' : Option FieldType} {fr lo n idx : Nat} {As : List Value} {rk : Nat} {rv : Option Value} {dt' : q_Dt} {st0 st1 : List Value} {lv : List (Nat × Value)}
    (hM : q_Mt l y cc' maxL' ret' fr lo D al As dt rk rv dt') (hY : q_Yl y cc' maxL' ret' n) (hV : .static y ∈ q_tbl) (hL : q_Ml own idx y) (hn : As.length = n) (hR : fr + 1 ≤ R.frames ∧ 8 + (maxL' + 11) + lo ≤ R.locals) (hl : lv_has ls nL lv) (hst : st0 = As.reverse ++ rest) (hcat : (rest.map fun v => v.category).sum ≤ 8) (hdg : decode cc pc = .ok (.invokestatic idx, 3)) (hcs : cells ≤ R.cells ∧ slots ≤ R.slots) (hs1 : rv.toList ++ rest = st1)
    (kk : ∀ (H1 : Heap) (locs1 : List Loc), q_Rk al rk rv → q_W D al dt' H1 → va_S (q_A al) s.heap H1 locs1 → W p l e R s m args below meth c H1 locs1 cells slots Q (F0 m (pc + 3) ls st1)) : W p l e R s m args below meth c H locs cells slots Q (F0 m pc ls st0) := by
  have C' := C
  obtain ⟨hx, hb, hml, -, -, hown, hts, hK, -⟩ := C
  have hg : GoodIn q_tbl (.code y cc' maxL' ret' :: q_tbl) := fun w hw => by
    rcases List.mem_cons.mp hw with rfl | hw
    · exact q_good _ hY.1
    · exact q_good _ hw
  have hpre : PreS s H (va_Pc As (q_B D al dt)) As := ⟨q_B.blind, q_pre C' hW hS⟩
  rcases hL with hL | ⟨host, hL⟩
  · exact q_back (va_runS (As := As) (rest := rest) ⟨hx, hb, hml, hown, hts⟩ hM ⟨callB_of n hts hg rfl rfl rfl (hts _ hY.2.1) (hts _ hL) hY.2.2 hR, hts _ hV⟩ hpre rfl hn hl.1 hst (lv_room hcat) hdg hcs) hS hs1 kk
  · exact q_back (va_runSN (As := As) (rest := rest) (host := host) ⟨hx, hb, hml, hown, hts⟩ hM ⟨va_cnB n hts hg rfl rfl rfl (hK.2.1 _ hL) (hts _ hY.2.1) hY.2.2 hR, hts _ hV, trivial⟩ hpre rfl hn hl.1 hst (lv_room hcat) hdg hcs) hS hs1 kk
theorem q_reti (C : q_Cx D al cc nL (some .int) own p s m args meth c) (hW : q_W D al dt H) (hS : va_S (q_A al) s.heap H locs) {v : Int32} (hdg : decode cc pc = .ok (.ireturn, 1)) : W p l e R s m args below meth c H locs cells slots (MQ below (q_Q (some (.int v)) (fun H => q_W D al dt H ∧ q_Rk al 0 (some (.int v))) (q_A al)) args s cells slots (q_A al)) (F0 m pc ls [.int v]) :=
  W.iret C.1 C.2.1 C.2.2.2.1 (fun t ht _ => ⟨rfl, ⟨by rw [ht]; exact hW, Or.inl rfl⟩, hS.F ht⟩) hS.2.2 hdg C.2.2.2.2.1
theorem q_retz (C : q_Cx D al cc nL (some .boolean) own p s m args meth c) (hW : q_W D al dt H) (hS : va_S (q_A al) s.heap H locs) {v : Int32} (hv : v = 0 ∨ v = 1) (hdg : decode cc pc = .ok (.ireturn, 1)) : W p l e R s m args below meth c H locs cells slots (MQ below (q_Q (some (.int v)) (fun H => q_W D al dt H ∧ q_Rk al 0 (some (.int v))) (q_A al)) args s cells slots (q_A al)) (F0 m pc ls [.int v]) :=
  W.zret C.1 C.2.1 C.2.2.2.1 (by rcases hv with rfl | rfl <;> rfl) (fun t ht _ => ⟨rfl, ⟨by rw [ht]; exact hW, Or.inl rfl⟩, hS.F ht⟩) hS.2.2 hdg C.2.2.2.2.1
theorem q_retl (C : q_Cx D al cc nL (some .long) own p s m args meth c) (hW : q_W D al dt H) (hS : va_S (q_A al) s.heap H locs) {v : Int64} (hdg : decode cc pc = .ok (.lreturn, 1)) : W p l e R s m args below meth c H locs cells slots (MQ below (q_Q (some (.long v)) (fun H => q_W D al dt H ∧ q_Rk al 0 (some (.long v))) (q_A al)) args s cells slots (q_A al)) (F0 m pc ls [.long v]) :=
  W.lret C.1 C.2.1 C.2.2.2.1 (fun t ht _ => ⟨rfl, ⟨by rw [ht]; exact hW, Or.inl rfl⟩, hS.F ht⟩) hS.2.2 hdg C.2.2.2.2.1
theorem q_retv (C : q_Cx D al cc nL none own p s m args meth c) (hW : q_W D al dt H) (hS : va_S (q_A al) s.heap H locs) (hdg : decode cc pc = .ok (.return_, 1)) : W p l e R s m args below meth c H locs cells slots (MQ below (q_Q none (fun H => q_W D al dt H ∧ q_Rk al 0 none) (q_A al)) args s cells slots (q_A al)) (F0 m pc ls []) :=
  W.vret C.1 C.2.1 C.2.2.2.1 (fun t ht _ => ⟨rfl, ⟨by rw [ht]; exact hW, Or.inl rfl⟩, hS.F ht⟩) hS.2.2 hdg C.2.2.2.2.1
theorem q_reta {cn : String} (C : q_Cx D al cc nL (some (.object cn)) own p s m args meth c) (hW : q_W D al dt H) (hS : va_S (q_A al) s.heap H locs) {rk : Nat} {v : Option Nat} (hk : rk = 0 ∨ ∀ b, v = some b → al.1 b = rk) (hdg : decode cc pc = .ok (.areturn, 1)) : W p l e R s m args below meth c H locs cells slots (MQ below (q_Q (some (va_rf v)) (fun H => q_W D al dt H ∧ q_Rk al rk (some (va_rf v))) (q_A al)) args s cells slots (q_A al)) (F0 m pc ls [va_rf v]) :=
  W.aret C.1 C.2.1 C.2.2.2.1 (Or.inl ⟨cn, rfl⟩) (by cases v with | none => exact Or.inl rfl | some b => exact Or.inr ⟨b, rfl⟩) (fun t ht _ => ⟨rfl, ⟨by rw [ht]; exact hW, hk.imp id fun hk b hb => by cases v with | none => simp [va_rf] at hb | some b' => simp [va_rf] at hb; exact hk b (by rw [hb])⟩, hS.F ht⟩) hS.2.2 hdg C.2.2.2.2.1
theorem q_mmax (C : q_Cx D al cc nL ret own p s m args meth c) {lv : List (Nat × Value)} (hl : lv_has ls nL lv) {idx : Nat} (h1 : Cond.methodLink own idx Lib.Math.max.name ∈ q_tbl) (h2 : Cond.static Lib.Math.max.name ∈ q_tbl) (h3 : Cond.initialized "java/lang/Math" ∈ q_tbl) (h4 : Cond.code Lib.Math.max.name Lib.Math.max.code 2 (some .int) ∈ q_tbl)
    (hframes : 1 ≤ R.frames) (hlocals : (rest.map fun v => v.category).sum + 13 ≤ R.locals) (hcs : cells ≤ R.cells ∧ slots ≤ R.slots) {x y : Int32} (hdg : decode cc pc = .ok (.invokestatic idx, 3))
    (kk : W p l e R s m args below meth c H locs cells slots Q (F0 m (pc + 3) ls (.int (q_max x y) :: rest))) : W p l e R s m args below meth c H locs cells slots Q (F0 m pc ls (.int y :: .int x :: rest)) :=
  va_mmax C.1 C.2.1 (C.2.2.1.trans hl.1.symm) C.2.2.2.2.2.1 (C.2.2.2.2.2.2.1 _ h1) (C.2.2.2.2.2.2.1 _ h2) (C.2.2.2.2.2.2.1 _ h3) (C.2.2.2.2.2.2.1 _ h4) hframes hlocals hcs.1 hcs.2 hdg kk
theorem q_mmin (C : q_Cx D al cc nL ret own p s m args meth c) {lv : List (Nat × Value)} (hl : lv_has ls nL lv) {idx : Nat} (h1 : Cond.methodLink own idx Lib.Math.min.name ∈ q_tbl) (h2 : Cond.static Lib.Math.min.name ∈ q_tbl) (h3 : Cond.initialized "java/lang/Math" ∈ q_tbl) (h4 : Cond.code Lib.Math.min.name Lib.Math.min.code 2 (some .int) ∈ q_tbl)
    (hframes : 1 ≤ R.frames) (hlocals : (rest.map fun v => v.category).sum + 13 ≤ R.locals) (hcs : cells ≤ R.cells ∧ slots ≤ R.slots) {x y : Int32} (hdg : decode cc pc = .ok (.invokestatic idx, 3))
    (kk : W p l e R s m args below meth c H locs cells slots Q (F0 m (pc + 3) ls (.int (q_min x y) :: rest))) : W p l e R s m args below meth c H locs cells slots Q (F0 m pc ls (.int y :: .int x :: rest)) :=
  va_mmin C.1 C.2.1 (C.2.2.1.trans hl.1.symm) C.2.2.2.2.2.1 (C.2.2.2.2.2.2.1 _ h1) (C.2.2.2.2.2.2.1 _ h2) (C.2.2.2.2.2.2.1 _ h3) (C.2.2.2.2.2.2.1 _ h4) hframes hlocals hcs.1 hcs.2 hdg kk
theorem q_mabs (C : q_Cx D al cc nL ret own p s m args meth c) {lv : List (Nat × Value)} (hl : lv_has ls nL lv) {idx : Nat} (h1 : Cond.methodLink own idx Lib.Math.abs.name ∈ q_tbl) (h2 : Cond.static Lib.Math.abs.name ∈ q_tbl) (h3 : Cond.initialized "java/lang/Math" ∈ q_tbl) (h4 : Cond.code Lib.Math.abs.name Lib.Math.abs.code 1 (some .int) ∈ q_tbl)
    (hframes : 1 ≤ R.frames) (hlocals : (rest.map fun v => v.category).sum + 13 ≤ R.locals) (hcs : cells ≤ R.cells ∧ slots ≤ R.slots) {x : Int32} (hdg : decode cc pc = .ok (.invokestatic idx, 3))
    (kk : W p l e R s m args below meth c H locs cells slots Q (F0 m (pc + 3) ls (.int (q_abs x) :: rest))) : W p l e R s m args below meth c H locs cells slots Q (F0 m pc ls (.int x :: rest)) :=
  va_mabs C.1 C.2.1 (C.2.2.1.trans hl.1.symm) C.2.2.2.2.2.1 (C.2.2.2.2.2.2.1 _ h1) (C.2.2.2.2.2.2.1 _ h2) (C.2.2.2.2.2.2.1 _ h3) (C.2.2.2.2.2.2.1 _ h4) hframes hlocals hcs.1 hcs.2 hdg kk
theorem q_catR (a : Nat) : (Value.ref a).category = 1 := rfl
theorem q_catI (a : Int32) : (Value.int a).category = 1 := rfl
theorem q_catL (a : Int64) : (Value.long a).category = 2 := rfl
theorem q_cat (o : Option Nat) : (va_rf o).category = 1 := by cases o <;> rfl
theorem q_null (C : q_Cx D al cc nL ret own p s m args meth c) (hdg : decode cc pc = .ok (.aconst_null, 1)) (kk : W p l e R s m args below meth c H locs cells slots Q (F0 m (pc + 1) ls (va_rf none :: rest))) : W p l e R s m args below meth c H locs cells slots Q (F0 m pc ls rest) := lv_null C.1 C.2.1 hdg kk
def q_ff (ci k f t : Nat) : Prop := ci < 13 ∧ q_ft ci k = f ∧ q_tg ci k = t
theorem r_getI (C : q_Cx D al cc nL ret own p s m args meth c) (hW : q_W D al dt H) {a ci k idx t : Nat} (hk : al.1 a = ci + 1) (hf : q_ff ci k 0 t) {ty : Nat → FieldType} (hc : q_Cl ci ty) (hl : q_Fl own idx ci k) (hdg : decode cc pc = .ok (.getfield idx, 3))
    (kk : W p l e R s m args below meth c H locs cells slots Q (F0 m (pc + 3) ls (.int (dt.1 a k) :: rest))) : W p l e R s m args below meth c H locs cells slots Q (F0 m pc ls (.ref a :: rest)) := q_getI C hW hk hf.2.1 hf.1 hc hl hdg kk
theorem r_getF (C : q_Cx D al cc nL ret own p s m args meth c) (hW : q_W D al dt H) {a ci k idx t : Nat} (hk : al.1 a = ci + 1) (hf : q_ff ci k 3 t) {ty : Nat → FieldType} (hc : q_Cl ci ty) (hl : q_Fl own idx ci k) (hdg : decode cc pc = .ok (.getfield idx, 3))
    (kk : al.1 (al.2.2 a k) = t → W p l e R s m args below meth c H locs cells slots Q (F0 m (pc + 3) ls (.ref (al.2.2 a k) :: rest))) : W p l e R s m args below meth c H locs cells slots Q (F0 m pc ls (.ref a :: rest)) := q_getF C hW hk hf.2.1 hf.1 hc hl hdg (kk (q_kF hW hk hf.1 hf.2.1 hf.2.2))
theorem r_getQ (C : q_Cx D al cc nL ret own p s m args meth c) (hW : q_W D al dt H) {a ci k idx t : Nat} {β : Type} {f : Option Nat → Option β} {u : β} (hm : q_o (dt.2.2 a k) f = some u) (hk : al.1 a = ci + 1) (hf : q_ff ci k 2 t) {ty : Nat → FieldType} (hc : q_Cl ci ty) (hl : q_Fl own idx ci k) (hdg : decode cc pc = .ok (.getfield idx, 3))
    (kk : ∀ o : Option Nat, o = dt.2.2 a k → (∀ b, o = some b → al.1 b = t) → f o = some u → W p l e R s m args below meth c H locs cells slots Q (F0 m (pc + 3) ls (va_rf o :: rest))) : W p l e R s m args below meth c H locs cells slots Q (F0 m pc ls (.ref a :: rest)) := q_getQ C hW hk hf.2.1 hf.1 hc hl hdg (kk _ rfl (fun b hb => q_kQ hW hk hf.1 hf.2.1 hf.2.2 hb) hm)
theorem r_putI (C : q_Cx D al cc nL ret own p s m args meth c) (hW : q_W D al dt H) (hS : va_S (q_A al) H0 H locs) {β : Type} {f : q_Dt → Option β} {u : β} {a ci k idx t : Nat} {v : Int32} (hm : q_o (q_pI dt a k v) f = some u) (hk : al.1 a = ci + 1) (hf : q_ff ci k 0 t) {tys : Nat → FieldType} (hc : q_Cl ci tys) (hl : q_Fl own idx ci k) (hnf : ∀ C T N, vwCl[ci]? = some (C, T, N) → (T k).2.2.2 = false) (hty : tys k = .int) (hdg : decode cc pc = .ok (.putfield idx, 3))
    (kk : ∀ (dt1 : q_Dt) (H1 : Heap) (locs1 : List Loc), f dt1 = some u → q_W D al dt1 H1 → va_S (q_A al) H0 H1 locs1 → W p l e R s m args below meth c H1 locs1 cells slots Q (F0 m (pc + 3) ls rest)) : W p l e R s m args below meth c H locs cells slots Q (F0 m pc ls (.int v :: .ref a :: rest)) := q_putI C hW hS hk hf.2.1 hf.1 hc hl hnf hty hdg (fun H1 locs1 => kk _ H1 locs1 hm)
theorem r_putZ (C : q_Cx D al cc nL ret own p s m args meth c) (hW : q_W D al dt H) (hS : va_S (q_A al) H0 H locs) {β : Type} {f : q_Dt → Option β} {u : β} {a ci k idx t : Nat} {v : Int32} (hm : (if v = 0 ∨ v = 1 then q_o (q_pI dt a k v) f else none) = some u) (hk : al.1 a = ci + 1) (hf : q_ff ci k 0 t) {tys : Nat → FieldType} (hc : q_Cl ci tys) (hl : q_Fl own idx ci k) (hnf : ∀ C T N, vwCl[ci]? = some (C, T, N) → (T k).2.2.2 = false) (hty : tys k = .boolean) (hdg : decode cc pc = .ok (.putfield idx, 3))
    (kk : ∀ (dt1 : q_Dt) (H1 : Heap) (locs1 : List Loc), f dt1 = some u → q_W D al dt1 H1 → va_S (q_A al) H0 H1 locs1 → W p l e R s m args below meth c H1 locs1 cells slots Q (F0 m (pc + 3) ls rest)) : W p l e R s m args below meth c H locs cells slots Q (F0 m pc ls (.int v :: .ref a :: rest)) := q_putZ C hW hS hk hf.2.1 hf.1 hc hl hnf hty (q_ini' hm).1 hdg (fun H1 locs1 => kk _ H1 locs1 (q_ini' hm).2)
theorem r_putQ (C : q_Cx D al cc nL ret own p s m args meth c) (hW : q_W D al dt H) (hS : va_S (q_A al) H0 H locs) {β : Type} {f : q_Dt → Option β} {u : β} {a b ci k idx t : Nat} (hm : q_o (q_pR dt a k (some b)) f = some u) (hk : al.1 a = ci + 1) (hf : q_ff ci k 2 t) (hb : al.1 b = t) {tys : Nat → FieldType} (hc : q_Cl ci tys) (hl : q_Fl own idx ci k) (hnf : ∀ C T N, vwCl[ci]? = some (C, T, N) → (T k).2.2.2 = false) {cn : String} (hty : tys k = .object cn) (hdg : decode cc pc = .ok (.putfield idx, 3))
    (kk : ∀ (dt1 : q_Dt) (H1 : Heap) (locs1 : List Loc), f dt1 = some u → q_W D al dt1 H1 → va_S (q_A al) H0 H1 locs1 → W p l e R s m args below meth c H1 locs1 cells slots Q (F0 m (pc + 3) ls rest)) : W p l e R s m args below meth c H locs cells slots Q (F0 m pc ls (.ref b :: .ref a :: rest)) := q_putQ C hW hS hk hf.2.1 hf.1 hc hl hnf hty (hb.trans hf.2.2.symm) hdg (fun H1 locs1 => kk _ H1 locs1 hm)
theorem r_iald (C : q_Cx D al cc nL ret own p s m args meth c) (hW : q_W D al dt H) {β : Type} {B : Option β} {u : β} {a : Nat} {i : Int32} (hm : (if i < 0 ∨ al.2.1 a ≤ i.toNatClampNeg then none else B) = some u) (hk : al.1 a = 21) (hdg : decode cc pc = .ok (.iaload, 1))
    (kk : B = some u → W p l e R s m args below meth c H locs cells slots Q (F0 m (pc + 1) ls (.int (dt.1 a i.toNatClampNeg) :: rest))) : W p l e R s m args below meth c H locs cells slots Q (F0 m pc ls (.int i :: .ref a :: rest)) := q_iald C hW hk (q_ini hm).1 hdg (kk (q_ini hm).2)
theorem r_bald (C : q_Cx D al cc nL ret own p s m args meth c) (hW : q_W D al dt H) {β : Type} {B : Option β} {u : β} {a : Nat} {i : Int32} (hm : (if i < 0 ∨ al.2.1 a ≤ i.toNatClampNeg then none else B) = some u) (hk : al.1 a = 20) (hdg : decode cc pc = .ok (.baload, 1))
    (kk : B = some u → W p l e R s m args below meth c H locs cells slots Q (F0 m (pc + 1) ls (.int (dt.1 a i.toNatClampNeg) :: rest))) : W p l e R s m args below meth c H locs cells slots Q (F0 m pc ls (.int i :: .ref a :: rest)) := q_bald C hW hk (q_ini hm).1 hdg (kk (q_ini hm).2)
theorem r_zald (C : q_Cx D al cc nL ret own p s m args meth c) (hW : q_W D al dt H) {β : Type} {B : Option β} {u : β} {a : Nat} {i : Int32} (hm : (if i < 0 ∨ al.2.1 a ≤ i.toNatClampNeg then none else B) = some u) (hk : al.1 a = 23) (hdg : decode cc pc = .ok (.baload, 1))
    (kk : B = some u → W p l e R s m args below meth c H locs cells slots Q (F0 m (pc + 1) ls (.int (dt.1 a i.toNatClampNeg) :: rest))) : W p l e R s m args below meth c H locs cells slots Q (F0 m pc ls (.int i :: .ref a :: rest)) := q_zald C hW hk (q_ini hm).1 hdg (kk (q_ini hm).2)
theorem r_lald (C : q_Cx D al cc nL ret own p s m args meth c) (hW : q_W D al dt H) {β : Type} {B : Option β} {u : β} {a : Nat} {i : Int32} (hm : (if i < 0 ∨ al.2.1 a ≤ i.toNatClampNeg then none else B) = some u) (hk : al.1 a = 22) (hdg : decode cc pc = .ok (.laload, 1))
    (kk : B = some u → W p l e R s m args below meth c H locs cells slots Q (F0 m (pc + 1) ls (.long (dt.2.1 a i.toNatClampNeg) :: rest))) : W p l e R s m args below meth c H locs cells slots Q (F0 m pc ls (.int i :: .ref a :: rest)) := q_lald C hW hk (q_ini hm).1 hdg (kk (q_ini hm).2)
theorem q_clamp {i : Int32} {n : Nat} (h : ¬ (i < 0 ∨ n ≤ i.toNatClampNeg)) : i.toNatClampNeg < n := Nat.not_le.mp fun q => h (Or.inr q)
theorem r_aald (C : q_Cx D al cc nL ret own p s m args meth c) (hW : q_W D al dt H) {β : Type} {B : Option β} {u : β} {a ci t0 : Nat} {Cn : String} {i : Int32} (hm : (if i < 0 ∨ al.2.1 a ≤ i.toNatClampNeg then none else B) = some u) (hk : al.1 a = ci + 30) (h13 : ci < 13) (ht : (q_tys D)[t0]? = some (D.2.1 (ci + 30), .object Cn)) (hdg : decode cc pc = .ok (.aaload, 1))
    (kk : al.1 (al.2.2 a i.toNatClampNeg) = ci + 1 → B = some u → W p l e R s m args below meth c H locs cells slots Q (F0 m (pc + 1) ls (.ref (al.2.2 a i.toNatClampNeg) :: rest))) : W p l e R s m args below meth c H locs cells slots Q (F0 m pc ls (.int i :: .ref a :: rest)) := q_aald C hW hk h13 ht (q_ini hm).1 hdg (kk (q_kR hW hk h13 (q_clamp (q_ini hm).1)) (q_ini hm).2)
theorem r_iast (C : q_Cx D al cc nL ret own p s m args meth c) (hW : q_W D al dt H) (hS : va_S (q_A al) H0 H locs) {β : Type} {f : q_Dt → Option β} {u : β} {a : Nat} {i v : Int32} (hm : (if i < 0 ∨ al.2.1 a ≤ i.toNatClampNeg then none else q_o (q_pI dt a i.toNatClampNeg v) f) = some u) (hk : al.1 a = 21) (hdg : decode cc pc = .ok (.iastore, 1))
    (kk : ∀ (dt1 : q_Dt) (H1 : Heap) (locs1 : List Loc), f dt1 = some u → q_W D al dt1 H1 → va_S (q_A al) H0 H1 locs1 → W p l e R s m args below meth c H1 locs1 cells slots Q (F0 m (pc + 1) ls rest)) : W p l e R s m args below meth c H locs cells slots Q (F0 m pc ls (.int v :: .int i :: .ref a :: rest)) := q_iast C hW hS hk (q_ini hm).1 hdg (fun H1 locs1 => kk _ H1 locs1 (q_ini hm).2)
theorem r_bast (C : q_Cx D al cc nL ret own p s m args meth c) (hW : q_W D al dt H) (hS : va_S (q_A al) H0 H locs) {β : Type} {f : q_Dt → Option β} {u : β} {a : Nat} {i v : Int32} (hm : (if i < 0 ∨ al.2.1 a ≤ i.toNatClampNeg then none else q_o (q_pI dt a i.toNatClampNeg v.toInt8.toInt32) f) = some u) (hk : al.1 a = 20) (hdg : decode cc pc = .ok (.bastore, 1))
    (kk : ∀ (dt1 : q_Dt) (H1 : Heap) (locs1 : List Loc), f dt1 = some u → q_W D al dt1 H1 → va_S (q_A al) H0 H1 locs1 → W p l e R s m args below meth c H1 locs1 cells slots Q (F0 m (pc + 1) ls rest)) : W p l e R s m args below meth c H locs cells slots Q (F0 m pc ls (.int v :: .int i :: .ref a :: rest)) := q_bast C hW hS hk (q_ini hm).1 hdg (fun H1 locs1 => kk _ H1 locs1 (q_ini hm).2)
theorem r_zast (C : q_Cx D al cc nL ret own p s m args meth c) (hW : q_W D al dt H) (hS : va_S (q_A al) H0 H locs) {β : Type} {f : q_Dt → Option β} {u : β} {a : Nat} {i v : Int32} (hm : (if i < 0 ∨ al.2.1 a ≤ i.toNatClampNeg then none else q_o (q_pI dt a i.toNatClampNeg (vp_nar .boolean v)) f) = some u) (hk : al.1 a = 23) (hdg : decode cc pc = .ok (.bastore, 1))
    (kk : ∀ (dt1 : q_Dt) (H1 : Heap) (locs1 : List Loc), f dt1 = some u → q_W D al dt1 H1 → va_S (q_A al) H0 H1 locs1 → W p l e R s m args below meth c H1 locs1 cells slots Q (F0 m (pc + 1) ls rest)) : W p l e R s m args below meth c H locs cells slots Q (F0 m pc ls (.int v :: .int i :: .ref a :: rest)) := q_zast C hW hS hk (q_ini hm).1 hdg (fun H1 locs1 => kk _ H1 locs1 (q_ini hm).2)
theorem r_last (C : q_Cx D al cc nL ret own p s m args meth c) (hW : q_W D al dt H) (hS : va_S (q_A al) H0 H locs) {β : Type} {f : q_Dt → Option β} {u : β} {a : Nat} {i : Int32} {v : Int64} (hm : (if i < 0 ∨ al.2.1 a ≤ i.toNatClampNeg then none else q_o (q_pJ dt a i.toNatClampNeg v) f) = some u) (hk : al.1 a = 22) (hdg : decode cc pc = .ok (.lastore, 1))
    (kk : ∀ (dt1 : q_Dt) (H1 : Heap) (locs1 : List Loc), f dt1 = some u → q_W D al dt1 H1 → va_S (q_A al) H0 H1 locs1 → W p l e R s m args below meth c H1 locs1 cells slots Q (F0 m (pc + 1) ls rest)) : W p l e R s m args below meth c H locs cells slots Q (F0 m pc ls (.long v :: .int i :: .ref a :: rest)) := q_last C hW hS hk (q_ini hm).1 hdg (fun H1 locs1 => kk _ H1 locs1 (q_ini hm).2)
theorem e_i (C : q_Cx D al cc nL (some .int) own p s m args meth c) (hW : q_W D al dt H) (hS : va_S (q_A al) s.heap H locs) {v r0 : Int32} (hm : some v = some r0) (hdg : decode cc pc = .ok (.ireturn, 1)) : W p l e R s m args below meth c H locs cells slots (MQ below (q_Q (some (.int r0)) (fun H => q_W D al dt H ∧ q_Rk al 0 (some (.int r0))) (q_A al)) args s cells slots (q_A al)) (F0 m pc ls [.int v]) := by
  cases hm; exact q_reti C hW hS hdg
theorem e_iD (C : q_Cx D al cc nL (some .int) own p s m args meth c) (hW : q_W D al dt H) (hS : va_S (q_A al) s.heap H locs) {v r0 : Int32} {dt0 : q_Dt} (hm : some (v, dt) = some (r0, dt0)) (hdg : decode cc pc = .ok (.ireturn, 1)) : W p l e R s m args below meth c H locs cells slots (MQ below (q_Q (some (.int r0)) (fun H => q_W D al dt0 H ∧ q_Rk al 0 (some (.int r0))) (q_A al)) args s cells slots (q_A al)) (F0 m pc ls [.int v]) := by
  cases hm; exact q_reti C hW hS hdg
theorem e_z (C : q_Cx D al cc nL (some .boolean) own p s m args meth c) (hW : q_W D al dt H) (hS : va_S (q_A al) s.heap H locs) {v r0 : Int32} (hm : (if v = 0 ∨ v = 1 then some v else none) = some r0) (hdg : decode cc pc = .ok (.ireturn, 1)) : W p l e R s m args below meth c H locs cells slots (MQ below (q_Q (some (.int r0)) (fun H => q_W D al dt H ∧ q_Rk al 0 (some (.int r0))) (q_A al)) args s cells slots (q_A al)) (F0 m pc ls [.int v]) := by
  obtain ⟨hv, hm⟩ := q_ini' hm
  cases hm; exact q_retz C hW hS hv hdg
theorem e_zD (C : q_Cx D al cc nL (some .boolean) own p s m args meth c) (hW : q_W D al dt H) (hS : va_S (q_A al) s.heap H locs) {v r0 : Int32} {dt0 : q_Dt} (hm : (if v = 0 ∨ v = 1 then some (v, dt) else none) = some (r0, dt0)) (hdg : decode cc pc = .ok (.ireturn, 1)) : W p l e R s m args below meth c H locs cells slots (MQ below (q_Q (some (.int r0)) (fun H => q_W D al dt0 H ∧ q_Rk al 0 (some (.int r0))) (q_A al)) args s cells slots (q_A al)) (F0 m pc ls [.int v]) := by
  obtain ⟨hv, hm⟩ := q_ini' hm
  cases hm; exact q_retz C hW hS hv hdg
theorem e_l (C : q_Cx D al cc nL (some .long) own p s m args meth c) (hW : q_W D al dt H) (hS : va_S (q_A al) s.heap H locs) {v r0 : Int64} (hm : some v = some r0) (hdg : decode cc pc = .ok (.lreturn, 1)) : W p l e R s m args below meth c H locs cells slots (MQ below (q_Q (some (.long r0)) (fun H => q_W D al dt H ∧ q_Rk al 0 (some (.long r0))) (q_A al)) args s cells slots (q_A al)) (F0 m pc ls [.long v]) := by
  cases hm; exact q_retl C hW hS hdg
theorem e_lD (C : q_Cx D al cc nL (some .long) own p s m args meth c) (hW : q_W D al dt H) (hS : va_S (q_A al) s.heap H locs) {v r0 : Int64} {dt0 : q_Dt} (hm : some (v, dt) = some (r0, dt0)) (hdg : decode cc pc = .ok (.lreturn, 1)) : W p l e R s m args below meth c H locs cells slots (MQ below (q_Q (some (.long r0)) (fun H => q_W D al dt0 H ∧ q_Rk al 0 (some (.long r0))) (q_A al)) args s cells slots (q_A al)) (F0 m pc ls [.long v]) := by
  cases hm; exact q_retl C hW hS hdg
theorem e_vD (C : q_Cx D al cc nL none own p s m args meth c) (hW : q_W D al dt H) (hS : va_S (q_A al) s.heap H locs) {dt0 : q_Dt} (hm : some dt = some dt0) (hdg : decode cc pc = .ok (.return_, 1)) : W p l e R s m args below meth c H locs cells slots (MQ below (q_Q none (fun H => q_W D al dt0 H ∧ q_Rk al 0 none) (q_A al)) args s cells slots (q_A al)) (F0 m pc ls []) := by
  cases hm; exact q_retv C hW hS hdg
theorem e_a {cn : String} (C : q_Cx D al cc nL (some (.object cn)) own p s m args meth c) (hW : q_W D al dt H) (hS : va_S (q_A al) s.heap H locs) {rk : Nat} {v r0 : Option Nat} (hm : some v = some r0) (hk : rk = 0 ∨ ∀ b, v = some b → al.1 b = rk) (hdg : decode cc pc = .ok (.areturn, 1)) : W p l e R s m args below meth c H locs cells slots (MQ below (q_Q (some (va_rf r0)) (fun H => q_W D al dt H ∧ q_Rk al rk (some (va_rf r0))) (q_A al)) args s cells slots (q_A al)) (F0 m pc ls [va_rf v]) := by
  cases hm; exact q_reta C hW hS hk hdg
theorem e_aD {cn : String} (C : q_Cx D al cc nL (some (.object cn)) own p s m args meth c) (hW : q_W D al dt H) (hS : va_S (q_A al) s.heap H locs) {rk : Nat} {v r0 : Option Nat} {dt0 : q_Dt} (hm : some (v, dt) = some (r0, dt0)) (hk : rk = 0 ∨ ∀ b, v = some b → al.1 b = rk) (hdg : decode cc pc = .ok (.areturn, 1)) : W p l e R s m args below meth c H locs cells slots (MQ below (q_Q (some (va_rf r0)) (fun H => q_W D al dt0 H ∧ q_Rk al rk (some (va_rf r0))) (q_A al)) args s cells slots (q_A al)) (F0 m pc ls [va_rf v]) := by
  cases hm; exact q_reta C hW hS hk hdg
theorem e_zl (C : q_Cx D al cc nL (some .boolean) own p s m args meth c) (hW : q_W D al dt H) (hS : va_S (q_A al) s.heap H locs) {v r0 : Int32} (hv : v = 0 ∨ v = 1) (hm : some v = some r0) (hdg : decode cc pc = .ok (.ireturn, 1)) : W p l e R s m args below meth c H locs cells slots (MQ below (q_Q (some (.int r0)) (fun H => q_W D al dt H ∧ q_Rk al 0 (some (.int r0))) (q_A al)) args s cells slots (q_A al)) (F0 m pc ls [.int v]) := by
  cases hm; exact q_retz C hW hS hv hdg
theorem e_zlD (C : q_Cx D al cc nL (some .boolean) own p s m args meth c) (hW : q_W D al dt H) (hS : va_S (q_A al) s.heap H locs) {v r0 : Int32} {dt0 : q_Dt} (hv : v = 0 ∨ v = 1) (hm : some (v, dt) = some (r0, dt0)) (hdg : decode cc pc = .ok (.ireturn, 1)) : W p l e R s m args below meth c H locs cells slots (MQ below (q_Q (some (.int r0)) (fun H => q_W D al dt0 H ∧ q_Rk al 0 (some (.int r0))) (q_A al)) args s cells slots (q_A al)) (F0 m pc ls [.int v]) := by
  cases hm; exact q_retz C hW hS hv hdg
theorem e_v (C : q_Cx D al cc nL none own p s m args meth c) (hW : q_W D al dt H) (hS : va_S (q_A al) s.heap H locs) (hm : some () = some ()) (hdg : decode cc pc = .ok (.return_, 1)) : W p l e R s m args below meth c H locs cells slots (MQ below (q_Q none (fun H => q_W D al dt H ∧ q_Rk al 0 none) (q_A al)) args s cells slots (q_A al)) (F0 m pc ls []) := q_retv C hW hS hdg
theorem e_s {cn : String} (C : q_Cx D al cc nL (some (.object cn)) own p s m args meth c) (hW : q_W D al dt H) (hS : va_S (q_A al) s.heap H locs) {v r0 : Nat} (hm : some v = some r0) (hdg : decode cc pc = .ok (.areturn, 1)) : W p l e R s m args below meth c H locs cells slots (MQ below (q_Q (some (.ref (D.2.2.1 r0))) (fun H => q_W D al dt H ∧ q_Rk al 0 (some (.ref (D.2.2.1 r0)))) (q_A al)) args s cells slots (q_A al)) (F0 m pc ls [.ref (D.2.2.1 v)]) := by
  cases hm; exact q_reta C hW hS (v := some (D.2.2.1 v)) (Or.inl rfl) hdg
theorem q_ldcS (C : q_Cx D al cc nL ret RX9 p s m args meth c) {i idx : Nat} (hi : i < 9) (hidx : q_sx.getD i 0 = idx) (hdg : decode cc pc = .ok (.ldc idx, 2)) (kk : W p l e R s m args below meth c H locs cells slots Q (F0 m (pc + 2) ls (.ref (D.2.2.1 i) :: rest))) : W p l e R s m args below meth c H locs cells slots Q (F0 m pc ls rest) := by
  have h := C.2.2.2.2.2.2.2.1.2.2 i hi
  rw [hidx] at h
  exact va_ldcS C.1 C.2.1 C.2.2.2.2.2.1 h hdg kk
theorem q_rk {rk : Nat} {r : Option Nat} (h : q_Rk al rk (some (va_rf r))) (h0 : rk ≠ 0) : ∀ b, r = some b → al.1 b = rk := by
  intro b hb
  subst hb
  rcases h with h | h
  · exact absurd h h0
  · exact h b rfl
end QC
