/-! the world: what an address holds, by its kind (0 nothing, 1 + c an object of class c, 20 .. 23 rows of bytes, ints, longs, booleans, 30 + c a row of objects of class c; 100 more: still being made) -/
abbrev q_Al : Type := (Nat → Nat) × (Nat → Nat) × (Nat → Nat → Nat)
abbrev q_Dt : Type := (Nat → Nat → Int32) × (Nat → Nat → Int64) × (Nat → Nat → Option Nat)
abbrev q_D : Type := va_G × (Nat → ClassId) × (Nat → Nat) × (Nat → Nat)
def q_tb : List (List (Nat × Nat)) := [[(3, 6), (0, 0)], [(0, 0), (0, 0), (0, 0)], [(3, 6), (3, 6), (3, 6), (3, 6)], [(3, 10), (3, 6), (3, 6), (3, 6), (0, 0), (0, 0), (0, 0), (0, 0)], [(3, 6), (3, 9), (3, 35), (3, 35), (0, 0), (0, 0)], [(3, 22)], [(3, 6), (3, 6), (3, 6), (0, 0)], [(3, 6), (3, 6), (2, 1), (0, 0), (0, 0), (0, 0), (0, 0), (0, 0), (0, 0)], [(3, 6), (3, 6), (0, 0)], [(3, 6), (3, 6), (3, 6), (3, 6), (3, 6), (3, 6), (0, 0), (0, 0), (0, 0), (0, 0)], [(3, 30), (3, 31), (3, 37), (3, 6), (3, 6), (3, 6), (3, 6), (0, 0), (0, 0), (0, 0), (0, 0), (0, 0), (0, 0), (0, 0), (0, 0)], [(3, 4), (3, 9), (3, 38), (3, 3), (3, 7), (3, 5), (2, 11), (2, 11), (0, 0), (0, 0)], [(0, 0), (3, 20), (0, 0), (3, 20), (0, 0), (3, 21), (3, 21), (3, 21), (3, 22), (3, 22), (0, 0), (0, 0), (0, 0), (0, 0), (0, 0), (0, 0), (0, 0), (0, 0), (0, 0), (0, 0), (0, 0), (3, 22), (3, 21), (3, 21), (3, 21), (3, 21), (3, 21), (3, 21), (3, 21), (3, 21), (3, 21), (3, 21), (3, 21), (3, 21), (3, 21), (3, 21), (3, 21), (3, 21), (3, 21), (3, 21), (3, 21), (3, 21), (3, 21), (3, 21), (3, 21), (3, 21), (3, 21), (3, 21), (3, 21), (3, 21), (0, 0), (3, 20), (3, 20), (3, 21), (3, 21), (3, 21), (3, 21), (3, 21), (3, 21), (3, 23), (0, 0), (0, 0), (3, 22), (3, 22), (3, 23), (3, 23), (3, 21)]]
def q_sx : List Nat := [48, 133, 135, 137, 139, 141, 143, 145, 147]
def q_st : List String := ["reg walsh bits both hop send echo jam noise samples drift ", "niii;", "nii;", "nnni;", "nniiiid;", "ni-i;", "iiii;", "ii;", "i;"]
def q_sl : List Nat := [58, 5, 4, 5, 8, 5, 5, 3, 2]
def q_sb : List (List Int32) := [[114, 101, 103, 32, 119, 97, 108, 115, 104, 32, 98, 105, 116, 115, 32, 98, 111, 116, 104, 32, 104, 111, 112, 32, 115, 101, 110, 100, 32, 101, 99, 104, 111, 32, 106, 97, 109, 32, 110, 111, 105, 115, 101, 32, 115, 97, 109, 112, 108, 101, 115, 32, 100, 114, 105, 102, 116, 32], [110, 105, 105, 105, 59], [110, 105, 105, 59], [110, 110, 110, 105, 59], [110, 110, 105, 105, 105, 105, 100, 59], [110, 105, 45, 105, 59], [105, 105, 105, 105, 59], [105, 105, 59], [105, 59]]
def q_ft (c k : Nat) : Nat := ((q_tb.getD c []).getD k (0, 0)).1
def q_tg (c k : Nat) : Nat := ((q_tb.getD c []).getD k (0, 0)).2
def q_nf (c : Nat) : Nat := (q_tb.getD c []).length
def q_fv (al : q_Al) (dt : q_Dt) (c a k : Nat) : Value := if q_ft c k = 0 then .int (dt.1 a k) else if q_ft c k = 2 then va_rf (dt.2.2 a k) else .ref (al.2.2 a k)
def q_fw (dt : q_Dt) (c a k : Nat) : Value := if q_ft c k = 0 then .int (dt.1 a k) else va_rf (dt.2.2 a k)
def q_at (D : q_D) (al : q_Al) (dt : q_Dt) (H : Heap) (a : Nat) : Prop :=
  if al.1 a = 0 then True
  else if al.1 a ≤ 13 then t_OB a (D.1.1 (al.1 a - 1)) (q_nf (al.1 a - 1)) (D.1.2 (al.1 a - 1)) H (q_fv al dt (al.1 a - 1) a)
  else if al.1 a = 22 then H[a]? = some (vp_cell (D.2.1 22) (al.2.1 a, .inr (.inl (dt.2.1 a))))
  else if al.1 a < 30 then H[a]? = some (vp_cell (D.2.1 (al.1 a)) (al.2.1 a, .inl (dt.1 a)))
  else if al.1 a < 100 then H[a]? = some (vp_cell (D.2.1 (al.1 a)) (al.2.1 a, .inr (.inr (.inr (.inr (fun j => some (al.2.2 a j)))))))
  else if al.1 a < 120 then t_OB a (D.1.1 (al.1 a - 101)) (q_nf (al.1 a - 101)) (D.1.2 (al.1 a - 101)) H (q_fw dt (al.1 a - 101) a)
  else H[a]? = some (vp_cell (D.2.1 (al.1 a - 100)) (al.2.1 a, .inr (.inr (.inr (.inr (dt.2.2 a))))))
theorem q_at_obj {D : q_D} {al : q_Al} {dt : q_Dt} {H : Heap} {a ci : Nat} (h : al.1 a = ci + 1) (hc : ci < 13) : q_at D al dt H a = t_OB a (D.1.1 ci) (q_nf ci) (D.1.2 ci) H (q_fv al dt ci a) := by
  unfold q_at
  rw [if_neg (by omega), if_pos (by omega), h]
  rfl
theorem q_at_J {D : q_D} {al : q_Al} {dt : q_Dt} {H : Heap} {a : Nat} (h : al.1 a = 22) : q_at D al dt H a = (H[a]? = some (vp_cell (D.2.1 22) (al.2.1 a, .inr (.inl (dt.2.1 a))))) := by
  unfold q_at
  rw [if_neg (by omega), if_neg (by omega), if_pos h]
theorem q_at_I {D : q_D} {al : q_Al} {dt : q_Dt} {H : Heap} {a k : Nat} (h : al.1 a = k) (h1 : k = 20 ∨ k = 21 ∨ k = 23) : q_at D al dt H a = (H[a]? = some (vp_cell (D.2.1 k) (al.2.1 a, .inl (dt.1 a)))) := by
  unfold q_at
  rw [if_neg (by omega), if_neg (by omega), if_neg (by omega), if_pos (by omega), h]
theorem q_at_R {D : q_D} {al : q_Al} {dt : q_Dt} {H : Heap} {a k : Nat} (h : al.1 a = k) (h1 : 30 ≤ k) (h2 : k < 100) : q_at D al dt H a = (H[a]? = some (vp_cell (D.2.1 k) (al.2.1 a, .inr (.inr (.inr (.inr (fun j => some (al.2.2 a j)))))))) := by
  unfold q_at
  rw [if_neg (by omega), if_neg (by omega), if_neg (by omega), if_neg (by omega), if_pos (by omega), h]
theorem q_at_new {D : q_D} {al : q_Al} {dt : q_Dt} {H : Heap} {a ci : Nat} (h : al.1 a = ci + 101) (hc : ci < 13) : q_at D al dt H a = t_OB a (D.1.1 ci) (q_nf ci) (D.1.2 ci) H (q_fw dt ci a) := by
  unfold q_at
  rw [if_neg (by omega), if_neg (by omega), if_neg (by omega), if_neg (by omega), if_neg (by omega), if_pos (by omega), h]
  rfl
theorem q_at_RN {D : q_D} {al : q_Al} {dt : q_Dt} {H : Heap} {a k : Nat} (h : al.1 a = k + 100) (h1 : 30 ≤ k) : q_at D al dt H a = (H[a]? = some (vp_cell (D.2.1 k) (al.2.1 a, .inr (.inr (.inr (.inr (dt.2.2 a))))))) := by
  unfold q_at
  rw [if_neg (by omega), if_neg (by omega), if_neg (by omega), if_neg (by omega), if_neg (by omega), if_neg (by omega), h]
  rfl
theorem q_at.frame {D : q_D} {al al1 : q_Al} {dt dt1 : q_Dt} {H H1 : Heap} {a : Nat} (h : q_at D al dt H a) (hK : al1.1 a = al.1 a) (hL : al1.2.1 a = al.2.1 a) (hF : al1.2.2 a = al.2.2 a) (hI : dt1.1 a = dt.1 a) (hJ : dt1.2.1 a = dt.2.1 a) (hR : dt1.2.2 a = dt.2.2 a) (hH : H1[a]? = H[a]?) : q_at D al1 dt1 H1 a := by
  have e1 : ∀ c, q_fv al1 dt1 c a = q_fv al dt c a := fun c => by funext k; unfold q_fv; rw [hI, hR, hF]
  have e2 : ∀ c, q_fw dt1 c a = q_fw dt c a := fun c => by funext k; unfold q_fw; rw [hI, hR]
  unfold q_at at h ⊢
  rw [hK, hL, hF, hI, hJ, hR, hH]
  simp only [e1, e2]
  split at h
  · rw [if_pos (by assumption)]; trivial
  rename_i g0
  rw [if_neg g0]
  split at h
  · rename_i g1
    rw [if_pos g1]
    exact h.kept hH
  rename_i g1
  rw [if_neg g1]
  split at h
  · rename_i g2; rw [if_pos g2]; exact h
  rename_i g2
  rw [if_neg g2]
  split at h
  · rename_i g3; rw [if_pos g3]; exact h
  rename_i g3
  rw [if_neg g3]
  split at h
  · rename_i g4; rw [if_pos g4]; exact h
  rename_i g4
  rw [if_neg g4]
  split at h
  · rename_i g5; rw [if_pos g5]; exact h.kept hH
  · rename_i g5; rw [if_neg g5]; exact h
/-- the kinds of what the references name -/
def q_T (al : q_Al) (dt : q_Dt) : Prop :=
  (∀ a ci k, al.1 a = ci + 1 → ci < 13 → q_ft ci k = 3 → al.1 (al.2.2 a k) = q_tg ci k) ∧
  (∀ a ci k b, al.1 a = ci + 1 → ci < 13 → q_ft ci k = 2 → dt.2.2 a k = some b → al.1 b = q_tg ci k) ∧
  (∀ a ci j, al.1 a = ci + 30 → ci < 13 → j < al.2.1 a → al.1 (al.2.2 a j) = ci + 1)
def q_W (D : q_D) (al : q_Al) (dt : q_Dt) (H : Heap) : Prop := (∀ a, q_at D al dt H a) ∧ q_T al dt
def q_A (al : q_Al) : Nat → Prop := fun q => al.1 q ≠ 0
def q_pI (dt : q_Dt) (a k : Nat) (v : Int32) : q_Dt := (fun x j => if x = a ∧ j = k then v else dt.1 x j, dt.2)
def q_pJ (dt : q_Dt) (a k : Nat) (v : Int64) : q_Dt := (dt.1, fun x j => if x = a ∧ j = k then v else dt.2.1 x j, dt.2.2)
def q_pR (dt : q_Dt) (a k : Nat) (v : Option Nat) : q_Dt := (dt.1, dt.2.1, fun x j => if x = a ∧ j = k then v else dt.2.2 x j)
/-! the words -/
def q_tbl : List Cond := lw_tbl.filter goodWord
def q_isN : Cond → Bool
  | .fieldLinkNest _ _ _ _ _ _ => true
  | .methodLinkNest _ _ _ _ => true
  | .arrayOver (.object _) => true
  | _ => false
def q_nst : List Cond := lw_tbl.filter q_isN
theorem q_mem {w : Cond} (h : w ∈ lw_tbl) (g : goodWord w = true) : w ∈ q_tbl := List.mem_filter.mpr ⟨h, g⟩
theorem q_memN {w : Cond} (h : w ∈ lw_tbl) (g : q_isN w = true) : w ∈ q_nst := List.mem_filter.mpr ⟨h, g⟩
theorem q_good : GoodIn q_tbl q_tbl := fun w h => ⟨h, good_of_word (List.mem_filter.mp h).2⟩
def q_tys (D : q_D) : List (ClassId × FieldType) := [(D.2.1 20, .byte), (D.2.1 21, .int), (D.2.1 22, .long), (D.2.1 23, .boolean), (D.2.1 30, .object RX0), (D.2.1 31, .object RX1), (D.2.1 35, .object RX5), (D.2.1 37, .object RX7), (D.2.1 38, .object RX8)]
def q_K (D : q_D) (s : State) : Prop := va_K D.1 vwCl (q_tys D) s ∧ (∀ w ∈ q_nst, va_Nw w s) ∧ ∀ i, i < 9 → vk_R RX9 (q_sx.getD i 0) (q_st.getD i "") (D.2.2.1 i) s
def q_S0 (D : q_D) (A : Nat → Prop) (s : State) (H : Heap) : Prop := vk_S 9 q_sl q_sb D.2.2.1 D.2.2.2 A s H ∧ va_Z "java/lang/String" "COMPACT_STRINGS" "Z" (.int 1) A s H ∧ va_Zq "jdk/internal/util/Preconditions" "SIOOBE_FORMATTER" "Ljava/util/function/BiFunction;" A s H
theorem q_S0.narrow {D : q_D} {A B : Nat → Prop} {U : State} {H : Heap} (h : q_S0 D A U H) (hAB : ∀ q, B q → A q) : q_S0 D B U H := ⟨vk_S.narrow h.1 hAB, va_Z.narrow h.2.1 hAB, va_Zq.narrow h.2.2 hAB⟩
def q_S (D : q_D) (A : Nat → Prop) (s : State) : Prop := q_S0 D A s s.heap
theorem q_S0.moved {D : q_D} {A : Nat → Prop} {u U : State} {H : Heap} (hvm : u.vm.Alike U.vm) (h : q_S0 D A u H) : q_S0 D A U H := ⟨vk_S.moved hvm h.1, va_Z.moved hvm h.2.1, va_Zq.moved hvm h.2.2⟩
theorem q_S0.kept {D : q_D} {A : Nat → Prop} {U : State} {H H1 : Heap} (h : q_S0 D A U H) (hq : ∀ a : Nat, a < H.size → ¬ A a → H1[a]? = H[a]?) : q_S0 D A U H1 := ⟨vk_S.kept h.1 hq, va_Z.kept h.2.1 hq, va_Zq.kept h.2.2 hq⟩
def q_B (D : q_D) (al : q_Al) (dt : q_Dt) (U : State) : Prop := q_W D al dt U.heap ∧ q_K D U ∧ q_S D (q_A al) U
def q_Q (rv : Option Value) (B : Heap → Prop) (A : Nat → Prop) : Array Value → State → Outcome → State → Prop := fun _ st oc t => oc = .returned rv ∧ B t.heap ∧ va_F A st t
theorem q_K.same {D : q_D} {u U : State} (hv : u.vm = U.vm) (h : q_K D u) : q_K D U := by
  refine ⟨va_K.moved (by rw [← hv]; exact Vm.Alike.refl u.vm) h.1, fun w hw => ?_, fun i hi => vk_R.same hv.symm (h.2.2 i hi)⟩
  have h1 := h.2.1 w hw
  have h2 := (List.mem_filter.mp hw).2
  cases w <;> first | exact va_Nw.same rfl hv h1 | (simp [q_isN] at h2; done) | (rename_i t; cases t <;> first | (simp [q_isN] at h2; done) | exact va_AO.moved (by rw [← hv]; exact Vm.Alike.refl u.vm) h1)
theorem q_K.warm {D : q_D} {s U : State} (hW : s.WarmedH U.vm) (h : q_K D s) : q_K D U := by
  refine ⟨va_K.moved hW.alike h.1, fun w hw => ?_, fun i hi => (h.2.2 i hi).warm hW⟩
  have h1 := h.2.1 w hw
  have h2 := (List.mem_filter.mp hw).2
  cases w <;> first | exact va_Nw.warmF hW h1 | exact va_Nw.warmM hW h1 | (simp [q_isN] at h2; done) | (rename_i t; cases t <;> first | (simp [q_isN] at h2; done) | exact va_AO.moved hW.alike h1)
theorem q_B.blind {D : q_D} {al : q_Al} {dt : q_Dt} {av : List Value} : FrameBlind (va_Pc av (q_B D al dt)) := by
  intro a U g mk h
  obtain ⟨h1, h2, h3, h4⟩ := h
  refine ⟨h1, h2, q_K.same (u := U) (U := U.calling g mk a) rfl h3, ?_⟩
  exact q_S0.moved (u := U) (U := U.calling g mk a) (Vm.Alike.refl U.vm) h4
/-- the kind of what is answered, where it is a reference -/
def q_Rk (al : q_Al) (rk : Nat) (rv : Option Value) : Prop := rk = 0 ∨ ∀ b, rv = some (.ref b) → al.1 b = rk
def q_Mt (l : Launch) (y : MethodName) (cc : ByteArray) (maxL : Nat) (ret : Option FieldType) (fr lo : Nat) (D : q_D) (al : q_Al) (av : List Value) (dt : q_Dt) (rk : Nat) (rv : Option Value) (dt' : q_Dt) : Prop :=
  Met l y (.code y cc maxL ret :: q_tbl) { frames := fr, cells := 0, slots := 0, locals := lo } (va_Pc av (q_B D al dt)) (q_Q rv (fun H => q_W D al dt' H ∧ q_Rk al rk rv) (q_A al)) 0 0 (q_A al)
/-- where a method stands: the machine, its own code, the tables' words -/
def q_Cx (D : q_D) (al : q_Al) (cc : ByteArray) (nL : Nat) (ret : Option FieldType) (own : String) (p : Program) (s : State) (m : MethodId) (args : Array Value) (meth : Method) (c : Code) : Prop :=
  p.tables.exec = Jvm.exec ∧ c.code = cc ∧ c.maxLocals = nL ∧ meth.sig.returnType = ret ∧ meth.locks = false ∧ s.vm.findClass own = some m.cls ∧ (∀ w ∈ q_tbl, w.before args s = true) ∧ q_K D s ∧ q_S D (q_A al) s
theorem q_Mt.of {l : Launch} {y : MethodName} {cc : ByteArray} {maxL : Nat} {ret : Option FieldType} {fr lo : Nat} {D : q_D} {al : q_Al} {av : List Value} {dt : q_Dt} {rk : Nat} {rv : Option Value} {dt' : q_Dt} (hy : plainName y.cls = true) (hlen : (lg_sl av).length ≤ maxL)
    (body : ∀ (p : Program) (e : Env) (s : State) (m : MethodId) (args : Array Value) (below : List Frame) (meth : Method) (c : Code) (ls : Array Slot), q_Cx D al cc maxL ret y.cls p s m args meth c → args = av.toArray → q_W D al dt s.heap → lv_has ls maxL (lv_args 0 av) →
      W p l e { frames := fr, cells := 0, slots := 0, locals := lo } s m args below meth c s.heap [] 0 0 (MQ below (q_Q rv (fun H => q_W D al dt' H ∧ q_Rk al rk rv) (q_A al)) args s 0 0 (q_A al)) (F0 m 0 ls [])) : q_Mt l y cc maxL ret fr lo D al av dt rk rv dt' := by
  refine Met.ofW (cc := cc) (maxL := maxL) (ret := ret) hy rfl ?_
  intro p e s m args below meth c s₁ B hml hv
  obtain ⟨rfl, hW, hK, hS⟩ := hv
  have hts := atoms_spec (ws := .code y cc maxL ret :: q_tbl) B.pre
  rw [lg_entry_eq]
  exact body p e s m _ below meth c _ ⟨B.exec, B.bytes, hml, B.returns, B.notSynchronized, findClass_of_methodNamed B.named, fun w hw => hts w (List.mem_cons_of_mem _ hw), hK, hS⟩ rfl hW (lv_entry av hlen)
