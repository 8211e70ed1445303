/-! constructors: what is made lies in a list of cells (kind, length, references, ints, longs), at addresses from b on -/
abbrev q_Ce : Type := Nat × Nat × List (Option Nat) × List Int32 × List Int64
def q_cg (C : List q_Ce) (a : Nat) : q_Ce := C.getD a (0, 0, [], [], [])
def q_sp {α : Type} (l : List α) (d : α) (k : Nat) (v : α) : List α := (l ++ List.replicate (k + 1 - l.length) d).set k v
theorem q_sp_get {α : Type} (l : List α) (d : α) (k : Nat) (v : α) (j : Nat) : (q_sp l d k v).getD j d = if j = k then v else l.getD j d := by
  unfold q_sp
  simp only [List.getD_eq_getElem?_getD, List.getElem?_set, List.length_append, List.length_replicate]
  by_cases h : j = k
  · subst h
    rw [if_pos rfl, if_pos rfl, if_pos (by omega)]
    rfl
  · rw [if_neg (fun q => h q.symm), if_neg h]
    by_cases hl : j < l.length
    · rw [List.getElem?_append_left hl]
    · rw [List.getElem?_append_right (by omega), List.getElem?_eq_none (l := l) (by omega)]
      by_cases hr : j - l.length < k + 1 - l.length
      · rw [List.getElem?_replicate, if_pos hr]; rfl
      · rw [List.getElem?_replicate, if_neg hr]
def q_ca (b : Nat) (C : List q_Ce) : q_Al := (fun x => if b ≤ x then (q_cg C (x - b)).1 else 0, fun x => if b ≤ x then (q_cg C (x - b)).2.1 else 0, fun x k => if b ≤ x then (((q_cg C (x - b)).2.2.1.getD k none).map (b + ·)).getD 0 else 0)
def q_cd (b : Nat) (C : List q_Ce) : q_Dt := (fun x k => if b ≤ x then (q_cg C (x - b)).2.2.2.1.getD k 0 else 0, fun x k => if b ≤ x then (q_cg C (x - b)).2.2.2.2.getD k 0 else 0, fun x k => if b ≤ x then ((q_cg C (x - b)).2.2.1.getD k none).map (b + ·) else none)
def q_ckd (C : List q_Ce) (a : Nat) : Nat := (q_cg C a).1
def q_cln (C : List q_Ce) (a : Nat) : Nat := (q_cg C a).2.1
def q_cR (C : List q_Ce) (a k : Nat) : Option Nat := (q_cg C a).2.2.1.getD k none
def q_cI (C : List q_Ce) (a k : Nat) : Int32 := (q_cg C a).2.2.2.1.getD k 0
def q_cJ (C : List q_Ce) (a k : Nat) : Int64 := (q_cg C a).2.2.2.2.getD k 0
def q_sR (C : List q_Ce) (a k : Nat) (v : Option Nat) : List q_Ce := C.set a ((q_cg C a).1, (q_cg C a).2.1, q_sp (q_cg C a).2.2.1 none k v, (q_cg C a).2.2.2)
def q_sI (C : List q_Ce) (a k : Nat) (v : Int32) : List q_Ce := C.set a ((q_cg C a).1, (q_cg C a).2.1, (q_cg C a).2.2.1, q_sp (q_cg C a).2.2.2.1 0 k v, (q_cg C a).2.2.2.2)
def q_sJ (C : List q_Ce) (a k : Nat) (v : Int64) : List q_Ce := C.set a ((q_cg C a).1, (q_cg C a).2.1, (q_cg C a).2.2.1, (q_cg C a).2.2.2.1, q_sp (q_cg C a).2.2.2.2 0 k v)
theorem q_cg_set {C : List q_Ce} {a : Nat} {e : q_Ce} (j : Nat) : q_cg (C.set a e) j = if j = a ∧ a < C.length then e else q_cg C j := by
  unfold q_cg
  simp only [List.getD_eq_getElem?_getD, List.getElem?_set]
  by_cases h : a = j
  · subst h
    by_cases hl : a < C.length
    · rw [if_pos rfl, if_pos hl, if_pos ⟨rfl, hl⟩]; rfl
    · rw [if_pos rfl, if_neg hl, if_neg (fun q => hl q.2), List.getElem?_eq_none (by omega)]
  · rw [if_neg h, if_neg (fun q => h q.1.symm)]
theorem q_cg_self {C : List q_Ce} {a : Nat} {e : q_Ce} (h : a < C.length) : q_cg (C.set a e) a = e := by rw [q_cg_set, if_pos ⟨rfl, h⟩]
theorem q_cg_app {C : List q_Ce} {e : q_Ce} (j : Nat) : q_cg (C ++ [e]) j = if j = C.length then e else q_cg C j := by
  unfold q_cg
  simp only [List.getD_eq_getElem?_getD]
  by_cases h : j = C.length
  · subst h; simp
  · rw [if_neg h]
    by_cases hl : j < C.length
    · rw [List.getElem?_append_left hl]
    · rw [List.getElem?_eq_none (l := C) (by omega), List.getElem?_eq_none (by simp; omega)]
/-- no kind of a finished object: all is still being made -/
def q_kk (C : List q_Ce) : Prop := ∀ j, (q_cg C j).1 = 0 ∨ (20 ≤ (q_cg C j).1 ∧ (q_cg C j).1 < 30) ∨ 100 < (q_cg C j).1
def q_CW (D : q_D) (b : Nat) (C : List q_Ce) (H : Heap) : Prop := (∀ x, q_at D (q_ca b C) (q_cd b C) H x) ∧ H.size = b + C.length ∧ q_kk C
theorem q_CW.W {D : q_D} {b : Nat} {C : List q_Ce} {H : Heap} (h : q_CW D b C H) : q_W D (q_ca b C) (q_cd b C) H := by
  have hk : ∀ a, (q_ca b C).1 a = 0 ∨ (20 ≤ (q_ca b C).1 a ∧ (q_ca b C).1 a < 30) ∨ 100 < (q_ca b C).1 a := by
    intro a
    unfold q_ca
    by_cases hb : b ≤ a
    · simp only [if_pos hb]; exact h.2.2 _
    · simp only [if_neg hb]; simp
  refine ⟨h.1, fun a ci k h1 h2 => ?_, fun a ci k b h1 h2 => ?_, fun a ci k h1 h2 => ?_⟩
  · rcases hk a with h3 | h3 | h3 <;> omega
  · rcases hk a with h3 | h3 | h3 <;> omega
  · rcases hk a with h3 | h3 | h3 <;> omega
/-- the heap moved at one cell of the list alone -/
theorem q_CW.at {D : q_D} {b : Nat} {C : List q_Ce} {H H1 : Heap} (h : q_CW D b C H) {a : Nat} {e : q_Ce} (ha : a < C.length) (hk : e.1 = (q_cg C a).1) (hz : H1.size = H.size) (oq : ∀ q, q ≠ b + a → H1[q]? = H[q]?) (he : q_at D (q_ca b (C.set a e)) (q_cd b (C.set a e)) H1 (b + a)) : q_CW D b (C.set a e) H1 := by
  refine ⟨fun x => ?_, by rw [hz, h.2.1, List.length_set], fun j => ?_⟩
  · by_cases hx : x = b + a
    · subst hx; exact he
    · have hg : b ≤ x → q_cg (C.set a e) (x - b) = q_cg C (x - b) := fun hb => by rw [q_cg_set, if_neg (by omega)]
      refine (h.1 x).frame ?_ ?_ ?_ ?_ ?_ ?_ (oq x hx)
      · by_cases hb : b ≤ x <;> simp [q_ca, hb, hg]
      · by_cases hb : b ≤ x <;> simp [q_ca, hb, hg]
      · funext k; by_cases hb : b ≤ x <;> simp [q_ca, hb, hg]
      · funext k; by_cases hb : b ≤ x <;> simp [q_cd, hb, hg]
      · funext k; by_cases hb : b ≤ x <;> simp [q_cd, hb, hg]
      · funext k; by_cases hb : b ≤ x <;> simp [q_cd, hb, hg]
  · rw [q_cg_set]
    by_cases hj : j = a ∧ a < C.length
    · rw [if_pos hj, hk]; exact h.2.2 a
    · rw [if_neg hj]; exact h.2.2 j
theorem q_CW.push {D : q_D} {b : Nat} {C : List q_Ce} {H H1 : Heap} (h : q_CW D b C H) {e : q_Ce} (hk : e.1 = 0 ∨ (20 ≤ e.1 ∧ e.1 < 30) ∨ 100 < e.1) (hz : H1.size = H.size + 1) (oq : ∀ q, q < H.size → H1[q]? = H[q]?) (he : q_at D (q_ca b (C ++ [e])) (q_cd b (C ++ [e])) H1 (b + C.length)) : q_CW D b (C ++ [e]) H1 := by
  refine ⟨fun x => ?_, by rw [hz, h.2.1, List.length_append]; rfl, fun j => ?_⟩
  · by_cases hx : x = b + C.length
    · subst hx; exact he
    · have hg : b ≤ x → q_cg (C ++ [e]) (x - b) = q_cg C (x - b) := fun hb => by rw [q_cg_app, if_neg (by omega)]
      by_cases hlt : x < b + C.length
      · refine (h.1 x).frame ?_ ?_ ?_ ?_ ?_ ?_ (oq x (by rw [h.2.1]; exact hlt))
        · by_cases hb : b ≤ x <;> simp [q_ca, hb, hg]
        · by_cases hb : b ≤ x <;> simp [q_ca, hb, hg]
        · funext k; by_cases hb : b ≤ x <;> simp [q_ca, hb, hg]
        · funext k; by_cases hb : b ≤ x <;> simp [q_cd, hb, hg]
        · funext k; by_cases hb : b ≤ x <;> simp [q_cd, hb, hg]
        · funext k; by_cases hb : b ≤ x <;> simp [q_cd, hb, hg]
      · have h0 : (q_ca b (C ++ [e])).1 x = 0 := by
          show (if b ≤ x then (q_cg (C ++ [e]) (x - b)).1 else 0) = 0
          rw [if_pos (by omega), hg (by omega)]
          unfold q_cg
          rw [List.getD_eq_getElem?_getD, List.getElem?_eq_none (by omega)]
          rfl
        unfold q_at
        rw [if_pos h0]
        trivial
  · rw [q_cg_app]
    by_cases hj : j = C.length
    · rw [if_pos hj]; exact hk
    · rw [if_neg hj]; exact h.2.2 j
theorem q_ca_k (b : Nat) (C : List q_Ce) (a : Nat) : (q_ca b C).1 (b + a) = q_ckd C a := by simp [q_ca, q_ckd]
theorem q_ca_l (b : Nat) (C : List q_Ce) (a : Nat) : (q_ca b C).2.1 (b + a) = q_cln C a := by simp [q_ca, q_cln]
theorem q_cd_I (b : Nat) (C : List q_Ce) (a k : Nat) : (q_cd b C).1 (b + a) k = q_cI C a k := by simp [q_cd, q_cI]
theorem q_cd_J (b : Nat) (C : List q_Ce) (a k : Nat) : (q_cd b C).2.1 (b + a) k = q_cJ C a k := by simp [q_cd, q_cJ]
theorem q_cd_R (b : Nat) (C : List q_Ce) (a k : Nat) : (q_cd b C).2.2 (b + a) k = (q_cR C a k).map (b + ·) := by simp [q_cd, q_cR]
theorem q_in_of {C : List q_Ce} {a k : Nat} (h : q_ckd C a = k) (hk : k ≠ 0) : a < C.length := by
  rcases Nat.lt_or_ge a C.length with h1 | h1
  · exact h1
  · exfalso
    apply hk
    rw [← h]
    unfold q_ckd q_cg
    rw [List.getD_eq_getElem?_getD, List.getElem?_eq_none h1]
    rfl
def q_Cy (D : q_D) (b : Nat) (cc : ByteArray) (nL : Nat) (ret : Option FieldType) (own : String) (p : Program) (s : State) (m : MethodId) (args : Array Value) (meth : Method) (c : Code) : Prop :=
  p.tables.exec = Jvm.exec ∧ c.code = cc ∧ c.maxLocals = nL ∧ meth.sig.returnType = ret ∧ meth.locks = false ∧ s.vm.findClass own = some m.cls ∧ (∀ w ∈ q_tbl, w.before args s = true) ∧ q_K D s ∧ q_S D (fun q => b ≤ q) s
theorem q_Cy.X {D : q_D} {b : Nat} {C : List q_Ce} {cc : ByteArray} {nL : Nat} {ret : Option FieldType} {own : String} {p : Program} {s : State} {m : MethodId} {args : Array Value} {meth : Method} {c : Code} (h : q_Cy D b cc nL ret own p s m args meth c) : q_Cx D (q_ca b C) cc nL ret own p s m args meth c := by
  obtain ⟨h1, h2, h3, h4, h5, h6, h7, h8, h9⟩ := h
  refine ⟨h1, h2, h3, h4, h5, h6, h7, h8, q_S0.narrow h9 fun q hq => ?_⟩
  show b ≤ q
  rcases Nat.lt_or_ge q b with h | h
  · exact absurd (show (q_ca b C).1 q = 0 by simp [q_ca]; omega) hq
  · exact h
def q_Mi (l : Launch) (y : MethodName) (cc : ByteArray) (maxL : Nat) (ret : Option FieldType) (fr lo : Nat) (D : q_D) (b : Nat) (av : List Value) (C : List q_Ce) (rv : Option Value) (C' : List q_Ce) (mc ms : Nat) : Prop :=
  Met l y (.code y cc maxL ret :: q_tbl) { frames := fr, cells := mc, slots := ms, locals := lo } (va_Pc av (fun U => q_CW D b C U.heap ∧ q_K D U ∧ q_S D (fun q => b ≤ q) U)) (q_Q rv (q_CW D b C') (fun q => b ≤ q)) mc ms (fun q => b ≤ q)
theorem q_CB.blind {D : q_D} {b : Nat} {C : List q_Ce} {av : List Value} : FrameBlind (va_Pc av (fun U => q_CW D b C U.heap ∧ q_K D U ∧ q_S D (fun q => b ≤ q) U)) := by
  intro a U g mk h
  obtain ⟨h1, h2, h3, h4⟩ := h
  refine ⟨h1, h2, q_K.same (u := U) (U := U.calling g mk a) rfl h3, ?_⟩
  exact q_S0.moved (u := U) (U := U.calling g mk a) (Vm.Alike.refl U.vm) h4
theorem q_Mi.of {l : Launch} {y : MethodName} {cc : ByteArray} {maxL : Nat} {ret : Option FieldType} {fr lo mc ms : Nat} {D : q_D} {b : Nat} {av : List Value} {C C' : List q_Ce} {rv : Option Value} (hy : plainName y.cls = true) (hlen : (lg_sl av).length ≤ maxL)
    (body : ∀ (p : Program) (e : Env) (s : State) (m : MethodId) (args : Array Value) (below : List Frame) (meth : Method) (c : Code) (ls : Array Slot), q_Cy D b cc maxL ret y.cls p s m args meth c → (y.name = "<init>" → meth.name = "<init>") → q_CW D b C s.heap → lv_has ls maxL (lv_args 0 av) →
      W p l e { frames := fr, cells := mc, slots := ms, locals := lo } s m args below meth c s.heap [] 0 0 (MQ below (q_Q rv (q_CW D b C') (fun q => b ≤ q)) args s mc ms (fun q => b ≤ q)) (F0 m 0 ls [])) : q_Mi l y cc maxL ret fr lo D b av C rv C' mc ms := by
  refine Met.ofW (cc := cc) (maxL := maxL) (ret := ret) hy rfl ?_
  intro p e s m args below meth c s₁ B hml hv
  obtain ⟨rfl, hW, hK, hS⟩ := hv
  have hts := atoms_spec (ws := .code y cc maxL ret :: q_tbl) B.pre
  rw [lg_entry_eq]
  exact body p e s m _ below meth c _ ⟨B.exec, B.bytes, hml, B.returns, B.notSynchronized, findClass_of_methodNamed B.named, fun w hw => hts w (List.mem_cons_of_mem _ hw), hK, hS⟩ (fun hn => (name_of_methodNamed B.named B.method).1.trans hn) hW (lv_entry av hlen)
section QI
variable {p : Program} {l : Launch} {e : Env} {R : Room} {s : State} {m : MethodId} {args : Array Value} {below : List Frame} {meth : Method} {c : Code} {H : Heap} {locs : List Loc} {cells slots : Nat} {Q : State → Prop}
variable {D : q_D} {b : Nat} {C : List q_Ce} {cc : ByteArray} {nL : Nat} {ret : Option FieldType} {own : String} {pc : Nat} {ls : Array Slot} {rest : List Value} {β : Type} {u : β}
def q_Df (ci : Nat) (ty : Nat → FieldType) : Prop := ∀ k, k < q_nf ci → defaultValue (ty k) = if q_ft ci k = 0 then .int 0 else .null
def q_Nl (own : String) (idx ci : Nat) : Prop := ∃ (Cn : String) (T : u_T) (N : Nat), vwCl[ci]? = some (Cn, T, N) ∧ N = q_nf ci ∧ Cond.classLink own idx Cn ∈ q_tbl ∧ Cond.instantiable Cn N ∈ q_tbl ∧ Cond.initialized Cn ∈ q_tbl
theorem i_new (Y : q_Cy D b cc nL ret own p s m args meth c) (hW : q_CW D b C H) (hS : va_S (fun q => b ≤ q) s.heap H locs) {ci idx : Nat} {f : List q_Ce → Option β} (hm : q_o (C ++ [(ci + 101, 0, [], [], [])]) f = some u) {ty : Nat → FieldType} (h13 : ci < 13) (hc : q_Cl ci ty) (hd : q_Df ci ty) (hn : q_Nl own idx ci) (hdg : decode cc pc = .ok (.new idx, 3)) (hcells : cells + 1 ≤ R.cells) (hslots : slots + q_nf ci ≤ R.slots)
    (kk : ∀ (C1 : List q_Ce) (H1 : Heap), C1.length = C.length + 1 → f C1 = some u → q_CW D b C1 H1 → va_S (fun q => b ≤ q) s.heap H1 locs → W p l e R s m args below meth c H1 locs (cells + 1) (slots + q_nf ci) Q (F0 m (pc + 3) ls (.ref (b + C.length) :: rest))) : W p l e R s m args below meth c H locs cells slots Q (F0 m pc ls rest) := by
  obtain ⟨hx, hb, -, -, -, hown, hts, hK, -⟩ := Y
  obtain ⟨Cn, T, N, h1, rfl, w1, w2, w3⟩ := hn
  obtain ⟨C', T', N', h2, hin, hpt, hnm⟩ := hc
  obtain ⟨rfl, rfl, rfl⟩ : C' = Cn ∧ T' = T ∧ N' = q_nf ci := by
    have h3 := Option.some.inj (h2.symm.trans h1)
    exact ⟨congrArg (·.1) h3, congrArg (·.2.1) h3, congrArg (·.2.2) h3⟩
  have hKn := hK.1.1 ci _ h1
  refine W.newcK hx hb hown (hts _ w1) (hts _ w2) (hts _ w3) rfl hdg hcells hslots hKn.2.1 hW.2.1 fun H1 kC hkC e1 z1 o1 => ?_
  have z2 : H1.size = H.size + 1 := by rw [z1, hW.2.1]
  refine kk _ H1 (by simp) hm (hW.push (Or.inr (Or.inr (by show 100 < ci + 101; omega))) z2 (fun q hq => o1 q (by rw [← hW.2.1]; exact hq)) ?_) ⟨Nat.le_trans hS.1 (by omega), fun x g1 g2 => (o1 x (by rw [← hW.2.1]; exact Nat.lt_of_lt_of_le g1 hS.1)).trans (hS.2.1 x g1 g2), hS.2.2⟩
  have hkd : (q_ca b (C ++ [(ci + 101, 0, [], [], [])])).1 (b + C.length) = ci + 101 := by rw [q_ca_k]; unfold q_ckd; rw [q_cg_app, if_pos rfl]
  rw [q_at_new hkd h13]
  refine (u_born ty hts hin hKn hkC e1 hpt).to fun k hk => ?_
  rw [hd k hk]
  unfold q_fw
  rw [q_cd_I, q_cd_R]
  unfold q_cI q_cR
  rw [q_cg_app, if_pos rfl]
  by_cases hf : q_ft ci k = 0
  · rw [if_pos hf, if_pos hf]; rfl
  · rw [if_neg hf, if_neg hf]; rfl
theorem q_arr0 {D : q_D} {b : Nat} {C : List q_Ce} {H1 : Heap} {k n : Nat} (hk : k = 20 ∨ k = 21 ∨ k = 22 ∨ k = 23) {ty : FieldType} (hty : (k = 22 → defaultValue ty = .long 0) ∧ (k ≠ 22 → defaultValue ty = .int 0)) (h : H1[b + C.length]? = some (arrV (D.2.1 k) n (fun _ => defaultValue ty))) : q_at D (q_ca b (C ++ [(k, n, [], [], [])])) (q_cd b (C ++ [(k, n, [], [], [])])) H1 (b + C.length) := by
  have hkd : (q_ca b (C ++ [(k, n, [], [], [])])).1 (b + C.length) = k := by rw [q_ca_k]; unfold q_ckd; rw [q_cg_app, if_pos rfl]
  have hln : (q_ca b (C ++ [(k, n, [], [], [])])).2.1 (b + C.length) = n := by rw [q_ca_l]; unfold q_cln; rw [q_cg_app, if_pos rfl]
  by_cases h22 : k = 22
  · subst h22
    rw [q_at_J hkd, hln, h, vp_cell_l]
    congr 2
    funext j
    rw [hty.1 rfl, q_cd_J]
    unfold q_cJ
    rw [q_cg_app, if_pos rfl]
    rfl
  · rw [q_at_I hkd (by omega), hln, h, vp_cell_i]
    congr 2
    funext j
    rw [hty.2 h22, q_cd_I]
    unfold q_cI
    rw [q_cg_app, if_pos rfl]
    rfl
theorem i_newa (Y : q_Cy D b cc nL ret own p s m args meth c) (hW : q_CW D b C H) (hS : va_S (fun q => b ≤ q) s.heap H locs) {k N t0 : Nat} {n : Int32} {f : List q_Ce → Option β} (hm : (if n < 0 ∨ 60000000 < n.toNatClampNeg then none else q_o (C ++ [(k, n.toNatClampNeg, [], [], [])]) f) = some u) (atype : ArrayType) {ty : FieldType} (hk : k = 20 ∨ k = 21 ∨ k = 22 ∨ k = 23) (hat : newarray.typeOf atype = ty) (hty : (k = 22 → defaultValue ty = .long 0) ∧ (k ≠ 22 → defaultValue ty = .int 0)) (hcb : componentBytes ty ≤ 8) (ht : (q_tys D)[t0]? = some (D.2.1 k, ty)) (hra : ∀ U cA, va_RA U cA ty → U.vm.findClass ("[" ++ ty.toString) = some cA) (hw : Cond.arrayClass ty ∈ q_tbl) (hN : n.toNatClampNeg = N) (hdg : decode cc pc = .ok (.newarray atype, 2)) (hcells : cells + 1 ≤ R.cells) (hslots : slots + N ≤ R.slots)
    (kk : ∀ (C1 : List q_Ce) (H1 : Heap), C1.length = C.length + 1 → f C1 = some u → q_CW D b C1 H1 → va_S (fun q => b ≤ q) s.heap H1 locs → W p l e R s m args below meth c H1 locs (cells + 1) (slots + N) Q (F0 m (pc + 2) ls (.ref (b + C.length) :: rest))) : W p l e R s m args below meth c H locs cells slots Q (F0 m pc ls (.int n :: rest)) := by
  obtain ⟨hx, hb, -, -, -, hown, hts, hK, -⟩ := Y
  obtain ⟨hr, hm⟩ := q_ini hm
  subst hat
  have hb8 : N * componentBytes (newarray.typeOf atype) ≤ 536870912 := by
    have h1 : N ≤ 60000000 := by rw [← hN]; exact Nat.le_of_not_lt fun q => hr (Or.inr q)
    have h2 := Nat.mul_le_mul h1 hcb
    omega
  refine va_newaK hx hb (hts _ hw) rfl hdg rfl (fun q => hr (Or.inl q)) hN hb8 hcells hslots hW.2.1 fun H1 cA e1 z1 o1 hAr hNm => ?_
  obtain rfl : cA = D.2.1 k := by
    have h3 := hra s _ (hK.1.2 t0 _ ht).2
    exact Option.some.inj (hNm.symm.trans h3)
  have z2 : H1.size = H.size + 1 := by rw [z1, hW.2.1]
  refine kk _ H1 (by simp) hm (hW.push (Or.inr (Or.inl (by show 20 ≤ k ∧ k < 30; omega))) z2 (fun q hq => o1 q (by rw [← hW.2.1]; exact hq)) ?_) ⟨Nat.le_trans hS.1 (by omega), fun x g1 g2 => (o1 x (by rw [← hW.2.1]; exact Nat.lt_of_lt_of_le g1 hS.1)).trans (hS.2.1 x g1 g2), hS.2.2⟩
  rw [hN]
  exact q_arr0 hk hty e1
theorem i_anew (Y : q_Cy D b cc nL ret own p s m args meth c) (hW : q_CW D b C H) (hS : va_S (fun q => b ≤ q) s.heap H locs) {ci N t0 idx : Nat} {n : Int32} {Cn : String} {f : List q_Ce → Option β} (hm : (if n < 0 ∨ 60000000 < n.toNatClampNeg then none else q_o (C ++ [(ci + 130, n.toNatClampNeg, [], [], [])]) f) = some u) (ht : (q_tys D)[t0]? = some (D.2.1 (ci + 30), .object Cn)) (hl : Cond.classLink own idx Cn ∈ q_tbl) (ho : Cond.arrayOver (.object Cn) ∈ q_nst) (hN : n.toNatClampNeg = N) (hdg : decode cc pc = .ok (.anewarray idx, 3)) (hcells : cells + 1 ≤ R.cells) (hslots : slots + N ≤ R.slots)
    (kk : ∀ (C1 : List q_Ce) (H1 : Heap), C1.length = C.length + 1 → f C1 = some u → q_CW D b C1 H1 → va_S (fun q => b ≤ q) s.heap H1 locs → W p l e R s m args below meth c H1 locs (cells + 1) (slots + N) Q (F0 m (pc + 3) ls (.ref (b + C.length) :: rest))) : W p l e R s m args below meth c H locs cells slots Q (F0 m pc ls (.int n :: rest)) := by
  obtain ⟨hx, hb, -, -, -, hown, hts, hK, -⟩ := Y
  obtain ⟨hr, hm⟩ := q_ini hm
  have hb8 : n.toNatClampNeg * 4 ≤ 536870912 := by
    have h1 : n.toNatClampNeg ≤ 60000000 := Nat.le_of_not_lt fun q => hr (Or.inr q)
    omega
  subst hN
  refine W.anew hx hb hown (hts _ hl) (va_AO.use (hK.2.1 _ ho)) rfl hdg rfl (fun q => hr (Or.inl q)) hb8 hcells hslots fun cA kA comp f1 f2 f3 f4 => ?_
  generalize hH1 : H.push ({ cls := cA, slots := Array.replicate n.toNatClampNeg .null, vm := .none } : Cell) = H1
  have z1 : H1.size = H.size + 1 := by rw [← hH1, Array.size_push]
  have e1 : H1[H.size]? = some (arrV cA n.toNatClampNeg (fun _ => .null)) := by rw [← hH1, Array.getElem?_push_size, ← arrV_new]
  have o1 : ∀ q : Nat, q < H.size → H1[q]? = H[q]? := fun q hq => by rw [← hH1, Array.getElem?_push, if_neg (Nat.ne_of_lt hq)]
  obtain rfl : cA = D.2.1 (ci + 30) := by
    obtain ⟨_, _, _, _, _, h3⟩ := (hK.1.2 t0 _ ht).2
    exact Option.some.inj (f1.symm.trans h3)
  have hstk : (Value.ref H.size) = Value.ref (b + C.length) := by rw [hW.2.1]
  rw [hstk]
  refine kk _ H1 (by simp) hm (hW.push (Or.inr (Or.inr (by show 100 < ci + 130; omega))) z1 o1 ?_) ⟨Nat.le_trans hS.1 (by omega), fun x g1 g2 => (o1 x (Nat.lt_of_lt_of_le g1 hS.1)).trans (hS.2.1 x g1 g2), hS.2.2⟩
  have hkd : (q_ca b (C ++ [(ci + 130, n.toNatClampNeg, [], [], [])])).1 (b + C.length) = (ci + 30) + 100 := by rw [q_ca_k]; unfold q_ckd; rw [q_cg_app, if_pos rfl]
  have hln : (q_ca b (C ++ [(ci + 130, n.toNatClampNeg, [], [], [])])).2.1 (b + C.length) = n.toNatClampNeg := by rw [q_ca_l]; unfold q_cln; rw [q_cg_app, if_pos rfl]
  rw [q_at_RN hkd (by omega), hln, ← hW.2.1, e1, vp_cell_q]
  congr 2
  funext j
  rw [hW.2.1, q_cd_R]
  unfold q_cR
  rw [q_cg_app, if_pos rfl]
  rfl
theorem q_upd {D : q_D} {b : Nat} {C : List q_Ce} {ci a k : Nat} {e : q_Ce} {v : Value} {H1 : Heap} (hkd : q_ckd C a = ci + 101) (h13 : ci < 13) (he1 : e.1 = ci + 101) (hl : a < C.length) (hv : ∀ j, q_fw (q_cd b (C.set a e)) ci (b + a) j = updV (q_fw (q_cd b C) ci (b + a)) k v j) (hO : t_OB (b + a) (D.1.1 ci) (q_nf ci) (D.1.2 ci) H1 (updV (q_fw (q_cd b C) ci (b + a)) k v)) : q_at D (q_ca b (C.set a e)) (q_cd b (C.set a e)) H1 (b + a) := by
  have h1 : (q_ca b (C.set a e)).1 (b + a) = ci + 101 := by rw [q_ca_k]; unfold q_ckd; rw [q_cg_set, if_pos ⟨rfl, hl⟩]; exact he1
  rw [q_at_new h1 h13]
  exact hO.to fun j _ => (hv j).symm
def q_Fl0 (own : String) (idx ci k : Nat) : Prop := ∃ (C : String) (T : u_T) (N : Nat), vwCl[ci]? = some (C, T, N) ∧ k < N ∧ N = q_nf ci ∧ (T k).1 = C ∧ Cond.fieldLink own idx C (T k).2.1 (T k).2.2.1 ∈ q_tbl
theorem q_Fl0.Fl {own : String} {idx ci k : Nat} (h : q_Fl0 own idx ci k) : q_Fl own idx ci k := by
  obtain ⟨C, T, N, h1, h2, h3, h4, h5⟩ := h
  exact ⟨C, T, N, h1, h2, h3, h4, Or.inl h5⟩
theorem i_fput (Y : q_Cy D b cc nL ret own p s m args meth c) {a ci k idx : Nat} {V : Nat → Value} (hO : t_OB a (D.1.1 ci) (q_nf ci) (D.1.2 ci) H V) {tys : Nat → FieldType} (hc : q_Cl ci tys) (hl0 : q_Fl0 own idx ci k) (hin : meth.name = "<init>") (hown' : ∀ C T N, vwCl[ci]? = some (C, T, N) → (T k).2.2.2 = true → (T k).1 = own) {ty : FieldType} {v : Value} (hty : tys k = ty) (hn : narrow ty v = v) (hfit : fits ty v = true) (hdg : decode cc pc = .ok (.putfield idx, 3))
    (kk : ∀ (H1 : Heap) (q : Nat), t_OB a (D.1.1 ci) (q_nf ci) (D.1.2 ci) H1 (updV V k v) → H1.size = H.size → (∀ q, q ≠ a → H1[q]? = H[q]?) → W p l e R s m args below meth c H1 (locs ++ [⟨a, q⟩]) cells slots Q (F0 m (pc + 3) ls rest)) : W p l e R s m args below meth c H locs cells slots Q (F0 m pc ls (v :: .ref a :: rest)) := by
  by_cases hf : ∃ C T N, vwCl[ci]? = some (C, T, N) ∧ (T k).2.2.2 = true
  · obtain ⟨hx, hb, -, -, -, hown, hts, hK, -⟩ := Y
    obtain ⟨Cf, Tf, Nf, hf1, hf2⟩ := hf
    obtain ⟨Cn, T, N, h1, hk, hN, hT1, hlk⟩ := hl0
    obtain ⟨C', T', N', h2, hinw, hpt, hnm⟩ := hc
    obtain ⟨rfl, rfl, rfl⟩ : C' = Cn ∧ T' = T ∧ N' = N := by
      have h3 := Option.some.inj (h2.symm.trans h1)
      exact ⟨congrArg (·.1) h3, congrArg (·.2.1) h3, congrArg (·.2.2) h3⟩
    obtain ⟨rfl, rfl, rfl⟩ : Cf = C' ∧ Tf = T' ∧ Nf = N' := by
      have h3 := Option.some.inj (hf1.symm.trans h1)
      exact ⟨congrArg (·.1) h3, congrArg (·.2.1) h3, congrArg (·.2.2) h3⟩
    subst hN
    have hap := va_apart (own := own) hts hinw tys hpt hnm hK.1 h1
    obtain ⟨cell, q1, q2, q3, q4⟩ := hO
    obtain ⟨hSl, hfc, kC, hkC, hkind⟩ := hK.1.1 ci _ h1
    obtain ⟨cf, kf, fi, f, hi, hsl⟩ := hSl k hk
    have hlay := hts _ (hinw _ (u_in_lay hk))
    unfold u_lay at hlay
    rw [if_pos hf2] at hlay
    have hst := (u_facts hfc hkC (u_lays hts hinw hk) hi).1
    have hcf : m.cls = cf := by
      obtain ⟨_, _, c', _, _, _, -, -, hf', -, -, -, hown2, -⟩ := Cond.laysFinal_spec hlay
      have e1 : c' = cf := by have := hi.symm.trans hf'; simp at this; exact this.1.symm
      rw [hown' _ _ _ h1 hf2] at hown2
      rw [← e1]; exact Option.some.inj (hown.symm.trans hown2)
    have hd := hpt k hk
    rw [hty] at hd
    have h6 := u_fits hfc hkC hkind (Or.inr hlay) hi hd hn hfit
    have hi' : s.fieldFound? Cf (Tf k).2.1 (Tf k).2.2.1 = some (cf, kf, fi, f) := by rw [← hT1]; exact hi
    refine W.putFinK hx hb hown (hts _ hlk) hi' hst hcf hin (by rw [q2]; exact h6) q1 q3 (by rw [hsl]; exact k2_hasslot (q4 k hk)) rfl rfl hdg fun H' e1 e2 e3 => ?_
    rw [hsl] at e1 ⊢
    exact kk H' _ ⟨_, e1, q2, q3, t_set q4 hap hk v⟩ e2 e3
  · exact q_fput (Y.X (C := [])) hO hc hl0.Fl (fun C T N h => by
      cases hq : (T k).2.2.2 with
      | false => rfl
      | true => exact absurd ⟨C, T, N, h, hq⟩ hf) hty hn hfit hdg kk
theorem i_putI (Y : q_Cy D b cc nL ret own p s m args meth c) (hW : q_CW D b C H) (hS : va_S (fun q => b ≤ q) s.heap H locs) {a ci k idx t : Nat} {v : Int32} {f : List q_Ce → Option β} (hm : (if q_ckd C a = ci + 101 then q_o (q_sI C a k v) f else none) = some u) (hf : q_ff ci k 0 t) {tys : Nat → FieldType} (hc : q_Cl ci tys) (hl : q_Fl0 own idx ci k) (hin : meth.name = "<init>") (hown' : ∀ C T N, vwCl[ci]? = some (C, T, N) → (T k).2.2.2 = true → (T k).1 = own) (hty : tys k = .int) (hdg : decode cc pc = .ok (.putfield idx, 3))
    (kk : ∀ (C1 : List q_Ce) (H1 : Heap) (locs1 : List Loc), C1.length = C.length → f C1 = some u → q_CW D b C1 H1 → va_S (fun q => b ≤ q) s.heap H1 locs1 → W p l e R s m args below meth c H1 locs1 cells slots Q (F0 m (pc + 3) ls rest)) : W p l e R s m args below meth c H locs cells slots Q (F0 m pc ls (.int v :: .ref (b + a) :: rest)) := by
  obtain ⟨hk, hm⟩ := q_ini' hm
  have hlt := q_in_of hk (by omega)
  have hO := hW.1 (b + a)
  rw [q_at_new (by rw [q_ca_k]; exact hk) hf.1] at hO
  refine i_fput (v := .int v) Y hO hc hl hin hown' hty rfl rfl hdg fun H1 q e1 e2 e3 => ?_
  refine kk _ H1 _ (by unfold q_sI; rw [List.length_set]) hm (hW.at hlt rfl e2 e3 (q_upd (v := .int v) (k := k) hk hf.1 hk hlt (fun j => ?_) e1)) (hS.put e2 e3 (by show b ≤ b + a; omega))
  unfold updV q_fw
  rw [q_cd_I, q_cd_R, q_cd_I, q_cd_R]
  unfold q_cI q_cR
  rw [q_cg_self hlt]
  by_cases hj : j = k
  · subst hj
    rw [if_pos hf.2.1, if_pos rfl, q_sp_get, if_pos rfl]
  · rw [if_neg hj]
    by_cases h0 : q_ft ci j = 0
    · rw [if_pos h0, if_pos h0, q_sp_get, if_neg hj]
    · rw [if_neg h0, if_neg h0]
theorem i_putR (Y : q_Cy D b cc nL ret own p s m args meth c) (hW : q_CW D b C H) (hS : va_S (fun q => b ≤ q) s.heap H locs) {a o ci k idx : Nat} {f : List q_Ce → Option β} (hm : (if q_ckd C a = ci + 101 then q_o (q_sR C a k (some o)) f else none) = some u) (h13 : ci < 13) (hf : ¬ q_ft ci k = 0) {tys : Nat → FieldType} (hc : q_Cl ci tys) (hl : q_Fl0 own idx ci k) (hin : meth.name = "<init>") (hown' : ∀ C T N, vwCl[ci]? = some (C, T, N) → (T k).2.2.2 = true → (T k).1 = own) {ty : FieldType} (hty : tys k = ty) (hn : ∀ o, narrow ty (.ref o) = .ref o) (hfit : ∀ o, fits ty (.ref o) = true) (hdg : decode cc pc = .ok (.putfield idx, 3))
    (kk : ∀ (C1 : List q_Ce) (H1 : Heap) (locs1 : List Loc), C1.length = C.length → f C1 = some u → q_CW D b C1 H1 → va_S (fun q => b ≤ q) s.heap H1 locs1 → W p l e R s m args below meth c H1 locs1 cells slots Q (F0 m (pc + 3) ls rest)) : W p l e R s m args below meth c H locs cells slots Q (F0 m pc ls (.ref (b + o) :: .ref (b + a) :: rest)) := by
  obtain ⟨hk, hm⟩ := q_ini' hm
  have hlt := q_in_of hk (by omega)
  have hO := hW.1 (b + a)
  rw [q_at_new (by rw [q_ca_k]; exact hk) h13] at hO
  refine i_fput Y hO hc hl hin hown' hty (hn _) (hfit _) hdg fun H1 q e1 e2 e3 => ?_
  refine kk _ H1 _ (by unfold q_sR; rw [List.length_set]) hm (hW.at hlt rfl e2 e3 (q_upd (v := .ref (b + o)) (k := k) hk h13 hk hlt (fun j => ?_) e1)) (hS.put e2 e3 (by show b ≤ b + a; omega))
  unfold updV q_fw
  rw [q_cd_I, q_cd_R, q_cd_I, q_cd_R]
  unfold q_cI q_cR
  rw [q_cg_self hlt]
  by_cases hj : j = k
  · subst hj
    rw [if_neg hf, if_pos rfl, q_sp_get, if_pos rfl]
    rfl
  · rw [if_neg hj]
    by_cases h0 : q_ft ci j = 0
    · rw [if_pos h0, if_pos h0]
    · rw [if_neg h0, if_neg h0, q_sp_get, if_neg hj]
theorem i_putN (Y : q_Cy D b cc nL ret own p s m args meth c) (hW : q_CW D b C H) (hS : va_S (fun q => b ≤ q) s.heap H locs) {a ci k idx : Nat} {f : List q_Ce → Option β} (hm : (if q_ckd C a = ci + 101 then q_o (q_sR C a k none) f else none) = some u) (h13 : ci < 13) (hf : ¬ q_ft ci k = 0) {tys : Nat → FieldType} (hc : q_Cl ci tys) (hl : q_Fl0 own idx ci k) (hin : meth.name = "<init>") (hown' : ∀ C T N, vwCl[ci]? = some (C, T, N) → (T k).2.2.2 = true → (T k).1 = own) {ty : FieldType} (hty : tys k = ty) (hn : narrow ty .null = .null) (hfit : fits ty .null = true) (hdg : decode cc pc = .ok (.putfield idx, 3))
    (kk : ∀ (C1 : List q_Ce) (H1 : Heap) (locs1 : List Loc), C1.length = C.length → f C1 = some u → q_CW D b C1 H1 → va_S (fun q => b ≤ q) s.heap H1 locs1 → W p l e R s m args below meth c H1 locs1 cells slots Q (F0 m (pc + 3) ls rest)) : W p l e R s m args below meth c H locs cells slots Q (F0 m pc ls (.null :: .ref (b + a) :: rest)) := by
  obtain ⟨hk, hm⟩ := q_ini' hm
  have hlt := q_in_of hk (by omega)
  have hO := hW.1 (b + a)
  rw [q_at_new (by rw [q_ca_k]; exact hk) h13] at hO
  refine i_fput Y hO hc hl hin hown' hty hn hfit hdg fun H1 q e1 e2 e3 => ?_
  refine kk _ H1 _ (by unfold q_sR; rw [List.length_set]) hm (hW.at hlt rfl e2 e3 (q_upd (v := .null) (k := k) hk h13 hk hlt (fun j => ?_) e1)) (hS.put e2 e3 (by show b ≤ b + a; omega))
  unfold updV q_fw
  rw [q_cd_I, q_cd_R, q_cd_I, q_cd_R]
  unfold q_cI q_cR
  rw [q_cg_self hlt]
  by_cases hj : j = k
  · subst hj
    rw [if_neg hf, if_pos rfl, q_sp_get, if_pos rfl]
    rfl
  · rw [if_neg hj]
    by_cases h0 : q_ft ci j = 0
    · rw [if_pos h0, if_pos h0]
    · rw [if_neg h0, if_neg h0, q_sp_get, if_neg hj]
theorem i_getI (Y : q_Cy D b cc nL ret own p s m args meth c) (hW : q_CW D b C H) {a ci k idx t : Nat} {A : Option β} (hm : (if q_ckd C a = ci + 101 then A else none) = some u) (hf : q_ff ci k 0 t) {tys : Nat → FieldType} (hc : q_Cl ci tys) (hl : q_Fl own idx ci k) (hdg : decode cc pc = .ok (.getfield idx, 3))
    (kk : A = some u → W p l e R s m args below meth c H locs cells slots Q (F0 m (pc + 3) ls (.int (q_cI C a k) :: rest))) : W p l e R s m args below meth c H locs cells slots Q (F0 m pc ls (.ref (b + a) :: rest)) := by
  obtain ⟨hk, hm⟩ := q_ini' hm
  have hO := hW.1 (b + a)
  rw [q_at_new (by rw [q_ca_k]; exact hk) hf.1] at hO
  exact q_fget (Y.X (C := C)) hO hc hl hdg (by rw [show q_fw (q_cd b C) ci (b + a) k = .int (q_cI C a k) by unfold q_fw; rw [if_pos hf.2.1, q_cd_I]]; exact kk hm)
theorem i_getR (Y : q_Cy D b cc nL ret own p s m args meth c) (hW : q_CW D b C H) {a ci k idx : Nat} {f : Nat → Option β} (hm : (if q_ckd C a = ci + 101 then q_m (q_cR C a k) none f else none) = some u) (h13 : ci < 13) (hf : ¬ q_ft ci k = 0) {tys : Nat → FieldType} (hc : q_Cl ci tys) (hl : q_Fl own idx ci k) (hdg : decode cc pc = .ok (.getfield idx, 3))
    (kk : ∀ o, f o = some u → W p l e R s m args below meth c H locs cells slots Q (F0 m (pc + 3) ls (.ref (b + o) :: rest))) : W p l e R s m args below meth c H locs cells slots Q (F0 m pc ls (.ref (b + a) :: rest)) := by
  obtain ⟨hk, hm⟩ := q_ini' hm
  obtain ⟨o, ho, hm⟩ := q_mi hm
  have hO := hW.1 (b + a)
  rw [q_at_new (by rw [q_ca_k]; exact hk) h13] at hO
  exact q_fget (Y.X (C := C)) hO hc hl hdg (by rw [show q_fw (q_cd b C) ci (b + a) k = .ref (b + o) by unfold q_fw; rw [if_neg hf, q_cd_R, ho]; rfl]; exact kk o hm)
theorem i_alenJ (Y : q_Cy D b cc nL ret own p s m args meth c) (hW : q_CW D b C H) {a : Nat} {A : Option β} (hm : (if q_ckd C a = 22 then A else none) = some u) (hdg : decode cc pc = .ok (.arraylength, 1))
    (kk : A = some u → W p l e R s m args below meth c H locs cells slots Q (F0 m (pc + 1) ls (.int (Int32.ofNat (q_cln C a)) :: rest))) : W p l e R s m args below meth c H locs cells slots Q (F0 m pc ls (.ref (b + a) :: rest)) := by
  obtain ⟨hk, hm⟩ := q_ini' hm
  have h := q_alenJ (Y.X (C := C)) hW.W (a := b + a) (by rw [q_ca_k]; exact hk) (rest := rest) (ls := ls) (Q := Q) (p := p) (l := l) (e := e) (R := R) (below := below) (meth := meth) (locs := locs) (cells := cells) (slots := slots) hdg
  rw [q_ca_l] at h
  exact h (kk hm)
theorem i_alenR (Y : q_Cy D b cc nL ret own p s m args meth c) (hW : q_CW D b C H) {a ci t0 n : Nat} {Cn : String} {A : Option β} (hm : (if q_ckd C a = ci + 130 ∧ q_cln C a = n then A else none) = some u) (ht : (q_tys D)[t0]? = some (D.2.1 (ci + 30), .object Cn)) {v : Int32} (hv : Int32.ofNat n = v) (hdg : decode cc pc = .ok (.arraylength, 1))
    (kk : A = some u → W p l e R s m args below meth c H locs cells slots Q (F0 m (pc + 1) ls (.int v :: rest))) : W p l e R s m args below meth c H locs cells slots Q (F0 m pc ls (.ref (b + a) :: rest)) := by
  obtain ⟨⟨hk, hn⟩, hm⟩ := q_ini' hm
  have h := hW.1 (b + a)
  rw [q_at_RN (k := ci + 30) (by rw [q_ca_k, hk]) (by omega), q_ca_l, hn] at h
  subst hv
  exact va_alen Y.1 Y.2.1 Y.2.2.2.2.2.2.2.1.1 (q_one (E := .inl (_, _, .inr (.inr (.inr (.inr _))))) h) 0 t0 rfl ht rfl hdg (kk hm)
theorem i_lald (Y : q_Cy D b cc nL ret own p s m args meth c) (hW : q_CW D b C H) {a : Nat} {i : Int32} {A : Option β} (hm : (if q_ckd C a = 22 ∧ ¬ (i < 0 ∨ q_cln C a ≤ i.toNatClampNeg) then A else none) = some u) (hdg : decode cc pc = .ok (.laload, 1))
    (kk : A = some u → W p l e R s m args below meth c H locs cells slots Q (F0 m (pc + 1) ls (.long (q_cJ C a i.toNatClampNeg) :: rest))) : W p l e R s m args below meth c H locs cells slots Q (F0 m pc ls (.int i :: .ref (b + a) :: rest)) := by
  obtain ⟨⟨hk, hi⟩, hm⟩ := q_ini' hm
  refine q_lald (Y.X (C := C)) hW.W (a := b + a) (by rw [q_ca_k]; exact hk) (by rw [q_ca_l]; exact hi) hdg ?_
  rw [q_cd_J]
  exact kk hm
theorem i_last (Y : q_Cy D b cc nL ret own p s m args meth c) (hW : q_CW D b C H) (hS : va_S (fun q => b ≤ q) s.heap H locs) {a : Nat} {i : Int32} {v : Int64} {f : List q_Ce → Option β} (hm : (if q_ckd C a = 22 ∧ ¬ (i < 0 ∨ q_cln C a ≤ i.toNatClampNeg) then q_o (q_sJ C a i.toNatClampNeg v) f else none) = some u) (hdg : decode cc pc = .ok (.lastore, 1))
    (kk : ∀ (C1 : List q_Ce) (H1 : Heap) (locs1 : List Loc), C1.length = C.length → f C1 = some u → q_CW D b C1 H1 → va_S (fun q => b ≤ q) s.heap H1 locs1 → W p l e R s m args below meth c H1 locs1 cells slots Q (F0 m (pc + 1) ls rest)) : W p l e R s m args below meth c H locs cells slots Q (F0 m pc ls (.long v :: .int i :: .ref (b + a) :: rest)) := by
  obtain ⟨⟨hk, hi⟩, hm⟩ := q_ini' hm
  have hlt := q_in_of hk (by omega)
  have h := hW.1 (b + a)
  rw [q_at_J (by rw [q_ca_k]; exact hk), q_ca_l, vp_cell_l] at h
  refine W.last Y.1 Y.2.1 h ((Y.2.2.2.2.2.2.2.1.1.2 2 _ rfl).1 _ _) (fun q => by cases q) (by rw [arrV_size]; exact hi) rfl rfl hdg fun H1 e z oq => ?_
  refine kk _ H1 _ (by unfold q_sJ; rw [List.length_set]) hm (hW.at hlt rfl z oq ?_) (hS.put z oq (by show b ≤ b + a; omega))
  have hk2 : (q_ca b (q_sJ C a i.toNatClampNeg v)).1 (b + a) = 22 := by rw [q_ca_k]; unfold q_sJ q_ckd; rw [q_cg_self hlt]; exact hk
  have hl2 : (q_ca b (q_sJ C a i.toNatClampNeg v)).2.1 (b + a) = q_cln C a := by rw [q_ca_l]; unfold q_sJ q_cln; rw [q_cg_self hlt]
  show q_at D (q_ca b (q_sJ C a i.toNatClampNeg v)) (q_cd b (q_sJ C a i.toNatClampNeg v)) H1 (b + a)
  rw [q_at_J hk2, hl2, e, arrV_store, vp_cell_l]
  congr 2
  funext q
  rw [q_cd_J]
  unfold q_cJ q_sJ
  rw [q_cg_self hlt, q_sp_get]
  by_cases hq : q = i.toNatClampNeg
  · subst hq; simp [updV]
  · simp [updV, hq, q_cd_J, q_cJ]
theorem i_iast (Y : q_Cy D b cc nL ret own p s m args meth c) (hW : q_CW D b C H) (hS : va_S (fun q => b ≤ q) s.heap H locs) {a : Nat} {i : Int32} {v : Int32} {f : List q_Ce → Option β} (hm : (if q_ckd C a = 21 ∧ ¬ (i < 0 ∨ q_cln C a ≤ i.toNatClampNeg) then q_o (q_sI C a i.toNatClampNeg v) f else none) = some u) (hdg : decode cc pc = .ok (.iastore, 1))
    (kk : ∀ (C1 : List q_Ce) (H1 : Heap) (locs1 : List Loc), C1.length = C.length → f C1 = some u → q_CW D b C1 H1 → va_S (fun q => b ≤ q) s.heap H1 locs1 → W p l e R s m args below meth c H1 locs1 cells slots Q (F0 m (pc + 1) ls rest)) : W p l e R s m args below meth c H locs cells slots Q (F0 m pc ls (.int v :: .int i :: .ref (b + a) :: rest)) := by
  obtain ⟨⟨hk, hi⟩, hm⟩ := q_ini' hm
  have hlt := q_in_of hk (by omega)
  have h := hW.1 (b + a)
  rw [q_at_I (k := 21) (by rw [q_ca_k]; exact hk) (by simp), q_ca_l, vp_cell_i] at h
  refine W.iast Y.1 Y.2.1 h ((Y.2.2.2.2.2.2.2.1.1.2 1 _ rfl).1 _ _) (fun q => by cases q) (by rw [arrV_size]; exact hi) rfl rfl hdg fun H1 e z oq => ?_
  refine kk _ H1 _ (by unfold q_sI; rw [List.length_set]) hm (hW.at hlt rfl z oq ?_) (hS.put z oq (by show b ≤ b + a; omega))
  have hk2 : (q_ca b (q_sI C a i.toNatClampNeg v)).1 (b + a) = 21 := by rw [q_ca_k]; unfold q_sI q_ckd; rw [q_cg_self hlt]; exact hk
  have hl2 : (q_ca b (q_sI C a i.toNatClampNeg v)).2.1 (b + a) = q_cln C a := by rw [q_ca_l]; unfold q_sI q_cln; rw [q_cg_self hlt]
  show q_at D (q_ca b (q_sI C a i.toNatClampNeg v)) (q_cd b (q_sI C a i.toNatClampNeg v)) H1 (b + a)
  rw [q_at_I hk2 (by simp), hl2, e, arrV_store, vp_cell_i]
  congr 2
  funext q
  rw [q_cd_I]
  unfold q_cI q_sI
  rw [q_cg_self hlt, q_sp_get]
  by_cases hq : q = i.toNatClampNeg
  · subst hq; simp [updV]
  · simp [updV, hq, q_cd_I, q_cI]
theorem i_aast (Y : q_Cy D b cc nL ret own p s m args meth c) (hW : q_CW D b C H) (hS : va_S (fun q => b ≤ q) s.heap H locs) {a o ci t0 : Nat} {i : Int32} {Cn : String} {T : u_T} {N : Nat} {f : List q_Ce → Option β} (hm : (if q_ckd C a = ci + 130 ∧ ¬ (i < 0 ∨ q_cln C a ≤ i.toNatClampNeg) ∧ q_ckd C o = ci + 101 then q_o (q_sR C a i.toNatClampNeg (some o)) f else none) = some u) (h13 : ci < 13) (hc : vwCl[ci]? = some (Cn, T, N)) (ht : (q_tys D)[t0]? = some (D.2.1 (ci + 30), .object Cn)) (hdg : decode cc pc = .ok (.aastore, 1))
    (kk : ∀ (C1 : List q_Ce) (H1 : Heap) (locs1 : List Loc), C1.length = C.length → f C1 = some u → q_CW D b C1 H1 → va_S (fun q => b ≤ q) s.heap H1 locs1 → W p l e R s m args below meth c H1 locs1 cells slots Q (F0 m (pc + 1) ls rest)) : W p l e R s m args below meth c H locs cells slots Q (F0 m pc ls (.ref (b + o) :: .int i :: .ref (b + a) :: rest)) := by
  obtain ⟨⟨hk, hi, ho⟩, hm⟩ := q_ini' hm
  have hlt := q_in_of hk (by omega)
  obtain ⟨hx, hb, -, -, -, hown, hts, hK, -⟩ := Y
  have h := hW.1 (b + a)
  rw [q_at_RN (k := ci + 30) (by rw [q_ca_k, hk]) (by omega), q_ca_l, vp_cell_q] at h
  have hO := hW.1 (b + o)
  rw [q_at_new (by rw [q_ca_k]; exact ho) h13] at hO
  obtain ⟨cellV, g1, g2, g3, -⟩ := hO
  have hcls := (hK.1.1 ci _ hc).2
  obtain ⟨kA, comp, k1, k2, k3, -⟩ := (hK.1.2 t0 _ ht).2
  have hcomp : comp = D.1.1 ci := Option.some.inj (k3.symm.trans hcls.1)
  subst hcomp
  obtain ⟨kC, hkC, -⟩ := hcls.2
  refine W.aast hx hb h (fun q h => by cases h) (fun h => by cases h) k1 k2 rfl hkC ⟨fun q => hi (Or.inl q), by rw [arrV_size]; exact q_clamp hi⟩ g1 (fun q h => by rw [g3] at h; cases h) (by rw [g2]; exact hkC) (by rw [g2]; exact va_assign hcls) rfl rfl hdg fun H1 e z oq => ?_
  refine kk _ H1 _ (by unfold q_sR; rw [List.length_set]) hm (hW.at hlt rfl z oq ?_) (hS.put z oq (by show b ≤ b + a; omega))
  have hk2 : (q_ca b (q_sR C a i.toNatClampNeg (some o))).1 (b + a) = (ci + 30) + 100 := by rw [q_ca_k]; unfold q_sR q_ckd; rw [q_cg_self hlt]; exact hk
  have hl2 : (q_ca b (q_sR C a i.toNatClampNeg (some o))).2.1 (b + a) = q_cln C a := by rw [q_ca_l]; unfold q_sR q_cln; rw [q_cg_self hlt]
  show q_at D (q_ca b (q_sR C a i.toNatClampNeg (some o))) (q_cd b (q_sR C a i.toNatClampNeg (some o))) H1 (b + a)
  rw [q_at_RN hk2 (by omega), hl2, e, arrV_store, vp_cell_q]
  congr 2
  funext q
  rw [q_cd_R]
  unfold q_cR q_sR
  rw [q_cg_self hlt, q_sp_get]
  by_cases hq : q = i.toNatClampNeg
  · subst hq; simp [updV, va_rf]
  · simp [updV, hq, q_cd_R, q_cR]
/-- behind a call of a method that makes cells -/
theorem i_back {rv : Option Value} {av : Array Value} {C' : List q_Ce} {mc ms : Nat} {st0 st1 : List Value} (hr : va_Run p l e R s m args below meth c H locs cells slots mc ms (F0 m pc ls st0) rest (q_Q rv (q_CW D b C') (fun q => b ≤ q) av) (fun q => b ≤ q)) (hS : va_S (fun q => b ≤ q) s.heap H locs) (hs1 : rv.toList ++ rest = st1)
    (kk : ∀ (H1 : Heap) (locs1 : List Loc), q_CW D b C' H1 → va_S (fun q => b ≤ q) s.heap H1 locs1 → W p l e R s m args below meth c H1 locs1 (cells + mc) (slots + ms) Q (F0 m (pc + 3) ls st1)) : W p l e R s m args below meth c H locs cells slots Q (F0 m pc ls st0) := by
  intro T hT X
  obtain ⟨v, st₀, t, T', L, h0, X', hL, e1, e2, ⟨hv, hw, hz, hk⟩, st⟩ := hr T hT X
  cases hv
  rw [h0] at hz hk
  subst hs1
  obtain ⟨t2, a1, b1⟩ := kk T'.heap (locs ++ L) (by rw [e1]; exact hw)
    ⟨Nat.le_trans hS.1 (by rw [e1]; exact hz), fun q h1 h2 => by rw [e1, hk q (Nat.lt_of_lt_of_le h1 hS.1) h2]; exact hS.2.1 q h1 h2, fun q hq => by
      rcases List.mem_append.mp hq with h | h
      · exact hS.2.2 q h
      · exact hL q h⟩ T' rfl X'
  exact ⟨t2, st t2 a1, b1⟩
theorem i_pre (Y : q_Cy D b cc nL ret own p s m args meth c) (hW : q_CW D b C H) (hS : va_S (fun q => b ≤ q) s.heap H locs) {av : List Value} : ∀ U : State, U.heap = H → s.WarmedH U.vm → va_Pc av (fun U => q_CW D b C U.heap ∧ q_K D U ∧ q_S D (fun q => b ≤ q) U) av.toArray U := by
  intro U hU hWm
  obtain ⟨-, -, -, -, -, -, -, hK, hSt⟩ := Y
  refine ⟨rfl, by rw [hU]; exact hW, hK.warm hWm, ?_⟩
  show q_S0 D (fun q => b ≤ q) U U.heap
  rw [hU]
  exact (q_S0.kept (H1 := H) hSt (fun a h1 h2 => hS.2.1 a h1 h2)).moved hWm.alike
theorem i_callI (Y : q_Cy D b cc nL ret own p s m args meth c) (hW : q_CW D b C H) (hS : va_S (fun q => b ≤ q) s.heap H locs) {y : MethodName} {cc' : ByteArray} {maxL' fr lo n idx mc ms a : Nat} {As : List Value} {C' : List q_Ce} {st0 : List Value} {lv : List (Nat × Value)}
    (hM : q_Mi l y cc' maxL' none fr lo D b (.ref (b + a) :: As) C none C' mc ms) (hY : q_Yl y cc' maxL' none n) (hV : .instanceMethod y ∈ q_tbl) (hy1 : y.name = "<init>") (hL : q_Ml own idx y) (hn : As.length = n) (hR : fr + 1 ≤ R.frames ∧ 8 + (maxL' + 11) + lo ≤ R.locals) (hl : lv_has ls nL lv) (hst : st0 = As.reverse ++ .ref (b + a) :: rest) (hcat : (rest.map fun v => v.category).sum ≤ 8) (hdg : decode cc pc = .ok (.invokespecial idx, 3)) (hcs : cells + mc ≤ R.cells ∧ slots + ms ≤ R.slots)
    (kk : ∀ (H1 : Heap) (locs1 : List Loc), q_CW D b C' H1 → va_S (fun q => b ≤ q) s.heap H1 locs1 → W p l e R s m args below meth c H1 locs1 (cells + mc) (slots + ms) Q (F0 m (pc + 3) ls rest)) : W p l e R s m args below meth c H locs cells slots Q (F0 m pc ls st0) := by
  have Y' := Y
  obtain ⟨hx, hb, hml, -, -, hown, hts, hK, -⟩ := Y
  have hg : GoodIn q_tbl (.code y cc' maxL' none :: q_tbl) := fun w hw => by
    rcases List.mem_cons.mp hw with rfl | hw
    · exact q_good _ hY.1
    · exact q_good _ hw
  have hpre : PreS s H (va_Pc (.ref (b + a) :: As) (fun U => q_CW D b C U.heap ∧ q_K D U ∧ q_S D (fun q => b ≤ q) U)) (.ref (b + a) :: As) := ⟨q_CB.blind, i_pre Y' hW hS⟩
  rcases hL with hL | ⟨host, hL⟩
  · exact i_back (va_runI (As := As) (rest := rest) ⟨hx, hb, hml, hown, hts⟩ hM ⟨callB_of n hts hg rfl rfl rfl (hts _ hY.2.1) (hts _ hL) hY.2.2 hR, hy1, hts _ hV⟩ hpre rfl hn hl.1 hst (lv_room hcat) hdg hcs) hS rfl kk
  · exact i_back (va_runIN (As := As) (rest := rest) (host := host) ⟨hx, hb, hml, hown, hts⟩ hM ⟨va_cnB n hts hg rfl rfl rfl (hK.2.1 _ hL) (hts _ hY.2.1) hY.2.2 hR, hy1, hts _ hV⟩ hpre rfl hn hl.1 hst (lv_room hcat) hdg hcs) hS rfl kk
theorem i_callV (Y : q_Cy D b cc nL ret own p s m args meth c) (hW : q_CW D b C H) (hS : va_S (fun q => b ≤ q) s.heap H locs) {y : MethodName} {cc' : ByteArray} {maxL' fr lo n idx mc ms a : Nat} {ret' : Option FieldType} {As : List Value} {rv : Option Value} {C' : List q_Ce} {st0 st1 : List Value} {lv : List (Nat × Value)}
    (hM : q_Mi l y cc' maxL' ret' fr lo D b (.ref (b + a) :: As) C rv C' mc ms) (hY : q_Yl y cc' maxL' ret' n) (hV : q_Vl y) (hL : q_Ml own idx y) {ci : Nat} {T : u_T} {N : Nat} (hc : vwCl[ci]? = some (y.cls, T, N)) (hk : q_ckd C a = ci + 101) (h13 : ci < 13) (hn : As.length = n) (hR : fr + 1 ≤ R.frames ∧ 8 + (maxL' + 11) + lo ≤ R.locals) (hl : lv_has ls nL lv) (hst : st0 = As.reverse ++ .ref (b + a) :: rest) (hcat : (rest.map fun v => v.category).sum ≤ 8) (hdg : decode cc pc = .ok (.invokevirtual idx, 3)) (hcs : cells + mc ≤ R.cells ∧ slots + ms ≤ R.slots) (hs1 : rv.toList ++ rest = st1)
    (kk : ∀ (H1 : Heap) (locs1 : List Loc), q_CW D b C' H1 → va_S (fun q => b ≤ q) s.heap H1 locs1 → W p l e R s m args below meth c H1 locs1 (cells + mc) (slots + ms) Q (F0 m (pc + 3) ls st1)) : W p l e R s m args below meth c H locs cells slots Q (F0 m pc ls st0) := by
  have Y' := Y
  obtain ⟨hx, hb, hml, -, -, hown, hts, hK, -⟩ := Y
  have hrecv : ∃ cell : Cell, H[b + a]? = some cell ∧ cell.vm.isStatics = false ∧ s.vm.findClass y.cls = some cell.cls := by
    have hO := hW.1 (b + a)
    rw [q_at_new (by rw [q_ca_k]; exact hk) h13] at hO
    obtain ⟨cell, h1, h2, h3, -⟩ := hO
    exact ⟨cell, h1, by rw [h3]; rfl, by rw [h2]; exact (hK.1.1 ci _ hc).2.1⟩
  have hg : GoodIn q_tbl (.code y cc' maxL' ret' :: q_tbl) := fun w hw => by
    rcases List.mem_cons.mp hw with rfl | hw
    · exact q_good _ hY.1
    · exact q_good _ hw
  have hpre : PreV s H y.cls (b + a) (va_Pc (.ref (b + a) :: As) (fun U => q_CW D b C U.heap ∧ q_K D U ∧ q_S D (fun q => b ≤ q) U)) As := ⟨q_CB.blind, hrecv, i_pre Y' hW hS⟩
  rcases hL with hL | ⟨host, hL⟩
  · exact i_back (va_runV (As := As) (rest := rest) ⟨hx, hb, hml, hown, hts⟩ hM ⟨callB_of n hts hg rfl rfl rfl (hts _ hY.2.1) (hts _ hL) hY.2.2 hR, hts _ hV.1, hts _ hV.2⟩ hpre rfl hn hl.1 hst (lv_room hcat) hdg hcs) hS hs1 kk
  · exact i_back (va_runVN (As := As) (rest := rest) (host := host) ⟨hx, hb, hml, hown, hts⟩ hM ⟨va_cnB n hts hg rfl rfl rfl (hK.2.1 _ hL) (hts _ hY.2.1) hY.2.2 hR, hts _ hV.1, hts _ hV.2⟩ hpre rfl hn hl.1 hst (lv_room hcat) hdg hcs) hS hs1 kk
/-- a call that makes nothing and changes nothing of the list -/
theorem i_back0 {rk : Nat} {rv : Option Value} {av : Array Value} {st0 st1 : List Value} (hW : q_CW D b C H) (hr : va_Run p l e R s m args below meth c H locs cells slots 0 0 (F0 m pc ls st0) rest (q_Q rv (fun H => q_W D (q_ca b C) (q_cd b C) H ∧ q_Rk (q_ca b C) rk rv) (q_A (q_ca b C)) av) (q_A (q_ca b C))) (hS : va_S (fun q => b ≤ q) s.heap H locs) (hsz : s.heap.size + cells = b + C.length) (hs1 : rv.toList ++ rest = st1)
    (kk : ∀ (H1 : Heap) (locs1 : List Loc), q_CW D b C H1 → va_S (fun q => b ≤ q) s.heap H1 locs1 → W p l e R s m args below meth c H1 locs1 cells slots Q (F0 m (pc + 3) ls st1)) : W p l e R s m args below meth c H locs cells slots Q (F0 m pc ls st0) := by
  intro T hT X
  obtain ⟨v, st₀, t, T', L, h0, X', hL, e1, e2, ⟨hv, ⟨hw, -⟩, hz, hk⟩, st⟩ := hr T hT X
  cases hv
  rw [h0] at hz hk
  subst hs1
  have hA : ∀ q, q_A (q_ca b C) q → b ≤ q := fun q hq => by
    rcases Nat.lt_or_ge q b with h | h
    · exact absurd (show (q_ca b C).1 q = 0 by simp [q_ca]; omega) hq
    · exact h
  have hz2 := X'.heapSize
  obtain ⟨t2, a1, b1⟩ := kk T'.heap (locs ++ L) ⟨by rw [e1]; exact hw.1, by rw [hW.2.1, ← e1] at hz; omega, hW.2.2⟩
    ⟨Nat.le_trans hS.1 (by rw [e1]; exact hz), fun q h1 h2 => by rw [e1, hk q (Nat.lt_of_lt_of_le h1 hS.1) (fun z => h2 (hA q z))]; exact hS.2.1 q h1 h2, fun q hq => by
      rcases List.mem_append.mp hq with h | h
      · exact hS.2.2 q h
      · exact hA _ (hL q h)⟩ T' rfl X'
  exact ⟨t2, st t2 a1, b1⟩
theorem i_pre0 (Y : q_Cy D b cc nL ret own p s m args meth c) (hW : q_CW D b C H) (hS : va_S (fun q => b ≤ q) s.heap H locs) {av : List Value} : ∀ U : State, U.heap = H → s.WarmedH U.vm → va_Pc av (q_B D (q_ca b C) (q_cd b C)) av.toArray U := by
  intro U hU hWm
  have hSt := (Y.X (C := C)).2.2.2.2.2.2.2.2
  obtain ⟨-, -, -, -, -, -, -, hK, hSb⟩ := Y
  refine ⟨rfl, by rw [hU]; exact hW.W, hK.warm hWm, ?_⟩
  show q_S0 D (q_A (q_ca b C)) U U.heap
  rw [hU]
  refine q_S0.narrow (A := fun q => b ≤ q) ((q_S0.kept (H1 := H) hSb (fun a h1 h2 => hS.2.1 a h1 h2)).moved hWm.alike) fun q hq => ?_
  rcases Nat.lt_or_ge q b with h | h
  · exact absurd (show (q_ca b C).1 q = 0 by simp [q_ca]; omega) hq
  · exact h
theorem i_callS0 (Y : q_Cy D b cc nL ret own p s m args meth c) (hW : q_CW D b C H) (hS : va_S (fun q => b ≤ q) s.heap H locs) (hsz : s.heap.size + cells = b + C.length) {y : MethodName} {cc' : ByteArray} {maxL' : Nat} {ret' : Option FieldType} {fr lo n idx rk : Nat} {As : List Value} {rv : Option Value} {st0 st1 : List Value} {lv : List (Nat × Value)}
    (hM : q_Mt l y cc' maxL' ret' fr lo D (q_ca b C) As (q_cd b C) rk rv (q_cd b C)) (hY : q_Yl y cc' maxL' ret' n) (hV : .static y ∈ q_tbl) (hL : q_Ml own idx y) (hn : As.length = n) (hR : fr + 1 ≤ R.frames ∧ 8 + (maxL' + 11) + lo ≤ R.locals) (hl : lv_has ls nL lv) (hst : st0 = As.reverse ++ rest) (hcat : (rest.map fun v => v.category).sum ≤ 8) (hdg : decode cc pc = .ok (.invokestatic idx, 3)) (hcs : cells ≤ R.cells ∧ slots ≤ R.slots) (hs1 : rv.toList ++ rest = st1)
    (kk : ∀ (H1 : Heap) (locs1 : List Loc), q_CW D b C H1 → va_S (fun q => b ≤ q) s.heap H1 locs1 → W p l e R s m args below meth c H1 locs1 cells slots Q (F0 m (pc + 3) ls st1)) : W p l e R s m args below meth c H locs cells slots Q (F0 m pc ls st0) := by
  have Y' := Y
  obtain ⟨hx, hb, hml, -, -, hown, hts, hK, -⟩ := Y
  have hg : GoodIn q_tbl (.code y cc' maxL' ret' :: q_tbl) := fun w hw => by
    rcases List.mem_cons.mp hw with rfl | hw
    · exact q_good _ hY.1
    · exact q_good _ hw
  have hpre : PreS s H (va_Pc As (q_B D (q_ca b C) (q_cd b C))) As := ⟨q_B.blind, i_pre0 Y' hW hS⟩
  rcases hL with hL | ⟨host, hL⟩
  · exact i_back0 hW (va_runS (As := As) (rest := rest) ⟨hx, hb, hml, hown, hts⟩ hM ⟨callB_of n hts hg rfl rfl rfl (hts _ hY.2.1) (hts _ hL) hY.2.2 hR, hts _ hV⟩ hpre rfl hn hl.1 hst (lv_room hcat) hdg hcs) hS hsz hs1 kk
  · exact i_back0 hW (va_runSN (As := As) (rest := rest) (host := host) ⟨hx, hb, hml, hown, hts⟩ hM ⟨va_cnB n hts hg rfl rfl rfl (hK.2.1 _ hL) (hts _ hY.2.1) hY.2.2 hR, hts _ hV, trivial⟩ hpre rfl hn hl.1 hst (lv_room hcat) hdg hcs) hS hsz hs1 kk
theorem i_callT0 (Y : q_Cy D b cc nL ret own p s m args meth c) (hW : q_CW D b C H) (hS : va_S (fun q => b ≤ q) s.heap H locs) (hsz : s.heap.size + cells = b + C.length) {y : MethodName} {cc' : ByteArray} {maxL' : Nat} {ret' : Option FieldType} {fr lo n idx rk i : Nat} {As : List Value} {rv : Option Value} {st0 st1 : List Value} {lv : List (Nat × Value)} (hy : y.cls = "java/lang/String") (hi : i < 9)
    (hM : q_Mt l y cc' maxL' ret' fr lo D (q_ca b C) (.ref (D.2.2.1 i) :: As) (q_cd b C) rk rv (q_cd b C)) (hY : q_Yl y cc' maxL' ret' n) (hV : q_Vl y) (hL : q_Ml own idx y) (hn : As.length = n) (hR : fr + 1 ≤ R.frames ∧ 8 + (maxL' + 11) + lo ≤ R.locals) (hl : lv_has ls nL lv) (hst : st0 = As.reverse ++ .ref (D.2.2.1 i) :: rest) (hcat : (rest.map fun v => v.category).sum ≤ 8) (hdg : decode cc pc = .ok (.invokevirtual idx, 3)) (hcs : cells ≤ R.cells ∧ slots ≤ R.slots) (hs1 : rv.toList ++ rest = st1)
    (kk : ∀ (H1 : Heap) (locs1 : List Loc), q_CW D b C H1 → va_S (fun q => b ≤ q) s.heap H1 locs1 → W p l e R s m args below meth c H1 locs1 cells slots Q (F0 m (pc + 3) ls st1)) : W p l e R s m args below meth c H locs cells slots Q (F0 m pc ls st0) := by
  have Y' := Y
  obtain ⟨hx, hb, hml, -, -, hown, hts, hK, hSt⟩ := Y
  have hg : GoodIn q_tbl (.code y cc' maxL' ret' :: q_tbl) := fun w hw => by
    rcases List.mem_cons.mp hw with rfl | hw
    · exact q_good _ hY.1
    · exact q_good _ hw
  have hpre : PreV s H y.cls (D.2.2.1 i) (va_Pc (.ref (D.2.2.1 i) :: As) (q_B D (q_ca b C) (q_cd b C))) As := ⟨q_B.blind, by rw [hy]; exact vk_recv hSt.1 hi hS, i_pre0 Y' hW hS⟩
  rcases hL with hL | ⟨host, hL⟩
  · exact i_back0 hW (va_runV (As := As) (rest := rest) ⟨hx, hb, hml, hown, hts⟩ hM ⟨callB_of n hts hg rfl rfl rfl (hts _ hY.2.1) (hts _ hL) hY.2.2 hR, hts _ hV.1, hts _ hV.2⟩ hpre rfl hn hl.1 hst (lv_room hcat) hdg hcs) hS hsz hs1 kk
  · exact i_back0 hW (va_runVN (As := As) (rest := rest) (host := host) ⟨hx, hb, hml, hown, hts⟩ hM ⟨va_cnB n hts hg rfl rfl rfl (hK.2.1 _ hL) (hts _ hY.2.1) hY.2.2 hR, hts _ hV.1, hts _ hV.2⟩ hpre rfl hn hl.1 hst (lv_room hcat) hdg hcs) hS hsz hs1 kk
theorem j_v {mc ms : Nat} {C0 : List q_Ce} (Y : q_Cy D b cc nL none own p s m args meth c) (hW : q_CW D b C H) (hS : va_S (fun q => b ≤ q) s.heap H locs) (hm : some C = some C0) (h1 : cells ≤ mc) (h2 : slots ≤ ms) (hdg : decode cc pc = .ok (.return_, 1)) : W p l e R s m args below meth c H locs cells slots (MQ below (q_Q none (q_CW D b C0) (fun q => b ≤ q)) args s mc ms (fun q => b ≤ q)) (F0 m pc ls []) := by
  cases hm
  refine W.widen (k := mc) (n := ms) h1 h2 ?_
  exact W.vret Y.1 Y.2.1 Y.2.2.2.1 (fun t ht _ => ⟨rfl, by rw [ht]; exact hW, hS.F ht⟩) hS.2.2 hdg Y.2.2.2.2.1
theorem j_l {mc ms : Nat} {v r0 : Int64} (Y : q_Cy D b cc nL (some .long) own p s m args meth c) (hW : q_CW D b C H) (hS : va_S (fun q => b ≤ q) s.heap H locs) (hm : some v = some r0) (h1 : cells ≤ mc) (h2 : slots ≤ ms) (hdg : decode cc pc = .ok (.lreturn, 1)) : W p l e R s m args below meth c H locs cells slots (MQ below (q_Q (some (.long r0)) (q_CW D b C) (fun q => b ≤ q)) args s mc ms (fun q => b ≤ q)) (F0 m pc ls [.long v]) := by
  cases hm
  refine W.widen (k := mc) (n := ms) h1 h2 ?_
  exact W.lret Y.1 Y.2.1 Y.2.2.2.1 (fun t ht _ => ⟨rfl, by rw [ht]; exact hW, hS.F ht⟩) hS.2.2 hdg Y.2.2.2.2.1
end QI
