/-! rows over the world -/
def q_Fl (own : String) (idx ci k : Nat) : Prop := ∃ (C : String) (T : u_T) (N : Nat), vwCl[ci]? = some (C, T, N) ∧ k < N ∧ N = q_nf ci ∧ (T k).1 = C ∧ (Cond.fieldLink own idx C (T k).2.1 (T k).2.2.1 ∈ q_tbl ∨ ∃ host, Cond.fieldLinkNest own idx C (T k).2.1 (T k).2.2.1 host ∈ q_nst)
/-- of a class: its words lie in the table, its fields have types and names apart -/
def q_Cl (ci : Nat) (ty : Nat → FieldType) : Prop := ∃ (C : String) (T : u_T) (N : Nat), vwCl[ci]? = some (C, T, N) ∧ (∀ w ∈ u_ws C T N, w ∈ q_tbl) ∧ (∀ k, k < N → parseFieldDescriptor (T k).2.2.1 = some (ty k)) ∧ ∀ a, a < N → ∀ b, b < N → a ≠ b → (T a).2.1 ≠ (T b).2.1
section QR
variable {p : Program} {l : Launch} {e : Env} {R : Room} {s : State} {m : MethodId} {args : Array Value} {below : List Frame} {meth : Method} {c : Code} {H : Heap} {locs : List Loc} {cells slots : Nat} {Q : State → Prop}
variable {D : q_D} {al : q_Al} {dt : q_Dt} {cc : ByteArray} {nL : Nat} {ret : Option FieldType} {own : String} {pc : Nat} {ls : Array Slot} {rest : List Value} {H0 : Heap}
theorem q_fget (C : q_Cx D al cc nL ret own p s m args meth c) {a ci k idx : Nat} {V : Nat → Value} (hO : t_OB a (D.1.1 ci) (q_nf ci) (D.1.2 ci) H V) {ty : Nat → FieldType} (hc : q_Cl ci ty) (hl : q_Fl own idx ci k) (hdg : decode cc pc = .ok (.getfield idx, 3))
    (kk : W p l e R s m args below meth c H locs cells slots Q (F0 m (pc + 3) ls (V k :: rest))) : W p l e R s m args below meth c H locs cells slots Q (F0 m pc ls (.ref a :: rest)) := by
  obtain ⟨hx, hb, -, -, -, hown, hts, hK, -⟩ := C
  obtain ⟨Cn, T, N, h1, hk, hN, hT1, hlk⟩ := hl
  obtain ⟨C', T', N', h2, hin, -, -⟩ := hc
  obtain ⟨rfl, rfl, rfl⟩ : C' = Cn ∧ T' = T ∧ N' = N := by
    have h3 := Option.some.inj (h2.symm.trans h1)
    exact ⟨congrArg (·.1) h3, congrArg (·.2.1) h3, congrArg (·.2.2) h3⟩
  subst hN
  have hP : va_P D.1 vwCl [(a, .inr (ci, (List.range (q_nf ci)).map V))] H := by
    intro j q hq
    match j, hq with
    | 0, hq =>
      cases hq
      exact ⟨_, h1, hO.to fun j hj => by simp [vp_V, hj]⟩
    | j + 1, hq => simp at hq
  have hv : ((List.range (q_nf ci)).map V)[k]? = some (V k) := by simp [hk]
  rcases hlk with hlk | ⟨host, hlk⟩
  · exact va_get (D := D.1) (own := own) (ref := C') hx hb hts hin hown hK.1 hP 0 rfl h1 k hk (hts _ hlk) (fun x hx => by rw [hT1] at hx; exact hx) hv hdg kk
  · exact va_getN (D := D.1) (own := own) (ref := C') (host := host) hx hb hts hin hown hK.1 hP 0 rfl h1 k hk ((hK.2.1 _ hlk).use rfl) (fun x hx => by rw [hT1] at hx; exact hx) hv hdg kk
theorem q_getI (C : q_Cx D al cc nL ret own p s m args meth c) (hW : q_W D al dt H) {a ci k idx : Nat} (hk : al.1 a = ci + 1) (hf : q_ft ci k = 0) (h13 : ci < 13) {ty : Nat → FieldType} (hc : q_Cl ci ty) (hl : q_Fl own idx ci k) (hdg : decode cc pc = .ok (.getfield idx, 3))
    (kk : W p l e R s m args below meth c H locs cells slots Q (F0 m (pc + 3) ls (.int (dt.1 a k) :: rest))) : W p l e R s m args below meth c H locs cells slots Q (F0 m pc ls (.ref a :: rest)) := by
  have hO := hW.1 a
  rw [q_at_obj hk h13] at hO
  exact q_fget C hO hc hl hdg (by rw [show q_fv al dt ci a k = .int (dt.1 a k) by unfold q_fv; rw [if_pos hf]]; exact kk)
theorem q_getF (C : q_Cx D al cc nL ret own p s m args meth c) (hW : q_W D al dt H) {a ci k idx : Nat} (hk : al.1 a = ci + 1) (hf : q_ft ci k = 3) (h13 : ci < 13) {ty : Nat → FieldType} (hc : q_Cl ci ty) (hl : q_Fl own idx ci k) (hdg : decode cc pc = .ok (.getfield idx, 3))
    (kk : W p l e R s m args below meth c H locs cells slots Q (F0 m (pc + 3) ls (.ref (al.2.2 a k) :: rest))) : W p l e R s m args below meth c H locs cells slots Q (F0 m pc ls (.ref a :: rest)) := by
  have hO := hW.1 a
  rw [q_at_obj hk h13] at hO
  exact q_fget C hO hc hl hdg (by rw [show q_fv al dt ci a k = .ref (al.2.2 a k) by unfold q_fv; rw [if_neg (by rw [hf]; decide), if_neg (by rw [hf]; decide)]]; exact kk)
theorem q_getQ (C : q_Cx D al cc nL ret own p s m args meth c) (hW : q_W D al dt H) {a ci k idx : Nat} (hk : al.1 a = ci + 1) (hf : q_ft ci k = 2) (h13 : ci < 13) {ty : Nat → FieldType} (hc : q_Cl ci ty) (hl : q_Fl own idx ci k) (hdg : decode cc pc = .ok (.getfield idx, 3))
    (kk : W p l e R s m args below meth c H locs cells slots Q (F0 m (pc + 3) ls (va_rf (dt.2.2 a k) :: rest))) : W p l e R s m args below meth c H locs cells slots Q (F0 m pc ls (.ref a :: rest)) := by
  have hO := hW.1 a
  rw [q_at_obj hk h13] at hO
  exact q_fget C hO hc hl hdg (by rw [show q_fv al dt ci a k = va_rf (dt.2.2 a k) by unfold q_fv; rw [if_neg (by rw [hf]; decide), if_pos hf]]; exact kk)
theorem q_kF (hW : q_W D al dt H) {a ci k t : Nat} (hk : al.1 a = ci + 1) (h13 : ci < 13) (hf : q_ft ci k = 3) (ht : q_tg ci k = t) : al.1 (al.2.2 a k) = t := by rw [hW.2.1 a ci k hk h13 hf, ht]
theorem q_kQ (hW : q_W D al dt H) {a ci k t b : Nat} (hk : al.1 a = ci + 1) (h13 : ci < 13) (hf : q_ft ci k = 2) (ht : q_tg ci k = t) (hb : dt.2.2 a k = some b) : al.1 b = t := by rw [hW.2.2.1 a ci k b hk h13 hf hb, ht]
theorem q_kR (hW : q_W D al dt H) {a ci j : Nat} (hk : al.1 a = ci + 30) (h13 : ci < 13) (hj : j < al.2.1 a) : al.1 (al.2.2 a j) = ci + 1 := hW.2.2.2 a ci j hk h13 hj
theorem q_fput (C : q_Cx D al cc nL ret own p s m args meth c) {a ci k idx : Nat} {V : Nat → Value} (hO : t_OB a (D.1.1 ci) (q_nf ci) (D.1.2 ci) H V) {tys : Nat → FieldType} (hc : q_Cl ci tys) (hl : q_Fl own idx ci k) (hnf : ∀ C T N, vwCl[ci]? = some (C, T, N) → (T k).2.2.2 = false) {ty : FieldType} {v : Value} (hty : tys k = ty) (hn : narrow ty v = v) (hfit : fits ty v = true) (hdg : decode cc pc = .ok (.putfield idx, 3))
    (kk : ∀ (H1 : Heap) (q : Nat), t_OB a (D.1.1 ci) (q_nf ci) (D.1.2 ci) H1 (updV V k v) → H1.size = H.size → (∀ q, q ≠ a → H1[q]? = H[q]?) → W p l e R s m args below meth c H1 (locs ++ [⟨a, q⟩]) cells slots Q (F0 m (pc + 3) ls rest)) : W p l e R s m args below meth c H locs cells slots Q (F0 m pc ls (v :: .ref a :: rest)) := by
  obtain ⟨hx, hb, -, -, -, hown, hts, hK, -⟩ := C
  obtain ⟨Cn, T, N, h1, hk, hN, hT1, hlk⟩ := hl
  obtain ⟨C', T', N', h2, hin, hpt, hnm⟩ := hc
  obtain ⟨rfl, rfl, rfl⟩ : C' = Cn ∧ T' = T ∧ N' = N := by
    have h3 := Option.some.inj (h2.symm.trans h1)
    exact ⟨congrArg (·.1) h3, congrArg (·.2.1) h3, congrArg (·.2.2) h3⟩
  subst hN
  have hap := va_apart (own := own) hts hin tys hpt hnm hK.1 h1
  obtain ⟨cell, q1, q2, q3, q4⟩ := hO
  obtain ⟨hSl, hfc, kC, hkC, hkind⟩ := hK.1.1 ci _ h1
  obtain ⟨cf, kf, fi, f, hi, hsl⟩ := hSl k hk
  have hlay := hts _ (hin _ (u_in_lay hk))
  unfold u_lay at hlay
  rw [if_neg (by rw [hnf _ _ _ h1]; decide)] at hlay
  have hst := (u_facts hfc hkC (u_lays hts hin hk) hi).1
  have hd := hpt k hk
  rw [hty] at hd
  have h6 := u_store hfc hkC hkind hlay hi hd hn hfit
  have hi' : s.fieldFound? C' (T' k).2.1 (T' k).2.2.1 = some (cf, kf, fi, f) := by rw [← hT1]; exact hi
  rcases hlk with hlk | ⟨host, hlk⟩
  · refine W.putK hx hb (f := f) ⟨hown, hts _ hlk, ⟨_, _, _, hi'⟩, hst⟩ (by rw [q2]; exact h6) q1 q3 (by rw [hsl]; exact k2_hasslot (q4 k hk)) rfl rfl hdg fun H' e1 e2 e3 => ?_
    rw [hsl] at e1 ⊢
    exact kk H' _ ⟨_, e1, q2, q3, t_set q4 hap hk v⟩ e2 e3
  · refine va_WputK hx hb (f := f) hown ((hK.2.1 _ hlk).use rfl) hi' hst (by rw [q2]; exact h6) q1 q3 (by rw [hsl]; exact k2_hasslot (q4 k hk)) rfl rfl hdg fun H' e1 e2 e3 => ?_
    rw [hsl] at e1 ⊢
    exact kk H' _ ⟨_, e1, q2, q3, t_set q4 hap hk v⟩ e2 e3
theorem q_wI (hW : q_W D al dt H) {a ci k : Nat} (hk : al.1 a = ci + 1) (h13 : ci < 13) (hf : q_ft ci k = 0) {v : Int32} {H1 : Heap} (hO : t_OB a (D.1.1 ci) (q_nf ci) (D.1.2 ci) H1 (updV (q_fv al dt ci a) k (.int v))) (e3 : ∀ q, q ≠ a → H1[q]? = H[q]?) : q_W D al (q_pI dt a k v) H1 := by
  refine ⟨fun b => ?_, hW.2⟩
  by_cases hb : b = a
  · subst hb
    rw [q_at_obj hk h13]
    refine hO.to fun j _ => ?_
    unfold updV q_fv q_pI
    by_cases hj : j = k
    · subst hj; simp [hf]
    · simp [hj]
  · refine (hW.1 b).frame rfl rfl rfl ?_ rfl rfl (e3 b hb)
    funext j
    simp [q_pI, hb]
theorem q_putI (C : q_Cx D al cc nL ret own p s m args meth c) (hW : q_W D al dt H) (hS : va_S (q_A al) H0 H locs) {a ci k idx : Nat} (hk : al.1 a = ci + 1) (hf : q_ft ci k = 0) (h13 : ci < 13) {tys : Nat → FieldType} (hc : q_Cl ci tys) (hl : q_Fl own idx ci k) (hnf : ∀ C T N, vwCl[ci]? = some (C, T, N) → (T k).2.2.2 = false) (hty : tys k = .int) {v : Int32} (hdg : decode cc pc = .ok (.putfield idx, 3))
    (kk : ∀ (H1 : Heap) (locs1 : List Loc), q_W D al (q_pI dt a k v) H1 → va_S (q_A al) H0 H1 locs1 → W p l e R s m args below meth c H1 locs1 cells slots Q (F0 m (pc + 3) ls rest)) : W p l e R s m args below meth c H locs cells slots Q (F0 m pc ls (.int v :: .ref a :: rest)) := by
  have hO := hW.1 a
  rw [q_at_obj hk h13] at hO
  refine q_fput C hO hc hl hnf hty rfl rfl hdg fun H1 q e1 e2 e3 => ?_
  exact kk H1 _ (q_wI hW hk h13 hf e1 e3) (hS.put e2 e3 (by show al.1 a ≠ 0; omega))
theorem q_putZ (C : q_Cx D al cc nL ret own p s m args meth c) (hW : q_W D al dt H) (hS : va_S (q_A al) H0 H locs) {a ci k idx : Nat} (hk : al.1 a = ci + 1) (hf : q_ft ci k = 0) (h13 : ci < 13) {tys : Nat → FieldType} (hc : q_Cl ci tys) (hl : q_Fl own idx ci k) (hnf : ∀ C T N, vwCl[ci]? = some (C, T, N) → (T k).2.2.2 = false) (hty : tys k = .boolean) {v : Int32} (hv : v = 0 ∨ v = 1) (hdg : decode cc pc = .ok (.putfield idx, 3))
    (kk : ∀ (H1 : Heap) (locs1 : List Loc), q_W D al (q_pI dt a k v) H1 → va_S (q_A al) H0 H1 locs1 → W p l e R s m args below meth c H1 locs1 cells slots Q (F0 m (pc + 3) ls rest)) : W p l e R s m args below meth c H locs cells slots Q (F0 m pc ls (.int v :: .ref a :: rest)) := by
  have hO := hW.1 a
  rw [q_at_obj hk h13] at hO
  refine q_fput C hO hc hl hnf hty (by rcases hv with rfl | rfl <;> rfl) (by rcases hv with rfl | rfl <;> rfl) hdg fun H1 q e1 e2 e3 => ?_
  exact kk H1 _ (q_wI hW hk h13 hf e1 e3) (hS.put e2 e3 (by show al.1 a ≠ 0; omega))
theorem q_putQ (C : q_Cx D al cc nL ret own p s m args meth c) (hW : q_W D al dt H) (hS : va_S (q_A al) H0 H locs) {a ci k idx : Nat} (hk : al.1 a = ci + 1) (hf : q_ft ci k = 2) (h13 : ci < 13) {tys : Nat → FieldType} (hc : q_Cl ci tys) (hl : q_Fl own idx ci k) (hnf : ∀ C T N, vwCl[ci]? = some (C, T, N) → (T k).2.2.2 = false) {cn : String} (hty : tys k = .object cn) {b : Nat} (hb : al.1 b = q_tg ci k) (hdg : decode cc pc = .ok (.putfield idx, 3))
    (kk : ∀ (H1 : Heap) (locs1 : List Loc), q_W D al (q_pR dt a k (some b)) H1 → va_S (q_A al) H0 H1 locs1 → W p l e R s m args below meth c H1 locs1 cells slots Q (F0 m (pc + 3) ls rest)) : W p l e R s m args below meth c H locs cells slots Q (F0 m pc ls (.ref b :: .ref a :: rest)) := by
  have hO := hW.1 a
  rw [q_at_obj hk h13] at hO
  refine q_fput C hO hc hl hnf hty rfl rfl hdg fun H1 q e1 e2 e3 => ?_
  refine kk H1 _ ⟨fun x => ?_, hW.2.1, ?_, hW.2.2.2⟩ (hS.put e2 e3 (by show al.1 a ≠ 0; omega))
  · by_cases hx : x = a
    · subst hx
      rw [q_at_obj hk h13]
      refine e1.to fun j _ => ?_
      unfold updV q_fv q_pR
      by_cases hj : j = k
      · subst hj; simp [hf, va_rf]
      · simp [hj]
    · refine (hW.1 x).frame rfl rfl rfl rfl rfl ?_ (e3 x hx)
      funext j
      simp [q_pR, hx]
  · intro x ci2 k2 b2 h1 h2 h3 h4
    simp only [q_pR] at h4
    by_cases hx : x = a ∧ k2 = k
    · obtain ⟨rfl, rfl⟩ := hx
      rw [if_pos ⟨rfl, rfl⟩] at h4
      cases h4
      obtain rfl : ci2 = ci := by omega
      exact hb
    · rw [if_neg hx] at h4
      exact hW.2.2.1 x ci2 k2 b2 h1 h2 h3 h4
theorem q_one {E : va_E} {a : Nat} {H : Heap} {G : va_G} (h : va_at G vwCl (a, E) H) : va_P G vwCl [(a, E)] H := by
  intro j q hq
  match j, hq with
  | 0, hq => cases hq; exact h
  | j + 1, hq => simp at hq
theorem q_iald (C : q_Cx D al cc nL ret own p s m args meth c) (hW : q_W D al dt H) {a : Nat} (hk : al.1 a = 21) {i : Int32} (hin : ¬ (i < 0 ∨ al.2.1 a ≤ i.toNatClampNeg)) (hdg : decode cc pc = .ok (.iaload, 1))
    (kk : W p l e R s m args below meth c H locs cells slots Q (F0 m (pc + 1) ls (.int (dt.1 a i.toNatClampNeg) :: rest))) : W p l e R s m args below meth c H locs cells slots Q (F0 m pc ls (.int i :: .ref a :: rest)) := by
  have h := hW.1 a
  rw [q_at_I hk (by simp)] at h
  exact va_iald C.1 C.2.1 C.2.2.2.2.2.2.2.1.1 (q_one (E := .inl (_, _, .inl _)) h) 0 1 rfl rfl hin hdg kk
theorem q_bald (C : q_Cx D al cc nL ret own p s m args meth c) (hW : q_W D al dt H) {a : Nat} (hk : al.1 a = 20) {i : Int32} (hin : ¬ (i < 0 ∨ al.2.1 a ≤ i.toNatClampNeg)) (hdg : decode cc pc = .ok (.baload, 1))
    (kk : W p l e R s m args below meth c H locs cells slots Q (F0 m (pc + 1) ls (.int (dt.1 a i.toNatClampNeg) :: rest))) : W p l e R s m args below meth c H locs cells slots Q (F0 m pc ls (.int i :: .ref a :: rest)) := by
  have h := hW.1 a
  rw [q_at_I hk (by simp)] at h
  exact va_bald C.1 C.2.1 C.2.2.2.2.2.2.2.1.1 (q_one (E := .inl (_, _, .inl _)) h) 0 0 rfl rfl hin hdg kk
theorem q_zald (C : q_Cx D al cc nL ret own p s m args meth c) (hW : q_W D al dt H) {a : Nat} (hk : al.1 a = 23) {i : Int32} (hin : ¬ (i < 0 ∨ al.2.1 a ≤ i.toNatClampNeg)) (hdg : decode cc pc = .ok (.baload, 1))
    (kk : W p l e R s m args below meth c H locs cells slots Q (F0 m (pc + 1) ls (.int (dt.1 a i.toNatClampNeg) :: rest))) : W p l e R s m args below meth c H locs cells slots Q (F0 m pc ls (.int i :: .ref a :: rest)) := by
  have h := hW.1 a
  rw [q_at_I hk (by simp)] at h
  exact va_zald C.1 C.2.1 C.2.2.2.2.2.2.2.1.1 (q_one (E := .inl (_, _, .inl _)) h) 0 3 rfl rfl hin hdg kk
theorem q_lald (C : q_Cx D al cc nL ret own p s m args meth c) (hW : q_W D al dt H) {a : Nat} (hk : al.1 a = 22) {i : Int32} (hin : ¬ (i < 0 ∨ al.2.1 a ≤ i.toNatClampNeg)) (hdg : decode cc pc = .ok (.laload, 1))
    (kk : W p l e R s m args below meth c H locs cells slots Q (F0 m (pc + 1) ls (.long (dt.2.1 a i.toNatClampNeg) :: rest))) : W p l e R s m args below meth c H locs cells slots Q (F0 m pc ls (.int i :: .ref a :: rest)) := by
  have h := hW.1 a
  rw [q_at_J hk] at h
  exact va_lald C.1 C.2.1 C.2.2.2.2.2.2.2.1.1 (q_one (E := .inl (_, _, .inr (.inl _))) h) 0 2 rfl rfl hin hdg kk
theorem q_tyR {ci t0 : Nat} {Cn : String} (h : (q_tys D)[t0]? = some (D.2.1 (ci + 30), .object Cn)) : (q_tys D)[t0]? = some (D.2.1 (ci + 30), .object Cn) := h
theorem q_aald (C : q_Cx D al cc nL ret own p s m args meth c) (hW : q_W D al dt H) {a ci t0 : Nat} {Cn : String} (hk : al.1 a = ci + 30) (h13 : ci < 13) (ht : (q_tys D)[t0]? = some (D.2.1 (ci + 30), .object Cn)) {i : Int32} (hin : ¬ (i < 0 ∨ al.2.1 a ≤ i.toNatClampNeg)) (hdg : decode cc pc = .ok (.aaload, 1))
    (kk : W p l e R s m args below meth c H locs cells slots Q (F0 m (pc + 1) ls (.ref (al.2.2 a i.toNatClampNeg) :: rest))) : W p l e R s m args below meth c H locs cells slots Q (F0 m pc ls (.int i :: .ref a :: rest)) := by
  have h := hW.1 a
  rw [q_at_R hk (by omega) (by omega)] at h
  exact va_aldq C.1 C.2.1 C.2.2.2.2.2.2.2.1.1 (q_one (E := .inl (_, _, .inr (.inr (.inr (.inr _))))) h) 0 t0 rfl ht hin hdg kk
theorem q_alenI (C : q_Cx D al cc nL ret own p s m args meth c) (hW : q_W D al dt H) {a k t0 : Nat} (hk : al.1 a = k) (h1 : k = 20 ∨ k = 21 ∨ k = 23) {ty : FieldType} (ht : (q_tys D)[t0]? = some (D.2.1 k, ty)) (hdg : decode cc pc = .ok (.arraylength, 1))
    (kk : W p l e R s m args below meth c H locs cells slots Q (F0 m (pc + 1) ls (.int (Int32.ofNat (al.2.1 a)) :: rest))) : W p l e R s m args below meth c H locs cells slots Q (F0 m pc ls (.ref a :: rest)) := by
  have h := hW.1 a
  rw [q_at_I hk h1] at h
  exact va_alen C.1 C.2.1 C.2.2.2.2.2.2.2.1.1 (q_one (E := .inl (_, _, .inl _)) h) 0 t0 rfl ht rfl hdg kk
theorem q_alenJ (C : q_Cx D al cc nL ret own p s m args meth c) (hW : q_W D al dt H) {a : Nat} (hk : al.1 a = 22) (hdg : decode cc pc = .ok (.arraylength, 1))
    (kk : W p l e R s m args below meth c H locs cells slots Q (F0 m (pc + 1) ls (.int (Int32.ofNat (al.2.1 a)) :: rest))) : W p l e R s m args below meth c H locs cells slots Q (F0 m pc ls (.ref a :: rest)) := by
  have h := hW.1 a
  rw [q_at_J hk] at h
  exact va_alen C.1 C.2.1 C.2.2.2.2.2.2.2.1.1 (q_one (E := .inl (_, _, .inr (.inl _))) h) 0 2 rfl rfl rfl hdg kk
theorem q_alenR (C : q_Cx D al cc nL ret own p s m args meth c) (hW : q_W D al dt H) {a ci t0 : Nat} {Cn : String} (hk : al.1 a = ci + 30) (h13 : ci < 13) (ht : (q_tys D)[t0]? = some (D.2.1 (ci + 30), .object Cn)) (hdg : decode cc pc = .ok (.arraylength, 1))
    (kk : W p l e R s m args below meth c H locs cells slots Q (F0 m (pc + 1) ls (.int (Int32.ofNat (al.2.1 a)) :: rest))) : W p l e R s m args below meth c H locs cells slots Q (F0 m pc ls (.ref a :: rest)) := by
  have h := hW.1 a
  rw [q_at_R hk (by omega) (by omega)] at h
  exact va_alen C.1 C.2.1 C.2.2.2.2.2.2.2.1.1 (q_one (E := .inl (_, _, .inr (.inr (.inr (.inr _))))) h) 0 t0 rfl ht rfl hdg kk
theorem q_wrI (hW : q_W D al dt H) {a k : Nat} (hk : al.1 a = k) (h1 : k = 20 ∨ k = 21 ∨ k = 23) {j : Nat} {v : Int32} {H1 : Heap} (e : H1[a]? = some ((arrV (D.2.1 k) (al.2.1 a) (fun j => .int (dt.1 a j))).setSlot j (.int v))) (e3 : ∀ q, q ≠ a → H1[q]? = H[q]?) : q_W D al (q_pI dt a j v) H1 := by
  refine ⟨fun b => ?_, hW.2⟩
  by_cases hb : b = a
  · subst hb
    rw [q_at_I hk h1, e, arrV_store, vp_cell_i]
    congr 2
    funext q
    by_cases hq : q = j
    · subst hq; simp [updV, q_pI]
    · simp [updV, q_pI, hq]
  · refine (hW.1 b).frame rfl rfl rfl ?_ rfl rfl (e3 b hb)
    funext j
    simp [q_pI, hb]
theorem q_iast (C : q_Cx D al cc nL ret own p s m args meth c) (hW : q_W D al dt H) (hS : va_S (q_A al) H0 H locs) {a : Nat} (hk : al.1 a = 21) {i v : Int32} (hin : ¬ (i < 0 ∨ al.2.1 a ≤ i.toNatClampNeg)) (hdg : decode cc pc = .ok (.iastore, 1))
    (kk : ∀ (H1 : Heap) (locs1 : List Loc), q_W D al (q_pI dt a i.toNatClampNeg v) H1 → va_S (q_A al) H0 H1 locs1 → W p l e R s m args below meth c H1 locs1 cells slots Q (F0 m (pc + 1) ls rest)) : W p l e R s m args below meth c H locs cells slots Q (F0 m pc ls (.int v :: .int i :: .ref a :: rest)) := by
  have h := hW.1 a
  rw [q_at_I hk (by simp), vp_cell_i] at h
  refine W.iast C.1 C.2.1 h ((C.2.2.2.2.2.2.2.1.1.2 1 _ rfl).1 _ _) (fun q => by cases q) (by rw [arrV_size]; exact hin) rfl rfl hdg fun H1 e z oq => ?_
  exact kk H1 _ (q_wrI hW hk (by simp) e oq) (hS.put z oq (by show al.1 a ≠ 0; omega))
theorem q_bast (C : q_Cx D al cc nL ret own p s m args meth c) (hW : q_W D al dt H) (hS : va_S (q_A al) H0 H locs) {a : Nat} (hk : al.1 a = 20) {i v : Int32} (hin : ¬ (i < 0 ∨ al.2.1 a ≤ i.toNatClampNeg)) (hdg : decode cc pc = .ok (.bastore, 1))
    (kk : ∀ (H1 : Heap) (locs1 : List Loc), q_W D al (q_pI dt a i.toNatClampNeg v.toInt8.toInt32) H1 → va_S (q_A al) H0 H1 locs1 → W p l e R s m args below meth c H1 locs1 cells slots Q (F0 m (pc + 1) ls rest)) : W p l e R s m args below meth c H locs cells slots Q (F0 m pc ls (.int v :: .int i :: .ref a :: rest)) := by
  have h := hW.1 a
  rw [q_at_I hk (by simp), vp_cell_i] at h
  refine W.bast C.1 C.2.1 h ((C.2.2.2.2.2.2.2.1.1.2 0 _ rfl).1 _ _) (fun q => by cases q) (by rw [arrV_size]; exact hin) rfl rfl hdg fun H1 e z oq => ?_
  exact kk H1 _ (q_wrI hW hk (by simp) (v := v.toInt8.toInt32) e oq) (hS.put z oq (by show al.1 a ≠ 0; omega))
theorem q_zast (C : q_Cx D al cc nL ret own p s m args meth c) (hW : q_W D al dt H) (hS : va_S (q_A al) H0 H locs) {a : Nat} (hk : al.1 a = 23) {i v : Int32} (hin : ¬ (i < 0 ∨ al.2.1 a ≤ i.toNatClampNeg)) (hdg : decode cc pc = .ok (.bastore, 1))
    (kk : ∀ (H1 : Heap) (locs1 : List Loc), q_W D al (q_pI dt a i.toNatClampNeg (vp_nar .boolean v)) H1 → va_S (q_A al) H0 H1 locs1 → W p l e R s m args below meth c H1 locs1 cells slots Q (F0 m (pc + 1) ls rest)) : W p l e R s m args below meth c H locs cells slots Q (F0 m pc ls (.int v :: .int i :: .ref a :: rest)) := by
  have h := hW.1 a
  rw [q_at_I hk (by simp), vp_cell_i] at h
  refine W.zast C.1 C.2.1 h ((C.2.2.2.2.2.2.2.1.1.2 3 _ rfl).1 _ _) (fun q => by cases q) (by rw [arrV_size]; exact hin) rfl rfl hdg fun H1 e z oq => ?_
  exact kk H1 _ (q_wrI hW hk (by simp) (v := vp_nar .boolean v) (by rw [e]; congr 2) oq) (hS.put z oq (by show al.1 a ≠ 0; omega))
theorem q_last (C : q_Cx D al cc nL ret own p s m args meth c) (hW : q_W D al dt H) (hS : va_S (q_A al) H0 H locs) {a : Nat} (hk : al.1 a = 22) {i : Int32} {v : Int64} (hin : ¬ (i < 0 ∨ al.2.1 a ≤ i.toNatClampNeg)) (hdg : decode cc pc = .ok (.lastore, 1))
    (kk : ∀ (H1 : Heap) (locs1 : List Loc), q_W D al (q_pJ dt a i.toNatClampNeg v) H1 → va_S (q_A al) H0 H1 locs1 → W p l e R s m args below meth c H1 locs1 cells slots Q (F0 m (pc + 1) ls rest)) : W p l e R s m args below meth c H locs cells slots Q (F0 m pc ls (.long v :: .int i :: .ref a :: rest)) := by
  have h := hW.1 a
  rw [q_at_J hk, vp_cell_l] at h
  refine W.last C.1 C.2.1 h ((C.2.2.2.2.2.2.2.1.1.2 2 _ rfl).1 _ _) (fun q => by cases q) (by rw [arrV_size]; exact hin) rfl rfl hdg fun H1 e z oq => ?_
  refine kk H1 _ ⟨fun b => ?_, hW.2⟩ (hS.put z oq (by show al.1 a ≠ 0; omega))
  by_cases hb : b = a
  · subst hb
    rw [q_at_J hk, e, arrV_store, vp_cell_l]
    congr 2
    funext q
    by_cases hq : q = i.toNatClampNeg
    · subst hq; simp [updV, q_pJ]
    · simp [updV, q_pJ, hq]
  · refine (hW.1 b).frame rfl rfl rfl rfl ?_ rfl (oq b hb)
    funext j
    simp [q_pJ, hb]
end QR
