set_option maxRecDepth 100000 in
theorem w_feed {p : Program} {l : Launch} {e : Env} {s : State} {m : MethodId} {below : List Frame} {meth : Method} {c : Code} {D : q_D} {b L b1 b2 cells slots : Nat} {xs : Nat → Int32} (Y : q_Cy D s.heap.size code 4 ret R_law p s m #[Value.ref b] meth c) (hX : va_X b L xs s s.heap) (hbl : b < s.heap.size) (hb1 : s.heap.size ≤ b1) (hb2 : b1 + q_S1.length ≤ b2) (hcs : cells ≤ room_1.cells ∧ slots ≤ room_1.slots) {Rel : Nat → Nat → Nat → q_Dt → q_Dt → Prop} (hf : q_c_feed Rel) {k : Nat} {dt1 dt2 : q_Dt} {H : Heap} {locs : List Loc} {ls : Array Slot} {x3 : Int32} (hk : k < 512) (hR : Rel k b1 b2 dt1 dt2) (hin0 : vp_in x3 L) (hin : ∀ j, j < 8 → vp_in (x3 + Int32.ofNat j) L) (hW1 : q_W D (q_ca b1 q_S1) dt1 H) (hW2 : q_W D (q_ca b2 q_S2) dt2 H) (hS : va_S (fun q => s.heap.size ≤ q) s.heap H locs) (hl : lv_has ls 4 [(0, .ref b), (1, .ref b1), (2, .ref b2), (3, .int x3)]) (next : ∀ (d1 d2 : q_Dt) (H : Heap) (locs : List Loc) (ls : Array Slot), Rel (k + 1) b1 b2 d1 d2 → q_W D (q_ca b1 q_S1) d1 H → q_W D (q_ca b2 q_S2) d2 H → va_S (fun q => s.heap.size ≤ q) s.heap H locs → lv_has ls 4 [(0, .ref b), (1, .ref b1), (2, .ref b2), (3, .int x3)] → W p l e room_1 s m #[Value.ref b] below meth c H locs cells slots (lw_Z below #[Value.ref b] s) (F0 m 2235 ls [])) : W p l e room_1 s m #[Value.ref b] below meth c H locs cells slots (lw_Z below #[Value.ref b] s) (F0 m 236 ls []) := by
  have hx := Y.1
  have hb := Y.2.1
  have hown := Y.2.2.2.2.2.1
  have hts := Y.2.2.2.2.2.2.1
  have hbA : ¬ (fun q : Nat => s.heap.size ≤ q) b := Nat.not_le.mpr hbl
  have kd1 := kd1_ok b1
  have kd2 := kd2_ok b2
  refine lv_aload_n hx hb dL_law_236 rfl (lv_at hl 1 rfl) ?_
  refine lv_aload_n hx hb dL_law_237 rfl (lv_at hl 0 rfl) ?_
  refine lv_iload_n hx hb dL_law_238 rfl (lv_at hl 3 rfl) ?_
  refine lv_iconst (v := 1) hx hb dL_law_239 (by decide) ?_
  refine lv_iadd hx hb dL_law_240 ?_
  refine va_sld hx hb hX hbl hbA hS (hin 1 (by decide)) dL_law_241 ?_
  refine lv_aload_n hx hb dL_law_242 rfl (lv_at hl 0 rfl) ?_
  refine lv_iload_n hx hb dL_law_243 rfl (lv_at hl 3 rfl) ?_
  refine lv_iconst (v := 2) hx hb dL_law_244 (by decide) ?_
  refine lv_iadd hx hb dL_law_245 ?_
  refine va_sld hx hb hX hbl hbA hS (hin 2 (by decide)) dL_law_246 ?_
  refine lv_aload_n hx hb dL_law_247 rfl (lv_at hl 0 rfl) ?_
  refine lv_iload_n hx hb dL_law_248 rfl (lv_at hl 3 rfl) ?_
  refine lv_iconst (v := 3) hx hb dL_law_249 (by decide) ?_
  refine lv_iadd hx hb dL_law_250 ?_
  refine va_sld hx hb hX hbl hbA hS (hin 3 (by decide)) dL_law_251 ?_
  refine lv_aload_n hx hb dL_law_252 rfl (lv_at hl 0 rfl) ?_
  refine lv_iload_n hx hb dL_law_253 rfl (lv_at hl 3 rfl) ?_
  refine lv_iconst (v := 4) hx hb dL_law_254 (by decide) ?_
  refine lv_iadd hx hb dL_law_255 ?_
  refine va_sld hx hb hX hbl hbA hS (hin 4 (by decide)) dL_law_256 ?_
  refine lv_aload_n hx hb dL_law_257 rfl (lv_at hl 0 rfl) ?_
  refine lv_iload_n hx hb dL_law_258 rfl (lv_at hl 3 rfl) ?_
  refine lv_iconst (v := 5) hx hb dL_law_259 (by decide) ?_
  refine lv_iadd hx hb dL_law_260 ?_
  refine va_sld hx hb hX hbl hbA hS (hin 5 (by decide)) dL_law_261 ?_
  obtain ⟨r, d1, d2, hm1, hm2, hR1⟩ := hf k b1 b2 dt1 dt2 (xs (Int32.toNatClampNeg (x3 + 1))) (xs (Int32.toNatClampNeg (x3 + 2))) (xs (Int32.toNatClampNeg (x3 + 3))) (xs (Int32.toNatClampNeg (x3 + 4))) (xs (Int32.toNatClampNeg (x3 + 5))) hk hR
  refine q_callL Y hW1 hW2 (Or.inl hb2) hb1 hS (As := [.int (xs (Int32.toNatClampNeg (x3 + 1))), .int (xs (Int32.toNatClampNeg (x3 + 2))), .int (xs (Int32.toNatClampNeg (x3 + 3))), .int (xs (Int32.toNatClampNeg (x3 + 4))), .int (xs (Int32.toNatClampNeg (x3 + 5)))]) (rest := []) (st1 := [.int r]) (c_X11_feed l D (q_ca b1 q_S1) dt1 b1 (xs (Int32.toNatClampNeg (x3 + 1))) (xs (Int32.toNatClampNeg (x3 + 2))) (xs (Int32.toNatClampNeg (x3 + 3))) (xs (Int32.toNatClampNeg (x3 + 4))) (xs (Int32.toNatClampNeg (x3 + 5))) kd1 r d1 hm1) yl_X11_feed vl_X11_feed ml_RL_13 (ci := 11) rfl kd1 (by decide) rfl ⟨(Nat.le_of_ble_eq_true rfl), (Nat.le_of_ble_eq_true rfl)⟩ hl rfl (Nat.le_of_ble_eq_true rfl) dL_law_262 hcs rfl (fun H locs hW1 hW2 hS => ?_)
  refine lv_aload_n hx hb dL_law_265 rfl (lv_at hl 2 rfl) ?_
  refine lv_aload_n hx hb dL_law_266 rfl (lv_at hl 0 rfl) ?_
  refine lv_iload_n hx hb dL_law_267 rfl (lv_at hl 3 rfl) ?_
  refine lv_iconst (v := 1) hx hb dL_law_268 (by decide) ?_
  refine lv_iadd hx hb dL_law_269 ?_
  refine va_sld hx hb hX hbl hbA hS (hin 1 (by decide)) dL_law_270 ?_
  refine lv_aload_n hx hb dL_law_271 rfl (lv_at hl 0 rfl) ?_
  refine lv_iload_n hx hb dL_law_272 rfl (lv_at hl 3 rfl) ?_
  refine lv_iconst (v := 2) hx hb dL_law_273 (by decide) ?_
  refine lv_iadd hx hb dL_law_274 ?_
  refine va_sld hx hb hX hbl hbA hS (hin 2 (by decide)) dL_law_275 ?_
  refine lv_aload_n hx hb dL_law_276 rfl (lv_at hl 0 rfl) ?_
  refine lv_iload_n hx hb dL_law_277 rfl (lv_at hl 3 rfl) ?_
  refine lv_iconst (v := 3) hx hb dL_law_278 (by decide) ?_
  refine lv_iadd hx hb dL_law_279 ?_
  refine va_sld hx hb hX hbl hbA hS (hin 3 (by decide)) dL_law_280 ?_
  refine lv_aload_n hx hb dL_law_281 rfl (lv_at hl 0 rfl) ?_
  refine lv_iload_n hx hb dL_law_282 rfl (lv_at hl 3 rfl) ?_
  refine lv_iconst (v := 4) hx hb dL_law_283 (by decide) ?_
  refine lv_iadd hx hb dL_law_284 ?_
  refine va_sld hx hb hX hbl hbA hS (hin 4 (by decide)) dL_law_285 ?_
  refine lv_aload_n hx hb dL_law_286 rfl (lv_at hl 0 rfl) ?_
  refine lv_iload_n hx hb dL_law_287 rfl (lv_at hl 3 rfl) ?_
  refine lv_iconst (v := 5) hx hb dL_law_288 (by decide) ?_
  refine lv_iadd hx hb dL_law_289 ?_
  refine va_sld hx hb hX hbl hbA hS (hin 5 (by decide)) dL_law_290 ?_
  refine q_callL Y hW2 hW1 (Or.inr hb2) (Nat.le_trans hb1 (Nat.le_trans (Nat.le_add_right _ _) hb2)) hS (As := [.int (xs (Int32.toNatClampNeg (x3 + 1))), .int (xs (Int32.toNatClampNeg (x3 + 2))), .int (xs (Int32.toNatClampNeg (x3 + 3))), .int (xs (Int32.toNatClampNeg (x3 + 4))), .int (xs (Int32.toNatClampNeg (x3 + 5)))]) (rest := [.int r]) (st1 := [.int r, .int r]) (c_X12_feed l D (q_ca b2 q_S2) dt2 b2 (xs (Int32.toNatClampNeg (x3 + 1))) (xs (Int32.toNatClampNeg (x3 + 2))) (xs (Int32.toNatClampNeg (x3 + 3))) (xs (Int32.toNatClampNeg (x3 + 4))) (xs (Int32.toNatClampNeg (x3 + 5))) kd2 r d2 hm2) yl_X12_feed vl_X12_feed ml_RL_17 (ci := 12) rfl kd2 (by decide) rfl ⟨(Nat.le_of_ble_eq_true rfl), (Nat.le_of_ble_eq_true rfl)⟩ hl rfl (Nat.le_of_ble_eq_true rfl) dL_law_291 hcs rfl (fun H locs hW2 hW1 hS => ?_)
  refine lv_icmp_eq (tgt := 2235) hx hb dL_law_294 (by decide) (fun _ => ?_) (fun q => absurd rfl q)
  exact next _ _ _ _ _ hR1 hW1 hW2 hS hl
set_option maxRecDepth 100000 in
theorem w_back {p : Program} {l : Launch} {e : Env} {s : State} {m : MethodId} {below : List Frame} {meth : Method} {c : Code} {D : q_D} {b L b1 b2 cells slots : Nat} {xs : Nat → Int32} (Y : q_Cy D s.heap.size code 4 ret R_law p s m #[Value.ref b] meth c) (hX : va_X b L xs s s.heap) (hbl : b < s.heap.size) (hb1 : s.heap.size ≤ b1) (hb2 : b1 + q_S1.length ≤ b2) (hcs : cells ≤ room_1.cells ∧ slots ≤ room_1.slots) {Rel : Nat → Nat → Nat → q_Dt → q_Dt → Prop} (hf : q_c_back Rel) {k : Nat} {dt1 dt2 : q_Dt} {H : Heap} {locs : List Loc} {ls : Array Slot} {x3 : Int32} (hk : k < 512) (hR : Rel k b1 b2 dt1 dt2) (hin0 : vp_in x3 L) (hin : ∀ j, j < 8 → vp_in (x3 + Int32.ofNat j) L) (hW1 : q_W D (q_ca b1 q_S1) dt1 H) (hW2 : q_W D (q_ca b2 q_S2) dt2 H) (hS : va_S (fun q => s.heap.size ≤ q) s.heap H locs) (hl : lv_has ls 4 [(0, .ref b), (1, .ref b1), (2, .ref b2), (3, .int x3)]) (next : ∀ (d1 d2 : q_Dt) (H : Heap) (locs : List Loc) (ls : Array Slot), Rel (k + 1) b1 b2 d1 d2 → q_W D (q_ca b1 q_S1) d1 H → q_W D (q_ca b2 q_S2) d2 H → va_S (fun q => s.heap.size ≤ q) s.heap H locs → lv_has ls 4 [(0, .ref b), (1, .ref b1), (2, .ref b2), (3, .int x3)] → W p l e room_1 s m #[Value.ref b] below meth c H locs cells slots (lw_Z below #[Value.ref b] s) (F0 m 2235 ls [])) : W p l e room_1 s m #[Value.ref b] below meth c H locs cells slots (lw_Z below #[Value.ref b] s) (F0 m 299 ls []) := by
  have hx := Y.1
  have hb := Y.2.1
  have hown := Y.2.2.2.2.2.1
  have hts := Y.2.2.2.2.2.2.1
  have hbA : ¬ (fun q : Nat => s.heap.size ≤ q) b := Nat.not_le.mpr hbl
  have kd1 := kd1_ok b1
  have kd2 := kd2_ok b2
  refine lv_aload_n hx hb dL_law_299 rfl (lv_at hl 1 rfl) ?_
  refine lv_aload_n hx hb dL_law_300 rfl (lv_at hl 0 rfl) ?_
  refine lv_iload_n hx hb dL_law_301 rfl (lv_at hl 3 rfl) ?_
  refine lv_iconst (v := 1) hx hb dL_law_302 (by decide) ?_
  refine lv_iadd hx hb dL_law_303 ?_
  refine va_sld hx hb hX hbl hbA hS (hin 1 (by decide)) dL_law_304 ?_
  obtain ⟨r, d1, d2, hm1, hm2, hR1⟩ := hf k b1 b2 dt1 dt2 (xs (Int32.toNatClampNeg (x3 + 1))) hk hR
  refine q_callL Y hW1 hW2 (Or.inl hb2) hb1 hS (As := [.int (xs (Int32.toNatClampNeg (x3 + 1)))]) (rest := []) (st1 := [.int r]) (c_X11_back l D (q_ca b1 q_S1) dt1 b1 (xs (Int32.toNatClampNeg (x3 + 1))) kd1 r d1 hm1) yl_X11_back vl_X11_back ml_RL_18 (ci := 11) rfl kd1 (by decide) rfl ⟨(Nat.le_of_ble_eq_true rfl), (Nat.le_of_ble_eq_true rfl)⟩ hl rfl (Nat.le_of_ble_eq_true rfl) dL_law_305 hcs rfl (fun H locs hW1 hW2 hS => ?_)
  refine lv_aload_n hx hb dL_law_308 rfl (lv_at hl 2 rfl) ?_
  refine lv_aload_n hx hb dL_law_309 rfl (lv_at hl 0 rfl) ?_
  refine lv_iload_n hx hb dL_law_310 rfl (lv_at hl 3 rfl) ?_
  refine lv_iconst (v := 1) hx hb dL_law_311 (by decide) ?_
  refine lv_iadd hx hb dL_law_312 ?_
  refine va_sld hx hb hX hbl hbA hS (hin 1 (by decide)) dL_law_313 ?_
  refine q_callL Y hW2 hW1 (Or.inr hb2) (Nat.le_trans hb1 (Nat.le_trans (Nat.le_add_right _ _) hb2)) hS (As := [.int (xs (Int32.toNatClampNeg (x3 + 1)))]) (rest := [.int r]) (st1 := [.int r, .int r]) (c_X12_back l D (q_ca b2 q_S2) dt2 b2 (xs (Int32.toNatClampNeg (x3 + 1))) kd2 r d2 hm2) yl_X12_back vl_X12_back ml_RL_22 (ci := 12) rfl kd2 (by decide) rfl ⟨(Nat.le_of_ble_eq_true rfl), (Nat.le_of_ble_eq_true rfl)⟩ hl rfl (Nat.le_of_ble_eq_true rfl) dL_law_314 hcs rfl (fun H locs hW2 hW1 hS => ?_)
  refine lv_icmp_eq (tgt := 2235) hx hb dL_law_317 (by decide) (fun _ => ?_) (fun q => absurd rfl q)
  exact next _ _ _ _ _ hR1 hW1 hW2 hS hl
set_option maxRecDepth 100000 in
theorem w_read {p : Program} {l : Launch} {e : Env} {s : State} {m : MethodId} {below : List Frame} {meth : Method} {c : Code} {D : q_D} {b L b1 b2 cells slots : Nat} {xs : Nat → Int32} (Y : q_Cy D s.heap.size code 4 ret R_law p s m #[Value.ref b] meth c) (hX : va_X b L xs s s.heap) (hbl : b < s.heap.size) (hb1 : s.heap.size ≤ b1) (hb2 : b1 + q_S1.length ≤ b2) (hcs : cells ≤ room_1.cells ∧ slots ≤ room_1.slots) {Rel : Nat → Nat → Nat → q_Dt → q_Dt → Prop} (hf : q_c_read Rel) {k : Nat} {dt1 dt2 : q_Dt} {H : Heap} {locs : List Loc} {ls : Array Slot} {x3 : Int32} (hk : k < 512) (hR : Rel k b1 b2 dt1 dt2) (hin0 : vp_in x3 L) (hin : ∀ j, j < 8 → vp_in (x3 + Int32.ofNat j) L) (hW1 : q_W D (q_ca b1 q_S1) dt1 H) (hW2 : q_W D (q_ca b2 q_S2) dt2 H) (hS : va_S (fun q => s.heap.size ≤ q) s.heap H locs) (hl : lv_has ls 4 [(0, .ref b), (1, .ref b1), (2, .ref b2), (3, .int x3)]) (next : ∀ (d1 d2 : q_Dt) (H : Heap) (locs : List Loc) (ls : Array Slot), Rel (k + 1) b1 b2 d1 d2 → q_W D (q_ca b1 q_S1) d1 H → q_W D (q_ca b2 q_S2) d2 H → va_S (fun q => s.heap.size ≤ q) s.heap H locs → lv_has ls 4 [(0, .ref b), (1, .ref b1), (2, .ref b2), (3, .int x3)] → W p l e room_1 s m #[Value.ref b] below meth c H locs cells slots (lw_Z below #[Value.ref b] s) (F0 m 2235 ls [])) : W p l e room_1 s m #[Value.ref b] below meth c H locs cells slots (lw_Z below #[Value.ref b] s) (F0 m 322 ls []) := by
  have hx := Y.1
  have hb := Y.2.1
  have hown := Y.2.2.2.2.2.1
  have hts := Y.2.2.2.2.2.2.1
  have hbA : ¬ (fun q : Nat => s.heap.size ≤ q) b := Nat.not_le.mpr hbl
  have kd1 := kd1_ok b1
  have kd2 := kd2_ok b2
  refine lv_aload_n hx hb dL_law_322 rfl (lv_at hl 1 rfl) ?_
  obtain ⟨r, d1, d2, hm1, hm2, hR1⟩ := hf k b1 b2 dt1 dt2 hk hR
  refine q_callL Y hW1 hW2 (Or.inl hb2) hb1 hS (As := []) (rest := []) (st1 := [.int r]) (c_X11_read l D (q_ca b1 q_S1) dt1 b1  kd1 r d1 hm1) yl_X11_read vl_X11_read ml_RL_23 (ci := 11) rfl kd1 (by decide) rfl ⟨(Nat.le_of_ble_eq_true rfl), (Nat.le_of_ble_eq_true rfl)⟩ hl rfl (Nat.le_of_ble_eq_true rfl) dL_law_323 hcs rfl (fun H locs hW1 hW2 hS => ?_)
  refine lv_aload_n hx hb dL_law_326 rfl (lv_at hl 2 rfl) ?_
  refine q_callL Y hW2 hW1 (Or.inr hb2) (Nat.le_trans hb1 (Nat.le_trans (Nat.le_add_right _ _) hb2)) hS (As := []) (rest := [.int r]) (st1 := [.int r, .int r]) (c_X12_read l D (q_ca b2 q_S2) dt2 b2  kd2 r d2 hm2) yl_X12_read vl_X12_read ml_RL_27 (ci := 12) rfl kd2 (by decide) rfl ⟨(Nat.le_of_ble_eq_true rfl), (Nat.le_of_ble_eq_true rfl)⟩ hl rfl (Nat.le_of_ble_eq_true rfl) dL_law_327 hcs rfl (fun H locs hW2 hW1 hS => ?_)
  refine lv_icmp_eq (tgt := 2235) hx hb dL_law_330 (by decide) (fun _ => ?_) (fun q => absurd rfl q)
  exact next _ _ _ _ _ hR1 hW1 hW2 hS hl
set_option maxRecDepth 100000 in
theorem w_place {p : Program} {l : Launch} {e : Env} {s : State} {m : MethodId} {below : List Frame} {meth : Method} {c : Code} {D : q_D} {b L b1 b2 cells slots : Nat} {xs : Nat → Int32} (Y : q_Cy D s.heap.size code 4 ret R_law p s m #[Value.ref b] meth c) (hX : va_X b L xs s s.heap) (hbl : b < s.heap.size) (hb1 : s.heap.size ≤ b1) (hb2 : b1 + q_S1.length ≤ b2) (hcs : cells ≤ room_1.cells ∧ slots ≤ room_1.slots) {Rel : Nat → Nat → Nat → q_Dt → q_Dt → Prop} (hf : q_c_place Rel) {k : Nat} {dt1 dt2 : q_Dt} {H : Heap} {locs : List Loc} {ls : Array Slot} {x3 : Int32} (hk : k < 512) (hR : Rel k b1 b2 dt1 dt2) (hin0 : vp_in x3 L) (hin : ∀ j, j < 8 → vp_in (x3 + Int32.ofNat j) L) (hW1 : q_W D (q_ca b1 q_S1) dt1 H) (hW2 : q_W D (q_ca b2 q_S2) dt2 H) (hS : va_S (fun q => s.heap.size ≤ q) s.heap H locs) (hl : lv_has ls 4 [(0, .ref b), (1, .ref b1), (2, .ref b2), (3, .int x3)]) (next : ∀ (d1 d2 : q_Dt) (H : Heap) (locs : List Loc) (ls : Array Slot), Rel (k + 1) b1 b2 d1 d2 → q_W D (q_ca b1 q_S1) d1 H → q_W D (q_ca b2 q_S2) d2 H → va_S (fun q => s.heap.size ≤ q) s.heap H locs → lv_has ls 4 [(0, .ref b), (1, .ref b1), (2, .ref b2), (3, .int x3)] → W p l e room_1 s m #[Value.ref b] below meth c H locs cells slots (lw_Z below #[Value.ref b] s) (F0 m 2235 ls [])) : W p l e room_1 s m #[Value.ref b] below meth c H locs cells slots (lw_Z below #[Value.ref b] s) (F0 m 335 ls []) := by
  have hx := Y.1
  have hb := Y.2.1
  have hown := Y.2.2.2.2.2.1
  have hts := Y.2.2.2.2.2.2.1
  have hbA : ¬ (fun q : Nat => s.heap.size ≤ q) b := Nat.not_le.mpr hbl
  have kd1 := kd1_ok b1
  have kd2 := kd2_ok b2
  refine lv_aload_n hx hb dL_law_335 rfl (lv_at hl 1 rfl) ?_
  obtain ⟨r, hm1, hm2, hR1⟩ := hf k b1 b2 dt1 dt2 hk hR
  refine q_callL Y hW1 hW2 (Or.inl hb2) hb1 hS (As := []) (rest := []) (st1 := [.int r]) (c_X11_place l D (q_ca b1 q_S1) dt1 b1  kd1 r hm1) yl_X11_place vl_X11_place ml_RL_28 (ci := 11) rfl kd1 (by decide) rfl ⟨(Nat.le_of_ble_eq_true rfl), (Nat.le_of_ble_eq_true rfl)⟩ hl rfl (Nat.le_of_ble_eq_true rfl) dL_law_336 hcs rfl (fun H locs hW1 hW2 hS => ?_)
  refine lv_aload_n hx hb dL_law_339 rfl (lv_at hl 2 rfl) ?_
  refine q_callL Y hW2 hW1 (Or.inr hb2) (Nat.le_trans hb1 (Nat.le_trans (Nat.le_add_right _ _) hb2)) hS (As := []) (rest := [.int r]) (st1 := [.int r, .int r]) (c_X12_place l D (q_ca b2 q_S2) dt2 b2  kd2 r hm2) yl_X12_place vl_X12_place ml_RL_31 (ci := 12) rfl kd2 (by decide) rfl ⟨(Nat.le_of_ble_eq_true rfl), (Nat.le_of_ble_eq_true rfl)⟩ hl rfl (Nat.le_of_ble_eq_true rfl) dL_law_340 hcs rfl (fun H locs hW2 hW1 hS => ?_)
  refine lv_icmp_eq (tgt := 2235) hx hb dL_law_343 (by decide) (fun _ => ?_) (fun q => absurd rfl q)
  exact next _ _ _ _ _ hR1 hW1 hW2 hS hl
set_option maxRecDepth 100000 in
theorem w_code {p : Program} {l : Launch} {e : Env} {s : State} {m : MethodId} {below : List Frame} {meth : Method} {c : Code} {D : q_D} {b L b1 b2 cells slots : Nat} {xs : Nat → Int32} (Y : q_Cy D s.heap.size code 4 ret R_law p s m #[Value.ref b] meth c) (hX : va_X b L xs s s.heap) (hbl : b < s.heap.size) (hb1 : s.heap.size ≤ b1) (hb2 : b1 + q_S1.length ≤ b2) (hcs : cells ≤ room_1.cells ∧ slots ≤ room_1.slots) {Rel : Nat → Nat → Nat → q_Dt → q_Dt → Prop} (hf : q_c_code Rel) {k : Nat} {dt1 dt2 : q_Dt} {H : Heap} {locs : List Loc} {ls : Array Slot} {x3 : Int32} (hk : k < 512) (hR : Rel k b1 b2 dt1 dt2) (hin0 : vp_in x3 L) (hin : ∀ j, j < 8 → vp_in (x3 + Int32.ofNat j) L) (hW1 : q_W D (q_ca b1 q_S1) dt1 H) (hW2 : q_W D (q_ca b2 q_S2) dt2 H) (hS : va_S (fun q => s.heap.size ≤ q) s.heap H locs) (hl : lv_has ls 4 [(0, .ref b), (1, .ref b1), (2, .ref b2), (3, .int x3)]) (next : ∀ (d1 d2 : q_Dt) (H : Heap) (locs : List Loc) (ls : Array Slot), Rel (k + 1) b1 b2 d1 d2 → q_W D (q_ca b1 q_S1) d1 H → q_W D (q_ca b2 q_S2) d2 H → va_S (fun q => s.heap.size ≤ q) s.heap H locs → lv_has ls 4 [(0, .ref b), (1, .ref b1), (2, .ref b2), (3, .int x3)] → W p l e room_1 s m #[Value.ref b] below meth c H locs cells slots (lw_Z below #[Value.ref b] s) (F0 m 2235 ls [])) : W p l e room_1 s m #[Value.ref b] below meth c H locs cells slots (lw_Z below #[Value.ref b] s) (F0 m 348 ls []) := by
  have hx := Y.1
  have hb := Y.2.1
  have hown := Y.2.2.2.2.2.1
  have hts := Y.2.2.2.2.2.2.1
  have hbA : ¬ (fun q : Nat => s.heap.size ≤ q) b := Nat.not_le.mpr hbl
  have kd1 := kd1_ok b1
  have kd2 := kd2_ok b2
  refine lv_aload_n hx hb dL_law_348 rfl (lv_at hl 1 rfl) ?_
  refine lv_aload_n hx hb dL_law_349 rfl (lv_at hl 0 rfl) ?_
  refine lv_iload_n hx hb dL_law_350 rfl (lv_at hl 3 rfl) ?_
  refine lv_iconst (v := 1) hx hb dL_law_351 (by decide) ?_
  refine lv_iadd hx hb dL_law_352 ?_
  refine va_sld hx hb hX hbl hbA hS (hin 1 (by decide)) dL_law_353 ?_
  refine lv_aload_n hx hb dL_law_354 rfl (lv_at hl 0 rfl) ?_
  refine lv_iload_n hx hb dL_law_355 rfl (lv_at hl 3 rfl) ?_
  refine lv_iconst (v := 2) hx hb dL_law_356 (by decide) ?_
  refine lv_iadd hx hb dL_law_357 ?_
  refine va_sld hx hb hX hbl hbA hS (hin 2 (by decide)) dL_law_358 ?_
  obtain ⟨r, hm1, hm2, hR1⟩ := hf k b1 b2 dt1 dt2 (xs (Int32.toNatClampNeg (x3 + 1))) (xs (Int32.toNatClampNeg (x3 + 2))) hk hR
  refine q_callL Y hW1 hW2 (Or.inl hb2) hb1 hS (As := [.int (xs (Int32.toNatClampNeg (x3 + 1))), .int (xs (Int32.toNatClampNeg (x3 + 2)))]) (rest := []) (st1 := [.int r]) (c_X11_code l D (q_ca b1 q_S1) dt1 b1 (xs (Int32.toNatClampNeg (x3 + 1))) (xs (Int32.toNatClampNeg (x3 + 2))) kd1 r hm1) yl_X11_code vl_X11_code ml_RL_32 (ci := 11) rfl kd1 (by decide) rfl ⟨(Nat.le_of_ble_eq_true rfl), (Nat.le_of_ble_eq_true rfl)⟩ hl rfl (Nat.le_of_ble_eq_true rfl) dL_law_359 hcs rfl (fun H locs hW1 hW2 hS => ?_)
  refine lv_aload_n hx hb dL_law_362 rfl (lv_at hl 2 rfl) ?_
  refine lv_aload_n hx hb dL_law_363 rfl (lv_at hl 0 rfl) ?_
  refine lv_iload_n hx hb dL_law_364 rfl (lv_at hl 3 rfl) ?_
  refine lv_iconst (v := 1) hx hb dL_law_365 (by decide) ?_
  refine lv_iadd hx hb dL_law_366 ?_
  refine va_sld hx hb hX hbl hbA hS (hin 1 (by decide)) dL_law_367 ?_
  refine lv_aload_n hx hb dL_law_368 rfl (lv_at hl 0 rfl) ?_
  refine lv_iload_n hx hb dL_law_369 rfl (lv_at hl 3 rfl) ?_
  refine lv_iconst (v := 2) hx hb dL_law_370 (by decide) ?_
  refine lv_iadd hx hb dL_law_371 ?_
  refine va_sld hx hb hX hbl hbA hS (hin 2 (by decide)) dL_law_372 ?_
  refine q_callL Y hW2 hW1 (Or.inr hb2) (Nat.le_trans hb1 (Nat.le_trans (Nat.le_add_right _ _) hb2)) hS (As := [.int (xs (Int32.toNatClampNeg (x3 + 1))), .int (xs (Int32.toNatClampNeg (x3 + 2)))]) (rest := [.int r]) (st1 := [.int r, .int r]) (c_X12_code l D (q_ca b2 q_S2) dt2 b2 (xs (Int32.toNatClampNeg (x3 + 1))) (xs (Int32.toNatClampNeg (x3 + 2))) kd2 r hm2) yl_X12_code vl_X12_code ml_RL_36 (ci := 12) rfl kd2 (by decide) rfl ⟨(Nat.le_of_ble_eq_true rfl), (Nat.le_of_ble_eq_true rfl)⟩ hl rfl (Nat.le_of_ble_eq_true rfl) dL_law_373 hcs rfl (fun H locs hW2 hW1 hS => ?_)
  refine lv_icmp_eq (tgt := 2235) hx hb dL_law_376 (by decide) (fun _ => ?_) (fun q => absurd rfl q)
  exact next _ _ _ _ _ hR1 hW1 hW2 hS hl
set_option maxRecDepth 100000 in
theorem w_chip {p : Program} {l : Launch} {e : Env} {s : State} {m : MethodId} {below : List Frame} {meth : Method} {c : Code} {D : q_D} {b L b1 b2 cells slots : Nat} {xs : Nat → Int32} (Y : q_Cy D s.heap.size code 4 ret R_law p s m #[Value.ref b] meth c) (hX : va_X b L xs s s.heap) (hbl : b < s.heap.size) (hb1 : s.heap.size ≤ b1) (hb2 : b1 + q_S1.length ≤ b2) (hcs : cells ≤ room_1.cells ∧ slots ≤ room_1.slots) {Rel : Nat → Nat → Nat → q_Dt → q_Dt → Prop} (hf : q_c_chip Rel) {k : Nat} {dt1 dt2 : q_Dt} {H : Heap} {locs : List Loc} {ls : Array Slot} {x3 : Int32} (hk : k < 512) (hR : Rel k b1 b2 dt1 dt2) (hin0 : vp_in x3 L) (hin : ∀ j, j < 8 → vp_in (x3 + Int32.ofNat j) L) (hW1 : q_W D (q_ca b1 q_S1) dt1 H) (hW2 : q_W D (q_ca b2 q_S2) dt2 H) (hS : va_S (fun q => s.heap.size ≤ q) s.heap H locs) (hl : lv_has ls 4 [(0, .ref b), (1, .ref b1), (2, .ref b2), (3, .int x3)]) (next : ∀ (d1 d2 : q_Dt) (H : Heap) (locs : List Loc) (ls : Array Slot), Rel (k + 1) b1 b2 d1 d2 → q_W D (q_ca b1 q_S1) d1 H → q_W D (q_ca b2 q_S2) d2 H → va_S (fun q => s.heap.size ≤ q) s.heap H locs → lv_has ls 4 [(0, .ref b), (1, .ref b1), (2, .ref b2), (3, .int x3)] → W p l e room_1 s m #[Value.ref b] below meth c H locs cells slots (lw_Z below #[Value.ref b] s) (F0 m 2235 ls [])) : W p l e room_1 s m #[Value.ref b] below meth c H locs cells slots (lw_Z below #[Value.ref b] s) (F0 m 381 ls []) := by
  have hx := Y.1
  have hb := Y.2.1
  have hown := Y.2.2.2.2.2.1
  have hts := Y.2.2.2.2.2.2.1
  have hbA : ¬ (fun q : Nat => s.heap.size ≤ q) b := Nat.not_le.mpr hbl
  have kd1 := kd1_ok b1
  have kd2 := kd2_ok b2
  refine lv_aload_n hx hb dL_law_381 rfl (lv_at hl 1 rfl) ?_
  refine lv_aload_n hx hb dL_law_382 rfl (lv_at hl 0 rfl) ?_
  refine lv_iload_n hx hb dL_law_383 rfl (lv_at hl 3 rfl) ?_
  refine lv_iconst (v := 1) hx hb dL_law_384 (by decide) ?_
  refine lv_iadd hx hb dL_law_385 ?_
  refine va_sld hx hb hX hbl hbA hS (hin 1 (by decide)) dL_law_386 ?_
  refine lv_aload_n hx hb dL_law_387 rfl (lv_at hl 0 rfl) ?_
  refine lv_iload_n hx hb dL_law_388 rfl (lv_at hl 3 rfl) ?_
  refine lv_iconst (v := 2) hx hb dL_law_389 (by decide) ?_
  refine lv_iadd hx hb dL_law_390 ?_
  refine va_sld hx hb hX hbl hbA hS (hin 2 (by decide)) dL_law_391 ?_
  obtain ⟨r, hm1, hm2, hR1⟩ := hf k b1 b2 dt1 dt2 (xs (Int32.toNatClampNeg (x3 + 1))) (xs (Int32.toNatClampNeg (x3 + 2))) hk hR
  refine q_callL Y hW1 hW2 (Or.inl hb2) hb1 hS (As := [.int (xs (Int32.toNatClampNeg (x3 + 1))), .int (xs (Int32.toNatClampNeg (x3 + 2)))]) (rest := []) (st1 := [.int r]) (c_X11_chip l D (q_ca b1 q_S1) dt1 b1 (xs (Int32.toNatClampNeg (x3 + 1))) (xs (Int32.toNatClampNeg (x3 + 2))) kd1 r hm1) yl_X11_chip vl_X11_chip ml_RL_37 (ci := 11) rfl kd1 (by decide) rfl ⟨(Nat.le_of_ble_eq_true rfl), (Nat.le_of_ble_eq_true rfl)⟩ hl rfl (Nat.le_of_ble_eq_true rfl) dL_law_392 hcs rfl (fun H locs hW1 hW2 hS => ?_)
  refine lv_aload_n hx hb dL_law_395 rfl (lv_at hl 2 rfl) ?_
  refine lv_aload_n hx hb dL_law_396 rfl (lv_at hl 0 rfl) ?_
  refine lv_iload_n hx hb dL_law_397 rfl (lv_at hl 3 rfl) ?_
  refine lv_iconst (v := 1) hx hb dL_law_398 (by decide) ?_
  refine lv_iadd hx hb dL_law_399 ?_
  refine va_sld hx hb hX hbl hbA hS (hin 1 (by decide)) dL_law_400 ?_
  refine lv_aload_n hx hb dL_law_401 rfl (lv_at hl 0 rfl) ?_
  refine lv_iload_n hx hb dL_law_402 rfl (lv_at hl 3 rfl) ?_
  refine lv_iconst (v := 2) hx hb dL_law_403 (by decide) ?_
  refine lv_iadd hx hb dL_law_404 ?_
  refine va_sld hx hb hX hbl hbA hS (hin 2 (by decide)) dL_law_405 ?_
  refine q_callL Y hW2 hW1 (Or.inr hb2) (Nat.le_trans hb1 (Nat.le_trans (Nat.le_add_right _ _) hb2)) hS (As := [.int (xs (Int32.toNatClampNeg (x3 + 1))), .int (xs (Int32.toNatClampNeg (x3 + 2)))]) (rest := [.int r]) (st1 := [.int r, .int r]) (c_X12_chip l D (q_ca b2 q_S2) dt2 b2 (xs (Int32.toNatClampNeg (x3 + 1))) (xs (Int32.toNatClampNeg (x3 + 2))) kd2 r hm2) yl_X12_chip vl_X12_chip ml_RL_40 (ci := 12) rfl kd2 (by decide) rfl ⟨(Nat.le_of_ble_eq_true rfl), (Nat.le_of_ble_eq_true rfl)⟩ hl rfl (Nat.le_of_ble_eq_true rfl) dL_law_406 hcs rfl (fun H locs hW2 hW1 hS => ?_)
  refine lv_icmp_eq (tgt := 2235) hx hb dL_law_409 (by decide) (fun _ => ?_) (fun q => absurd rfl q)
  exact next _ _ _ _ _ hR1 hW1 hW2 hS hl
set_option maxRecDepth 100000 in
theorem w_alike {p : Program} {l : Launch} {e : Env} {s : State} {m : MethodId} {below : List Frame} {meth : Method} {c : Code} {D : q_D} {b L b1 b2 cells slots : Nat} {xs : Nat → Int32} (Y : q_Cy D s.heap.size code 4 ret R_law p s m #[Value.ref b] meth c) (hX : va_X b L xs s s.heap) (hbl : b < s.heap.size) (hb1 : s.heap.size ≤ b1) (hb2 : b1 + q_S1.length ≤ b2) (hcs : cells ≤ room_1.cells ∧ slots ≤ room_1.slots) {Rel : Nat → Nat → Nat → q_Dt → q_Dt → Prop} (hf : q_c_alike Rel) {k : Nat} {dt1 dt2 : q_Dt} {H : Heap} {locs : List Loc} {ls : Array Slot} {x3 : Int32} (hk : k < 512) (hR : Rel k b1 b2 dt1 dt2) (hin0 : vp_in x3 L) (hin : ∀ j, j < 8 → vp_in (x3 + Int32.ofNat j) L) (hW1 : q_W D (q_ca b1 q_S1) dt1 H) (hW2 : q_W D (q_ca b2 q_S2) dt2 H) (hS : va_S (fun q => s.heap.size ≤ q) s.heap H locs) (hl : lv_has ls 4 [(0, .ref b), (1, .ref b1), (2, .ref b2), (3, .int x3)]) (next : ∀ (d1 d2 : q_Dt) (H : Heap) (locs : List Loc) (ls : Array Slot), Rel (k + 1) b1 b2 d1 d2 → q_W D (q_ca b1 q_S1) d1 H → q_W D (q_ca b2 q_S2) d2 H → va_S (fun q => s.heap.size ≤ q) s.heap H locs → lv_has ls 4 [(0, .ref b), (1, .ref b1), (2, .ref b2), (3, .int x3)] → W p l e room_1 s m #[Value.ref b] below meth c H locs cells slots (lw_Z below #[Value.ref b] s) (F0 m 2235 ls [])) : W p l e room_1 s m #[Value.ref b] below meth c H locs cells slots (lw_Z below #[Value.ref b] s) (F0 m 414 ls []) := by
  have hx := Y.1
  have hb := Y.2.1
  have hown := Y.2.2.2.2.2.1
  have hts := Y.2.2.2.2.2.2.1
  have hbA : ¬ (fun q : Nat => s.heap.size ≤ q) b := Nat.not_le.mpr hbl
  have kd1 := kd1_ok b1
  have kd2 := kd2_ok b2
  refine lv_aload_n hx hb dL_law_414 rfl (lv_at hl 1 rfl) ?_
  refine lv_aload_n hx hb dL_law_415 rfl (lv_at hl 0 rfl) ?_
  refine lv_iload_n hx hb dL_law_416 rfl (lv_at hl 3 rfl) ?_
  refine lv_iconst (v := 1) hx hb dL_law_417 (by decide) ?_
  refine lv_iadd hx hb dL_law_418 ?_
  refine va_sld hx hb hX hbl hbA hS (hin 1 (by decide)) dL_law_419 ?_
  refine lv_aload_n hx hb dL_law_420 rfl (lv_at hl 0 rfl) ?_
  refine lv_iload_n hx hb dL_law_421 rfl (lv_at hl 3 rfl) ?_
  refine lv_iconst (v := 2) hx hb dL_law_422 (by decide) ?_
  refine lv_iadd hx hb dL_law_423 ?_
  refine va_sld hx hb hX hbl hbA hS (hin 2 (by decide)) dL_law_424 ?_
  refine lv_aload_n hx hb dL_law_425 rfl (lv_at hl 0 rfl) ?_
  refine lv_iload_n hx hb dL_law_426 rfl (lv_at hl 3 rfl) ?_
  refine lv_iconst (v := 3) hx hb dL_law_427 (by decide) ?_
  refine lv_iadd hx hb dL_law_428 ?_
  refine va_sld hx hb hX hbl hbA hS (hin 3 (by decide)) dL_law_429 ?_
  obtain ⟨r, hm1, hm2, hR1⟩ := hf k b1 b2 dt1 dt2 (xs (Int32.toNatClampNeg (x3 + 1))) (xs (Int32.toNatClampNeg (x3 + 2))) (xs (Int32.toNatClampNeg (x3 + 3))) hk hR
  refine q_callL Y hW1 hW2 (Or.inl hb2) hb1 hS (As := [.int (xs (Int32.toNatClampNeg (x3 + 1))), .int (xs (Int32.toNatClampNeg (x3 + 2))), .int (xs (Int32.toNatClampNeg (x3 + 3)))]) (rest := []) (st1 := [.int r]) (c_X11_alike l D (q_ca b1 q_S1) dt1 b1 (xs (Int32.toNatClampNeg (x3 + 1))) (xs (Int32.toNatClampNeg (x3 + 2))) (xs (Int32.toNatClampNeg (x3 + 3))) kd1 r hm1) yl_X11_alike vl_X11_alike ml_RL_41 (ci := 11) rfl kd1 (by decide) rfl ⟨(Nat.le_of_ble_eq_true rfl), (Nat.le_of_ble_eq_true rfl)⟩ hl rfl (Nat.le_of_ble_eq_true rfl) dL_law_430 hcs rfl (fun H locs hW1 hW2 hS => ?_)
  refine lv_aload_n hx hb dL_law_433 rfl (lv_at hl 2 rfl) ?_
  refine lv_aload_n hx hb dL_law_434 rfl (lv_at hl 0 rfl) ?_
  refine lv_iload_n hx hb dL_law_435 rfl (lv_at hl 3 rfl) ?_
  refine lv_iconst (v := 1) hx hb dL_law_436 (by decide) ?_
  refine lv_iadd hx hb dL_law_437 ?_
  refine va_sld hx hb hX hbl hbA hS (hin 1 (by decide)) dL_law_438 ?_
  refine lv_aload_n hx hb dL_law_439 rfl (lv_at hl 0 rfl) ?_
  refine lv_iload_n hx hb dL_law_440 rfl (lv_at hl 3 rfl) ?_
  refine lv_iconst (v := 2) hx hb dL_law_441 (by decide) ?_
  refine lv_iadd hx hb dL_law_442 ?_
  refine va_sld hx hb hX hbl hbA hS (hin 2 (by decide)) dL_law_443 ?_
  refine lv_aload_n hx hb dL_law_444 rfl (lv_at hl 0 rfl) ?_
  refine lv_iload_n hx hb dL_law_445 rfl (lv_at hl 3 rfl) ?_
  refine lv_iconst (v := 3) hx hb dL_law_446 (by decide) ?_
  refine lv_iadd hx hb dL_law_447 ?_
  refine va_sld hx hb hX hbl hbA hS (hin 3 (by decide)) dL_law_448 ?_
  refine q_callL Y hW2 hW1 (Or.inr hb2) (Nat.le_trans hb1 (Nat.le_trans (Nat.le_add_right _ _) hb2)) hS (As := [.int (xs (Int32.toNatClampNeg (x3 + 1))), .int (xs (Int32.toNatClampNeg (x3 + 2))), .int (xs (Int32.toNatClampNeg (x3 + 3)))]) (rest := [.int r]) (st1 := [.int r, .int r]) (c_X12_alike l D (q_ca b2 q_S2) dt2 b2 (xs (Int32.toNatClampNeg (x3 + 1))) (xs (Int32.toNatClampNeg (x3 + 2))) (xs (Int32.toNatClampNeg (x3 + 3))) kd2 r hm2) yl_X12_alike vl_X12_alike ml_RL_45 (ci := 12) rfl kd2 (by decide) rfl ⟨(Nat.le_of_ble_eq_true rfl), (Nat.le_of_ble_eq_true rfl)⟩ hl rfl (Nat.le_of_ble_eq_true rfl) dL_law_449 hcs rfl (fun H locs hW2 hW1 hS => ?_)
  refine lv_icmp_eq (tgt := 2235) hx hb dL_law_452 (by decide) (fun _ => ?_) (fun q => absurd rfl q)
  exact next _ _ _ _ _ hR1 hW1 hW2 hS hl
set_option maxRecDepth 100000 in
theorem w_worst {p : Program} {l : Launch} {e : Env} {s : State} {m : MethodId} {below : List Frame} {meth : Method} {c : Code} {D : q_D} {b L b1 b2 cells slots : Nat} {xs : Nat → Int32} (Y : q_Cy D s.heap.size code 4 ret R_law p s m #[Value.ref b] meth c) (hX : va_X b L xs s s.heap) (hbl : b < s.heap.size) (hb1 : s.heap.size ≤ b1) (hb2 : b1 + q_S1.length ≤ b2) (hcs : cells ≤ room_1.cells ∧ slots ≤ room_1.slots) {Rel : Nat → Nat → Nat → q_Dt → q_Dt → Prop} (hf : q_c_worst Rel) {k : Nat} {dt1 dt2 : q_Dt} {H : Heap} {locs : List Loc} {ls : Array Slot} {x3 : Int32} (hk : k < 512) (hR : Rel k b1 b2 dt1 dt2) (hin0 : vp_in x3 L) (hin : ∀ j, j < 8 → vp_in (x3 + Int32.ofNat j) L) (hW1 : q_W D (q_ca b1 q_S1) dt1 H) (hW2 : q_W D (q_ca b2 q_S2) dt2 H) (hS : va_S (fun q => s.heap.size ≤ q) s.heap H locs) (hl : lv_has ls 4 [(0, .ref b), (1, .ref b1), (2, .ref b2), (3, .int x3)]) (next : ∀ (d1 d2 : q_Dt) (H : Heap) (locs : List Loc) (ls : Array Slot), Rel (k + 1) b1 b2 d1 d2 → q_W D (q_ca b1 q_S1) d1 H → q_W D (q_ca b2 q_S2) d2 H → va_S (fun q => s.heap.size ≤ q) s.heap H locs → lv_has ls 4 [(0, .ref b), (1, .ref b1), (2, .ref b2), (3, .int x3)] → W p l e room_1 s m #[Value.ref b] below meth c H locs cells slots (lw_Z below #[Value.ref b] s) (F0 m 2235 ls [])) : W p l e room_1 s m #[Value.ref b] below meth c H locs cells slots (lw_Z below #[Value.ref b] s) (F0 m 457 ls []) := by
  have hx := Y.1
  have hb := Y.2.1
  have hown := Y.2.2.2.2.2.1
  have hts := Y.2.2.2.2.2.2.1
  have hbA : ¬ (fun q : Nat => s.heap.size ≤ q) b := Nat.not_le.mpr hbl
  have kd1 := kd1_ok b1
  have kd2 := kd2_ok b2
  refine lv_aload_n hx hb dL_law_457 rfl (lv_at hl 1 rfl) ?_
  refine lv_aload_n hx hb dL_law_458 rfl (lv_at hl 0 rfl) ?_
  refine lv_iload_n hx hb dL_law_459 rfl (lv_at hl 3 rfl) ?_
  refine lv_iconst (v := 1) hx hb dL_law_460 (by decide) ?_
  refine lv_iadd hx hb dL_law_461 ?_
  refine va_sld hx hb hX hbl hbA hS (hin 1 (by decide)) dL_law_462 ?_
  refine lv_aload_n hx hb dL_law_463 rfl (lv_at hl 0 rfl) ?_
  refine lv_iload_n hx hb dL_law_464 rfl (lv_at hl 3 rfl) ?_
  refine lv_iconst (v := 2) hx hb dL_law_465 (by decide) ?_
  refine lv_iadd hx hb dL_law_466 ?_
  refine va_sld hx hb hX hbl hbA hS (hin 2 (by decide)) dL_law_467 ?_
  obtain ⟨r, hm1, hm2, hR1⟩ := hf k b1 b2 dt1 dt2 (xs (Int32.toNatClampNeg (x3 + 1))) (xs (Int32.toNatClampNeg (x3 + 2))) hk hR
  refine q_callL Y hW1 hW2 (Or.inl hb2) hb1 hS (As := [.int (xs (Int32.toNatClampNeg (x3 + 1))), .int (xs (Int32.toNatClampNeg (x3 + 2)))]) (rest := []) (st1 := [.int r]) (c_X11_worst l D (q_ca b1 q_S1) dt1 b1 (xs (Int32.toNatClampNeg (x3 + 1))) (xs (Int32.toNatClampNeg (x3 + 2))) kd1 r hm1) yl_X11_worst vl_X11_worst ml_RL_46 (ci := 11) rfl kd1 (by decide) rfl ⟨(Nat.le_of_ble_eq_true rfl), (Nat.le_of_ble_eq_true rfl)⟩ hl rfl (Nat.le_of_ble_eq_true rfl) dL_law_468 hcs rfl (fun H locs hW1 hW2 hS => ?_)
  refine lv_aload_n hx hb dL_law_471 rfl (lv_at hl 2 rfl) ?_
  refine lv_aload_n hx hb dL_law_472 rfl (lv_at hl 0 rfl) ?_
  refine lv_iload_n hx hb dL_law_473 rfl (lv_at hl 3 rfl) ?_
  refine lv_iconst (v := 1) hx hb dL_law_474 (by decide) ?_
  refine lv_iadd hx hb dL_law_475 ?_
  refine va_sld hx hb hX hbl hbA hS (hin 1 (by decide)) dL_law_476 ?_
  refine lv_aload_n hx hb dL_law_477 rfl (lv_at hl 0 rfl) ?_
  refine lv_iload_n hx hb dL_law_478 rfl (lv_at hl 3 rfl) ?_
  refine lv_iconst (v := 2) hx hb dL_law_479 (by decide) ?_
  refine lv_iadd hx hb dL_law_480 ?_
  refine va_sld hx hb hX hbl hbA hS (hin 2 (by decide)) dL_law_481 ?_
  refine q_callL Y hW2 hW1 (Or.inr hb2) (Nat.le_trans hb1 (Nat.le_trans (Nat.le_add_right _ _) hb2)) hS (As := [.int (xs (Int32.toNatClampNeg (x3 + 1))), .int (xs (Int32.toNatClampNeg (x3 + 2)))]) (rest := [.int r]) (st1 := [.int r, .int r]) (c_X12_worst l D (q_ca b2 q_S2) dt2 b2 (xs (Int32.toNatClampNeg (x3 + 1))) (xs (Int32.toNatClampNeg (x3 + 2))) kd2 r hm2) yl_X12_worst vl_X12_worst ml_RL_49 (ci := 12) rfl kd2 (by decide) rfl ⟨(Nat.le_of_ble_eq_true rfl), (Nat.le_of_ble_eq_true rfl)⟩ hl rfl (Nat.le_of_ble_eq_true rfl) dL_law_482 hcs rfl (fun H locs hW2 hW1 hS => ?_)
  refine lv_icmp_eq (tgt := 2235) hx hb dL_law_485 (by decide) (fun _ => ?_) (fun q => absurd rfl q)
  exact next _ _ _ _ _ hR1 hW1 hW2 hS hl
set_option maxRecDepth 100000 in
theorem w_times {p : Program} {l : Launch} {e : Env} {s : State} {m : MethodId} {below : List Frame} {meth : Method} {c : Code} {D : q_D} {b L b1 b2 cells slots : Nat} {xs : Nat → Int32} (Y : q_Cy D s.heap.size code 4 ret R_law p s m #[Value.ref b] meth c) (hX : va_X b L xs s s.heap) (hbl : b < s.heap.size) (hb1 : s.heap.size ≤ b1) (hb2 : b1 + q_S1.length ≤ b2) (hcs : cells ≤ room_1.cells ∧ slots ≤ room_1.slots) {Rel : Nat → Nat → Nat → q_Dt → q_Dt → Prop} (hf : q_c_times Rel) {k : Nat} {dt1 dt2 : q_Dt} {H : Heap} {locs : List Loc} {ls : Array Slot} {x3 : Int32} (hk : k < 512) (hR : Rel k b1 b2 dt1 dt2) (hin0 : vp_in x3 L) (hin : ∀ j, j < 8 → vp_in (x3 + Int32.ofNat j) L) (hW1 : q_W D (q_ca b1 q_S1) dt1 H) (hW2 : q_W D (q_ca b2 q_S2) dt2 H) (hS : va_S (fun q => s.heap.size ≤ q) s.heap H locs) (hl : lv_has ls 4 [(0, .ref b), (1, .ref b1), (2, .ref b2), (3, .int x3)]) (next : ∀ (d1 d2 : q_Dt) (H : Heap) (locs : List Loc) (ls : Array Slot), Rel (k + 1) b1 b2 d1 d2 → q_W D (q_ca b1 q_S1) d1 H → q_W D (q_ca b2 q_S2) d2 H → va_S (fun q => s.heap.size ≤ q) s.heap H locs → lv_has ls 4 [(0, .ref b), (1, .ref b1), (2, .ref b2), (3, .int x3)] → W p l e room_1 s m #[Value.ref b] below meth c H locs cells slots (lw_Z below #[Value.ref b] s) (F0 m 2235 ls [])) : W p l e room_1 s m #[Value.ref b] below meth c H locs cells slots (lw_Z below #[Value.ref b] s) (F0 m 490 ls []) := by
  have hx := Y.1
  have hb := Y.2.1
  have hown := Y.2.2.2.2.2.1
  have hts := Y.2.2.2.2.2.2.1
  have hbA : ¬ (fun q : Nat => s.heap.size ≤ q) b := Nat.not_le.mpr hbl
  have kd1 := kd1_ok b1
  have kd2 := kd2_ok b2
  refine lv_aload_n hx hb dL_law_490 rfl (lv_at hl 1 rfl) ?_
  refine lv_aload_n hx hb dL_law_491 rfl (lv_at hl 0 rfl) ?_
  refine lv_iload_n hx hb dL_law_492 rfl (lv_at hl 3 rfl) ?_
  refine lv_iconst (v := 1) hx hb dL_law_493 (by decide) ?_
  refine lv_iadd hx hb dL_law_494 ?_
  refine va_sld hx hb hX hbl hbA hS (hin 1 (by decide)) dL_law_495 ?_
  refine lv_aload_n hx hb dL_law_496 rfl (lv_at hl 0 rfl) ?_
  refine lv_iload_n hx hb dL_law_497 rfl (lv_at hl 3 rfl) ?_
  refine lv_iconst (v := 2) hx hb dL_law_498 (by decide) ?_
  refine lv_iadd hx hb dL_law_499 ?_
  refine va_sld hx hb hX hbl hbA hS (hin 2 (by decide)) dL_law_500 ?_
  refine lv_aload_n hx hb dL_law_501 rfl (lv_at hl 0 rfl) ?_
  refine lv_iload_n hx hb dL_law_502 rfl (lv_at hl 3 rfl) ?_
  refine lv_iconst (v := 3) hx hb dL_law_503 (by decide) ?_
  refine lv_iadd hx hb dL_law_504 ?_
  refine va_sld hx hb hX hbl hbA hS (hin 3 (by decide)) dL_law_505 ?_
  obtain ⟨r, hm1, hm2, hR1⟩ := hf k b1 b2 dt1 dt2 (xs (Int32.toNatClampNeg (x3 + 1))) (xs (Int32.toNatClampNeg (x3 + 2))) (xs (Int32.toNatClampNeg (x3 + 3))) hk hR
  refine q_callL Y hW1 hW2 (Or.inl hb2) hb1 hS (As := [.int (xs (Int32.toNatClampNeg (x3 + 1))), .int (xs (Int32.toNatClampNeg (x3 + 2))), .int (xs (Int32.toNatClampNeg (x3 + 3)))]) (rest := []) (st1 := [.int r]) (c_X11_times l D (q_ca b1 q_S1) dt1 b1 (xs (Int32.toNatClampNeg (x3 + 1))) (xs (Int32.toNatClampNeg (x3 + 2))) (xs (Int32.toNatClampNeg (x3 + 3))) kd1 r hm1) yl_X11_times vl_X11_times ml_RL_50 (ci := 11) rfl kd1 (by decide) rfl ⟨(Nat.le_of_ble_eq_true rfl), (Nat.le_of_ble_eq_true rfl)⟩ hl rfl (Nat.le_of_ble_eq_true rfl) dL_law_506 hcs rfl (fun H locs hW1 hW2 hS => ?_)
  refine lv_aload_n hx hb dL_law_509 rfl (lv_at hl 2 rfl) ?_
  refine lv_aload_n hx hb dL_law_510 rfl (lv_at hl 0 rfl) ?_
  refine lv_iload_n hx hb dL_law_511 rfl (lv_at hl 3 rfl) ?_
  refine lv_iconst (v := 1) hx hb dL_law_512 (by decide) ?_
  refine lv_iadd hx hb dL_law_513 ?_
  refine va_sld hx hb hX hbl hbA hS (hin 1 (by decide)) dL_law_514 ?_
  refine lv_aload_n hx hb dL_law_515 rfl (lv_at hl 0 rfl) ?_
  refine lv_iload_n hx hb dL_law_516 rfl (lv_at hl 3 rfl) ?_
  refine lv_iconst (v := 2) hx hb dL_law_517 (by decide) ?_
  refine lv_iadd hx hb dL_law_518 ?_
  refine va_sld hx hb hX hbl hbA hS (hin 2 (by decide)) dL_law_519 ?_
  refine lv_aload_n hx hb dL_law_520 rfl (lv_at hl 0 rfl) ?_
  refine lv_iload_n hx hb dL_law_521 rfl (lv_at hl 3 rfl) ?_
  refine lv_iconst (v := 3) hx hb dL_law_522 (by decide) ?_
  refine lv_iadd hx hb dL_law_523 ?_
  refine va_sld hx hb hX hbl hbA hS (hin 3 (by decide)) dL_law_524 ?_
  refine q_callL Y hW2 hW1 (Or.inr hb2) (Nat.le_trans hb1 (Nat.le_trans (Nat.le_add_right _ _) hb2)) hS (As := [.int (xs (Int32.toNatClampNeg (x3 + 1))), .int (xs (Int32.toNatClampNeg (x3 + 2))), .int (xs (Int32.toNatClampNeg (x3 + 3)))]) (rest := [.int r]) (st1 := [.int r, .int r]) (c_X12_times l D (q_ca b2 q_S2) dt2 b2 (xs (Int32.toNatClampNeg (x3 + 1))) (xs (Int32.toNatClampNeg (x3 + 2))) (xs (Int32.toNatClampNeg (x3 + 3))) kd2 r hm2) yl_X12_times vl_X12_times ml_RL_53 (ci := 12) rfl kd2 (by decide) rfl ⟨(Nat.le_of_ble_eq_true rfl), (Nat.le_of_ble_eq_true rfl)⟩ hl rfl (Nat.le_of_ble_eq_true rfl) dL_law_525 hcs rfl (fun H locs hW2 hW1 hS => ?_)
  refine lv_icmp_eq (tgt := 2235) hx hb dL_law_528 (by decide) (fun _ => ?_) (fun q => absurd rfl q)
  exact next _ _ _ _ _ hR1 hW1 hW2 hS hl
set_option maxRecDepth 100000 in
theorem w_depth {p : Program} {l : Launch} {e : Env} {s : State} {m : MethodId} {below : List Frame} {meth : Method} {c : Code} {D : q_D} {b L b1 b2 cells slots : Nat} {xs : Nat → Int32} (Y : q_Cy D s.heap.size code 4 ret R_law p s m #[Value.ref b] meth c) (hX : va_X b L xs s s.heap) (hbl : b < s.heap.size) (hb1 : s.heap.size ≤ b1) (hb2 : b1 + q_S1.length ≤ b2) (hcs : cells ≤ room_1.cells ∧ slots ≤ room_1.slots) {Rel : Nat → Nat → Nat → q_Dt → q_Dt → Prop} (hf : q_c_depth Rel) {k : Nat} {dt1 dt2 : q_Dt} {H : Heap} {locs : List Loc} {ls : Array Slot} {x3 : Int32} (hk : k < 512) (hR : Rel k b1 b2 dt1 dt2) (hin0 : vp_in x3 L) (hin : ∀ j, j < 8 → vp_in (x3 + Int32.ofNat j) L) (hW1 : q_W D (q_ca b1 q_S1) dt1 H) (hW2 : q_W D (q_ca b2 q_S2) dt2 H) (hS : va_S (fun q => s.heap.size ≤ q) s.heap H locs) (hl : lv_has ls 4 [(0, .ref b), (1, .ref b1), (2, .ref b2), (3, .int x3)]) (next : ∀ (d1 d2 : q_Dt) (H : Heap) (locs : List Loc) (ls : Array Slot), Rel (k + 1) b1 b2 d1 d2 → q_W D (q_ca b1 q_S1) d1 H → q_W D (q_ca b2 q_S2) d2 H → va_S (fun q => s.heap.size ≤ q) s.heap H locs → lv_has ls 4 [(0, .ref b), (1, .ref b1), (2, .ref b2), (3, .int x3)] → W p l e room_1 s m #[Value.ref b] below meth c H locs cells slots (lw_Z below #[Value.ref b] s) (F0 m 2235 ls [])) : W p l e room_1 s m #[Value.ref b] below meth c H locs cells slots (lw_Z below #[Value.ref b] s) (F0 m 533 ls []) := by
  have hx := Y.1
  have hb := Y.2.1
  have hown := Y.2.2.2.2.2.1
  have hts := Y.2.2.2.2.2.2.1
  have hbA : ¬ (fun q : Nat => s.heap.size ≤ q) b := Nat.not_le.mpr hbl
  have kd1 := kd1_ok b1
  have kd2 := kd2_ok b2
  refine lv_aload_n hx hb dL_law_533 rfl (lv_at hl 1 rfl) ?_
  refine lv_aload_n hx hb dL_law_534 rfl (lv_at hl 0 rfl) ?_
  refine lv_iload_n hx hb dL_law_535 rfl (lv_at hl 3 rfl) ?_
  refine lv_iconst (v := 1) hx hb dL_law_536 (by decide) ?_
  refine lv_iadd hx hb dL_law_537 ?_
  refine va_sld hx hb hX hbl hbA hS (hin 1 (by decide)) dL_law_538 ?_
  obtain ⟨r, d1, d2, hm1, hm2, hR1⟩ := hf k b1 b2 dt1 dt2 (xs (Int32.toNatClampNeg (x3 + 1))) hk hR
  refine q_callL Y hW1 hW2 (Or.inl hb2) hb1 hS (As := [.int (xs (Int32.toNatClampNeg (x3 + 1)))]) (rest := []) (st1 := [.int r]) (c_X11_depth l D (q_ca b1 q_S1) dt1 b1 (xs (Int32.toNatClampNeg (x3 + 1))) kd1 r d1 hm1) yl_X11_depth vl_X11_depth ml_RL_54 (ci := 11) rfl kd1 (by decide) rfl ⟨(Nat.le_of_ble_eq_true rfl), (Nat.le_of_ble_eq_true rfl)⟩ hl rfl (Nat.le_of_ble_eq_true rfl) dL_law_539 hcs rfl (fun H locs hW1 hW2 hS => ?_)
  refine lv_aload_n hx hb dL_law_542 rfl (lv_at hl 2 rfl) ?_
  refine lv_aload_n hx hb dL_law_543 rfl (lv_at hl 0 rfl) ?_
  refine lv_iload_n hx hb dL_law_544 rfl (lv_at hl 3 rfl) ?_
  refine lv_iconst (v := 1) hx hb dL_law_545 (by decide) ?_
  refine lv_iadd hx hb dL_law_546 ?_
  refine va_sld hx hb hX hbl hbA hS (hin 1 (by decide)) dL_law_547 ?_
  refine q_callL Y hW2 hW1 (Or.inr hb2) (Nat.le_trans hb1 (Nat.le_trans (Nat.le_add_right _ _) hb2)) hS (As := [.int (xs (Int32.toNatClampNeg (x3 + 1)))]) (rest := [.int r]) (st1 := [.int r, .int r]) (c_X12_depth l D (q_ca b2 q_S2) dt2 b2 (xs (Int32.toNatClampNeg (x3 + 1))) kd2 r d2 hm2) yl_X12_depth vl_X12_depth ml_RL_57 (ci := 12) rfl kd2 (by decide) rfl ⟨(Nat.le_of_ble_eq_true rfl), (Nat.le_of_ble_eq_true rfl)⟩ hl rfl (Nat.le_of_ble_eq_true rfl) dL_law_548 hcs rfl (fun H locs hW2 hW1 hS => ?_)
  refine lv_icmp_eq (tgt := 2235) hx hb dL_law_551 (by decide) (fun _ => ?_) (fun q => absurd rfl q)
  exact next _ _ _ _ _ hR1 hW1 hW2 hS hl
set_option maxRecDepth 100000 in
theorem w_family {p : Program} {l : Launch} {e : Env} {s : State} {m : MethodId} {below : List Frame} {meth : Method} {c : Code} {D : q_D} {b L b1 b2 cells slots : Nat} {xs : Nat → Int32} (Y : q_Cy D s.heap.size code 4 ret R_law p s m #[Value.ref b] meth c) (hX : va_X b L xs s s.heap) (hbl : b < s.heap.size) (hb1 : s.heap.size ≤ b1) (hb2 : b1 + q_S1.length ≤ b2) (hcs : cells ≤ room_1.cells ∧ slots ≤ room_1.slots) {Rel : Nat → Nat → Nat → q_Dt → q_Dt → Prop} (hf : q_c_family Rel) {k : Nat} {dt1 dt2 : q_Dt} {H : Heap} {locs : List Loc} {ls : Array Slot} {x3 : Int32} (hk : k < 512) (hR : Rel k b1 b2 dt1 dt2) (hin0 : vp_in x3 L) (hin : ∀ j, j < 8 → vp_in (x3 + Int32.ofNat j) L) (hW1 : q_W D (q_ca b1 q_S1) dt1 H) (hW2 : q_W D (q_ca b2 q_S2) dt2 H) (hS : va_S (fun q => s.heap.size ≤ q) s.heap H locs) (hl : lv_has ls 4 [(0, .ref b), (1, .ref b1), (2, .ref b2), (3, .int x3)]) (next : ∀ (d1 d2 : q_Dt) (H : Heap) (locs : List Loc) (ls : Array Slot), Rel (k + 1) b1 b2 d1 d2 → q_W D (q_ca b1 q_S1) d1 H → q_W D (q_ca b2 q_S2) d2 H → va_S (fun q => s.heap.size ≤ q) s.heap H locs → lv_has ls 4 [(0, .ref b), (1, .ref b1), (2, .ref b2), (3, .int x3)] → W p l e room_1 s m #[Value.ref b] below meth c H locs cells slots (lw_Z below #[Value.ref b] s) (F0 m 2235 ls [])) : W p l e room_1 s m #[Value.ref b] below meth c H locs cells slots (lw_Z below #[Value.ref b] s) (F0 m 556 ls []) := by
  have hx := Y.1
  have hb := Y.2.1
  have hown := Y.2.2.2.2.2.1
  have hts := Y.2.2.2.2.2.2.1
  have hbA : ¬ (fun q : Nat => s.heap.size ≤ q) b := Nat.not_le.mpr hbl
  have kd1 := kd1_ok b1
  have kd2 := kd2_ok b2
  refine lv_aload_n hx hb dL_law_556 rfl (lv_at hl 1 rfl) ?_
  refine lv_aload_n hx hb dL_law_557 rfl (lv_at hl 0 rfl) ?_
  refine lv_iload_n hx hb dL_law_558 rfl (lv_at hl 3 rfl) ?_
  refine lv_iconst (v := 1) hx hb dL_law_559 (by decide) ?_
  refine lv_iadd hx hb dL_law_560 ?_
  refine va_sld hx hb hX hbl hbA hS (hin 1 (by decide)) dL_law_561 ?_
  refine lv_aload_n hx hb dL_law_562 rfl (lv_at hl 0 rfl) ?_
  refine lv_iload_n hx hb dL_law_563 rfl (lv_at hl 3 rfl) ?_
  refine lv_iconst (v := 2) hx hb dL_law_564 (by decide) ?_
  refine lv_iadd hx hb dL_law_565 ?_
  refine va_sld hx hb hX hbl hbA hS (hin 2 (by decide)) dL_law_566 ?_
  obtain ⟨r, d1, d2, hm1, hm2, hR1⟩ := hf k b1 b2 dt1 dt2 (xs (Int32.toNatClampNeg (x3 + 1))) (xs (Int32.toNatClampNeg (x3 + 2))) hk hR
  refine q_callL Y hW1 hW2 (Or.inl hb2) hb1 hS (As := [.int (xs (Int32.toNatClampNeg (x3 + 1))), .int (xs (Int32.toNatClampNeg (x3 + 2)))]) (rest := []) (st1 := [.int r]) (c_X11_family l D (q_ca b1 q_S1) dt1 b1 (xs (Int32.toNatClampNeg (x3 + 1))) (xs (Int32.toNatClampNeg (x3 + 2))) kd1 r d1 hm1) yl_X11_family vl_X11_family ml_RL_58 (ci := 11) rfl kd1 (by decide) rfl ⟨(Nat.le_of_ble_eq_true rfl), (Nat.le_of_ble_eq_true rfl)⟩ hl rfl (Nat.le_of_ble_eq_true rfl) dL_law_567 hcs rfl (fun H locs hW1 hW2 hS => ?_)
  refine lv_aload_n hx hb dL_law_570 rfl (lv_at hl 2 rfl) ?_
  refine lv_aload_n hx hb dL_law_571 rfl (lv_at hl 0 rfl) ?_
  refine lv_iload_n hx hb dL_law_572 rfl (lv_at hl 3 rfl) ?_
  refine lv_iconst (v := 1) hx hb dL_law_573 (by decide) ?_
  refine lv_iadd hx hb dL_law_574 ?_
  refine va_sld hx hb hX hbl hbA hS (hin 1 (by decide)) dL_law_575 ?_
  refine lv_aload_n hx hb dL_law_576 rfl (lv_at hl 0 rfl) ?_
  refine lv_iload_n hx hb dL_law_577 rfl (lv_at hl 3 rfl) ?_
  refine lv_iconst (v := 2) hx hb dL_law_578 (by decide) ?_
  refine lv_iadd hx hb dL_law_579 ?_
  refine va_sld hx hb hX hbl hbA hS (hin 2 (by decide)) dL_law_580 ?_
  refine q_callL Y hW2 hW1 (Or.inr hb2) (Nat.le_trans hb1 (Nat.le_trans (Nat.le_add_right _ _) hb2)) hS (As := [.int (xs (Int32.toNatClampNeg (x3 + 1))), .int (xs (Int32.toNatClampNeg (x3 + 2)))]) (rest := [.int r]) (st1 := [.int r, .int r]) (c_X12_family l D (q_ca b2 q_S2) dt2 b2 (xs (Int32.toNatClampNeg (x3 + 1))) (xs (Int32.toNatClampNeg (x3 + 2))) kd2 r d2 hm2) yl_X12_family vl_X12_family ml_RL_61 (ci := 12) rfl kd2 (by decide) rfl ⟨(Nat.le_of_ble_eq_true rfl), (Nat.le_of_ble_eq_true rfl)⟩ hl rfl (Nat.le_of_ble_eq_true rfl) dL_law_581 hcs rfl (fun H locs hW2 hW1 hS => ?_)
  refine lv_icmp_eq (tgt := 2235) hx hb dL_law_584 (by decide) (fun _ => ?_) (fun q => absurd rfl q)
  exact next _ _ _ _ _ hR1 hW1 hW2 hS hl
set_option maxRecDepth 100000 in
theorem w_sample {p : Program} {l : Launch} {e : Env} {s : State} {m : MethodId} {below : List Frame} {meth : Method} {c : Code} {D : q_D} {b L b1 b2 cells slots : Nat} {xs : Nat → Int32} (Y : q_Cy D s.heap.size code 4 ret R_law p s m #[Value.ref b] meth c) (hX : va_X b L xs s s.heap) (hbl : b < s.heap.size) (hb1 : s.heap.size ≤ b1) (hb2 : b1 + q_S1.length ≤ b2) (hcs : cells ≤ room_1.cells ∧ slots ≤ room_1.slots) {Rel : Nat → Nat → Nat → q_Dt → q_Dt → Prop} (hf : q_c_sample Rel) {k : Nat} {dt1 dt2 : q_Dt} {H : Heap} {locs : List Loc} {ls : Array Slot} {x3 : Int32} (hk : k < 512) (hR : Rel k b1 b2 dt1 dt2) (hin0 : vp_in x3 L) (hin : ∀ j, j < 8 → vp_in (x3 + Int32.ofNat j) L) (hW1 : q_W D (q_ca b1 q_S1) dt1 H) (hW2 : q_W D (q_ca b2 q_S2) dt2 H) (hS : va_S (fun q => s.heap.size ≤ q) s.heap H locs) (hl : lv_has ls 4 [(0, .ref b), (1, .ref b1), (2, .ref b2), (3, .int x3)]) (next : ∀ (d1 d2 : q_Dt) (H : Heap) (locs : List Loc) (ls : Array Slot), Rel (k + 1) b1 b2 d1 d2 → q_W D (q_ca b1 q_S1) d1 H → q_W D (q_ca b2 q_S2) d2 H → va_S (fun q => s.heap.size ≤ q) s.heap H locs → lv_has ls 4 [(0, .ref b), (1, .ref b1), (2, .ref b2), (3, .int x3)] → W p l e room_1 s m #[Value.ref b] below meth c H locs cells slots (lw_Z below #[Value.ref b] s) (F0 m 2235 ls [])) : W p l e room_1 s m #[Value.ref b] below meth c H locs cells slots (lw_Z below #[Value.ref b] s) (F0 m 589 ls []) := by
  have hx := Y.1
  have hb := Y.2.1
  have hown := Y.2.2.2.2.2.1
  have hts := Y.2.2.2.2.2.2.1
  have hbA : ¬ (fun q : Nat => s.heap.size ≤ q) b := Nat.not_le.mpr hbl
  have kd1 := kd1_ok b1
  have kd2 := kd2_ok b2
  refine lv_aload_n hx hb dL_law_589 rfl (lv_at hl 1 rfl) ?_
  refine lv_aload_n hx hb dL_law_590 rfl (lv_at hl 0 rfl) ?_
  refine lv_iload_n hx hb dL_law_591 rfl (lv_at hl 3 rfl) ?_
  refine lv_iconst (v := 1) hx hb dL_law_592 (by decide) ?_
  refine lv_iadd hx hb dL_law_593 ?_
  refine va_sld hx hb hX hbl hbA hS (hin 1 (by decide)) dL_law_594 ?_
  refine lv_aload_n hx hb dL_law_595 rfl (lv_at hl 0 rfl) ?_
  refine lv_iload_n hx hb dL_law_596 rfl (lv_at hl 3 rfl) ?_
  refine lv_iconst (v := 2) hx hb dL_law_597 (by decide) ?_
  refine lv_iadd hx hb dL_law_598 ?_
  refine va_sld hx hb hX hbl hbA hS (hin 2 (by decide)) dL_law_599 ?_
  refine lv_if_eq (tgt := 607) hx hb dL_law_600 (by decide) (fun z600 => ?_) (fun z600 => ?_)
  · refine lv_iconst (v := 0) hx hb dL_law_607 (by decide) ?_
    obtain ⟨r, hm1, hm2, hR1⟩ := hf k b1 b2 dt1 dt2 (xs (Int32.toNatClampNeg (x3 + 1))) 0 (Or.inl rfl) hk hR
    refine q_callL Y hW1 hW2 (Or.inl hb2) hb1 hS (As := [.int (xs (Int32.toNatClampNeg (x3 + 1))), .int 0]) (rest := []) (st1 := [.int r]) (c_X11_sample l D (q_ca b1 q_S1) dt1 b1 (xs (Int32.toNatClampNeg (x3 + 1))) 0 kd1 r hm1) yl_X11_sample vl_X11_sample ml_RL_62 (ci := 11) rfl kd1 (by decide) rfl ⟨(Nat.le_of_ble_eq_true rfl), (Nat.le_of_ble_eq_true rfl)⟩ hl rfl (Nat.le_of_ble_eq_true rfl) dL_law_608 hcs rfl (fun H locs hW1 hW2 hS => ?_)
    refine lv_aload_n hx hb dL_law_611 rfl (lv_at hl 2 rfl) ?_
    refine lv_aload_n hx hb dL_law_612 rfl (lv_at hl 0 rfl) ?_
    refine lv_iload_n hx hb dL_law_613 rfl (lv_at hl 3 rfl) ?_
    refine lv_iconst (v := 1) hx hb dL_law_614 (by decide) ?_
    refine lv_iadd hx hb dL_law_615 ?_
    refine va_sld hx hb hX hbl hbA hS (hin 1 (by decide)) dL_law_616 ?_
    refine lv_aload_n hx hb dL_law_617 rfl (lv_at hl 0 rfl) ?_
    refine lv_iload_n hx hb dL_law_618 rfl (lv_at hl 3 rfl) ?_
    refine lv_iconst (v := 2) hx hb dL_law_619 (by decide) ?_
    refine lv_iadd hx hb dL_law_620 ?_
    refine va_sld hx hb hX hbl hbA hS (hin 2 (by decide)) dL_law_621 ?_
    refine lv_if_eq (tgt := 629) hx hb dL_law_622 (by decide) (fun _ => ?_) (fun q => absurd z600 q)
    refine lv_iconst (v := 0) hx hb dL_law_629 (by decide) ?_
    refine q_callL Y hW2 hW1 (Or.inr hb2) (Nat.le_trans hb1 (Nat.le_trans (Nat.le_add_right _ _) hb2)) hS (As := [.int (xs (Int32.toNatClampNeg (x3 + 1))), .int 0]) (rest := [.int r]) (st1 := [.int r, .int r]) (c_X12_sample l D (q_ca b2 q_S2) dt2 b2 (xs (Int32.toNatClampNeg (x3 + 1))) 0 kd2 r hm2) yl_X12_sample vl_X12_sample ml_RL_66 (ci := 12) rfl kd2 (by decide) rfl ⟨(Nat.le_of_ble_eq_true rfl), (Nat.le_of_ble_eq_true rfl)⟩ hl rfl (Nat.le_of_ble_eq_true rfl) dL_law_630 hcs rfl (fun H locs hW2 hW1 hS => ?_)
    refine lv_icmp_eq (tgt := 2235) hx hb dL_law_633 (by decide) (fun _ => ?_) (fun q => absurd rfl q)
    exact next _ _ _ _ _ hR1 hW1 hW2 hS hl
  refine lv_iconst (v := 1) hx hb dL_law_603 (by decide) ?_
  refine lv_goto (tgt := 608) hx hb dL_law_604 (by decide) ?_
  obtain ⟨r, hm1, hm2, hR1⟩ := hf k b1 b2 dt1 dt2 (xs (Int32.toNatClampNeg (x3 + 1))) 1 (Or.inr rfl) hk hR
  refine q_callL Y hW1 hW2 (Or.inl hb2) hb1 hS (As := [.int (xs (Int32.toNatClampNeg (x3 + 1))), .int 1]) (rest := []) (st1 := [.int r]) (c_X11_sample l D (q_ca b1 q_S1) dt1 b1 (xs (Int32.toNatClampNeg (x3 + 1))) 1 kd1 r hm1) yl_X11_sample vl_X11_sample ml_RL_62 (ci := 11) rfl kd1 (by decide) rfl ⟨(Nat.le_of_ble_eq_true rfl), (Nat.le_of_ble_eq_true rfl)⟩ hl rfl (Nat.le_of_ble_eq_true rfl) dL_law_608 hcs rfl (fun H locs hW1 hW2 hS => ?_)
  refine lv_aload_n hx hb dL_law_611 rfl (lv_at hl 2 rfl) ?_
  refine lv_aload_n hx hb dL_law_612 rfl (lv_at hl 0 rfl) ?_
  refine lv_iload_n hx hb dL_law_613 rfl (lv_at hl 3 rfl) ?_
  refine lv_iconst (v := 1) hx hb dL_law_614 (by decide) ?_
  refine lv_iadd hx hb dL_law_615 ?_
  refine va_sld hx hb hX hbl hbA hS (hin 1 (by decide)) dL_law_616 ?_
  refine lv_aload_n hx hb dL_law_617 rfl (lv_at hl 0 rfl) ?_
  refine lv_iload_n hx hb dL_law_618 rfl (lv_at hl 3 rfl) ?_
  refine lv_iconst (v := 2) hx hb dL_law_619 (by decide) ?_
  refine lv_iadd hx hb dL_law_620 ?_
  refine va_sld hx hb hX hbl hbA hS (hin 2 (by decide)) dL_law_621 ?_
  refine lv_if_eq (tgt := 629) hx hb dL_law_622 (by decide) (fun q => absurd q z600) (fun _ => ?_)
  refine lv_iconst (v := 1) hx hb dL_law_625 (by decide) ?_
  refine lv_goto (tgt := 630) hx hb dL_law_626 (by decide) ?_
  refine q_callL Y hW2 hW1 (Or.inr hb2) (Nat.le_trans hb1 (Nat.le_trans (Nat.le_add_right _ _) hb2)) hS (As := [.int (xs (Int32.toNatClampNeg (x3 + 1))), .int 1]) (rest := [.int r]) (st1 := [.int r, .int r]) (c_X12_sample l D (q_ca b2 q_S2) dt2 b2 (xs (Int32.toNatClampNeg (x3 + 1))) 1 kd2 r hm2) yl_X12_sample vl_X12_sample ml_RL_66 (ci := 12) rfl kd2 (by decide) rfl ⟨(Nat.le_of_ble_eq_true rfl), (Nat.le_of_ble_eq_true rfl)⟩ hl rfl (Nat.le_of_ble_eq_true rfl) dL_law_630 hcs rfl (fun H locs hW2 hW1 hS => ?_)
  refine lv_icmp_eq (tgt := 2235) hx hb dL_law_633 (by decide) (fun _ => ?_) (fun q => absurd rfl q)
  exact next _ _ _ _ _ hR1 hW1 hW2 hS hl
set_option maxRecDepth 100000 in
theorem w_power {p : Program} {l : Launch} {e : Env} {s : State} {m : MethodId} {below : List Frame} {meth : Method} {c : Code} {D : q_D} {b L b1 b2 cells slots : Nat} {xs : Nat → Int32} (Y : q_Cy D s.heap.size code 4 ret R_law p s m #[Value.ref b] meth c) (hX : va_X b L xs s s.heap) (hbl : b < s.heap.size) (hb1 : s.heap.size ≤ b1) (hb2 : b1 + q_S1.length ≤ b2) (hcs : cells ≤ room_1.cells ∧ slots ≤ room_1.slots) {Rel : Nat → Nat → Nat → q_Dt → q_Dt → Prop} (hf : q_c_power Rel) {k : Nat} {dt1 dt2 : q_Dt} {H : Heap} {locs : List Loc} {ls : Array Slot} {x3 : Int32} (hk : k < 512) (hR : Rel k b1 b2 dt1 dt2) (hin0 : vp_in x3 L) (hin : ∀ j, j < 8 → vp_in (x3 + Int32.ofNat j) L) (hW1 : q_W D (q_ca b1 q_S1) dt1 H) (hW2 : q_W D (q_ca b2 q_S2) dt2 H) (hS : va_S (fun q => s.heap.size ≤ q) s.heap H locs) (hl : lv_has ls 4 [(0, .ref b), (1, .ref b1), (2, .ref b2), (3, .int x3)]) (next : ∀ (d1 d2 : q_Dt) (H : Heap) (locs : List Loc) (ls : Array Slot), Rel (k + 1) b1 b2 d1 d2 → q_W D (q_ca b1 q_S1) d1 H → q_W D (q_ca b2 q_S2) d2 H → va_S (fun q => s.heap.size ≤ q) s.heap H locs → lv_has ls 4 [(0, .ref b), (1, .ref b1), (2, .ref b2), (3, .int x3)] → W p l e room_1 s m #[Value.ref b] below meth c H locs cells slots (lw_Z below #[Value.ref b] s) (F0 m 2235 ls [])) : W p l e room_1 s m #[Value.ref b] below meth c H locs cells slots (lw_Z below #[Value.ref b] s) (F0 m 638 ls []) := by
  have hx := Y.1
  have hb := Y.2.1
  have hown := Y.2.2.2.2.2.1
  have hts := Y.2.2.2.2.2.2.1
  have hbA : ¬ (fun q : Nat => s.heap.size ≤ q) b := Nat.not_le.mpr hbl
  have kd1 := kd1_ok b1
  have kd2 := kd2_ok b2
  refine lv_aload_n hx hb dL_law_638 rfl (lv_at hl 1 rfl) ?_
  refine lv_aload_n hx hb dL_law_639 rfl (lv_at hl 0 rfl) ?_
  refine lv_iload_n hx hb dL_law_640 rfl (lv_at hl 3 rfl) ?_
  refine lv_iconst (v := 1) hx hb dL_law_641 (by decide) ?_
  refine lv_iadd hx hb dL_law_642 ?_
  refine va_sld hx hb hX hbl hbA hS (hin 1 (by decide)) dL_law_643 ?_
  refine lv_aload_n hx hb dL_law_644 rfl (lv_at hl 0 rfl) ?_
  refine lv_iload_n hx hb dL_law_645 rfl (lv_at hl 3 rfl) ?_
  refine lv_iconst (v := 2) hx hb dL_law_646 (by decide) ?_
  refine lv_iadd hx hb dL_law_647 ?_
  refine va_sld hx hb hX hbl hbA hS (hin 2 (by decide)) dL_law_648 ?_
  obtain ⟨r, hm1, hm2, hR1⟩ := hf k b1 b2 dt1 dt2 (xs (Int32.toNatClampNeg (x3 + 1))) (xs (Int32.toNatClampNeg (x3 + 2))) hk hR
  refine q_callL Y hW1 hW2 (Or.inl hb2) hb1 hS (As := [.int (xs (Int32.toNatClampNeg (x3 + 1))), .int (xs (Int32.toNatClampNeg (x3 + 2)))]) (rest := []) (st1 := [.long r]) (c_X11_power l D (q_ca b1 q_S1) dt1 b1 (xs (Int32.toNatClampNeg (x3 + 1))) (xs (Int32.toNatClampNeg (x3 + 2))) kd1 r hm1) yl_X11_power vl_X11_power ml_RL_67 (ci := 11) rfl kd1 (by decide) rfl ⟨(Nat.le_of_ble_eq_true rfl), (Nat.le_of_ble_eq_true rfl)⟩ hl rfl (Nat.le_of_ble_eq_true rfl) dL_law_649 hcs rfl (fun H locs hW1 hW2 hS => ?_)
  refine lv_aload_n hx hb dL_law_652 rfl (lv_at hl 2 rfl) ?_
  refine lv_aload_n hx hb dL_law_653 rfl (lv_at hl 0 rfl) ?_
  refine lv_iload_n hx hb dL_law_654 rfl (lv_at hl 3 rfl) ?_
  refine lv_iconst (v := 1) hx hb dL_law_655 (by decide) ?_
  refine lv_iadd hx hb dL_law_656 ?_
  refine va_sld hx hb hX hbl hbA hS (hin 1 (by decide)) dL_law_657 ?_
  refine lv_aload_n hx hb dL_law_658 rfl (lv_at hl 0 rfl) ?_
  refine lv_iload_n hx hb dL_law_659 rfl (lv_at hl 3 rfl) ?_
  refine lv_iconst (v := 2) hx hb dL_law_660 (by decide) ?_
  refine lv_iadd hx hb dL_law_661 ?_
  refine va_sld hx hb hX hbl hbA hS (hin 2 (by decide)) dL_law_662 ?_
  refine q_callL Y hW2 hW1 (Or.inr hb2) (Nat.le_trans hb1 (Nat.le_trans (Nat.le_add_right _ _) hb2)) hS (As := [.int (xs (Int32.toNatClampNeg (x3 + 1))), .int (xs (Int32.toNatClampNeg (x3 + 2)))]) (rest := [.long r]) (st1 := [.long r, .long r]) (c_X12_power l D (q_ca b2 q_S2) dt2 b2 (xs (Int32.toNatClampNeg (x3 + 1))) (xs (Int32.toNatClampNeg (x3 + 2))) kd2 r hm2) yl_X12_power vl_X12_power ml_RL_71 (ci := 12) rfl kd2 (by decide) rfl ⟨(Nat.le_of_ble_eq_true rfl), (Nat.le_of_ble_eq_true rfl)⟩ hl rfl (Nat.le_of_ble_eq_true rfl) dL_law_663 hcs rfl (fun H locs hW2 hW1 hS => ?_)
  refine W.lcmp hx hb dL_law_666 ?_
  refine lv_if_eq (tgt := 2235) hx hb dL_law_667 (by decide) (fun _ => ?_) (fun q => absurd (q_cmp_eq.mpr rfl) q)
  exact next _ _ _ _ _ hR1 hW1 hW2 hS hl
set_option maxRecDepth 100000 in
theorem w_wave {p : Program} {l : Launch} {e : Env} {s : State} {m : MethodId} {below : List Frame} {meth : Method} {c : Code} {D : q_D} {b L b1 b2 cells slots : Nat} {xs : Nat → Int32} (Y : q_Cy D s.heap.size code 4 ret R_law p s m #[Value.ref b] meth c) (hX : va_X b L xs s s.heap) (hbl : b < s.heap.size) (hb1 : s.heap.size ≤ b1) (hb2 : b1 + q_S1.length ≤ b2) (hcs : cells ≤ room_1.cells ∧ slots ≤ room_1.slots) {Rel : Nat → Nat → Nat → q_Dt → q_Dt → Prop} (hf : q_c_wave Rel) {k : Nat} {dt1 dt2 : q_Dt} {H : Heap} {locs : List Loc} {ls : Array Slot} {x3 : Int32} (hk : k < 512) (hR : Rel k b1 b2 dt1 dt2) (hin0 : vp_in x3 L) (hin : ∀ j, j < 8 → vp_in (x3 + Int32.ofNat j) L) (hW1 : q_W D (q_ca b1 q_S1) dt1 H) (hW2 : q_W D (q_ca b2 q_S2) dt2 H) (hS : va_S (fun q => s.heap.size ≤ q) s.heap H locs) (hl : lv_has ls 4 [(0, .ref b), (1, .ref b1), (2, .ref b2), (3, .int x3)]) (next : ∀ (d1 d2 : q_Dt) (H : Heap) (locs : List Loc) (ls : Array Slot), Rel (k + 1) b1 b2 d1 d2 → q_W D (q_ca b1 q_S1) d1 H → q_W D (q_ca b2 q_S2) d2 H → va_S (fun q => s.heap.size ≤ q) s.heap H locs → lv_has ls 4 [(0, .ref b), (1, .ref b1), (2, .ref b2), (3, .int x3)] → W p l e room_1 s m #[Value.ref b] below meth c H locs cells slots (lw_Z below #[Value.ref b] s) (F0 m 2235 ls [])) : W p l e room_1 s m #[Value.ref b] below meth c H locs cells slots (lw_Z below #[Value.ref b] s) (F0 m 672 ls []) := by
  have hx := Y.1
  have hb := Y.2.1
  have hown := Y.2.2.2.2.2.1
  have hts := Y.2.2.2.2.2.2.1
  have hbA : ¬ (fun q : Nat => s.heap.size ≤ q) b := Nat.not_le.mpr hbl
  have kd1 := kd1_ok b1
  have kd2 := kd2_ok b2
  refine lv_aload_n hx hb dL_law_672 rfl (lv_at hl 1 rfl) ?_
  refine lv_aload_n hx hb dL_law_673 rfl (lv_at hl 0 rfl) ?_
  refine lv_iload_n hx hb dL_law_674 rfl (lv_at hl 3 rfl) ?_
  refine lv_iconst (v := 1) hx hb dL_law_675 (by decide) ?_
  refine lv_iadd hx hb dL_law_676 ?_
  refine va_sld hx hb hX hbl hbA hS (hin 1 (by decide)) dL_law_677 ?_
  refine lv_aload_n hx hb dL_law_678 rfl (lv_at hl 0 rfl) ?_
  refine lv_iload_n hx hb dL_law_679 rfl (lv_at hl 3 rfl) ?_
  refine lv_iconst (v := 2) hx hb dL_law_680 (by decide) ?_
  refine lv_iadd hx hb dL_law_681 ?_
  refine va_sld hx hb hX hbl hbA hS (hin 2 (by decide)) dL_law_682 ?_
  refine lv_aload_n hx hb dL_law_683 rfl (lv_at hl 0 rfl) ?_
  refine lv_iload_n hx hb dL_law_684 rfl (lv_at hl 3 rfl) ?_
  refine lv_iconst (v := 3) hx hb dL_law_685 (by decide) ?_
  refine lv_iadd hx hb dL_law_686 ?_
  refine va_sld hx hb hX hbl hbA hS (hin 3 (by decide)) dL_law_687 ?_
  refine lv_if_eq (tgt := 695) hx hb dL_law_688 (by decide) (fun z688 => ?_) (fun z688 => ?_)
  · refine lv_iconst (v := 0) hx hb dL_law_695 (by decide) ?_
    obtain ⟨r, hm1, hm2, hR1⟩ := hf k b1 b2 dt1 dt2 (xs (Int32.toNatClampNeg (x3 + 1))) (xs (Int32.toNatClampNeg (x3 + 2))) 0 (Or.inl rfl) hk hR
    refine q_callL Y hW1 hW2 (Or.inl hb2) hb1 hS (As := [.int (xs (Int32.toNatClampNeg (x3 + 1))), .int (xs (Int32.toNatClampNeg (x3 + 2))), .int 0]) (rest := []) (st1 := [.int r]) (c_X11_wave l D (q_ca b1 q_S1) dt1 b1 (xs (Int32.toNatClampNeg (x3 + 1))) (xs (Int32.toNatClampNeg (x3 + 2))) 0 kd1 r hm1) yl_X11_wave vl_X11_wave ml_RL_72 (ci := 11) rfl kd1 (by decide) rfl ⟨(Nat.le_of_ble_eq_true rfl), (Nat.le_of_ble_eq_true rfl)⟩ hl rfl (Nat.le_of_ble_eq_true rfl) dL_law_696 hcs rfl (fun H locs hW1 hW2 hS => ?_)
    refine lv_aload_n hx hb dL_law_699 rfl (lv_at hl 2 rfl) ?_
    refine lv_aload_n hx hb dL_law_700 rfl (lv_at hl 0 rfl) ?_
    refine lv_iload_n hx hb dL_law_701 rfl (lv_at hl 3 rfl) ?_
    refine lv_iconst (v := 1) hx hb dL_law_702 (by decide) ?_
    refine lv_iadd hx hb dL_law_703 ?_
    refine va_sld hx hb hX hbl hbA hS (hin 1 (by decide)) dL_law_704 ?_
    refine lv_aload_n hx hb dL_law_705 rfl (lv_at hl 0 rfl) ?_
    refine lv_iload_n hx hb dL_law_706 rfl (lv_at hl 3 rfl) ?_
    refine lv_iconst (v := 2) hx hb dL_law_707 (by decide) ?_
    refine lv_iadd hx hb dL_law_708 ?_
    refine va_sld hx hb hX hbl hbA hS (hin 2 (by decide)) dL_law_709 ?_
    refine lv_aload_n hx hb dL_law_710 rfl (lv_at hl 0 rfl) ?_
    refine lv_iload_n hx hb dL_law_711 rfl (lv_at hl 3 rfl) ?_
    refine lv_iconst (v := 3) hx hb dL_law_712 (by decide) ?_
    refine lv_iadd hx hb dL_law_713 ?_
    refine va_sld hx hb hX hbl hbA hS (hin 3 (by decide)) dL_law_714 ?_
    refine lv_if_eq (tgt := 722) hx hb dL_law_715 (by decide) (fun _ => ?_) (fun q => absurd z688 q)
    refine lv_iconst (v := 0) hx hb dL_law_722 (by decide) ?_
    refine q_callL Y hW2 hW1 (Or.inr hb2) (Nat.le_trans hb1 (Nat.le_trans (Nat.le_add_right _ _) hb2)) hS (As := [.int (xs (Int32.toNatClampNeg (x3 + 1))), .int (xs (Int32.toNatClampNeg (x3 + 2))), .int 0]) (rest := [.int r]) (st1 := [.int r, .int r]) (c_X12_wave l D (q_ca b2 q_S2) dt2 b2 (xs (Int32.toNatClampNeg (x3 + 1))) (xs (Int32.toNatClampNeg (x3 + 2))) 0 kd2 r hm2) yl_X12_wave vl_X12_wave ml_RL_76 (ci := 12) rfl kd2 (by decide) rfl ⟨(Nat.le_of_ble_eq_true rfl), (Nat.le_of_ble_eq_true rfl)⟩ hl rfl (Nat.le_of_ble_eq_true rfl) dL_law_723 hcs rfl (fun H locs hW2 hW1 hS => ?_)
    refine lv_icmp_eq (tgt := 2235) hx hb dL_law_726 (by decide) (fun _ => ?_) (fun q => absurd rfl q)
    exact next _ _ _ _ _ hR1 hW1 hW2 hS hl
  refine lv_iconst (v := 1) hx hb dL_law_691 (by decide) ?_
  refine lv_goto (tgt := 696) hx hb dL_law_692 (by decide) ?_
  obtain ⟨r, hm1, hm2, hR1⟩ := hf k b1 b2 dt1 dt2 (xs (Int32.toNatClampNeg (x3 + 1))) (xs (Int32.toNatClampNeg (x3 + 2))) 1 (Or.inr rfl) hk hR
  refine q_callL Y hW1 hW2 (Or.inl hb2) hb1 hS (As := [.int (xs (Int32.toNatClampNeg (x3 + 1))), .int (xs (Int32.toNatClampNeg (x3 + 2))), .int 1]) (rest := []) (st1 := [.int r]) (c_X11_wave l D (q_ca b1 q_S1) dt1 b1 (xs (Int32.toNatClampNeg (x3 + 1))) (xs (Int32.toNatClampNeg (x3 + 2))) 1 kd1 r hm1) yl_X11_wave vl_X11_wave ml_RL_72 (ci := 11) rfl kd1 (by decide) rfl ⟨(Nat.le_of_ble_eq_true rfl), (Nat.le_of_ble_eq_true rfl)⟩ hl rfl (Nat.le_of_ble_eq_true rfl) dL_law_696 hcs rfl (fun H locs hW1 hW2 hS => ?_)
  refine lv_aload_n hx hb dL_law_699 rfl (lv_at hl 2 rfl) ?_
  refine lv_aload_n hx hb dL_law_700 rfl (lv_at hl 0 rfl) ?_
  refine lv_iload_n hx hb dL_law_701 rfl (lv_at hl 3 rfl) ?_
  refine lv_iconst (v := 1) hx hb dL_law_702 (by decide) ?_
  refine lv_iadd hx hb dL_law_703 ?_
  refine va_sld hx hb hX hbl hbA hS (hin 1 (by decide)) dL_law_704 ?_
  refine lv_aload_n hx hb dL_law_705 rfl (lv_at hl 0 rfl) ?_
  refine lv_iload_n hx hb dL_law_706 rfl (lv_at hl 3 rfl) ?_
  refine lv_iconst (v := 2) hx hb dL_law_707 (by decide) ?_
  refine lv_iadd hx hb dL_law_708 ?_
  refine va_sld hx hb hX hbl hbA hS (hin 2 (by decide)) dL_law_709 ?_
  refine lv_aload_n hx hb dL_law_710 rfl (lv_at hl 0 rfl) ?_
  refine lv_iload_n hx hb dL_law_711 rfl (lv_at hl 3 rfl) ?_
  refine lv_iconst (v := 3) hx hb dL_law_712 (by decide) ?_
  refine lv_iadd hx hb dL_law_713 ?_
  refine va_sld hx hb hX hbl hbA hS (hin 3 (by decide)) dL_law_714 ?_
  refine lv_if_eq (tgt := 722) hx hb dL_law_715 (by decide) (fun q => absurd q z688) (fun _ => ?_)
  refine lv_iconst (v := 1) hx hb dL_law_718 (by decide) ?_
  refine lv_goto (tgt := 723) hx hb dL_law_719 (by decide) ?_
  refine q_callL Y hW2 hW1 (Or.inr hb2) (Nat.le_trans hb1 (Nat.le_trans (Nat.le_add_right _ _) hb2)) hS (As := [.int (xs (Int32.toNatClampNeg (x3 + 1))), .int (xs (Int32.toNatClampNeg (x3 + 2))), .int 1]) (rest := [.int r]) (st1 := [.int r, .int r]) (c_X12_wave l D (q_ca b2 q_S2) dt2 b2 (xs (Int32.toNatClampNeg (x3 + 1))) (xs (Int32.toNatClampNeg (x3 + 2))) 1 kd2 r hm2) yl_X12_wave vl_X12_wave ml_RL_76 (ci := 12) rfl kd2 (by decide) rfl ⟨(Nat.le_of_ble_eq_true rfl), (Nat.le_of_ble_eq_true rfl)⟩ hl rfl (Nat.le_of_ble_eq_true rfl) dL_law_723 hcs rfl (fun H locs hW2 hW1 hS => ?_)
  refine lv_icmp_eq (tgt := 2235) hx hb dL_law_726 (by decide) (fun _ => ?_) (fun q => absurd rfl q)
  exact next _ _ _ _ _ hR1 hW1 hW2 hS hl
set_option maxRecDepth 100000 in
theorem w_add {p : Program} {l : Launch} {e : Env} {s : State} {m : MethodId} {below : List Frame} {meth : Method} {c : Code} {D : q_D} {b L b1 b2 cells slots : Nat} {xs : Nat → Int32} (Y : q_Cy D s.heap.size code 4 ret R_law p s m #[Value.ref b] meth c) (hX : va_X b L xs s s.heap) (hbl : b < s.heap.size) (hb1 : s.heap.size ≤ b1) (hb2 : b1 + q_S1.length ≤ b2) (hcs : cells ≤ room_1.cells ∧ slots ≤ room_1.slots) {Rel : Nat → Nat → Nat → q_Dt → q_Dt → Prop} (hf : q_c_add Rel) {k : Nat} {dt1 dt2 : q_Dt} {H : Heap} {locs : List Loc} {ls : Array Slot} {x3 : Int32} (hk : k < 512) (hR : Rel k b1 b2 dt1 dt2) (hin0 : vp_in x3 L) (hin : ∀ j, j < 8 → vp_in (x3 + Int32.ofNat j) L) (hW1 : q_W D (q_ca b1 q_S1) dt1 H) (hW2 : q_W D (q_ca b2 q_S2) dt2 H) (hS : va_S (fun q => s.heap.size ≤ q) s.heap H locs) (hl : lv_has ls 4 [(0, .ref b), (1, .ref b1), (2, .ref b2), (3, .int x3)]) (next : ∀ (d1 d2 : q_Dt) (H : Heap) (locs : List Loc) (ls : Array Slot), Rel (k + 1) b1 b2 d1 d2 → q_W D (q_ca b1 q_S1) d1 H → q_W D (q_ca b2 q_S2) d2 H → va_S (fun q => s.heap.size ≤ q) s.heap H locs → lv_has ls 4 [(0, .ref b), (1, .ref b1), (2, .ref b2), (3, .int x3)] → W p l e room_1 s m #[Value.ref b] below meth c H locs cells slots (lw_Z below #[Value.ref b] s) (F0 m 2235 ls [])) : W p l e room_1 s m #[Value.ref b] below meth c H locs cells slots (lw_Z below #[Value.ref b] s) (F0 m 731 ls []) := by
  have hx := Y.1
  have hb := Y.2.1
  have hown := Y.2.2.2.2.2.1
  have hts := Y.2.2.2.2.2.2.1
  have hbA : ¬ (fun q : Nat => s.heap.size ≤ q) b := Nat.not_le.mpr hbl
  have kd1 := kd1_ok b1
  have kd2 := kd2_ok b2
  refine lv_aload_n hx hb dL_law_731 rfl (lv_at hl 1 rfl) ?_
  refine lv_aload_n hx hb dL_law_732 rfl (lv_at hl 0 rfl) ?_
  refine lv_iload_n hx hb dL_law_733 rfl (lv_at hl 3 rfl) ?_
  refine lv_iconst (v := 1) hx hb dL_law_734 (by decide) ?_
  refine lv_iadd hx hb dL_law_735 ?_
  refine va_sld hx hb hX hbl hbA hS (hin 1 (by decide)) dL_law_736 ?_
  refine lv_aload_n hx hb dL_law_737 rfl (lv_at hl 0 rfl) ?_
  refine lv_iload_n hx hb dL_law_738 rfl (lv_at hl 3 rfl) ?_
  refine lv_iconst (v := 2) hx hb dL_law_739 (by decide) ?_
  refine lv_iadd hx hb dL_law_740 ?_
  refine va_sld hx hb hX hbl hbA hS (hin 2 (by decide)) dL_law_741 ?_
  obtain ⟨r, d1, d2, hm1, hm2, hR1⟩ := hf k b1 b2 dt1 dt2 (xs (Int32.toNatClampNeg (x3 + 1))) (xs (Int32.toNatClampNeg (x3 + 2))) hk hR
  refine q_callL Y hW1 hW2 (Or.inl hb2) hb1 hS (As := [.int (xs (Int32.toNatClampNeg (x3 + 1))), .int (xs (Int32.toNatClampNeg (x3 + 2)))]) (rest := []) (st1 := [.int r]) (c_X11_add l D (q_ca b1 q_S1) dt1 b1 (xs (Int32.toNatClampNeg (x3 + 1))) (xs (Int32.toNatClampNeg (x3 + 2))) kd1 r d1 hm1) yl_X11_add vl_X11_add ml_RL_77 (ci := 11) rfl kd1 (by decide) rfl ⟨(Nat.le_of_ble_eq_true rfl), (Nat.le_of_ble_eq_true rfl)⟩ hl rfl (Nat.le_of_ble_eq_true rfl) dL_law_742 hcs rfl (fun H locs hW1 hW2 hS => ?_)
  refine lv_aload_n hx hb dL_law_745 rfl (lv_at hl 2 rfl) ?_
  refine lv_aload_n hx hb dL_law_746 rfl (lv_at hl 0 rfl) ?_
  refine lv_iload_n hx hb dL_law_747 rfl (lv_at hl 3 rfl) ?_
  refine lv_iconst (v := 1) hx hb dL_law_748 (by decide) ?_
  refine lv_iadd hx hb dL_law_749 ?_
  refine va_sld hx hb hX hbl hbA hS (hin 1 (by decide)) dL_law_750 ?_
  refine lv_aload_n hx hb dL_law_751 rfl (lv_at hl 0 rfl) ?_
  refine lv_iload_n hx hb dL_law_752 rfl (lv_at hl 3 rfl) ?_
  refine lv_iconst (v := 2) hx hb dL_law_753 (by decide) ?_
  refine lv_iadd hx hb dL_law_754 ?_
  refine va_sld hx hb hX hbl hbA hS (hin 2 (by decide)) dL_law_755 ?_
  refine q_callL Y hW2 hW1 (Or.inr hb2) (Nat.le_trans hb1 (Nat.le_trans (Nat.le_add_right _ _) hb2)) hS (As := [.int (xs (Int32.toNatClampNeg (x3 + 1))), .int (xs (Int32.toNatClampNeg (x3 + 2)))]) (rest := [.int r]) (st1 := [.int r, .int r]) (c_X12_add l D (q_ca b2 q_S2) dt2 b2 (xs (Int32.toNatClampNeg (x3 + 1))) (xs (Int32.toNatClampNeg (x3 + 2))) kd2 r d2 hm2) yl_X12_add vl_X12_add ml_RL_81 (ci := 12) rfl kd2 (by decide) rfl ⟨(Nat.le_of_ble_eq_true rfl), (Nat.le_of_ble_eq_true rfl)⟩ hl rfl (Nat.le_of_ble_eq_true rfl) dL_law_756 hcs rfl (fun H locs hW2 hW1 hS => ?_)
  refine lv_icmp_eq (tgt := 2235) hx hb dL_law_759 (by decide) (fun _ => ?_) (fun q => absurd rfl q)
  exact next _ _ _ _ _ hR1 hW1 hW2 hS hl
set_option maxRecDepth 100000 in
theorem w_noise {p : Program} {l : Launch} {e : Env} {s : State} {m : MethodId} {below : List Frame} {meth : Method} {c : Code} {D : q_D} {b L b1 b2 cells slots : Nat} {xs : Nat → Int32} (Y : q_Cy D s.heap.size code 4 ret R_law p s m #[Value.ref b] meth c) (hX : va_X b L xs s s.heap) (hbl : b < s.heap.size) (hb1 : s.heap.size ≤ b1) (hb2 : b1 + q_S1.length ≤ b2) (hcs : cells ≤ room_1.cells ∧ slots ≤ room_1.slots) {Rel : Nat → Nat → Nat → q_Dt → q_Dt → Prop} (hf : q_c_noise Rel) {k : Nat} {dt1 dt2 : q_Dt} {H : Heap} {locs : List Loc} {ls : Array Slot} {x3 : Int32} (hk : k < 512) (hR : Rel k b1 b2 dt1 dt2) (hin0 : vp_in x3 L) (hin : ∀ j, j < 8 → vp_in (x3 + Int32.ofNat j) L) (hW1 : q_W D (q_ca b1 q_S1) dt1 H) (hW2 : q_W D (q_ca b2 q_S2) dt2 H) (hS : va_S (fun q => s.heap.size ≤ q) s.heap H locs) (hl : lv_has ls 4 [(0, .ref b), (1, .ref b1), (2, .ref b2), (3, .int x3)]) (next : ∀ (d1 d2 : q_Dt) (H : Heap) (locs : List Loc) (ls : Array Slot), Rel (k + 1) b1 b2 d1 d2 → q_W D (q_ca b1 q_S1) d1 H → q_W D (q_ca b2 q_S2) d2 H → va_S (fun q => s.heap.size ≤ q) s.heap H locs → lv_has ls 4 [(0, .ref b), (1, .ref b1), (2, .ref b2), (3, .int x3)] → W p l e room_1 s m #[Value.ref b] below meth c H locs cells slots (lw_Z below #[Value.ref b] s) (F0 m 2235 ls [])) : W p l e room_1 s m #[Value.ref b] below meth c H locs cells slots (lw_Z below #[Value.ref b] s) (F0 m 764 ls []) := by
  have hx := Y.1
  have hb := Y.2.1
  have hown := Y.2.2.2.2.2.1
  have hts := Y.2.2.2.2.2.2.1
  have hbA : ¬ (fun q : Nat => s.heap.size ≤ q) b := Nat.not_le.mpr hbl
  have kd1 := kd1_ok b1
  have kd2 := kd2_ok b2
  refine lv_aload_n hx hb dL_law_764 rfl (lv_at hl 1 rfl) ?_
  refine lv_aload_n hx hb dL_law_765 rfl (lv_at hl 0 rfl) ?_
  refine lv_iload_n hx hb dL_law_766 rfl (lv_at hl 3 rfl) ?_
  refine lv_iconst (v := 1) hx hb dL_law_767 (by decide) ?_
  refine lv_iadd hx hb dL_law_768 ?_
  refine va_sld hx hb hX hbl hbA hS (hin 1 (by decide)) dL_law_769 ?_
  refine lv_aload_n hx hb dL_law_770 rfl (lv_at hl 0 rfl) ?_
  refine lv_iload_n hx hb dL_law_771 rfl (lv_at hl 3 rfl) ?_
  refine lv_iconst (v := 2) hx hb dL_law_772 (by decide) ?_
  refine lv_iadd hx hb dL_law_773 ?_
  refine va_sld hx hb hX hbl hbA hS (hin 2 (by decide)) dL_law_774 ?_
  obtain ⟨r, d1, d2, hm1, hm2, hR1⟩ := hf k b1 b2 dt1 dt2 (xs (Int32.toNatClampNeg (x3 + 1))) (xs (Int32.toNatClampNeg (x3 + 2))) hk hR
  refine q_callL Y hW1 hW2 (Or.inl hb2) hb1 hS (As := [.int (xs (Int32.toNatClampNeg (x3 + 1))), .int (xs (Int32.toNatClampNeg (x3 + 2)))]) (rest := []) (st1 := [.int r]) (c_X11_noise l D (q_ca b1 q_S1) dt1 b1 (xs (Int32.toNatClampNeg (x3 + 1))) (xs (Int32.toNatClampNeg (x3 + 2))) kd1 r d1 hm1) yl_X11_noise vl_X11_noise ml_RL_82 (ci := 11) rfl kd1 (by decide) rfl ⟨(Nat.le_of_ble_eq_true rfl), (Nat.le_of_ble_eq_true rfl)⟩ hl rfl (Nat.le_of_ble_eq_true rfl) dL_law_775 hcs rfl (fun H locs hW1 hW2 hS => ?_)
  refine lv_aload_n hx hb dL_law_778 rfl (lv_at hl 2 rfl) ?_
  refine lv_aload_n hx hb dL_law_779 rfl (lv_at hl 0 rfl) ?_
  refine lv_iload_n hx hb dL_law_780 rfl (lv_at hl 3 rfl) ?_
  refine lv_iconst (v := 1) hx hb dL_law_781 (by decide) ?_
  refine lv_iadd hx hb dL_law_782 ?_
  refine va_sld hx hb hX hbl hbA hS (hin 1 (by decide)) dL_law_783 ?_
  refine lv_aload_n hx hb dL_law_784 rfl (lv_at hl 0 rfl) ?_
  refine lv_iload_n hx hb dL_law_785 rfl (lv_at hl 3 rfl) ?_
  refine lv_iconst (v := 2) hx hb dL_law_786 (by decide) ?_
  refine lv_iadd hx hb dL_law_787 ?_
  refine va_sld hx hb hX hbl hbA hS (hin 2 (by decide)) dL_law_788 ?_
  refine q_callL Y hW2 hW1 (Or.inr hb2) (Nat.le_trans hb1 (Nat.le_trans (Nat.le_add_right _ _) hb2)) hS (As := [.int (xs (Int32.toNatClampNeg (x3 + 1))), .int (xs (Int32.toNatClampNeg (x3 + 2)))]) (rest := [.int r]) (st1 := [.int r, .int r]) (c_X12_noise l D (q_ca b2 q_S2) dt2 b2 (xs (Int32.toNatClampNeg (x3 + 1))) (xs (Int32.toNatClampNeg (x3 + 2))) kd2 r d2 hm2) yl_X12_noise vl_X12_noise ml_RL_85 (ci := 12) rfl kd2 (by decide) rfl ⟨(Nat.le_of_ble_eq_true rfl), (Nat.le_of_ble_eq_true rfl)⟩ hl rfl (Nat.le_of_ble_eq_true rfl) dL_law_789 hcs rfl (fun H locs hW2 hW1 hS => ?_)
  refine lv_icmp_eq (tgt := 2235) hx hb dL_law_792 (by decide) (fun _ => ?_) (fun q => absurd rfl q)
  exact next _ _ _ _ _ hR1 hW1 hW2 hS hl
set_option maxRecDepth 100000 in
theorem w_anew {p : Program} {l : Launch} {e : Env} {s : State} {m : MethodId} {below : List Frame} {meth : Method} {c : Code} {D : q_D} {b L b1 b2 cells slots : Nat} {xs : Nat → Int32} (Y : q_Cy D s.heap.size code 4 ret R_law p s m #[Value.ref b] meth c) (hX : va_X b L xs s s.heap) (hbl : b < s.heap.size) (hb1 : s.heap.size ≤ b1) (hb2 : b1 + q_S1.length ≤ b2) (hcs : cells ≤ room_1.cells ∧ slots ≤ room_1.slots) {Rel : Nat → Nat → Nat → q_Dt → q_Dt → Prop} (hf : q_c_anew Rel) {k : Nat} {dt1 dt2 : q_Dt} {H : Heap} {locs : List Loc} {ls : Array Slot} {x3 : Int32} (hk : k < 512) (hR : Rel k b1 b2 dt1 dt2) (hin0 : vp_in x3 L) (hin : ∀ j, j < 8 → vp_in (x3 + Int32.ofNat j) L) (hW1 : q_W D (q_ca b1 q_S1) dt1 H) (hW2 : q_W D (q_ca b2 q_S2) dt2 H) (hS : va_S (fun q => s.heap.size ≤ q) s.heap H locs) (hl : lv_has ls 4 [(0, .ref b), (1, .ref b1), (2, .ref b2), (3, .int x3)]) (next : ∀ (d1 d2 : q_Dt) (H : Heap) (locs : List Loc) (ls : Array Slot), Rel (k + 1) b1 b2 d1 d2 → q_W D (q_ca b1 q_S1) d1 H → q_W D (q_ca b2 q_S2) d2 H → va_S (fun q => s.heap.size ≤ q) s.heap H locs → lv_has ls 4 [(0, .ref b), (1, .ref b1), (2, .ref b2), (3, .int x3)] → W p l e room_1 s m #[Value.ref b] below meth c H locs cells slots (lw_Z below #[Value.ref b] s) (F0 m 2235 ls [])) : W p l e room_1 s m #[Value.ref b] below meth c H locs cells slots (lw_Z below #[Value.ref b] s) (F0 m 797 ls []) := by
  have hx := Y.1
  have hb := Y.2.1
  have hown := Y.2.2.2.2.2.1
  have hts := Y.2.2.2.2.2.2.1
  have hbA : ¬ (fun q : Nat => s.heap.size ≤ q) b := Nat.not_le.mpr hbl
  have kd1 := kd1_ok b1
  have kd2 := kd2_ok b2
  refine lv_aload_n hx hb dL_law_797 rfl (lv_at hl 1 rfl) ?_
  obtain ⟨r, d1, d2, hm1, hm2, hR1⟩ := hf k b1 b2 dt1 dt2 hk hR
  refine q_callL Y hW1 hW2 (Or.inl hb2) hb1 hS (As := []) (rest := []) (st1 := [.int r]) (c_X11_anew l D (q_ca b1 q_S1) dt1 b1  kd1 r d1 hm1) yl_X11_anew vl_X11_anew ml_RL_86 (ci := 11) rfl kd1 (by decide) rfl ⟨(Nat.le_of_ble_eq_true rfl), (Nat.le_of_ble_eq_true rfl)⟩ hl rfl (Nat.le_of_ble_eq_true rfl) dL_law_798 hcs rfl (fun H locs hW1 hW2 hS => ?_)
  refine lv_aload_n hx hb dL_law_801 rfl (lv_at hl 2 rfl) ?_
  refine q_callL Y hW2 hW1 (Or.inr hb2) (Nat.le_trans hb1 (Nat.le_trans (Nat.le_add_right _ _) hb2)) hS (As := []) (rest := [.int r]) (st1 := [.int r, .int r]) (c_X12_anew l D (q_ca b2 q_S2) dt2 b2  kd2 r d2 hm2) yl_X12_anew vl_X12_anew ml_RL_90 (ci := 12) rfl kd2 (by decide) rfl ⟨(Nat.le_of_ble_eq_true rfl), (Nat.le_of_ble_eq_true rfl)⟩ hl rfl (Nat.le_of_ble_eq_true rfl) dL_law_802 hcs rfl (fun H locs hW2 hW1 hS => ?_)
  refine lv_icmp_eq (tgt := 2235) hx hb dL_law_805 (by decide) (fun _ => ?_) (fun q => absurd rfl q)
  exact next _ _ _ _ _ hR1 hW1 hW2 hS hl
set_option maxRecDepth 100000 in
theorem w_sum {p : Program} {l : Launch} {e : Env} {s : State} {m : MethodId} {below : List Frame} {meth : Method} {c : Code} {D : q_D} {b L b1 b2 cells slots : Nat} {xs : Nat → Int32} (Y : q_Cy D s.heap.size code 4 ret R_law p s m #[Value.ref b] meth c) (hX : va_X b L xs s s.heap) (hbl : b < s.heap.size) (hb1 : s.heap.size ≤ b1) (hb2 : b1 + q_S1.length ≤ b2) (hcs : cells ≤ room_1.cells ∧ slots ≤ room_1.slots) {Rel : Nat → Nat → Nat → q_Dt → q_Dt → Prop} (hf : q_c_sum Rel) {k : Nat} {dt1 dt2 : q_Dt} {H : Heap} {locs : List Loc} {ls : Array Slot} {x3 : Int32} (hk : k < 512) (hR : Rel k b1 b2 dt1 dt2) (hin0 : vp_in x3 L) (hin : ∀ j, j < 8 → vp_in (x3 + Int32.ofNat j) L) (hW1 : q_W D (q_ca b1 q_S1) dt1 H) (hW2 : q_W D (q_ca b2 q_S2) dt2 H) (hS : va_S (fun q => s.heap.size ≤ q) s.heap H locs) (hl : lv_has ls 4 [(0, .ref b), (1, .ref b1), (2, .ref b2), (3, .int x3)]) (next : ∀ (d1 d2 : q_Dt) (H : Heap) (locs : List Loc) (ls : Array Slot), Rel (k + 1) b1 b2 d1 d2 → q_W D (q_ca b1 q_S1) d1 H → q_W D (q_ca b2 q_S2) d2 H → va_S (fun q => s.heap.size ≤ q) s.heap H locs → lv_has ls 4 [(0, .ref b), (1, .ref b1), (2, .ref b2), (3, .int x3)] → W p l e room_1 s m #[Value.ref b] below meth c H locs cells slots (lw_Z below #[Value.ref b] s) (F0 m 2235 ls [])) : W p l e room_1 s m #[Value.ref b] below meth c H locs cells slots (lw_Z below #[Value.ref b] s) (F0 m 810 ls []) := by
  have hx := Y.1
  have hb := Y.2.1
  have hown := Y.2.2.2.2.2.1
  have hts := Y.2.2.2.2.2.2.1
  have hbA : ¬ (fun q : Nat => s.heap.size ≤ q) b := Nat.not_le.mpr hbl
  have kd1 := kd1_ok b1
  have kd2 := kd2_ok b2
  refine lv_aload_n hx hb dL_law_810 rfl (lv_at hl 1 rfl) ?_
  refine lv_aload_n hx hb dL_law_811 rfl (lv_at hl 0 rfl) ?_
  refine lv_iload_n hx hb dL_law_812 rfl (lv_at hl 3 rfl) ?_
  refine lv_iconst (v := 1) hx hb dL_law_813 (by decide) ?_
  refine lv_iadd hx hb dL_law_814 ?_
  refine va_sld hx hb hX hbl hbA hS (hin 1 (by decide)) dL_law_815 ?_
  refine lv_aload_n hx hb dL_law_816 rfl (lv_at hl 0 rfl) ?_
  refine lv_iload_n hx hb dL_law_817 rfl (lv_at hl 3 rfl) ?_
  refine lv_iconst (v := 2) hx hb dL_law_818 (by decide) ?_
  refine lv_iadd hx hb dL_law_819 ?_
  refine va_sld hx hb hX hbl hbA hS (hin 2 (by decide)) dL_law_820 ?_
  refine lv_aload_n hx hb dL_law_821 rfl (lv_at hl 0 rfl) ?_
  refine lv_iload_n hx hb dL_law_822 rfl (lv_at hl 3 rfl) ?_
  refine lv_iconst (v := 3) hx hb dL_law_823 (by decide) ?_
  refine lv_iadd hx hb dL_law_824 ?_
  refine va_sld hx hb hX hbl hbA hS (hin 3 (by decide)) dL_law_825 ?_
  refine lv_aload_n hx hb dL_law_826 rfl (lv_at hl 0 rfl) ?_
  refine lv_iload_n hx hb dL_law_827 rfl (lv_at hl 3 rfl) ?_
  refine lv_iconst (v := 4) hx hb dL_law_828 (by decide) ?_
  refine lv_iadd hx hb dL_law_829 ?_
  refine va_sld hx hb hX hbl hbA hS (hin 4 (by decide)) dL_law_830 ?_
  refine lv_aload_n hx hb dL_law_831 rfl (lv_at hl 0 rfl) ?_
  refine lv_iload_n hx hb dL_law_832 rfl (lv_at hl 3 rfl) ?_
  refine lv_iconst (v := 5) hx hb dL_law_833 (by decide) ?_
  refine lv_iadd hx hb dL_law_834 ?_
  refine va_sld hx hb hX hbl hbA hS (hin 5 (by decide)) dL_law_835 ?_
  refine lv_if_eq (tgt := 843) hx hb dL_law_836 (by decide) (fun z836 => ?_) (fun z836 => ?_)
  · refine lv_iconst (v := 0) hx hb dL_law_843 (by decide) ?_
    obtain ⟨r, d1, d2, hm1, hm2, hR1⟩ := hf k b1 b2 dt1 dt2 (xs (Int32.toNatClampNeg (x3 + 1))) (xs (Int32.toNatClampNeg (x3 + 2))) (xs (Int32.toNatClampNeg (x3 + 3))) (xs (Int32.toNatClampNeg (x3 + 4))) 0 (Or.inl rfl) hk hR
    refine q_callL Y hW1 hW2 (Or.inl hb2) hb1 hS (As := [.int (xs (Int32.toNatClampNeg (x3 + 1))), .int (xs (Int32.toNatClampNeg (x3 + 2))), .int (xs (Int32.toNatClampNeg (x3 + 3))), .int (xs (Int32.toNatClampNeg (x3 + 4))), .int 0]) (rest := []) (st1 := [.int r]) (c_X11_sum l D (q_ca b1 q_S1) dt1 b1 (xs (Int32.toNatClampNeg (x3 + 1))) (xs (Int32.toNatClampNeg (x3 + 2))) (xs (Int32.toNatClampNeg (x3 + 3))) (xs (Int32.toNatClampNeg (x3 + 4))) 0 kd1 r d1 hm1) yl_X11_sum vl_X11_sum ml_RL_91 (ci := 11) rfl kd1 (by decide) rfl ⟨(Nat.le_of_ble_eq_true rfl), (Nat.le_of_ble_eq_true rfl)⟩ hl rfl (Nat.le_of_ble_eq_true rfl) dL_law_844 hcs rfl (fun H locs hW1 hW2 hS => ?_)
    refine lv_aload_n hx hb dL_law_847 rfl (lv_at hl 2 rfl) ?_
    refine lv_aload_n hx hb dL_law_848 rfl (lv_at hl 0 rfl) ?_
    refine lv_iload_n hx hb dL_law_849 rfl (lv_at hl 3 rfl) ?_
    refine lv_iconst (v := 1) hx hb dL_law_850 (by decide) ?_
    refine lv_iadd hx hb dL_law_851 ?_
    refine va_sld hx hb hX hbl hbA hS (hin 1 (by decide)) dL_law_852 ?_
    refine lv_aload_n hx hb dL_law_853 rfl (lv_at hl 0 rfl) ?_
    refine lv_iload_n hx hb dL_law_854 rfl (lv_at hl 3 rfl) ?_
    refine lv_iconst (v := 2) hx hb dL_law_855 (by decide) ?_
    refine lv_iadd hx hb dL_law_856 ?_
    refine va_sld hx hb hX hbl hbA hS (hin 2 (by decide)) dL_law_857 ?_
    refine lv_aload_n hx hb dL_law_858 rfl (lv_at hl 0 rfl) ?_
    refine lv_iload_n hx hb dL_law_859 rfl (lv_at hl 3 rfl) ?_
    refine lv_iconst (v := 3) hx hb dL_law_860 (by decide) ?_
    refine lv_iadd hx hb dL_law_861 ?_
    refine va_sld hx hb hX hbl hbA hS (hin 3 (by decide)) dL_law_862 ?_
    refine lv_aload_n hx hb dL_law_863 rfl (lv_at hl 0 rfl) ?_
    refine lv_iload_n hx hb dL_law_864 rfl (lv_at hl 3 rfl) ?_
    refine lv_iconst (v := 4) hx hb dL_law_865 (by decide) ?_
    refine lv_iadd hx hb dL_law_866 ?_
    refine va_sld hx hb hX hbl hbA hS (hin 4 (by decide)) dL_law_867 ?_
    refine lv_aload_n hx hb dL_law_868 rfl (lv_at hl 0 rfl) ?_
    refine lv_iload_n hx hb dL_law_869 rfl (lv_at hl 3 rfl) ?_
    refine lv_iconst (v := 5) hx hb dL_law_870 (by decide) ?_
    refine lv_iadd hx hb dL_law_871 ?_
    refine va_sld hx hb hX hbl hbA hS (hin 5 (by decide)) dL_law_872 ?_
    refine lv_if_eq (tgt := 880) hx hb dL_law_873 (by decide) (fun _ => ?_) (fun q => absurd z836 q)
    refine lv_iconst (v := 0) hx hb dL_law_880 (by decide) ?_
    refine q_callL Y hW2 hW1 (Or.inr hb2) (Nat.le_trans hb1 (Nat.le_trans (Nat.le_add_right _ _) hb2)) hS (As := [.int (xs (Int32.toNatClampNeg (x3 + 1))), .int (xs (Int32.toNatClampNeg (x3 + 2))), .int (xs (Int32.toNatClampNeg (x3 + 3))), .int (xs (Int32.toNatClampNeg (x3 + 4))), .int 0]) (rest := [.int r]) (st1 := [.int r, .int r]) (c_X12_sum l D (q_ca b2 q_S2) dt2 b2 (xs (Int32.toNatClampNeg (x3 + 1))) (xs (Int32.toNatClampNeg (x3 + 2))) (xs (Int32.toNatClampNeg (x3 + 3))) (xs (Int32.toNatClampNeg (x3 + 4))) 0 kd2 r d2 hm2) yl_X12_sum vl_X12_sum ml_RL_95 (ci := 12) rfl kd2 (by decide) rfl ⟨(Nat.le_of_ble_eq_true rfl), (Nat.le_of_ble_eq_true rfl)⟩ hl rfl (Nat.le_of_ble_eq_true rfl) dL_law_881 hcs rfl (fun H locs hW2 hW1 hS => ?_)
    refine lv_icmp_eq (tgt := 2235) hx hb dL_law_884 (by decide) (fun _ => ?_) (fun q => absurd rfl q)
    exact next _ _ _ _ _ hR1 hW1 hW2 hS hl
  refine lv_iconst (v := 1) hx hb dL_law_839 (by decide) ?_
  refine lv_goto (tgt := 844) hx hb dL_law_840 (by decide) ?_
  obtain ⟨r, d1, d2, hm1, hm2, hR1⟩ := hf k b1 b2 dt1 dt2 (xs (Int32.toNatClampNeg (x3 + 1))) (xs (Int32.toNatClampNeg (x3 + 2))) (xs (Int32.toNatClampNeg (x3 + 3))) (xs (Int32.toNatClampNeg (x3 + 4))) 1 (Or.inr rfl) hk hR
  refine q_callL Y hW1 hW2 (Or.inl hb2) hb1 hS (As := [.int (xs (Int32.toNatClampNeg (x3 + 1))), .int (xs (Int32.toNatClampNeg (x3 + 2))), .int (xs (Int32.toNatClampNeg (x3 + 3))), .int (xs (Int32.toNatClampNeg (x3 + 4))), .int 1]) (rest := []) (st1 := [.int r]) (c_X11_sum l D (q_ca b1 q_S1) dt1 b1 (xs (Int32.toNatClampNeg (x3 + 1))) (xs (Int32.toNatClampNeg (x3 + 2))) (xs (Int32.toNatClampNeg (x3 + 3))) (xs (Int32.toNatClampNeg (x3 + 4))) 1 kd1 r d1 hm1) yl_X11_sum vl_X11_sum ml_RL_91 (ci := 11) rfl kd1 (by decide) rfl ⟨(Nat.le_of_ble_eq_true rfl), (Nat.le_of_ble_eq_true rfl)⟩ hl rfl (Nat.le_of_ble_eq_true rfl) dL_law_844 hcs rfl (fun H locs hW1 hW2 hS => ?_)
  refine lv_aload_n hx hb dL_law_847 rfl (lv_at hl 2 rfl) ?_
  refine lv_aload_n hx hb dL_law_848 rfl (lv_at hl 0 rfl) ?_
  refine lv_iload_n hx hb dL_law_849 rfl (lv_at hl 3 rfl) ?_
  refine lv_iconst (v := 1) hx hb dL_law_850 (by decide) ?_
  refine lv_iadd hx hb dL_law_851 ?_
  refine va_sld hx hb hX hbl hbA hS (hin 1 (by decide)) dL_law_852 ?_
  refine lv_aload_n hx hb dL_law_853 rfl (lv_at hl 0 rfl) ?_
  refine lv_iload_n hx hb dL_law_854 rfl (lv_at hl 3 rfl) ?_
  refine lv_iconst (v := 2) hx hb dL_law_855 (by decide) ?_
  refine lv_iadd hx hb dL_law_856 ?_
  refine va_sld hx hb hX hbl hbA hS (hin 2 (by decide)) dL_law_857 ?_
  refine lv_aload_n hx hb dL_law_858 rfl (lv_at hl 0 rfl) ?_
  refine lv_iload_n hx hb dL_law_859 rfl (lv_at hl 3 rfl) ?_
  refine lv_iconst (v := 3) hx hb dL_law_860 (by decide) ?_
  refine lv_iadd hx hb dL_law_861 ?_
  refine va_sld hx hb hX hbl hbA hS (hin 3 (by decide)) dL_law_862 ?_
  refine lv_aload_n hx hb dL_law_863 rfl (lv_at hl 0 rfl) ?_
  refine lv_iload_n hx hb dL_law_864 rfl (lv_at hl 3 rfl) ?_
  refine lv_iconst (v := 4) hx hb dL_law_865 (by decide) ?_
  refine lv_iadd hx hb dL_law_866 ?_
  refine va_sld hx hb hX hbl hbA hS (hin 4 (by decide)) dL_law_867 ?_
  refine lv_aload_n hx hb dL_law_868 rfl (lv_at hl 0 rfl) ?_
  refine lv_iload_n hx hb dL_law_869 rfl (lv_at hl 3 rfl) ?_
  refine lv_iconst (v := 5) hx hb dL_law_870 (by decide) ?_
  refine lv_iadd hx hb dL_law_871 ?_
  refine va_sld hx hb hX hbl hbA hS (hin 5 (by decide)) dL_law_872 ?_
  refine lv_if_eq (tgt := 880) hx hb dL_law_873 (by decide) (fun q => absurd q z836) (fun _ => ?_)
  refine lv_iconst (v := 1) hx hb dL_law_876 (by decide) ?_
  refine lv_goto (tgt := 881) hx hb dL_law_877 (by decide) ?_
  refine q_callL Y hW2 hW1 (Or.inr hb2) (Nat.le_trans hb1 (Nat.le_trans (Nat.le_add_right _ _) hb2)) hS (As := [.int (xs (Int32.toNatClampNeg (x3 + 1))), .int (xs (Int32.toNatClampNeg (x3 + 2))), .int (xs (Int32.toNatClampNeg (x3 + 3))), .int (xs (Int32.toNatClampNeg (x3 + 4))), .int 1]) (rest := [.int r]) (st1 := [.int r, .int r]) (c_X12_sum l D (q_ca b2 q_S2) dt2 b2 (xs (Int32.toNatClampNeg (x3 + 1))) (xs (Int32.toNatClampNeg (x3 + 2))) (xs (Int32.toNatClampNeg (x3 + 3))) (xs (Int32.toNatClampNeg (x3 + 4))) 1 kd2 r d2 hm2) yl_X12_sum vl_X12_sum ml_RL_95 (ci := 12) rfl kd2 (by decide) rfl ⟨(Nat.le_of_ble_eq_true rfl), (Nat.le_of_ble_eq_true rfl)⟩ hl rfl (Nat.le_of_ble_eq_true rfl) dL_law_881 hcs rfl (fun H locs hW2 hW1 hS => ?_)
  refine lv_icmp_eq (tgt := 2235) hx hb dL_law_884 (by decide) (fun _ => ?_) (fun q => absurd rfl q)
  exact next _ _ _ _ _ hR1 hW1 hW2 hS hl
set_option maxRecDepth 100000 in
theorem w_metric {p : Program} {l : Launch} {e : Env} {s : State} {m : MethodId} {below : List Frame} {meth : Method} {c : Code} {D : q_D} {b L b1 b2 cells slots : Nat} {xs : Nat → Int32} (Y : q_Cy D s.heap.size code 4 ret R_law p s m #[Value.ref b] meth c) (hX : va_X b L xs s s.heap) (hbl : b < s.heap.size) (hb1 : s.heap.size ≤ b1) (hb2 : b1 + q_S1.length ≤ b2) (hcs : cells ≤ room_1.cells ∧ slots ≤ room_1.slots) {Rel : Nat → Nat → Nat → q_Dt → q_Dt → Prop} (hf : q_c_metric Rel) {k : Nat} {dt1 dt2 : q_Dt} {H : Heap} {locs : List Loc} {ls : Array Slot} {x3 : Int32} (hk : k < 512) (hR : Rel k b1 b2 dt1 dt2) (hin0 : vp_in x3 L) (hin : ∀ j, j < 8 → vp_in (x3 + Int32.ofNat j) L) (hW1 : q_W D (q_ca b1 q_S1) dt1 H) (hW2 : q_W D (q_ca b2 q_S2) dt2 H) (hS : va_S (fun q => s.heap.size ≤ q) s.heap H locs) (hl : lv_has ls 4 [(0, .ref b), (1, .ref b1), (2, .ref b2), (3, .int x3)]) (next : ∀ (d1 d2 : q_Dt) (H : Heap) (locs : List Loc) (ls : Array Slot), Rel (k + 1) b1 b2 d1 d2 → q_W D (q_ca b1 q_S1) d1 H → q_W D (q_ca b2 q_S2) d2 H → va_S (fun q => s.heap.size ≤ q) s.heap H locs → lv_has ls 4 [(0, .ref b), (1, .ref b1), (2, .ref b2), (3, .int x3)] → W p l e room_1 s m #[Value.ref b] below meth c H locs cells slots (lw_Z below #[Value.ref b] s) (F0 m 2235 ls [])) : W p l e room_1 s m #[Value.ref b] below meth c H locs cells slots (lw_Z below #[Value.ref b] s) (F0 m 889 ls []) := by
  have hx := Y.1
  have hb := Y.2.1
  have hown := Y.2.2.2.2.2.1
  have hts := Y.2.2.2.2.2.2.1
  have hbA : ¬ (fun q : Nat => s.heap.size ≤ q) b := Nat.not_le.mpr hbl
  have kd1 := kd1_ok b1
  have kd2 := kd2_ok b2
  refine lv_aload_n hx hb dL_law_889 rfl (lv_at hl 1 rfl) ?_
  refine lv_aload_n hx hb dL_law_890 rfl (lv_at hl 0 rfl) ?_
  refine lv_iload_n hx hb dL_law_891 rfl (lv_at hl 3 rfl) ?_
  refine lv_iconst (v := 1) hx hb dL_law_892 (by decide) ?_
  refine lv_iadd hx hb dL_law_893 ?_
  refine va_sld hx hb hX hbl hbA hS (hin 1 (by decide)) dL_law_894 ?_
  refine lv_aload_n hx hb dL_law_895 rfl (lv_at hl 0 rfl) ?_
  refine lv_iload_n hx hb dL_law_896 rfl (lv_at hl 3 rfl) ?_
  refine lv_iconst (v := 2) hx hb dL_law_897 (by decide) ?_
  refine lv_iadd hx hb dL_law_898 ?_
  refine va_sld hx hb hX hbl hbA hS (hin 2 (by decide)) dL_law_899 ?_
  refine lv_aload_n hx hb dL_law_900 rfl (lv_at hl 0 rfl) ?_
  refine lv_iload_n hx hb dL_law_901 rfl (lv_at hl 3 rfl) ?_
  refine lv_iconst (v := 3) hx hb dL_law_902 (by decide) ?_
  refine lv_iadd hx hb dL_law_903 ?_
  refine va_sld hx hb hX hbl hbA hS (hin 3 (by decide)) dL_law_904 ?_
  refine lv_aload_n hx hb dL_law_905 rfl (lv_at hl 0 rfl) ?_
  refine lv_iload_n hx hb dL_law_906 rfl (lv_at hl 3 rfl) ?_
  refine lv_iconst (v := 4) hx hb dL_law_907 (by decide) ?_
  refine lv_iadd hx hb dL_law_908 ?_
  refine va_sld hx hb hX hbl hbA hS (hin 4 (by decide)) dL_law_909 ?_
  obtain ⟨r, d1, d2, hm1, hm2, hR1⟩ := hf k b1 b2 dt1 dt2 (xs (Int32.toNatClampNeg (x3 + 1))) (xs (Int32.toNatClampNeg (x3 + 2))) (xs (Int32.toNatClampNeg (x3 + 3))) (xs (Int32.toNatClampNeg (x3 + 4))) hk hR
  refine q_callL Y hW1 hW2 (Or.inl hb2) hb1 hS (As := [.int (xs (Int32.toNatClampNeg (x3 + 1))), .int (xs (Int32.toNatClampNeg (x3 + 2))), .int (xs (Int32.toNatClampNeg (x3 + 3))), .int (xs (Int32.toNatClampNeg (x3 + 4)))]) (rest := []) (st1 := [.long r]) (c_X11_metric l D (q_ca b1 q_S1) dt1 b1 (xs (Int32.toNatClampNeg (x3 + 1))) (xs (Int32.toNatClampNeg (x3 + 2))) (xs (Int32.toNatClampNeg (x3 + 3))) (xs (Int32.toNatClampNeg (x3 + 4))) kd1 r d1 hm1) yl_X11_metric vl_X11_metric ml_RL_96 (ci := 11) rfl kd1 (by decide) rfl ⟨(Nat.le_of_ble_eq_true rfl), (Nat.le_of_ble_eq_true rfl)⟩ hl rfl (Nat.le_of_ble_eq_true rfl) dL_law_910 hcs rfl (fun H locs hW1 hW2 hS => ?_)
  refine lv_aload_n hx hb dL_law_913 rfl (lv_at hl 2 rfl) ?_
  refine lv_aload_n hx hb dL_law_914 rfl (lv_at hl 0 rfl) ?_
  refine lv_iload_n hx hb dL_law_915 rfl (lv_at hl 3 rfl) ?_
  refine lv_iconst (v := 1) hx hb dL_law_916 (by decide) ?_
  refine lv_iadd hx hb dL_law_917 ?_
  refine va_sld hx hb hX hbl hbA hS (hin 1 (by decide)) dL_law_918 ?_
  refine lv_aload_n hx hb dL_law_919 rfl (lv_at hl 0 rfl) ?_
  refine lv_iload_n hx hb dL_law_920 rfl (lv_at hl 3 rfl) ?_
  refine lv_iconst (v := 2) hx hb dL_law_921 (by decide) ?_
  refine lv_iadd hx hb dL_law_922 ?_
  refine va_sld hx hb hX hbl hbA hS (hin 2 (by decide)) dL_law_923 ?_
  refine lv_aload_n hx hb dL_law_924 rfl (lv_at hl 0 rfl) ?_
  refine lv_iload_n hx hb dL_law_925 rfl (lv_at hl 3 rfl) ?_
  refine lv_iconst (v := 3) hx hb dL_law_926 (by decide) ?_
  refine lv_iadd hx hb dL_law_927 ?_
  refine va_sld hx hb hX hbl hbA hS (hin 3 (by decide)) dL_law_928 ?_
  refine lv_aload_n hx hb dL_law_929 rfl (lv_at hl 0 rfl) ?_
  refine lv_iload_n hx hb dL_law_930 rfl (lv_at hl 3 rfl) ?_
  refine lv_iconst (v := 4) hx hb dL_law_931 (by decide) ?_
  refine lv_iadd hx hb dL_law_932 ?_
  refine va_sld hx hb hX hbl hbA hS (hin 4 (by decide)) dL_law_933 ?_
  refine q_callL Y hW2 hW1 (Or.inr hb2) (Nat.le_trans hb1 (Nat.le_trans (Nat.le_add_right _ _) hb2)) hS (As := [.int (xs (Int32.toNatClampNeg (x3 + 1))), .int (xs (Int32.toNatClampNeg (x3 + 2))), .int (xs (Int32.toNatClampNeg (x3 + 3))), .int (xs (Int32.toNatClampNeg (x3 + 4)))]) (rest := [.long r]) (st1 := [.long r, .long r]) (c_X12_metric l D (q_ca b2 q_S2) dt2 b2 (xs (Int32.toNatClampNeg (x3 + 1))) (xs (Int32.toNatClampNeg (x3 + 2))) (xs (Int32.toNatClampNeg (x3 + 3))) (xs (Int32.toNatClampNeg (x3 + 4))) kd2 r d2 hm2) yl_X12_metric vl_X12_metric ml_RL_100 (ci := 12) rfl kd2 (by decide) rfl ⟨(Nat.le_of_ble_eq_true rfl), (Nat.le_of_ble_eq_true rfl)⟩ hl rfl (Nat.le_of_ble_eq_true rfl) dL_law_934 hcs rfl (fun H locs hW2 hW1 hS => ?_)
  refine W.lcmp hx hb dL_law_937 ?_
  refine lv_if_eq (tgt := 2235) hx hb dL_law_938 (by decide) (fun _ => ?_) (fun q => absurd (q_cmp_eq.mpr rfl) q)
  exact next _ _ _ _ _ hR1 hW1 hW2 hS hl
set_option maxRecDepth 100000 in
theorem w_best {p : Program} {l : Launch} {e : Env} {s : State} {m : MethodId} {below : List Frame} {meth : Method} {c : Code} {D : q_D} {b L b1 b2 cells slots : Nat} {xs : Nat → Int32} (Y : q_Cy D s.heap.size code 4 ret R_law p s m #[Value.ref b] meth c) (hX : va_X b L xs s s.heap) (hbl : b < s.heap.size) (hb1 : s.heap.size ≤ b1) (hb2 : b1 + q_S1.length ≤ b2) (hcs : cells ≤ room_1.cells ∧ slots ≤ room_1.slots) {Rel : Nat → Nat → Nat → q_Dt → q_Dt → Prop} (hf : q_c_best Rel) {k : Nat} {dt1 dt2 : q_Dt} {H : Heap} {locs : List Loc} {ls : Array Slot} {x3 : Int32} (hk : k < 512) (hR : Rel k b1 b2 dt1 dt2) (hin0 : vp_in x3 L) (hin : ∀ j, j < 8 → vp_in (x3 + Int32.ofNat j) L) (hW1 : q_W D (q_ca b1 q_S1) dt1 H) (hW2 : q_W D (q_ca b2 q_S2) dt2 H) (hS : va_S (fun q => s.heap.size ≤ q) s.heap H locs) (hl : lv_has ls 4 [(0, .ref b), (1, .ref b1), (2, .ref b2), (3, .int x3)]) (next : ∀ (d1 d2 : q_Dt) (H : Heap) (locs : List Loc) (ls : Array Slot), Rel (k + 1) b1 b2 d1 d2 → q_W D (q_ca b1 q_S1) d1 H → q_W D (q_ca b2 q_S2) d2 H → va_S (fun q => s.heap.size ≤ q) s.heap H locs → lv_has ls 4 [(0, .ref b), (1, .ref b1), (2, .ref b2), (3, .int x3)] → W p l e room_1 s m #[Value.ref b] below meth c H locs cells slots (lw_Z below #[Value.ref b] s) (F0 m 2235 ls [])) : W p l e room_1 s m #[Value.ref b] below meth c H locs cells slots (lw_Z below #[Value.ref b] s) (F0 m 943 ls []) := by
  have hx := Y.1
  have hb := Y.2.1
  have hown := Y.2.2.2.2.2.1
  have hts := Y.2.2.2.2.2.2.1
  have hbA : ¬ (fun q : Nat => s.heap.size ≤ q) b := Nat.not_le.mpr hbl
  have kd1 := kd1_ok b1
  have kd2 := kd2_ok b2
  refine lv_aload_n hx hb dL_law_943 rfl (lv_at hl 1 rfl) ?_
  refine lv_aload_n hx hb dL_law_944 rfl (lv_at hl 0 rfl) ?_
  refine lv_iload_n hx hb dL_law_945 rfl (lv_at hl 3 rfl) ?_
  refine lv_iconst (v := 1) hx hb dL_law_946 (by decide) ?_
  refine lv_iadd hx hb dL_law_947 ?_
  refine va_sld hx hb hX hbl hbA hS (hin 1 (by decide)) dL_law_948 ?_
  refine lv_aload_n hx hb dL_law_949 rfl (lv_at hl 0 rfl) ?_
  refine lv_iload_n hx hb dL_law_950 rfl (lv_at hl 3 rfl) ?_
  refine lv_iconst (v := 2) hx hb dL_law_951 (by decide) ?_
  refine lv_iadd hx hb dL_law_952 ?_
  refine va_sld hx hb hX hbl hbA hS (hin 2 (by decide)) dL_law_953 ?_
  refine lv_aload_n hx hb dL_law_954 rfl (lv_at hl 0 rfl) ?_
  refine lv_iload_n hx hb dL_law_955 rfl (lv_at hl 3 rfl) ?_
  refine lv_iconst (v := 3) hx hb dL_law_956 (by decide) ?_
  refine lv_iadd hx hb dL_law_957 ?_
  refine va_sld hx hb hX hbl hbA hS (hin 3 (by decide)) dL_law_958 ?_
  obtain ⟨r, d1, d2, hm1, hm2, hR1⟩ := hf k b1 b2 dt1 dt2 (xs (Int32.toNatClampNeg (x3 + 1))) (xs (Int32.toNatClampNeg (x3 + 2))) (xs (Int32.toNatClampNeg (x3 + 3))) hk hR
  refine q_callL Y hW1 hW2 (Or.inl hb2) hb1 hS (As := [.int (xs (Int32.toNatClampNeg (x3 + 1))), .int (xs (Int32.toNatClampNeg (x3 + 2))), .int (xs (Int32.toNatClampNeg (x3 + 3)))]) (rest := []) (st1 := [.int r]) (c_X11_best l D (q_ca b1 q_S1) dt1 b1 (xs (Int32.toNatClampNeg (x3 + 1))) (xs (Int32.toNatClampNeg (x3 + 2))) (xs (Int32.toNatClampNeg (x3 + 3))) kd1 r d1 hm1) yl_X11_best vl_X11_best ml_RL_101 (ci := 11) rfl kd1 (by decide) rfl ⟨(Nat.le_of_ble_eq_true rfl), (Nat.le_of_ble_eq_true rfl)⟩ hl rfl (Nat.le_of_ble_eq_true rfl) dL_law_959 hcs rfl (fun H locs hW1 hW2 hS => ?_)
  refine lv_aload_n hx hb dL_law_962 rfl (lv_at hl 2 rfl) ?_
  refine lv_aload_n hx hb dL_law_963 rfl (lv_at hl 0 rfl) ?_
  refine lv_iload_n hx hb dL_law_964 rfl (lv_at hl 3 rfl) ?_
  refine lv_iconst (v := 1) hx hb dL_law_965 (by decide) ?_
  refine lv_iadd hx hb dL_law_966 ?_
  refine va_sld hx hb hX hbl hbA hS (hin 1 (by decide)) dL_law_967 ?_
  refine lv_aload_n hx hb dL_law_968 rfl (lv_at hl 0 rfl) ?_
  refine lv_iload_n hx hb dL_law_969 rfl (lv_at hl 3 rfl) ?_
  refine lv_iconst (v := 2) hx hb dL_law_970 (by decide) ?_
  refine lv_iadd hx hb dL_law_971 ?_
  refine va_sld hx hb hX hbl hbA hS (hin 2 (by decide)) dL_law_972 ?_
  refine lv_aload_n hx hb dL_law_973 rfl (lv_at hl 0 rfl) ?_
  refine lv_iload_n hx hb dL_law_974 rfl (lv_at hl 3 rfl) ?_
  refine lv_iconst (v := 3) hx hb dL_law_975 (by decide) ?_
  refine lv_iadd hx hb dL_law_976 ?_
  refine va_sld hx hb hX hbl hbA hS (hin 3 (by decide)) dL_law_977 ?_
  refine q_callL Y hW2 hW1 (Or.inr hb2) (Nat.le_trans hb1 (Nat.le_trans (Nat.le_add_right _ _) hb2)) hS (As := [.int (xs (Int32.toNatClampNeg (x3 + 1))), .int (xs (Int32.toNatClampNeg (x3 + 2))), .int (xs (Int32.toNatClampNeg (x3 + 3)))]) (rest := [.int r]) (st1 := [.int r, .int r]) (c_X12_best l D (q_ca b2 q_S2) dt2 b2 (xs (Int32.toNatClampNeg (x3 + 1))) (xs (Int32.toNatClampNeg (x3 + 2))) (xs (Int32.toNatClampNeg (x3 + 3))) kd2 r d2 hm2) yl_X12_best vl_X12_best ml_RL_104 (ci := 12) rfl kd2 (by decide) rfl ⟨(Nat.le_of_ble_eq_true rfl), (Nat.le_of_ble_eq_true rfl)⟩ hl rfl (Nat.le_of_ble_eq_true rfl) dL_law_978 hcs rfl (fun H locs hW2 hW1 hS => ?_)
  refine lv_icmp_eq (tgt := 2235) hx hb dL_law_981 (by decide) (fun _ => ?_) (fun q => absurd rfl q)
  exact next _ _ _ _ _ hR1 hW1 hW2 hS hl
set_option maxRecDepth 100000 in
theorem w_second {p : Program} {l : Launch} {e : Env} {s : State} {m : MethodId} {below : List Frame} {meth : Method} {c : Code} {D : q_D} {b L b1 b2 cells slots : Nat} {xs : Nat → Int32} (Y : q_Cy D s.heap.size code 4 ret R_law p s m #[Value.ref b] meth c) (hX : va_X b L xs s s.heap) (hbl : b < s.heap.size) (hb1 : s.heap.size ≤ b1) (hb2 : b1 + q_S1.length ≤ b2) (hcs : cells ≤ room_1.cells ∧ slots ≤ room_1.slots) {Rel : Nat → Nat → Nat → q_Dt → q_Dt → Prop} (hf : q_c_second Rel) {k : Nat} {dt1 dt2 : q_Dt} {H : Heap} {locs : List Loc} {ls : Array Slot} {x3 : Int32} (hk : k < 512) (hR : Rel k b1 b2 dt1 dt2) (hin0 : vp_in x3 L) (hin : ∀ j, j < 8 → vp_in (x3 + Int32.ofNat j) L) (hW1 : q_W D (q_ca b1 q_S1) dt1 H) (hW2 : q_W D (q_ca b2 q_S2) dt2 H) (hS : va_S (fun q => s.heap.size ≤ q) s.heap H locs) (hl : lv_has ls 4 [(0, .ref b), (1, .ref b1), (2, .ref b2), (3, .int x3)]) (next : ∀ (d1 d2 : q_Dt) (H : Heap) (locs : List Loc) (ls : Array Slot), Rel (k + 1) b1 b2 d1 d2 → q_W D (q_ca b1 q_S1) d1 H → q_W D (q_ca b2 q_S2) d2 H → va_S (fun q => s.heap.size ≤ q) s.heap H locs → lv_has ls 4 [(0, .ref b), (1, .ref b1), (2, .ref b2), (3, .int x3)] → W p l e room_1 s m #[Value.ref b] below meth c H locs cells slots (lw_Z below #[Value.ref b] s) (F0 m 2235 ls [])) : W p l e room_1 s m #[Value.ref b] below meth c H locs cells slots (lw_Z below #[Value.ref b] s) (F0 m 986 ls []) := by
  have hx := Y.1
  have hb := Y.2.1
  have hown := Y.2.2.2.2.2.1
  have hts := Y.2.2.2.2.2.2.1
  have hbA : ¬ (fun q : Nat => s.heap.size ≤ q) b := Nat.not_le.mpr hbl
  have kd1 := kd1_ok b1
  have kd2 := kd2_ok b2
  refine lv_aload_n hx hb dL_law_986 rfl (lv_at hl 1 rfl) ?_
  refine lv_aload_n hx hb dL_law_987 rfl (lv_at hl 0 rfl) ?_
  refine lv_iload_n hx hb dL_law_988 rfl (lv_at hl 3 rfl) ?_
  refine lv_iconst (v := 1) hx hb dL_law_989 (by decide) ?_
  refine lv_iadd hx hb dL_law_990 ?_
  refine va_sld hx hb hX hbl hbA hS (hin 1 (by decide)) dL_law_991 ?_
  refine lv_aload_n hx hb dL_law_992 rfl (lv_at hl 0 rfl) ?_
  refine lv_iload_n hx hb dL_law_993 rfl (lv_at hl 3 rfl) ?_
  refine lv_iconst (v := 2) hx hb dL_law_994 (by decide) ?_
  refine lv_iadd hx hb dL_law_995 ?_
  refine va_sld hx hb hX hbl hbA hS (hin 2 (by decide)) dL_law_996 ?_
  refine lv_aload_n hx hb dL_law_997 rfl (lv_at hl 0 rfl) ?_
  refine lv_iload_n hx hb dL_law_998 rfl (lv_at hl 3 rfl) ?_
  refine lv_iconst (v := 3) hx hb dL_law_999 (by decide) ?_
  refine lv_iadd hx hb dL_law_1000 ?_
  refine va_sld hx hb hX hbl hbA hS (hin 3 (by decide)) dL_law_1001 ?_
  refine lv_aload_n hx hb dL_law_1002 rfl (lv_at hl 0 rfl) ?_
  refine lv_iload_n hx hb dL_law_1003 rfl (lv_at hl 3 rfl) ?_
  refine lv_iconst (v := 4) hx hb dL_law_1004 (by decide) ?_
  refine lv_iadd hx hb dL_law_1005 ?_
  refine va_sld hx hb hX hbl hbA hS (hin 4 (by decide)) dL_law_1006 ?_
  obtain ⟨r, d1, d2, hm1, hm2, hR1⟩ := hf k b1 b2 dt1 dt2 (xs (Int32.toNatClampNeg (x3 + 1))) (xs (Int32.toNatClampNeg (x3 + 2))) (xs (Int32.toNatClampNeg (x3 + 3))) (xs (Int32.toNatClampNeg (x3 + 4))) hk hR
  refine q_callL Y hW1 hW2 (Or.inl hb2) hb1 hS (As := [.int (xs (Int32.toNatClampNeg (x3 + 1))), .int (xs (Int32.toNatClampNeg (x3 + 2))), .int (xs (Int32.toNatClampNeg (x3 + 3))), .int (xs (Int32.toNatClampNeg (x3 + 4)))]) (rest := []) (st1 := [.int r]) (c_X11_second l D (q_ca b1 q_S1) dt1 b1 (xs (Int32.toNatClampNeg (x3 + 1))) (xs (Int32.toNatClampNeg (x3 + 2))) (xs (Int32.toNatClampNeg (x3 + 3))) (xs (Int32.toNatClampNeg (x3 + 4))) kd1 r d1 hm1) yl_X11_second vl_X11_second ml_RL_105 (ci := 11) rfl kd1 (by decide) rfl ⟨(Nat.le_of_ble_eq_true rfl), (Nat.le_of_ble_eq_true rfl)⟩ hl rfl (Nat.le_of_ble_eq_true rfl) dL_law_1007 hcs rfl (fun H locs hW1 hW2 hS => ?_)
  refine lv_aload_n hx hb dL_law_1010 rfl (lv_at hl 2 rfl) ?_
  refine lv_aload_n hx hb dL_law_1011 rfl (lv_at hl 0 rfl) ?_
  refine lv_iload_n hx hb dL_law_1012 rfl (lv_at hl 3 rfl) ?_
  refine lv_iconst (v := 1) hx hb dL_law_1013 (by decide) ?_
  refine lv_iadd hx hb dL_law_1014 ?_
  refine va_sld hx hb hX hbl hbA hS (hin 1 (by decide)) dL_law_1015 ?_
  refine lv_aload_n hx hb dL_law_1016 rfl (lv_at hl 0 rfl) ?_
  refine lv_iload_n hx hb dL_law_1017 rfl (lv_at hl 3 rfl) ?_
  refine lv_iconst (v := 2) hx hb dL_law_1018 (by decide) ?_
  refine lv_iadd hx hb dL_law_1019 ?_
  refine va_sld hx hb hX hbl hbA hS (hin 2 (by decide)) dL_law_1020 ?_
  refine lv_aload_n hx hb dL_law_1021 rfl (lv_at hl 0 rfl) ?_
  refine lv_iload_n hx hb dL_law_1022 rfl (lv_at hl 3 rfl) ?_
  refine lv_iconst (v := 3) hx hb dL_law_1023 (by decide) ?_
  refine lv_iadd hx hb dL_law_1024 ?_
  refine va_sld hx hb hX hbl hbA hS (hin 3 (by decide)) dL_law_1025 ?_
  refine lv_aload_n hx hb dL_law_1026 rfl (lv_at hl 0 rfl) ?_
  refine lv_iload_n hx hb dL_law_1027 rfl (lv_at hl 3 rfl) ?_
  refine lv_iconst (v := 4) hx hb dL_law_1028 (by decide) ?_
  refine lv_iadd hx hb dL_law_1029 ?_
  refine va_sld hx hb hX hbl hbA hS (hin 4 (by decide)) dL_law_1030 ?_
  refine q_callL Y hW2 hW1 (Or.inr hb2) (Nat.le_trans hb1 (Nat.le_trans (Nat.le_add_right _ _) hb2)) hS (As := [.int (xs (Int32.toNatClampNeg (x3 + 1))), .int (xs (Int32.toNatClampNeg (x3 + 2))), .int (xs (Int32.toNatClampNeg (x3 + 3))), .int (xs (Int32.toNatClampNeg (x3 + 4)))]) (rest := [.int r]) (st1 := [.int r, .int r]) (c_X12_second l D (q_ca b2 q_S2) dt2 b2 (xs (Int32.toNatClampNeg (x3 + 1))) (xs (Int32.toNatClampNeg (x3 + 2))) (xs (Int32.toNatClampNeg (x3 + 3))) (xs (Int32.toNatClampNeg (x3 + 4))) kd2 r d2 hm2) yl_X12_second vl_X12_second ml_RL_109 (ci := 12) rfl kd2 (by decide) rfl ⟨(Nat.le_of_ble_eq_true rfl), (Nat.le_of_ble_eq_true rfl)⟩ hl rfl (Nat.le_of_ble_eq_true rfl) dL_law_1031 hcs rfl (fun H locs hW2 hW1 hS => ?_)
  refine lv_icmp_eq (tgt := 2235) hx hb dL_law_1034 (by decide) (fun _ => ?_) (fun q => absurd rfl q)
  exact next _ _ _ _ _ hR1 hW1 hW2 hS hl
set_option maxRecDepth 100000 in
theorem w_peak {p : Program} {l : Launch} {e : Env} {s : State} {m : MethodId} {below : List Frame} {meth : Method} {c : Code} {D : q_D} {b L b1 b2 cells slots : Nat} {xs : Nat → Int32} (Y : q_Cy D s.heap.size code 4 ret R_law p s m #[Value.ref b] meth c) (hX : va_X b L xs s s.heap) (hbl : b < s.heap.size) (hb1 : s.heap.size ≤ b1) (hb2 : b1 + q_S1.length ≤ b2) (hcs : cells ≤ room_1.cells ∧ slots ≤ room_1.slots) {Rel : Nat → Nat → Nat → q_Dt → q_Dt → Prop} (hf : q_c_peak Rel) {k : Nat} {dt1 dt2 : q_Dt} {H : Heap} {locs : List Loc} {ls : Array Slot} {x3 : Int32} (hk : k < 512) (hR : Rel k b1 b2 dt1 dt2) (hin0 : vp_in x3 L) (hin : ∀ j, j < 8 → vp_in (x3 + Int32.ofNat j) L) (hW1 : q_W D (q_ca b1 q_S1) dt1 H) (hW2 : q_W D (q_ca b2 q_S2) dt2 H) (hS : va_S (fun q => s.heap.size ≤ q) s.heap H locs) (hl : lv_has ls 4 [(0, .ref b), (1, .ref b1), (2, .ref b2), (3, .int x3)]) (next : ∀ (d1 d2 : q_Dt) (H : Heap) (locs : List Loc) (ls : Array Slot), Rel (k + 1) b1 b2 d1 d2 → q_W D (q_ca b1 q_S1) d1 H → q_W D (q_ca b2 q_S2) d2 H → va_S (fun q => s.heap.size ≤ q) s.heap H locs → lv_has ls 4 [(0, .ref b), (1, .ref b1), (2, .ref b2), (3, .int x3)] → W p l e room_1 s m #[Value.ref b] below meth c H locs cells slots (lw_Z below #[Value.ref b] s) (F0 m 2235 ls [])) : W p l e room_1 s m #[Value.ref b] below meth c H locs cells slots (lw_Z below #[Value.ref b] s) (F0 m 1039 ls []) := by
  have hx := Y.1
  have hb := Y.2.1
  have hown := Y.2.2.2.2.2.1
  have hts := Y.2.2.2.2.2.2.1
  have hbA : ¬ (fun q : Nat => s.heap.size ≤ q) b := Nat.not_le.mpr hbl
  have kd1 := kd1_ok b1
  have kd2 := kd2_ok b2
  refine lv_aload_n hx hb dL_law_1039 rfl (lv_at hl 1 rfl) ?_
  refine lv_aload_n hx hb dL_law_1040 rfl (lv_at hl 0 rfl) ?_
  refine lv_iload_n hx hb dL_law_1041 rfl (lv_at hl 3 rfl) ?_
  refine lv_iconst (v := 1) hx hb dL_law_1042 (by decide) ?_
  refine lv_iadd hx hb dL_law_1043 ?_
  refine va_sld hx hb hX hbl hbA hS (hin 1 (by decide)) dL_law_1044 ?_
  refine lv_aload_n hx hb dL_law_1045 rfl (lv_at hl 0 rfl) ?_
  refine lv_iload_n hx hb dL_law_1046 rfl (lv_at hl 3 rfl) ?_
  refine lv_iconst (v := 2) hx hb dL_law_1047 (by decide) ?_
  refine lv_iadd hx hb dL_law_1048 ?_
  refine va_sld hx hb hX hbl hbA hS (hin 2 (by decide)) dL_law_1049 ?_
  refine lv_aload_n hx hb dL_law_1050 rfl (lv_at hl 0 rfl) ?_
  refine lv_iload_n hx hb dL_law_1051 rfl (lv_at hl 3 rfl) ?_
  refine lv_iconst (v := 3) hx hb dL_law_1052 (by decide) ?_
  refine lv_iadd hx hb dL_law_1053 ?_
  refine va_sld hx hb hX hbl hbA hS (hin 3 (by decide)) dL_law_1054 ?_
  refine lv_aload_n hx hb dL_law_1055 rfl (lv_at hl 0 rfl) ?_
  refine lv_iload_n hx hb dL_law_1056 rfl (lv_at hl 3 rfl) ?_
  refine lv_iconst (v := 4) hx hb dL_law_1057 (by decide) ?_
  refine lv_iadd hx hb dL_law_1058 ?_
  refine va_sld hx hb hX hbl hbA hS (hin 4 (by decide)) dL_law_1059 ?_
  refine lv_aload_n hx hb dL_law_1060 rfl (lv_at hl 0 rfl) ?_
  refine lv_iload_n hx hb dL_law_1061 rfl (lv_at hl 3 rfl) ?_
  refine lv_iconst (v := 5) hx hb dL_law_1062 (by decide) ?_
  refine lv_iadd hx hb dL_law_1063 ?_
  refine va_sld hx hb hX hbl hbA hS (hin 5 (by decide)) dL_law_1064 ?_
  obtain ⟨r, d1, d2, hm1, hm2, hR1⟩ := hf k b1 b2 dt1 dt2 (xs (Int32.toNatClampNeg (x3 + 1))) (xs (Int32.toNatClampNeg (x3 + 2))) (xs (Int32.toNatClampNeg (x3 + 3))) (xs (Int32.toNatClampNeg (x3 + 4))) (xs (Int32.toNatClampNeg (x3 + 5))) hk hR
  refine q_callL Y hW1 hW2 (Or.inl hb2) hb1 hS (As := [.int (xs (Int32.toNatClampNeg (x3 + 1))), .int (xs (Int32.toNatClampNeg (x3 + 2))), .int (xs (Int32.toNatClampNeg (x3 + 3))), .int (xs (Int32.toNatClampNeg (x3 + 4))), .int (xs (Int32.toNatClampNeg (x3 + 5)))]) (rest := []) (st1 := [.int r]) (c_X11_peak l D (q_ca b1 q_S1) dt1 b1 (xs (Int32.toNatClampNeg (x3 + 1))) (xs (Int32.toNatClampNeg (x3 + 2))) (xs (Int32.toNatClampNeg (x3 + 3))) (xs (Int32.toNatClampNeg (x3 + 4))) (xs (Int32.toNatClampNeg (x3 + 5))) kd1 r d1 hm1) yl_X11_peak vl_X11_peak ml_RL_110 (ci := 11) rfl kd1 (by decide) rfl ⟨(Nat.le_of_ble_eq_true rfl), (Nat.le_of_ble_eq_true rfl)⟩ hl rfl (Nat.le_of_ble_eq_true rfl) dL_law_1065 hcs rfl (fun H locs hW1 hW2 hS => ?_)
  refine lv_aload_n hx hb dL_law_1068 rfl (lv_at hl 2 rfl) ?_
  refine lv_aload_n hx hb dL_law_1069 rfl (lv_at hl 0 rfl) ?_
  refine lv_iload_n hx hb dL_law_1070 rfl (lv_at hl 3 rfl) ?_
  refine lv_iconst (v := 1) hx hb dL_law_1071 (by decide) ?_
  refine lv_iadd hx hb dL_law_1072 ?_
  refine va_sld hx hb hX hbl hbA hS (hin 1 (by decide)) dL_law_1073 ?_
  refine lv_aload_n hx hb dL_law_1074 rfl (lv_at hl 0 rfl) ?_
  refine lv_iload_n hx hb dL_law_1075 rfl (lv_at hl 3 rfl) ?_
  refine lv_iconst (v := 2) hx hb dL_law_1076 (by decide) ?_
  refine lv_iadd hx hb dL_law_1077 ?_
  refine va_sld hx hb hX hbl hbA hS (hin 2 (by decide)) dL_law_1078 ?_
  refine lv_aload_n hx hb dL_law_1079 rfl (lv_at hl 0 rfl) ?_
  refine lv_iload_n hx hb dL_law_1080 rfl (lv_at hl 3 rfl) ?_
  refine lv_iconst (v := 3) hx hb dL_law_1081 (by decide) ?_
  refine lv_iadd hx hb dL_law_1082 ?_
  refine va_sld hx hb hX hbl hbA hS (hin 3 (by decide)) dL_law_1083 ?_
  refine lv_aload_n hx hb dL_law_1084 rfl (lv_at hl 0 rfl) ?_
  refine lv_iload_n hx hb dL_law_1085 rfl (lv_at hl 3 rfl) ?_
  refine lv_iconst (v := 4) hx hb dL_law_1086 (by decide) ?_
  refine lv_iadd hx hb dL_law_1087 ?_
  refine va_sld hx hb hX hbl hbA hS (hin 4 (by decide)) dL_law_1088 ?_
  refine lv_aload_n hx hb dL_law_1089 rfl (lv_at hl 0 rfl) ?_
  refine lv_iload_n hx hb dL_law_1090 rfl (lv_at hl 3 rfl) ?_
  refine lv_iconst (v := 5) hx hb dL_law_1091 (by decide) ?_
  refine lv_iadd hx hb dL_law_1092 ?_
  refine va_sld hx hb hX hbl hbA hS (hin 5 (by decide)) dL_law_1093 ?_
  refine q_callL Y hW2 hW1 (Or.inr hb2) (Nat.le_trans hb1 (Nat.le_trans (Nat.le_add_right _ _) hb2)) hS (As := [.int (xs (Int32.toNatClampNeg (x3 + 1))), .int (xs (Int32.toNatClampNeg (x3 + 2))), .int (xs (Int32.toNatClampNeg (x3 + 3))), .int (xs (Int32.toNatClampNeg (x3 + 4))), .int (xs (Int32.toNatClampNeg (x3 + 5)))]) (rest := [.int r]) (st1 := [.int r, .int r]) (c_X12_peak l D (q_ca b2 q_S2) dt2 b2 (xs (Int32.toNatClampNeg (x3 + 1))) (xs (Int32.toNatClampNeg (x3 + 2))) (xs (Int32.toNatClampNeg (x3 + 3))) (xs (Int32.toNatClampNeg (x3 + 4))) (xs (Int32.toNatClampNeg (x3 + 5))) kd2 r d2 hm2) yl_X12_peak vl_X12_peak ml_RL_113 (ci := 12) rfl kd2 (by decide) rfl ⟨(Nat.le_of_ble_eq_true rfl), (Nat.le_of_ble_eq_true rfl)⟩ hl rfl (Nat.le_of_ble_eq_true rfl) dL_law_1094 hcs rfl (fun H locs hW2 hW1 hS => ?_)
  refine lv_icmp_eq (tgt := 2235) hx hb dL_law_1097 (by decide) (fun _ => ?_) (fun q => absurd rfl q)
  exact next _ _ _ _ _ hR1 hW1 hW2 hS hl
set_option maxRecDepth 100000 in
theorem w_alarms {p : Program} {l : Launch} {e : Env} {s : State} {m : MethodId} {below : List Frame} {meth : Method} {c : Code} {D : q_D} {b L b1 b2 cells slots : Nat} {xs : Nat → Int32} (Y : q_Cy D s.heap.size code 4 ret R_law p s m #[Value.ref b] meth c) (hX : va_X b L xs s s.heap) (hbl : b < s.heap.size) (hb1 : s.heap.size ≤ b1) (hb2 : b1 + q_S1.length ≤ b2) (hcs : cells ≤ room_1.cells ∧ slots ≤ room_1.slots) {Rel : Nat → Nat → Nat → q_Dt → q_Dt → Prop} (hf : q_c_alarms Rel) {k : Nat} {dt1 dt2 : q_Dt} {H : Heap} {locs : List Loc} {ls : Array Slot} {x3 : Int32} (hk : k < 512) (hR : Rel k b1 b2 dt1 dt2) (hin0 : vp_in x3 L) (hin : ∀ j, j < 8 → vp_in (x3 + Int32.ofNat j) L) (hW1 : q_W D (q_ca b1 q_S1) dt1 H) (hW2 : q_W D (q_ca b2 q_S2) dt2 H) (hS : va_S (fun q => s.heap.size ≤ q) s.heap H locs) (hl : lv_has ls 4 [(0, .ref b), (1, .ref b1), (2, .ref b2), (3, .int x3)]) (next : ∀ (d1 d2 : q_Dt) (H : Heap) (locs : List Loc) (ls : Array Slot), Rel (k + 1) b1 b2 d1 d2 → q_W D (q_ca b1 q_S1) d1 H → q_W D (q_ca b2 q_S2) d2 H → va_S (fun q => s.heap.size ≤ q) s.heap H locs → lv_has ls 4 [(0, .ref b), (1, .ref b1), (2, .ref b2), (3, .int x3)] → W p l e room_1 s m #[Value.ref b] below meth c H locs cells slots (lw_Z below #[Value.ref b] s) (F0 m 2235 ls [])) : W p l e room_1 s m #[Value.ref b] below meth c H locs cells slots (lw_Z below #[Value.ref b] s) (F0 m 1102 ls []) := by
  have hx := Y.1
  have hb := Y.2.1
  have hown := Y.2.2.2.2.2.1
  have hts := Y.2.2.2.2.2.2.1
  have hbA : ¬ (fun q : Nat => s.heap.size ≤ q) b := Nat.not_le.mpr hbl
  have kd1 := kd1_ok b1
  have kd2 := kd2_ok b2
  refine lv_aload_n hx hb dL_law_1102 rfl (lv_at hl 1 rfl) ?_
  refine lv_aload_n hx hb dL_law_1103 rfl (lv_at hl 0 rfl) ?_
  refine lv_iload_n hx hb dL_law_1104 rfl (lv_at hl 3 rfl) ?_
  refine lv_iconst (v := 1) hx hb dL_law_1105 (by decide) ?_
  refine lv_iadd hx hb dL_law_1106 ?_
  refine va_sld hx hb hX hbl hbA hS (hin 1 (by decide)) dL_law_1107 ?_
  refine lv_aload_n hx hb dL_law_1108 rfl (lv_at hl 0 rfl) ?_
  refine lv_iload_n hx hb dL_law_1109 rfl (lv_at hl 3 rfl) ?_
  refine lv_iconst (v := 2) hx hb dL_law_1110 (by decide) ?_
  refine lv_iadd hx hb dL_law_1111 ?_
  refine va_sld hx hb hX hbl hbA hS (hin 2 (by decide)) dL_law_1112 ?_
  refine lv_aload_n hx hb dL_law_1113 rfl (lv_at hl 0 rfl) ?_
  refine lv_iload_n hx hb dL_law_1114 rfl (lv_at hl 3 rfl) ?_
  refine lv_iconst (v := 3) hx hb dL_law_1115 (by decide) ?_
  refine lv_iadd hx hb dL_law_1116 ?_
  refine va_sld hx hb hX hbl hbA hS (hin 3 (by decide)) dL_law_1117 ?_
  refine lv_aload_n hx hb dL_law_1118 rfl (lv_at hl 0 rfl) ?_
  refine lv_iload_n hx hb dL_law_1119 rfl (lv_at hl 3 rfl) ?_
  refine lv_iconst (v := 4) hx hb dL_law_1120 (by decide) ?_
  refine lv_iadd hx hb dL_law_1121 ?_
  refine va_sld hx hb hX hbl hbA hS (hin 4 (by decide)) dL_law_1122 ?_
  refine lv_i2l (v := (Int32.toInt64 (xs (Int32.toNatClampNeg (x3 + 4))))) hx hb dL_law_1123 rfl ?_
  refine lv_bipush (v := 32) hx hb dL_law_1124 (by decide) ?_
  refine lv_lshl (v := ((Int32.toInt64 (xs (Int32.toNatClampNeg (x3 + 4)))) <<< (Int32.toInt64 32 &&& 63))) hx hb dL_law_1126 rfl ?_
  refine lv_aload_n hx hb dL_law_1127 rfl (lv_at hl 0 rfl) ?_
  refine lv_iload_n hx hb dL_law_1128 rfl (lv_at hl 3 rfl) ?_
  refine lv_iconst (v := 5) hx hb dL_law_1129 (by decide) ?_
  refine lv_iadd hx hb dL_law_1130 ?_
  refine va_sld hx hb hX hbl hbA hS (hin 5 (by decide)) dL_law_1131 ?_
  refine lv_i2l (v := (Int32.toInt64 (xs (Int32.toNatClampNeg (x3 + 5))))) hx hb dL_law_1132 rfl ?_
  refine lv_ldc2 (own := RL) (v := 4294967295) hx hb hown (hts _ wc_RL_114) dL_law_1133 ?_
  refine lv_land hx hb dL_law_1136 ?_
  refine lv_lor hx hb dL_law_1137 ?_
  obtain ⟨r, d1, d2, hm1, hm2, hR1⟩ := hf k b1 b2 dt1 dt2 (xs (Int32.toNatClampNeg (x3 + 1))) (xs (Int32.toNatClampNeg (x3 + 2))) (xs (Int32.toNatClampNeg (x3 + 3))) (((Int32.toInt64 (xs (Int32.toNatClampNeg (x3 + 4)))) <<< (Int32.toInt64 32 &&& 63)) ||| ((Int32.toInt64 (xs (Int32.toNatClampNeg (x3 + 5)))) &&& 4294967295)) hk hR
  refine q_callL Y hW1 hW2 (Or.inl hb2) hb1 hS (As := [.int (xs (Int32.toNatClampNeg (x3 + 1))), .int (xs (Int32.toNatClampNeg (x3 + 2))), .int (xs (Int32.toNatClampNeg (x3 + 3))), .long (((Int32.toInt64 (xs (Int32.toNatClampNeg (x3 + 4)))) <<< (Int32.toInt64 32 &&& 63)) ||| ((Int32.toInt64 (xs (Int32.toNatClampNeg (x3 + 5)))) &&& 4294967295))]) (rest := []) (st1 := [.int r]) (c_X11_alarms l D (q_ca b1 q_S1) dt1 b1 (xs (Int32.toNatClampNeg (x3 + 1))) (xs (Int32.toNatClampNeg (x3 + 2))) (xs (Int32.toNatClampNeg (x3 + 3))) (((Int32.toInt64 (xs (Int32.toNatClampNeg (x3 + 4)))) <<< (Int32.toInt64 32 &&& 63)) ||| ((Int32.toInt64 (xs (Int32.toNatClampNeg (x3 + 5)))) &&& 4294967295)) kd1 r d1 hm1) yl_X11_alarms vl_X11_alarms ml_RL_116 (ci := 11) rfl kd1 (by decide) rfl ⟨(Nat.le_of_ble_eq_true rfl), (Nat.le_of_ble_eq_true rfl)⟩ hl rfl (Nat.le_of_ble_eq_true rfl) dL_law_1138 hcs rfl (fun H locs hW1 hW2 hS => ?_)
  refine lv_aload_n hx hb dL_law_1141 rfl (lv_at hl 2 rfl) ?_
  refine lv_aload_n hx hb dL_law_1142 rfl (lv_at hl 0 rfl) ?_
  refine lv_iload_n hx hb dL_law_1143 rfl (lv_at hl 3 rfl) ?_
  refine lv_iconst (v := 1) hx hb dL_law_1144 (by decide) ?_
  refine lv_iadd hx hb dL_law_1145 ?_
  refine va_sld hx hb hX hbl hbA hS (hin 1 (by decide)) dL_law_1146 ?_
  refine lv_aload_n hx hb dL_law_1147 rfl (lv_at hl 0 rfl) ?_
  refine lv_iload_n hx hb dL_law_1148 rfl (lv_at hl 3 rfl) ?_
  refine lv_iconst (v := 2) hx hb dL_law_1149 (by decide) ?_
  refine lv_iadd hx hb dL_law_1150 ?_
  refine va_sld hx hb hX hbl hbA hS (hin 2 (by decide)) dL_law_1151 ?_
  refine lv_aload_n hx hb dL_law_1152 rfl (lv_at hl 0 rfl) ?_
  refine lv_iload_n hx hb dL_law_1153 rfl (lv_at hl 3 rfl) ?_
  refine lv_iconst (v := 3) hx hb dL_law_1154 (by decide) ?_
  refine lv_iadd hx hb dL_law_1155 ?_
  refine va_sld hx hb hX hbl hbA hS (hin 3 (by decide)) dL_law_1156 ?_
  refine lv_aload_n hx hb dL_law_1157 rfl (lv_at hl 0 rfl) ?_
  refine lv_iload_n hx hb dL_law_1158 rfl (lv_at hl 3 rfl) ?_
  refine lv_iconst (v := 4) hx hb dL_law_1159 (by decide) ?_
  refine lv_iadd hx hb dL_law_1160 ?_
  refine va_sld hx hb hX hbl hbA hS (hin 4 (by decide)) dL_law_1161 ?_
  refine lv_i2l (v := (Int32.toInt64 (xs (Int32.toNatClampNeg (x3 + 4))))) hx hb dL_law_1162 rfl ?_
  refine lv_bipush (v := 32) hx hb dL_law_1163 (by decide) ?_
  refine lv_lshl (v := ((Int32.toInt64 (xs (Int32.toNatClampNeg (x3 + 4)))) <<< (Int32.toInt64 32 &&& 63))) hx hb dL_law_1165 rfl ?_
  refine lv_aload_n hx hb dL_law_1166 rfl (lv_at hl 0 rfl) ?_
  refine lv_iload_n hx hb dL_law_1167 rfl (lv_at hl 3 rfl) ?_
  refine lv_iconst (v := 5) hx hb dL_law_1168 (by decide) ?_
  refine lv_iadd hx hb dL_law_1169 ?_
  refine va_sld hx hb hX hbl hbA hS (hin 5 (by decide)) dL_law_1170 ?_
  refine lv_i2l (v := (Int32.toInt64 (xs (Int32.toNatClampNeg (x3 + 5))))) hx hb dL_law_1171 rfl ?_
  refine lv_ldc2 (own := RL) (v := 4294967295) hx hb hown (hts _ wc_RL_114) dL_law_1172 ?_
  refine lv_land hx hb dL_law_1175 ?_
  refine lv_lor hx hb dL_law_1176 ?_
  refine q_callL Y hW2 hW1 (Or.inr hb2) (Nat.le_trans hb1 (Nat.le_trans (Nat.le_add_right _ _) hb2)) hS (As := [.int (xs (Int32.toNatClampNeg (x3 + 1))), .int (xs (Int32.toNatClampNeg (x3 + 2))), .int (xs (Int32.toNatClampNeg (x3 + 3))), .long (((Int32.toInt64 (xs (Int32.toNatClampNeg (x3 + 4)))) <<< (Int32.toInt64 32 &&& 63)) ||| ((Int32.toInt64 (xs (Int32.toNatClampNeg (x3 + 5)))) &&& 4294967295))]) (rest := [.int r]) (st1 := [.int r, .int r]) (c_X12_alarms l D (q_ca b2 q_S2) dt2 b2 (xs (Int32.toNatClampNeg (x3 + 1))) (xs (Int32.toNatClampNeg (x3 + 2))) (xs (Int32.toNatClampNeg (x3 + 3))) (((Int32.toInt64 (xs (Int32.toNatClampNeg (x3 + 4)))) <<< (Int32.toInt64 32 &&& 63)) ||| ((Int32.toInt64 (xs (Int32.toNatClampNeg (x3 + 5)))) &&& 4294967295)) kd2 r d2 hm2) yl_X12_alarms vl_X12_alarms ml_RL_120 (ci := 12) rfl kd2 (by decide) rfl ⟨(Nat.le_of_ble_eq_true rfl), (Nat.le_of_ble_eq_true rfl)⟩ hl rfl (Nat.le_of_ble_eq_true rfl) dL_law_1177 hcs rfl (fun H locs hW2 hW1 hS => ?_)
  refine lv_icmp_eq (tgt := 2235) hx hb dL_law_1180 (by decide) (fun _ => ?_) (fun q => absurd rfl q)
  exact next _ _ _ _ _ hR1 hW1 hW2 hS hl
set_option maxRecDepth 100000 in
theorem w_plan {p : Program} {l : Launch} {e : Env} {s : State} {m : MethodId} {below : List Frame} {meth : Method} {c : Code} {D : q_D} {b L b1 b2 cells slots : Nat} {xs : Nat → Int32} (Y : q_Cy D s.heap.size code 4 ret R_law p s m #[Value.ref b] meth c) (hX : va_X b L xs s s.heap) (hbl : b < s.heap.size) (hb1 : s.heap.size ≤ b1) (hb2 : b1 + q_S1.length ≤ b2) (hcs : cells ≤ room_1.cells ∧ slots ≤ room_1.slots) {Rel : Nat → Nat → Nat → q_Dt → q_Dt → Prop} (hf : q_c_plan Rel) {k : Nat} {dt1 dt2 : q_Dt} {H : Heap} {locs : List Loc} {ls : Array Slot} {x3 : Int32} (hk : k < 512) (hR : Rel k b1 b2 dt1 dt2) (hin0 : vp_in x3 L) (hin : ∀ j, j < 8 → vp_in (x3 + Int32.ofNat j) L) (hW1 : q_W D (q_ca b1 q_S1) dt1 H) (hW2 : q_W D (q_ca b2 q_S2) dt2 H) (hS : va_S (fun q => s.heap.size ≤ q) s.heap H locs) (hl : lv_has ls 4 [(0, .ref b), (1, .ref b1), (2, .ref b2), (3, .int x3)]) (next : ∀ (d1 d2 : q_Dt) (H : Heap) (locs : List Loc) (ls : Array Slot), Rel (k + 1) b1 b2 d1 d2 → q_W D (q_ca b1 q_S1) d1 H → q_W D (q_ca b2 q_S2) d2 H → va_S (fun q => s.heap.size ≤ q) s.heap H locs → lv_has ls 4 [(0, .ref b), (1, .ref b1), (2, .ref b2), (3, .int x3)] → W p l e room_1 s m #[Value.ref b] below meth c H locs cells slots (lw_Z below #[Value.ref b] s) (F0 m 2235 ls [])) : W p l e room_1 s m #[Value.ref b] below meth c H locs cells slots (lw_Z below #[Value.ref b] s) (F0 m 1185 ls []) := by
  have hx := Y.1
  have hb := Y.2.1
  have hown := Y.2.2.2.2.2.1
  have hts := Y.2.2.2.2.2.2.1
  have hbA : ¬ (fun q : Nat => s.heap.size ≤ q) b := Nat.not_le.mpr hbl
  have kd1 := kd1_ok b1
  have kd2 := kd2_ok b2
  refine lv_aload_n hx hb dL_law_1185 rfl (lv_at hl 1 rfl) ?_
  refine lv_aload_n hx hb dL_law_1186 rfl (lv_at hl 0 rfl) ?_
  refine lv_iload_n hx hb dL_law_1187 rfl (lv_at hl 3 rfl) ?_
  refine lv_iconst (v := 1) hx hb dL_law_1188 (by decide) ?_
  refine lv_iadd hx hb dL_law_1189 ?_
  refine va_sld hx hb hX hbl hbA hS (hin 1 (by decide)) dL_law_1190 ?_
  refine lv_aload_n hx hb dL_law_1191 rfl (lv_at hl 0 rfl) ?_
  refine lv_iload_n hx hb dL_law_1192 rfl (lv_at hl 3 rfl) ?_
  refine lv_iconst (v := 2) hx hb dL_law_1193 (by decide) ?_
  refine lv_iadd hx hb dL_law_1194 ?_
  refine va_sld hx hb hX hbl hbA hS (hin 2 (by decide)) dL_law_1195 ?_
  refine lv_aload_n hx hb dL_law_1196 rfl (lv_at hl 0 rfl) ?_
  refine lv_iload_n hx hb dL_law_1197 rfl (lv_at hl 3 rfl) ?_
  refine lv_iconst (v := 3) hx hb dL_law_1198 (by decide) ?_
  refine lv_iadd hx hb dL_law_1199 ?_
  refine va_sld hx hb hX hbl hbA hS (hin 3 (by decide)) dL_law_1200 ?_
  refine lv_aload_n hx hb dL_law_1201 rfl (lv_at hl 0 rfl) ?_
  refine lv_iload_n hx hb dL_law_1202 rfl (lv_at hl 3 rfl) ?_
  refine lv_iconst (v := 4) hx hb dL_law_1203 (by decide) ?_
  refine lv_iadd hx hb dL_law_1204 ?_
  refine va_sld hx hb hX hbl hbA hS (hin 4 (by decide)) dL_law_1205 ?_
  refine lv_aload_n hx hb dL_law_1206 rfl (lv_at hl 0 rfl) ?_
  refine lv_iload_n hx hb dL_law_1207 rfl (lv_at hl 3 rfl) ?_
  refine lv_iconst (v := 5) hx hb dL_law_1208 (by decide) ?_
  refine lv_iadd hx hb dL_law_1209 ?_
  refine va_sld hx hb hX hbl hbA hS (hin 5 (by decide)) dL_law_1210 ?_
  refine lv_aload_n hx hb dL_law_1211 rfl (lv_at hl 0 rfl) ?_
  refine lv_iload_n hx hb dL_law_1212 rfl (lv_at hl 3 rfl) ?_
  refine lv_bipush (v := 6) hx hb dL_law_1213 (by decide) ?_
  refine lv_iadd hx hb dL_law_1215 ?_
  refine va_sld hx hb hX hbl hbA hS (hin 6 (by decide)) dL_law_1216 ?_
  refine lv_i2l (v := (Int32.toInt64 (xs (Int32.toNatClampNeg (x3 + 6))))) hx hb dL_law_1217 rfl ?_
  refine lv_bipush (v := 32) hx hb dL_law_1218 (by decide) ?_
  refine lv_lshl (v := ((Int32.toInt64 (xs (Int32.toNatClampNeg (x3 + 6)))) <<< (Int32.toInt64 32 &&& 63))) hx hb dL_law_1220 rfl ?_
  refine lv_aload_n hx hb dL_law_1221 rfl (lv_at hl 0 rfl) ?_
  refine lv_iload_n hx hb dL_law_1222 rfl (lv_at hl 3 rfl) ?_
  refine lv_bipush (v := 7) hx hb dL_law_1223 (by decide) ?_
  refine lv_iadd hx hb dL_law_1225 ?_
  refine va_sld hx hb hX hbl hbA hS (hin 7 (by decide)) dL_law_1226 ?_
  refine lv_i2l (v := (Int32.toInt64 (xs (Int32.toNatClampNeg (x3 + 7))))) hx hb dL_law_1227 rfl ?_
  refine lv_ldc2 (own := RL) (v := 4294967295) hx hb hown (hts _ wc_RL_114) dL_law_1228 ?_
  refine lv_land hx hb dL_law_1231 ?_
  refine lv_lor hx hb dL_law_1232 ?_
  obtain ⟨r, d1, d2, hm1, hm2, hR1⟩ := hf k b1 b2 dt1 dt2 (xs (Int32.toNatClampNeg (x3 + 1))) (xs (Int32.toNatClampNeg (x3 + 2))) (xs (Int32.toNatClampNeg (x3 + 3))) (xs (Int32.toNatClampNeg (x3 + 4))) (xs (Int32.toNatClampNeg (x3 + 5))) (((Int32.toInt64 (xs (Int32.toNatClampNeg (x3 + 6)))) <<< (Int32.toInt64 32 &&& 63)) ||| ((Int32.toInt64 (xs (Int32.toNatClampNeg (x3 + 7)))) &&& 4294967295)) hk hR
  refine q_callL Y hW1 hW2 (Or.inl hb2) hb1 hS (As := [.int (xs (Int32.toNatClampNeg (x3 + 1))), .int (xs (Int32.toNatClampNeg (x3 + 2))), .int (xs (Int32.toNatClampNeg (x3 + 3))), .int (xs (Int32.toNatClampNeg (x3 + 4))), .int (xs (Int32.toNatClampNeg (x3 + 5))), .long (((Int32.toInt64 (xs (Int32.toNatClampNeg (x3 + 6)))) <<< (Int32.toInt64 32 &&& 63)) ||| ((Int32.toInt64 (xs (Int32.toNatClampNeg (x3 + 7)))) &&& 4294967295))]) (rest := []) (st1 := [.int r]) (c_X11_plan l D (q_ca b1 q_S1) dt1 b1 (xs (Int32.toNatClampNeg (x3 + 1))) (xs (Int32.toNatClampNeg (x3 + 2))) (xs (Int32.toNatClampNeg (x3 + 3))) (xs (Int32.toNatClampNeg (x3 + 4))) (xs (Int32.toNatClampNeg (x3 + 5))) (((Int32.toInt64 (xs (Int32.toNatClampNeg (x3 + 6)))) <<< (Int32.toInt64 32 &&& 63)) ||| ((Int32.toInt64 (xs (Int32.toNatClampNeg (x3 + 7)))) &&& 4294967295)) kd1 r d1 hm1) yl_X11_plan vl_X11_plan ml_RL_121 (ci := 11) rfl kd1 (by decide) rfl ⟨(Nat.le_of_ble_eq_true rfl), (Nat.le_of_ble_eq_true rfl)⟩ hl rfl (Nat.le_of_ble_eq_true rfl) dL_law_1233 hcs rfl (fun H locs hW1 hW2 hS => ?_)
  refine lv_aload_n hx hb dL_law_1236 rfl (lv_at hl 2 rfl) ?_
  refine lv_aload_n hx hb dL_law_1237 rfl (lv_at hl 0 rfl) ?_
  refine lv_iload_n hx hb dL_law_1238 rfl (lv_at hl 3 rfl) ?_
  refine lv_iconst (v := 1) hx hb dL_law_1239 (by decide) ?_
  refine lv_iadd hx hb dL_law_1240 ?_
  refine va_sld hx hb hX hbl hbA hS (hin 1 (by decide)) dL_law_1241 ?_
  refine lv_aload_n hx hb dL_law_1242 rfl (lv_at hl 0 rfl) ?_
  refine lv_iload_n hx hb dL_law_1243 rfl (lv_at hl 3 rfl) ?_
  refine lv_iconst (v := 2) hx hb dL_law_1244 (by decide) ?_
  refine lv_iadd hx hb dL_law_1245 ?_
  refine va_sld hx hb hX hbl hbA hS (hin 2 (by decide)) dL_law_1246 ?_
  refine lv_aload_n hx hb dL_law_1247 rfl (lv_at hl 0 rfl) ?_
  refine lv_iload_n hx hb dL_law_1248 rfl (lv_at hl 3 rfl) ?_
  refine lv_iconst (v := 3) hx hb dL_law_1249 (by decide) ?_
  refine lv_iadd hx hb dL_law_1250 ?_
  refine va_sld hx hb hX hbl hbA hS (hin 3 (by decide)) dL_law_1251 ?_
  refine lv_aload_n hx hb dL_law_1252 rfl (lv_at hl 0 rfl) ?_
  refine lv_iload_n hx hb dL_law_1253 rfl (lv_at hl 3 rfl) ?_
  refine lv_iconst (v := 4) hx hb dL_law_1254 (by decide) ?_
  refine lv_iadd hx hb dL_law_1255 ?_
  refine va_sld hx hb hX hbl hbA hS (hin 4 (by decide)) dL_law_1256 ?_
  refine lv_aload_n hx hb dL_law_1257 rfl (lv_at hl 0 rfl) ?_
  refine lv_iload_n hx hb dL_law_1258 rfl (lv_at hl 3 rfl) ?_
  refine lv_iconst (v := 5) hx hb dL_law_1259 (by decide) ?_
  refine lv_iadd hx hb dL_law_1260 ?_
  refine va_sld hx hb hX hbl hbA hS (hin 5 (by decide)) dL_law_1261 ?_
  refine lv_aload_n hx hb dL_law_1262 rfl (lv_at hl 0 rfl) ?_
  refine lv_iload_n hx hb dL_law_1263 rfl (lv_at hl 3 rfl) ?_
  refine lv_bipush (v := 6) hx hb dL_law_1264 (by decide) ?_
  refine lv_iadd hx hb dL_law_1266 ?_
  refine va_sld hx hb hX hbl hbA hS (hin 6 (by decide)) dL_law_1267 ?_
  refine lv_i2l (v := (Int32.toInt64 (xs (Int32.toNatClampNeg (x3 + 6))))) hx hb dL_law_1268 rfl ?_
  refine lv_bipush (v := 32) hx hb dL_law_1269 (by decide) ?_
  refine lv_lshl (v := ((Int32.toInt64 (xs (Int32.toNatClampNeg (x3 + 6)))) <<< (Int32.toInt64 32 &&& 63))) hx hb dL_law_1271 rfl ?_
  refine lv_aload_n hx hb dL_law_1272 rfl (lv_at hl 0 rfl) ?_
  refine lv_iload_n hx hb dL_law_1273 rfl (lv_at hl 3 rfl) ?_
  refine lv_bipush (v := 7) hx hb dL_law_1274 (by decide) ?_
  refine lv_iadd hx hb dL_law_1276 ?_
  refine va_sld hx hb hX hbl hbA hS (hin 7 (by decide)) dL_law_1277 ?_
  refine lv_i2l (v := (Int32.toInt64 (xs (Int32.toNatClampNeg (x3 + 7))))) hx hb dL_law_1278 rfl ?_
  refine lv_ldc2 (own := RL) (v := 4294967295) hx hb hown (hts _ wc_RL_114) dL_law_1279 ?_
  refine lv_land hx hb dL_law_1282 ?_
  refine lv_lor hx hb dL_law_1283 ?_
  refine q_callL Y hW2 hW1 (Or.inr hb2) (Nat.le_trans hb1 (Nat.le_trans (Nat.le_add_right _ _) hb2)) hS (As := [.int (xs (Int32.toNatClampNeg (x3 + 1))), .int (xs (Int32.toNatClampNeg (x3 + 2))), .int (xs (Int32.toNatClampNeg (x3 + 3))), .int (xs (Int32.toNatClampNeg (x3 + 4))), .int (xs (Int32.toNatClampNeg (x3 + 5))), .long (((Int32.toInt64 (xs (Int32.toNatClampNeg (x3 + 6)))) <<< (Int32.toInt64 32 &&& 63)) ||| ((Int32.toInt64 (xs (Int32.toNatClampNeg (x3 + 7)))) &&& 4294967295))]) (rest := [.int r]) (st1 := [.int r, .int r]) (c_X12_plan l D (q_ca b2 q_S2) dt2 b2 (xs (Int32.toNatClampNeg (x3 + 1))) (xs (Int32.toNatClampNeg (x3 + 2))) (xs (Int32.toNatClampNeg (x3 + 3))) (xs (Int32.toNatClampNeg (x3 + 4))) (xs (Int32.toNatClampNeg (x3 + 5))) (((Int32.toInt64 (xs (Int32.toNatClampNeg (x3 + 6)))) <<< (Int32.toInt64 32 &&& 63)) ||| ((Int32.toInt64 (xs (Int32.toNatClampNeg (x3 + 7)))) &&& 4294967295)) kd2 r d2 hm2) yl_X12_plan vl_X12_plan ml_RL_125 (ci := 12) rfl kd2 (by decide) rfl ⟨(Nat.le_of_ble_eq_true rfl), (Nat.le_of_ble_eq_true rfl)⟩ hl rfl (Nat.le_of_ble_eq_true rfl) dL_law_1284 hcs rfl (fun H locs hW2 hW1 hS => ?_)
  refine lv_icmp_eq (tgt := 2235) hx hb dL_law_1287 (by decide) (fun _ => ?_) (fun q => absurd rfl q)
  exact next _ _ _ _ _ hR1 hW1 hW2 hS hl
set_option maxRecDepth 100000 in
theorem w_mean {p : Program} {l : Launch} {e : Env} {s : State} {m : MethodId} {below : List Frame} {meth : Method} {c : Code} {D : q_D} {b L b1 b2 cells slots : Nat} {xs : Nat → Int32} (Y : q_Cy D s.heap.size code 4 ret R_law p s m #[Value.ref b] meth c) (hX : va_X b L xs s s.heap) (hbl : b < s.heap.size) (hb1 : s.heap.size ≤ b1) (hb2 : b1 + q_S1.length ≤ b2) (hcs : cells ≤ room_1.cells ∧ slots ≤ room_1.slots) {Rel : Nat → Nat → Nat → q_Dt → q_Dt → Prop} (hf : q_c_mean Rel) {k : Nat} {dt1 dt2 : q_Dt} {H : Heap} {locs : List Loc} {ls : Array Slot} {x3 : Int32} (hk : k < 512) (hR : Rel k b1 b2 dt1 dt2) (hin0 : vp_in x3 L) (hin : ∀ j, j < 8 → vp_in (x3 + Int32.ofNat j) L) (hW1 : q_W D (q_ca b1 q_S1) dt1 H) (hW2 : q_W D (q_ca b2 q_S2) dt2 H) (hS : va_S (fun q => s.heap.size ≤ q) s.heap H locs) (hl : lv_has ls 4 [(0, .ref b), (1, .ref b1), (2, .ref b2), (3, .int x3)]) (next : ∀ (d1 d2 : q_Dt) (H : Heap) (locs : List Loc) (ls : Array Slot), Rel (k + 1) b1 b2 d1 d2 → q_W D (q_ca b1 q_S1) d1 H → q_W D (q_ca b2 q_S2) d2 H → va_S (fun q => s.heap.size ≤ q) s.heap H locs → lv_has ls 4 [(0, .ref b), (1, .ref b1), (2, .ref b2), (3, .int x3)] → W p l e room_1 s m #[Value.ref b] below meth c H locs cells slots (lw_Z below #[Value.ref b] s) (F0 m 2235 ls [])) : W p l e room_1 s m #[Value.ref b] below meth c H locs cells slots (lw_Z below #[Value.ref b] s) (F0 m 1292 ls []) := by
  have hx := Y.1
  have hb := Y.2.1
  have hown := Y.2.2.2.2.2.1
  have hts := Y.2.2.2.2.2.2.1
  have hbA : ¬ (fun q : Nat => s.heap.size ≤ q) b := Nat.not_le.mpr hbl
  have kd1 := kd1_ok b1
  have kd2 := kd2_ok b2
  refine lv_aload_n hx hb dL_law_1292 rfl (lv_at hl 1 rfl) ?_
  refine lv_aload_n hx hb dL_law_1293 rfl (lv_at hl 0 rfl) ?_
  refine lv_iload_n hx hb dL_law_1294 rfl (lv_at hl 3 rfl) ?_
  refine lv_iconst (v := 1) hx hb dL_law_1295 (by decide) ?_
  refine lv_iadd hx hb dL_law_1296 ?_
  refine va_sld hx hb hX hbl hbA hS (hin 1 (by decide)) dL_law_1297 ?_
  refine lv_aload_n hx hb dL_law_1298 rfl (lv_at hl 0 rfl) ?_
  refine lv_iload_n hx hb dL_law_1299 rfl (lv_at hl 3 rfl) ?_
  refine lv_iconst (v := 2) hx hb dL_law_1300 (by decide) ?_
  refine lv_iadd hx hb dL_law_1301 ?_
  refine va_sld hx hb hX hbl hbA hS (hin 2 (by decide)) dL_law_1302 ?_
  refine lv_aload_n hx hb dL_law_1303 rfl (lv_at hl 0 rfl) ?_
  refine lv_iload_n hx hb dL_law_1304 rfl (lv_at hl 3 rfl) ?_
  refine lv_iconst (v := 3) hx hb dL_law_1305 (by decide) ?_
  refine lv_iadd hx hb dL_law_1306 ?_
  refine va_sld hx hb hX hbl hbA hS (hin 3 (by decide)) dL_law_1307 ?_
  refine lv_aload_n hx hb dL_law_1308 rfl (lv_at hl 0 rfl) ?_
  refine lv_iload_n hx hb dL_law_1309 rfl (lv_at hl 3 rfl) ?_
  refine lv_iconst (v := 4) hx hb dL_law_1310 (by decide) ?_
  refine lv_iadd hx hb dL_law_1311 ?_
  refine va_sld hx hb hX hbl hbA hS (hin 4 (by decide)) dL_law_1312 ?_
  refine lv_aload_n hx hb dL_law_1313 rfl (lv_at hl 0 rfl) ?_
  refine lv_iload_n hx hb dL_law_1314 rfl (lv_at hl 3 rfl) ?_
  refine lv_iconst (v := 5) hx hb dL_law_1315 (by decide) ?_
  refine lv_iadd hx hb dL_law_1316 ?_
  refine va_sld hx hb hX hbl hbA hS (hin 5 (by decide)) dL_law_1317 ?_
  refine lv_aload_n hx hb dL_law_1318 rfl (lv_at hl 0 rfl) ?_
  refine lv_iload_n hx hb dL_law_1319 rfl (lv_at hl 3 rfl) ?_
  refine lv_bipush (v := 6) hx hb dL_law_1320 (by decide) ?_
  refine lv_iadd hx hb dL_law_1322 ?_
  refine va_sld hx hb hX hbl hbA hS (hin 6 (by decide)) dL_law_1323 ?_
  refine lv_if_eq (tgt := 1331) hx hb dL_law_1324 (by decide) (fun z1324 => ?_) (fun z1324 => ?_)
  · refine lv_iconst (v := 0) hx hb dL_law_1331 (by decide) ?_
    obtain ⟨r, hm1, hm2, hR1⟩ := hf k b1 b2 dt1 dt2 (xs (Int32.toNatClampNeg (x3 + 1))) (xs (Int32.toNatClampNeg (x3 + 2))) (xs (Int32.toNatClampNeg (x3 + 3))) (xs (Int32.toNatClampNeg (x3 + 4))) (xs (Int32.toNatClampNeg (x3 + 5))) 0 (Or.inl rfl) hk hR
    refine q_callL Y hW1 hW2 (Or.inl hb2) hb1 hS (As := [.int (xs (Int32.toNatClampNeg (x3 + 1))), .int (xs (Int32.toNatClampNeg (x3 + 2))), .int (xs (Int32.toNatClampNeg (x3 + 3))), .int (xs (Int32.toNatClampNeg (x3 + 4))), .int (xs (Int32.toNatClampNeg (x3 + 5))), .int 0]) (rest := []) (st1 := [.long r]) (c_X11_mean l D (q_ca b1 q_S1) dt1 b1 (xs (Int32.toNatClampNeg (x3 + 1))) (xs (Int32.toNatClampNeg (x3 + 2))) (xs (Int32.toNatClampNeg (x3 + 3))) (xs (Int32.toNatClampNeg (x3 + 4))) (xs (Int32.toNatClampNeg (x3 + 5))) 0 kd1 r hm1) yl_X11_mean vl_X11_mean ml_RL_126 (ci := 11) rfl kd1 (by decide) rfl ⟨(Nat.le_of_ble_eq_true rfl), (Nat.le_of_ble_eq_true rfl)⟩ hl rfl (Nat.le_of_ble_eq_true rfl) dL_law_1332 hcs rfl (fun H locs hW1 hW2 hS => ?_)
    refine lv_aload_n hx hb dL_law_1335 rfl (lv_at hl 2 rfl) ?_
    refine lv_aload_n hx hb dL_law_1336 rfl (lv_at hl 0 rfl) ?_
    refine lv_iload_n hx hb dL_law_1337 rfl (lv_at hl 3 rfl) ?_
    refine lv_iconst (v := 1) hx hb dL_law_1338 (by decide) ?_
    refine lv_iadd hx hb dL_law_1339 ?_
    refine va_sld hx hb hX hbl hbA hS (hin 1 (by decide)) dL_law_1340 ?_
    refine lv_aload_n hx hb dL_law_1341 rfl (lv_at hl 0 rfl) ?_
    refine lv_iload_n hx hb dL_law_1342 rfl (lv_at hl 3 rfl) ?_
    refine lv_iconst (v := 2) hx hb dL_law_1343 (by decide) ?_
    refine lv_iadd hx hb dL_law_1344 ?_
    refine va_sld hx hb hX hbl hbA hS (hin 2 (by decide)) dL_law_1345 ?_
    refine lv_aload_n hx hb dL_law_1346 rfl (lv_at hl 0 rfl) ?_
    refine lv_iload_n hx hb dL_law_1347 rfl (lv_at hl 3 rfl) ?_
    refine lv_iconst (v := 3) hx hb dL_law_1348 (by decide) ?_
    refine lv_iadd hx hb dL_law_1349 ?_
    refine va_sld hx hb hX hbl hbA hS (hin 3 (by decide)) dL_law_1350 ?_
    refine lv_aload_n hx hb dL_law_1351 rfl (lv_at hl 0 rfl) ?_
    refine lv_iload_n hx hb dL_law_1352 rfl (lv_at hl 3 rfl) ?_
    refine lv_iconst (v := 4) hx hb dL_law_1353 (by decide) ?_
    refine lv_iadd hx hb dL_law_1354 ?_
    refine va_sld hx hb hX hbl hbA hS (hin 4 (by decide)) dL_law_1355 ?_
    refine lv_aload_n hx hb dL_law_1356 rfl (lv_at hl 0 rfl) ?_
    refine lv_iload_n hx hb dL_law_1357 rfl (lv_at hl 3 rfl) ?_
    refine lv_iconst (v := 5) hx hb dL_law_1358 (by decide) ?_
    refine lv_iadd hx hb dL_law_1359 ?_
    refine va_sld hx hb hX hbl hbA hS (hin 5 (by decide)) dL_law_1360 ?_
    refine lv_aload_n hx hb dL_law_1361 rfl (lv_at hl 0 rfl) ?_
    refine lv_iload_n hx hb dL_law_1362 rfl (lv_at hl 3 rfl) ?_
    refine lv_bipush (v := 6) hx hb dL_law_1363 (by decide) ?_
    refine lv_iadd hx hb dL_law_1365 ?_
    refine va_sld hx hb hX hbl hbA hS (hin 6 (by decide)) dL_law_1366 ?_
    refine lv_if_eq (tgt := 1374) hx hb dL_law_1367 (by decide) (fun _ => ?_) (fun q => absurd z1324 q)
    refine lv_iconst (v := 0) hx hb dL_law_1374 (by decide) ?_
    refine q_callL Y hW2 hW1 (Or.inr hb2) (Nat.le_trans hb1 (Nat.le_trans (Nat.le_add_right _ _) hb2)) hS (As := [.int (xs (Int32.toNatClampNeg (x3 + 1))), .int (xs (Int32.toNatClampNeg (x3 + 2))), .int (xs (Int32.toNatClampNeg (x3 + 3))), .int (xs (Int32.toNatClampNeg (x3 + 4))), .int (xs (Int32.toNatClampNeg (x3 + 5))), .int 0]) (rest := [.long r]) (st1 := [.long r, .long r]) (c_X12_mean l D (q_ca b2 q_S2) dt2 b2 (xs (Int32.toNatClampNeg (x3 + 1))) (xs (Int32.toNatClampNeg (x3 + 2))) (xs (Int32.toNatClampNeg (x3 + 3))) (xs (Int32.toNatClampNeg (x3 + 4))) (xs (Int32.toNatClampNeg (x3 + 5))) 0 kd2 r hm2) yl_X12_mean vl_X12_mean ml_RL_130 (ci := 12) rfl kd2 (by decide) rfl ⟨(Nat.le_of_ble_eq_true rfl), (Nat.le_of_ble_eq_true rfl)⟩ hl rfl (Nat.le_of_ble_eq_true rfl) dL_law_1375 hcs rfl (fun H locs hW2 hW1 hS => ?_)
    refine W.lcmp hx hb dL_law_1378 ?_
    refine lv_if_eq (tgt := 2235) hx hb dL_law_1379 (by decide) (fun _ => ?_) (fun q => absurd (q_cmp_eq.mpr rfl) q)
    exact next _ _ _ _ _ hR1 hW1 hW2 hS hl
  refine lv_iconst (v := 1) hx hb dL_law_1327 (by decide) ?_
  refine lv_goto (tgt := 1332) hx hb dL_law_1328 (by decide) ?_
  obtain ⟨r, hm1, hm2, hR1⟩ := hf k b1 b2 dt1 dt2 (xs (Int32.toNatClampNeg (x3 + 1))) (xs (Int32.toNatClampNeg (x3 + 2))) (xs (Int32.toNatClampNeg (x3 + 3))) (xs (Int32.toNatClampNeg (x3 + 4))) (xs (Int32.toNatClampNeg (x3 + 5))) 1 (Or.inr rfl) hk hR
  refine q_callL Y hW1 hW2 (Or.inl hb2) hb1 hS (As := [.int (xs (Int32.toNatClampNeg (x3 + 1))), .int (xs (Int32.toNatClampNeg (x3 + 2))), .int (xs (Int32.toNatClampNeg (x3 + 3))), .int (xs (Int32.toNatClampNeg (x3 + 4))), .int (xs (Int32.toNatClampNeg (x3 + 5))), .int 1]) (rest := []) (st1 := [.long r]) (c_X11_mean l D (q_ca b1 q_S1) dt1 b1 (xs (Int32.toNatClampNeg (x3 + 1))) (xs (Int32.toNatClampNeg (x3 + 2))) (xs (Int32.toNatClampNeg (x3 + 3))) (xs (Int32.toNatClampNeg (x3 + 4))) (xs (Int32.toNatClampNeg (x3 + 5))) 1 kd1 r hm1) yl_X11_mean vl_X11_mean ml_RL_126 (ci := 11) rfl kd1 (by decide) rfl ⟨(Nat.le_of_ble_eq_true rfl), (Nat.le_of_ble_eq_true rfl)⟩ hl rfl (Nat.le_of_ble_eq_true rfl) dL_law_1332 hcs rfl (fun H locs hW1 hW2 hS => ?_)
  refine lv_aload_n hx hb dL_law_1335 rfl (lv_at hl 2 rfl) ?_
  refine lv_aload_n hx hb dL_law_1336 rfl (lv_at hl 0 rfl) ?_
  refine lv_iload_n hx hb dL_law_1337 rfl (lv_at hl 3 rfl) ?_
  refine lv_iconst (v := 1) hx hb dL_law_1338 (by decide) ?_
  refine lv_iadd hx hb dL_law_1339 ?_
  refine va_sld hx hb hX hbl hbA hS (hin 1 (by decide)) dL_law_1340 ?_
  refine lv_aload_n hx hb dL_law_1341 rfl (lv_at hl 0 rfl) ?_
  refine lv_iload_n hx hb dL_law_1342 rfl (lv_at hl 3 rfl) ?_
  refine lv_iconst (v := 2) hx hb dL_law_1343 (by decide) ?_
  refine lv_iadd hx hb dL_law_1344 ?_
  refine va_sld hx hb hX hbl hbA hS (hin 2 (by decide)) dL_law_1345 ?_
  refine lv_aload_n hx hb dL_law_1346 rfl (lv_at hl 0 rfl) ?_
  refine lv_iload_n hx hb dL_law_1347 rfl (lv_at hl 3 rfl) ?_
  refine lv_iconst (v := 3) hx hb dL_law_1348 (by decide) ?_
  refine lv_iadd hx hb dL_law_1349 ?_
  refine va_sld hx hb hX hbl hbA hS (hin 3 (by decide)) dL_law_1350 ?_
  refine lv_aload_n hx hb dL_law_1351 rfl (lv_at hl 0 rfl) ?_
  refine lv_iload_n hx hb dL_law_1352 rfl (lv_at hl 3 rfl) ?_
  refine lv_iconst (v := 4) hx hb dL_law_1353 (by decide) ?_
  refine lv_iadd hx hb dL_law_1354 ?_
  refine va_sld hx hb hX hbl hbA hS (hin 4 (by decide)) dL_law_1355 ?_
  refine lv_aload_n hx hb dL_law_1356 rfl (lv_at hl 0 rfl) ?_
  refine lv_iload_n hx hb dL_law_1357 rfl (lv_at hl 3 rfl) ?_
  refine lv_iconst (v := 5) hx hb dL_law_1358 (by decide) ?_
  refine lv_iadd hx hb dL_law_1359 ?_
  refine va_sld hx hb hX hbl hbA hS (hin 5 (by decide)) dL_law_1360 ?_
  refine lv_aload_n hx hb dL_law_1361 rfl (lv_at hl 0 rfl) ?_
  refine lv_iload_n hx hb dL_law_1362 rfl (lv_at hl 3 rfl) ?_
  refine lv_bipush (v := 6) hx hb dL_law_1363 (by decide) ?_
  refine lv_iadd hx hb dL_law_1365 ?_
  refine va_sld hx hb hX hbl hbA hS (hin 6 (by decide)) dL_law_1366 ?_
  refine lv_if_eq (tgt := 1374) hx hb dL_law_1367 (by decide) (fun q => absurd q z1324) (fun _ => ?_)
  refine lv_iconst (v := 1) hx hb dL_law_1370 (by decide) ?_
  refine lv_goto (tgt := 1375) hx hb dL_law_1371 (by decide) ?_
  refine q_callL Y hW2 hW1 (Or.inr hb2) (Nat.le_trans hb1 (Nat.le_trans (Nat.le_add_right _ _) hb2)) hS (As := [.int (xs (Int32.toNatClampNeg (x3 + 1))), .int (xs (Int32.toNatClampNeg (x3 + 2))), .int (xs (Int32.toNatClampNeg (x3 + 3))), .int (xs (Int32.toNatClampNeg (x3 + 4))), .int (xs (Int32.toNatClampNeg (x3 + 5))), .int 1]) (rest := [.long r]) (st1 := [.long r, .long r]) (c_X12_mean l D (q_ca b2 q_S2) dt2 b2 (xs (Int32.toNatClampNeg (x3 + 1))) (xs (Int32.toNatClampNeg (x3 + 2))) (xs (Int32.toNatClampNeg (x3 + 3))) (xs (Int32.toNatClampNeg (x3 + 4))) (xs (Int32.toNatClampNeg (x3 + 5))) 1 kd2 r hm2) yl_X12_mean vl_X12_mean ml_RL_130 (ci := 12) rfl kd2 (by decide) rfl ⟨(Nat.le_of_ble_eq_true rfl), (Nat.le_of_ble_eq_true rfl)⟩ hl rfl (Nat.le_of_ble_eq_true rfl) dL_law_1375 hcs rfl (fun H locs hW2 hW1 hS => ?_)
  refine W.lcmp hx hb dL_law_1378 ?_
  refine lv_if_eq (tgt := 2235) hx hb dL_law_1379 (by decide) (fun _ => ?_) (fun q => absurd (q_cmp_eq.mpr rfl) q)
  exact next _ _ _ _ _ hR1 hW1 hW2 hS hl
set_option maxRecDepth 100000 in
theorem w_over {p : Program} {l : Launch} {e : Env} {s : State} {m : MethodId} {below : List Frame} {meth : Method} {c : Code} {D : q_D} {b L b1 b2 cells slots : Nat} {xs : Nat → Int32} (Y : q_Cy D s.heap.size code 4 ret R_law p s m #[Value.ref b] meth c) (hX : va_X b L xs s s.heap) (hbl : b < s.heap.size) (hb1 : s.heap.size ≤ b1) (hb2 : b1 + q_S1.length ≤ b2) (hcs : cells ≤ room_1.cells ∧ slots ≤ room_1.slots) {Rel : Nat → Nat → Nat → q_Dt → q_Dt → Prop} (hf : q_c_over Rel) {k : Nat} {dt1 dt2 : q_Dt} {H : Heap} {locs : List Loc} {ls : Array Slot} {x3 : Int32} (hk : k < 512) (hR : Rel k b1 b2 dt1 dt2) (hin0 : vp_in x3 L) (hin : ∀ j, j < 8 → vp_in (x3 + Int32.ofNat j) L) (hW1 : q_W D (q_ca b1 q_S1) dt1 H) (hW2 : q_W D (q_ca b2 q_S2) dt2 H) (hS : va_S (fun q => s.heap.size ≤ q) s.heap H locs) (hl : lv_has ls 4 [(0, .ref b), (1, .ref b1), (2, .ref b2), (3, .int x3)]) (next : ∀ (d1 d2 : q_Dt) (H : Heap) (locs : List Loc) (ls : Array Slot), Rel (k + 1) b1 b2 d1 d2 → q_W D (q_ca b1 q_S1) d1 H → q_W D (q_ca b2 q_S2) d2 H → va_S (fun q => s.heap.size ≤ q) s.heap H locs → lv_has ls 4 [(0, .ref b), (1, .ref b1), (2, .ref b2), (3, .int x3)] → W p l e room_1 s m #[Value.ref b] below meth c H locs cells slots (lw_Z below #[Value.ref b] s) (F0 m 2235 ls [])) : W p l e room_1 s m #[Value.ref b] below meth c H locs cells slots (lw_Z below #[Value.ref b] s) (F0 m 1384 ls []) := by
  have hx := Y.1
  have hb := Y.2.1
  have hown := Y.2.2.2.2.2.1
  have hts := Y.2.2.2.2.2.2.1
  have hbA : ¬ (fun q : Nat => s.heap.size ≤ q) b := Nat.not_le.mpr hbl
  have kd1 := kd1_ok b1
  have kd2 := kd2_ok b2
  refine lv_aload_n hx hb dL_law_1384 rfl (lv_at hl 1 rfl) ?_
  refine lv_aload_n hx hb dL_law_1385 rfl (lv_at hl 0 rfl) ?_
  refine lv_iload_n hx hb dL_law_1386 rfl (lv_at hl 3 rfl) ?_
  refine lv_iconst (v := 1) hx hb dL_law_1387 (by decide) ?_
  refine lv_iadd hx hb dL_law_1388 ?_
  refine va_sld hx hb hX hbl hbA hS (hin 1 (by decide)) dL_law_1389 ?_
  refine lv_aload_n hx hb dL_law_1390 rfl (lv_at hl 0 rfl) ?_
  refine lv_iload_n hx hb dL_law_1391 rfl (lv_at hl 3 rfl) ?_
  refine lv_iconst (v := 2) hx hb dL_law_1392 (by decide) ?_
  refine lv_iadd hx hb dL_law_1393 ?_
  refine va_sld hx hb hX hbl hbA hS (hin 2 (by decide)) dL_law_1394 ?_
  refine lv_aload_n hx hb dL_law_1395 rfl (lv_at hl 0 rfl) ?_
  refine lv_iload_n hx hb dL_law_1396 rfl (lv_at hl 3 rfl) ?_
  refine lv_iconst (v := 3) hx hb dL_law_1397 (by decide) ?_
  refine lv_iadd hx hb dL_law_1398 ?_
  refine va_sld hx hb hX hbl hbA hS (hin 3 (by decide)) dL_law_1399 ?_
  refine lv_aload_n hx hb dL_law_1400 rfl (lv_at hl 0 rfl) ?_
  refine lv_iload_n hx hb dL_law_1401 rfl (lv_at hl 3 rfl) ?_
  refine lv_iconst (v := 4) hx hb dL_law_1402 (by decide) ?_
  refine lv_iadd hx hb dL_law_1403 ?_
  refine va_sld hx hb hX hbl hbA hS (hin 4 (by decide)) dL_law_1404 ?_
  refine lv_aload_n hx hb dL_law_1405 rfl (lv_at hl 0 rfl) ?_
  refine lv_iload_n hx hb dL_law_1406 rfl (lv_at hl 3 rfl) ?_
  refine lv_iconst (v := 5) hx hb dL_law_1407 (by decide) ?_
  refine lv_iadd hx hb dL_law_1408 ?_
  refine va_sld hx hb hX hbl hbA hS (hin 5 (by decide)) dL_law_1409 ?_
  obtain ⟨r, hm1, hm2, hR1⟩ := hf k b1 b2 dt1 dt2 (xs (Int32.toNatClampNeg (x3 + 1))) (xs (Int32.toNatClampNeg (x3 + 2))) (xs (Int32.toNatClampNeg (x3 + 3))) (xs (Int32.toNatClampNeg (x3 + 4))) (xs (Int32.toNatClampNeg (x3 + 5))) hk hR
  refine q_callL Y hW1 hW2 (Or.inl hb2) hb1 hS (As := [.int (xs (Int32.toNatClampNeg (x3 + 1))), .int (xs (Int32.toNatClampNeg (x3 + 2))), .int (xs (Int32.toNatClampNeg (x3 + 3))), .int (xs (Int32.toNatClampNeg (x3 + 4))), .int (xs (Int32.toNatClampNeg (x3 + 5)))]) (rest := []) (st1 := [.long r]) (c_X11_over l D (q_ca b1 q_S1) dt1 b1 (xs (Int32.toNatClampNeg (x3 + 1))) (xs (Int32.toNatClampNeg (x3 + 2))) (xs (Int32.toNatClampNeg (x3 + 3))) (xs (Int32.toNatClampNeg (x3 + 4))) (xs (Int32.toNatClampNeg (x3 + 5))) kd1 r hm1) yl_X11_over vl_X11_over ml_RL_131 (ci := 11) rfl kd1 (by decide) rfl ⟨(Nat.le_of_ble_eq_true rfl), (Nat.le_of_ble_eq_true rfl)⟩ hl rfl (Nat.le_of_ble_eq_true rfl) dL_law_1410 hcs rfl (fun H locs hW1 hW2 hS => ?_)
  refine lv_aload_n hx hb dL_law_1413 rfl (lv_at hl 2 rfl) ?_
  refine lv_aload_n hx hb dL_law_1414 rfl (lv_at hl 0 rfl) ?_
  refine lv_iload_n hx hb dL_law_1415 rfl (lv_at hl 3 rfl) ?_
  refine lv_iconst (v := 1) hx hb dL_law_1416 (by decide) ?_
  refine lv_iadd hx hb dL_law_1417 ?_
  refine va_sld hx hb hX hbl hbA hS (hin 1 (by decide)) dL_law_1418 ?_
  refine lv_aload_n hx hb dL_law_1419 rfl (lv_at hl 0 rfl) ?_
  refine lv_iload_n hx hb dL_law_1420 rfl (lv_at hl 3 rfl) ?_
  refine lv_iconst (v := 2) hx hb dL_law_1421 (by decide) ?_
  refine lv_iadd hx hb dL_law_1422 ?_
  refine va_sld hx hb hX hbl hbA hS (hin 2 (by decide)) dL_law_1423 ?_
  refine lv_aload_n hx hb dL_law_1424 rfl (lv_at hl 0 rfl) ?_
  refine lv_iload_n hx hb dL_law_1425 rfl (lv_at hl 3 rfl) ?_
  refine lv_iconst (v := 3) hx hb dL_law_1426 (by decide) ?_
  refine lv_iadd hx hb dL_law_1427 ?_
  refine va_sld hx hb hX hbl hbA hS (hin 3 (by decide)) dL_law_1428 ?_
  refine lv_aload_n hx hb dL_law_1429 rfl (lv_at hl 0 rfl) ?_
  refine lv_iload_n hx hb dL_law_1430 rfl (lv_at hl 3 rfl) ?_
  refine lv_iconst (v := 4) hx hb dL_law_1431 (by decide) ?_
  refine lv_iadd hx hb dL_law_1432 ?_
  refine va_sld hx hb hX hbl hbA hS (hin 4 (by decide)) dL_law_1433 ?_
  refine lv_aload_n hx hb dL_law_1434 rfl (lv_at hl 0 rfl) ?_
  refine lv_iload_n hx hb dL_law_1435 rfl (lv_at hl 3 rfl) ?_
  refine lv_iconst (v := 5) hx hb dL_law_1436 (by decide) ?_
  refine lv_iadd hx hb dL_law_1437 ?_
  refine va_sld hx hb hX hbl hbA hS (hin 5 (by decide)) dL_law_1438 ?_
  refine q_callL Y hW2 hW1 (Or.inr hb2) (Nat.le_trans hb1 (Nat.le_trans (Nat.le_add_right _ _) hb2)) hS (As := [.int (xs (Int32.toNatClampNeg (x3 + 1))), .int (xs (Int32.toNatClampNeg (x3 + 2))), .int (xs (Int32.toNatClampNeg (x3 + 3))), .int (xs (Int32.toNatClampNeg (x3 + 4))), .int (xs (Int32.toNatClampNeg (x3 + 5)))]) (rest := [.long r]) (st1 := [.long r, .long r]) (c_X12_over l D (q_ca b2 q_S2) dt2 b2 (xs (Int32.toNatClampNeg (x3 + 1))) (xs (Int32.toNatClampNeg (x3 + 2))) (xs (Int32.toNatClampNeg (x3 + 3))) (xs (Int32.toNatClampNeg (x3 + 4))) (xs (Int32.toNatClampNeg (x3 + 5))) kd2 r hm2) yl_X12_over vl_X12_over ml_RL_135 (ci := 12) rfl kd2 (by decide) rfl ⟨(Nat.le_of_ble_eq_true rfl), (Nat.le_of_ble_eq_true rfl)⟩ hl rfl (Nat.le_of_ble_eq_true rfl) dL_law_1439 hcs rfl (fun H locs hW2 hW1 hS => ?_)
  refine W.lcmp hx hb dL_law_1442 ?_
  refine lv_if_eq (tgt := 2235) hx hb dL_law_1443 (by decide) (fun _ => ?_) (fun q => absurd (q_cmp_eq.mpr rfl) q)
  exact next _ _ _ _ _ hR1 hW1 hW2 hS hl
set_option maxRecDepth 100000 in
theorem w_bit {p : Program} {l : Launch} {e : Env} {s : State} {m : MethodId} {below : List Frame} {meth : Method} {c : Code} {D : q_D} {b L b1 b2 cells slots : Nat} {xs : Nat → Int32} (Y : q_Cy D s.heap.size code 4 ret R_law p s m #[Value.ref b] meth c) (hX : va_X b L xs s s.heap) (hbl : b < s.heap.size) (hb1 : s.heap.size ≤ b1) (hb2 : b1 + q_S1.length ≤ b2) (hcs : cells ≤ room_1.cells ∧ slots ≤ room_1.slots) {Rel : Nat → Nat → Nat → q_Dt → q_Dt → Prop} (hf : q_c_bit Rel) {k : Nat} {dt1 dt2 : q_Dt} {H : Heap} {locs : List Loc} {ls : Array Slot} {x3 : Int32} (hk : k < 512) (hR : Rel k b1 b2 dt1 dt2) (hin0 : vp_in x3 L) (hin : ∀ j, j < 8 → vp_in (x3 + Int32.ofNat j) L) (hW1 : q_W D (q_ca b1 q_S1) dt1 H) (hW2 : q_W D (q_ca b2 q_S2) dt2 H) (hS : va_S (fun q => s.heap.size ≤ q) s.heap H locs) (hl : lv_has ls 4 [(0, .ref b), (1, .ref b1), (2, .ref b2), (3, .int x3)]) (next : ∀ (d1 d2 : q_Dt) (H : Heap) (locs : List Loc) (ls : Array Slot), Rel (k + 1) b1 b2 d1 d2 → q_W D (q_ca b1 q_S1) d1 H → q_W D (q_ca b2 q_S2) d2 H → va_S (fun q => s.heap.size ≤ q) s.heap H locs → lv_has ls 4 [(0, .ref b), (1, .ref b1), (2, .ref b2), (3, .int x3)] → W p l e room_1 s m #[Value.ref b] below meth c H locs cells slots (lw_Z below #[Value.ref b] s) (F0 m 2235 ls [])) : W p l e room_1 s m #[Value.ref b] below meth c H locs cells slots (lw_Z below #[Value.ref b] s) (F0 m 1448 ls []) := by
  have hx := Y.1
  have hb := Y.2.1
  have hown := Y.2.2.2.2.2.1
  have hts := Y.2.2.2.2.2.2.1
  have hbA : ¬ (fun q : Nat => s.heap.size ≤ q) b := Nat.not_le.mpr hbl
  have kd1 := kd1_ok b1
  have kd2 := kd2_ok b2
  refine lv_aload_n hx hb dL_law_1448 rfl (lv_at hl 1 rfl) ?_
  refine lv_aload_n hx hb dL_law_1449 rfl (lv_at hl 0 rfl) ?_
  refine lv_iload_n hx hb dL_law_1450 rfl (lv_at hl 3 rfl) ?_
  refine lv_iconst (v := 1) hx hb dL_law_1451 (by decide) ?_
  refine lv_iadd hx hb dL_law_1452 ?_
  refine va_sld hx hb hX hbl hbA hS (hin 1 (by decide)) dL_law_1453 ?_
  refine lv_aload_n hx hb dL_law_1454 rfl (lv_at hl 0 rfl) ?_
  refine lv_iload_n hx hb dL_law_1455 rfl (lv_at hl 3 rfl) ?_
  refine lv_iconst (v := 2) hx hb dL_law_1456 (by decide) ?_
  refine lv_iadd hx hb dL_law_1457 ?_
  refine va_sld hx hb hX hbl hbA hS (hin 2 (by decide)) dL_law_1458 ?_
  obtain ⟨r, d1, d2, hm1, hm2, hR1⟩ := hf k b1 b2 dt1 dt2 (xs (Int32.toNatClampNeg (x3 + 1))) (xs (Int32.toNatClampNeg (x3 + 2))) hk hR
  refine q_callL Y hW1 hW2 (Or.inl hb2) hb1 hS (As := [.int (xs (Int32.toNatClampNeg (x3 + 1))), .int (xs (Int32.toNatClampNeg (x3 + 2)))]) (rest := []) (st1 := [.int r]) (c_X11_bit l D (q_ca b1 q_S1) dt1 b1 (xs (Int32.toNatClampNeg (x3 + 1))) (xs (Int32.toNatClampNeg (x3 + 2))) kd1 r d1 hm1) yl_X11_bit vl_X11_bit ml_RL_136 (ci := 11) rfl kd1 (by decide) rfl ⟨(Nat.le_of_ble_eq_true rfl), (Nat.le_of_ble_eq_true rfl)⟩ hl rfl (Nat.le_of_ble_eq_true rfl) dL_law_1459 hcs rfl (fun H locs hW1 hW2 hS => ?_)
  refine lv_aload_n hx hb dL_law_1462 rfl (lv_at hl 2 rfl) ?_
  refine lv_aload_n hx hb dL_law_1463 rfl (lv_at hl 0 rfl) ?_
  refine lv_iload_n hx hb dL_law_1464 rfl (lv_at hl 3 rfl) ?_
  refine lv_iconst (v := 1) hx hb dL_law_1465 (by decide) ?_
  refine lv_iadd hx hb dL_law_1466 ?_
  refine va_sld hx hb hX hbl hbA hS (hin 1 (by decide)) dL_law_1467 ?_
  refine lv_aload_n hx hb dL_law_1468 rfl (lv_at hl 0 rfl) ?_
  refine lv_iload_n hx hb dL_law_1469 rfl (lv_at hl 3 rfl) ?_
  refine lv_iconst (v := 2) hx hb dL_law_1470 (by decide) ?_
  refine lv_iadd hx hb dL_law_1471 ?_
  refine va_sld hx hb hX hbl hbA hS (hin 2 (by decide)) dL_law_1472 ?_
  refine q_callL Y hW2 hW1 (Or.inr hb2) (Nat.le_trans hb1 (Nat.le_trans (Nat.le_add_right _ _) hb2)) hS (As := [.int (xs (Int32.toNatClampNeg (x3 + 1))), .int (xs (Int32.toNatClampNeg (x3 + 2)))]) (rest := [.int r]) (st1 := [.int r, .int r]) (c_X12_bit l D (q_ca b2 q_S2) dt2 b2 (xs (Int32.toNatClampNeg (x3 + 1))) (xs (Int32.toNatClampNeg (x3 + 2))) kd2 r d2 hm2) yl_X12_bit vl_X12_bit ml_RL_139 (ci := 12) rfl kd2 (by decide) rfl ⟨(Nat.le_of_ble_eq_true rfl), (Nat.le_of_ble_eq_true rfl)⟩ hl rfl (Nat.le_of_ble_eq_true rfl) dL_law_1473 hcs rfl (fun H locs hW2 hW1 hS => ?_)
  refine lv_icmp_eq (tgt := 2235) hx hb dL_law_1476 (by decide) (fun _ => ?_) (fun q => absurd rfl q)
  exact next _ _ _ _ _ hR1 hW1 hW2 hS hl
set_option maxRecDepth 100000 in
theorem w_wrong {p : Program} {l : Launch} {e : Env} {s : State} {m : MethodId} {below : List Frame} {meth : Method} {c : Code} {D : q_D} {b L b1 b2 cells slots : Nat} {xs : Nat → Int32} (Y : q_Cy D s.heap.size code 4 ret R_law p s m #[Value.ref b] meth c) (hX : va_X b L xs s s.heap) (hbl : b < s.heap.size) (hb1 : s.heap.size ≤ b1) (hb2 : b1 + q_S1.length ≤ b2) (hcs : cells ≤ room_1.cells ∧ slots ≤ room_1.slots) {Rel : Nat → Nat → Nat → q_Dt → q_Dt → Prop} (hf : q_c_wrong Rel) {k : Nat} {dt1 dt2 : q_Dt} {H : Heap} {locs : List Loc} {ls : Array Slot} {x3 : Int32} (hk : k < 512) (hR : Rel k b1 b2 dt1 dt2) (hin0 : vp_in x3 L) (hin : ∀ j, j < 8 → vp_in (x3 + Int32.ofNat j) L) (hW1 : q_W D (q_ca b1 q_S1) dt1 H) (hW2 : q_W D (q_ca b2 q_S2) dt2 H) (hS : va_S (fun q => s.heap.size ≤ q) s.heap H locs) (hl : lv_has ls 4 [(0, .ref b), (1, .ref b1), (2, .ref b2), (3, .int x3)]) (next : ∀ (d1 d2 : q_Dt) (H : Heap) (locs : List Loc) (ls : Array Slot), Rel (k + 1) b1 b2 d1 d2 → q_W D (q_ca b1 q_S1) d1 H → q_W D (q_ca b2 q_S2) d2 H → va_S (fun q => s.heap.size ≤ q) s.heap H locs → lv_has ls 4 [(0, .ref b), (1, .ref b1), (2, .ref b2), (3, .int x3)] → W p l e room_1 s m #[Value.ref b] below meth c H locs cells slots (lw_Z below #[Value.ref b] s) (F0 m 2235 ls [])) : W p l e room_1 s m #[Value.ref b] below meth c H locs cells slots (lw_Z below #[Value.ref b] s) (F0 m 1481 ls []) := by
  have hx := Y.1
  have hb := Y.2.1
  have hown := Y.2.2.2.2.2.1
  have hts := Y.2.2.2.2.2.2.1
  have hbA : ¬ (fun q : Nat => s.heap.size ≤ q) b := Nat.not_le.mpr hbl
  have kd1 := kd1_ok b1
  have kd2 := kd2_ok b2
  refine lv_aload_n hx hb dL_law_1481 rfl (lv_at hl 1 rfl) ?_
  refine lv_aload_n hx hb dL_law_1482 rfl (lv_at hl 0 rfl) ?_
  refine lv_iload_n hx hb dL_law_1483 rfl (lv_at hl 3 rfl) ?_
  refine lv_iconst (v := 1) hx hb dL_law_1484 (by decide) ?_
  refine lv_iadd hx hb dL_law_1485 ?_
  refine va_sld hx hb hX hbl hbA hS (hin 1 (by decide)) dL_law_1486 ?_
  obtain ⟨r, d1, d2, hm1, hm2, hR1⟩ := hf k b1 b2 dt1 dt2 (xs (Int32.toNatClampNeg (x3 + 1))) hk hR
  refine q_callL Y hW1 hW2 (Or.inl hb2) hb1 hS (As := [.int (xs (Int32.toNatClampNeg (x3 + 1)))]) (rest := []) (st1 := [.int r]) (c_X11_wrong l D (q_ca b1 q_S1) dt1 b1 (xs (Int32.toNatClampNeg (x3 + 1))) kd1 r d1 hm1) yl_X11_wrong vl_X11_wrong ml_RL_140 (ci := 11) rfl kd1 (by decide) rfl ⟨(Nat.le_of_ble_eq_true rfl), (Nat.le_of_ble_eq_true rfl)⟩ hl rfl (Nat.le_of_ble_eq_true rfl) dL_law_1487 hcs rfl (fun H locs hW1 hW2 hS => ?_)
  refine lv_aload_n hx hb dL_law_1490 rfl (lv_at hl 2 rfl) ?_
  refine lv_aload_n hx hb dL_law_1491 rfl (lv_at hl 0 rfl) ?_
  refine lv_iload_n hx hb dL_law_1492 rfl (lv_at hl 3 rfl) ?_
  refine lv_iconst (v := 1) hx hb dL_law_1493 (by decide) ?_
  refine lv_iadd hx hb dL_law_1494 ?_
  refine va_sld hx hb hX hbl hbA hS (hin 1 (by decide)) dL_law_1495 ?_
  refine q_callL Y hW2 hW1 (Or.inr hb2) (Nat.le_trans hb1 (Nat.le_trans (Nat.le_add_right _ _) hb2)) hS (As := [.int (xs (Int32.toNatClampNeg (x3 + 1)))]) (rest := [.int r]) (st1 := [.int r, .int r]) (c_X12_wrong l D (q_ca b2 q_S2) dt2 b2 (xs (Int32.toNatClampNeg (x3 + 1))) kd2 r d2 hm2) yl_X12_wrong vl_X12_wrong ml_RL_143 (ci := 12) rfl kd2 (by decide) rfl ⟨(Nat.le_of_ble_eq_true rfl), (Nat.le_of_ble_eq_true rfl)⟩ hl rfl (Nat.le_of_ble_eq_true rfl) dL_law_1496 hcs rfl (fun H locs hW2 hW1 hS => ?_)
  refine lv_icmp_eq (tgt := 2235) hx hb dL_law_1499 (by decide) (fun _ => ?_) (fun q => absurd rfl q)
  exact next _ _ _ _ _ hR1 hW1 hW2 hS hl
set_option maxRecDepth 100000 in
theorem w_joined {p : Program} {l : Launch} {e : Env} {s : State} {m : MethodId} {below : List Frame} {meth : Method} {c : Code} {D : q_D} {b L b1 b2 cells slots : Nat} {xs : Nat → Int32} (Y : q_Cy D s.heap.size code 4 ret R_law p s m #[Value.ref b] meth c) (hX : va_X b L xs s s.heap) (hbl : b < s.heap.size) (hb1 : s.heap.size ≤ b1) (hb2 : b1 + q_S1.length ≤ b2) (hcs : cells ≤ room_1.cells ∧ slots ≤ room_1.slots) {Rel : Nat → Nat → Nat → q_Dt → q_Dt → Prop} (hf : q_c_joined Rel) {k : Nat} {dt1 dt2 : q_Dt} {H : Heap} {locs : List Loc} {ls : Array Slot} {x3 : Int32} (hk : k < 512) (hR : Rel k b1 b2 dt1 dt2) (hin0 : vp_in x3 L) (hin : ∀ j, j < 8 → vp_in (x3 + Int32.ofNat j) L) (hW1 : q_W D (q_ca b1 q_S1) dt1 H) (hW2 : q_W D (q_ca b2 q_S2) dt2 H) (hS : va_S (fun q => s.heap.size ≤ q) s.heap H locs) (hl : lv_has ls 4 [(0, .ref b), (1, .ref b1), (2, .ref b2), (3, .int x3)]) (next : ∀ (d1 d2 : q_Dt) (H : Heap) (locs : List Loc) (ls : Array Slot), Rel (k + 1) b1 b2 d1 d2 → q_W D (q_ca b1 q_S1) d1 H → q_W D (q_ca b2 q_S2) d2 H → va_S (fun q => s.heap.size ≤ q) s.heap H locs → lv_has ls 4 [(0, .ref b), (1, .ref b1), (2, .ref b2), (3, .int x3)] → W p l e room_1 s m #[Value.ref b] below meth c H locs cells slots (lw_Z below #[Value.ref b] s) (F0 m 2235 ls [])) : W p l e room_1 s m #[Value.ref b] below meth c H locs cells slots (lw_Z below #[Value.ref b] s) (F0 m 1504 ls []) := by
  have hx := Y.1
  have hb := Y.2.1
  have hown := Y.2.2.2.2.2.1
  have hts := Y.2.2.2.2.2.2.1
  have hbA : ¬ (fun q : Nat => s.heap.size ≤ q) b := Nat.not_le.mpr hbl
  have kd1 := kd1_ok b1
  have kd2 := kd2_ok b2
  refine lv_aload_n hx hb dL_law_1504 rfl (lv_at hl 1 rfl) ?_
  refine lv_aload_n hx hb dL_law_1505 rfl (lv_at hl 0 rfl) ?_
  refine lv_iload_n hx hb dL_law_1506 rfl (lv_at hl 3 rfl) ?_
  refine lv_iconst (v := 1) hx hb dL_law_1507 (by decide) ?_
  refine lv_iadd hx hb dL_law_1508 ?_
  refine va_sld hx hb hX hbl hbA hS (hin 1 (by decide)) dL_law_1509 ?_
  refine lv_aload_n hx hb dL_law_1510 rfl (lv_at hl 0 rfl) ?_
  refine lv_iload_n hx hb dL_law_1511 rfl (lv_at hl 3 rfl) ?_
  refine lv_iconst (v := 2) hx hb dL_law_1512 (by decide) ?_
  refine lv_iadd hx hb dL_law_1513 ?_
  refine va_sld hx hb hX hbl hbA hS (hin 2 (by decide)) dL_law_1514 ?_
  obtain ⟨r, d2, hm1, hm2, hR1⟩ := hf k b1 b2 dt1 dt2 (xs (Int32.toNatClampNeg (x3 + 1))) (xs (Int32.toNatClampNeg (x3 + 2))) hk hR
  refine q_callL Y hW1 hW2 (Or.inl hb2) hb1 hS (As := [.int (xs (Int32.toNatClampNeg (x3 + 1))), .int (xs (Int32.toNatClampNeg (x3 + 2)))]) (rest := []) (st1 := [.int r]) (c_X11_joined l D (q_ca b1 q_S1) dt1 b1 (xs (Int32.toNatClampNeg (x3 + 1))) (xs (Int32.toNatClampNeg (x3 + 2))) kd1 r hm1) yl_X11_joined vl_X11_joined ml_RL_144 (ci := 11) rfl kd1 (by decide) rfl ⟨(Nat.le_of_ble_eq_true rfl), (Nat.le_of_ble_eq_true rfl)⟩ hl rfl (Nat.le_of_ble_eq_true rfl) dL_law_1515 hcs rfl (fun H locs hW1 hW2 hS => ?_)
  refine lv_aload_n hx hb dL_law_1518 rfl (lv_at hl 2 rfl) ?_
  refine lv_aload_n hx hb dL_law_1519 rfl (lv_at hl 0 rfl) ?_
  refine lv_iload_n hx hb dL_law_1520 rfl (lv_at hl 3 rfl) ?_
  refine lv_iconst (v := 1) hx hb dL_law_1521 (by decide) ?_
  refine lv_iadd hx hb dL_law_1522 ?_
  refine va_sld hx hb hX hbl hbA hS (hin 1 (by decide)) dL_law_1523 ?_
  refine lv_aload_n hx hb dL_law_1524 rfl (lv_at hl 0 rfl) ?_
  refine lv_iload_n hx hb dL_law_1525 rfl (lv_at hl 3 rfl) ?_
  refine lv_iconst (v := 2) hx hb dL_law_1526 (by decide) ?_
  refine lv_iadd hx hb dL_law_1527 ?_
  refine va_sld hx hb hX hbl hbA hS (hin 2 (by decide)) dL_law_1528 ?_
  refine q_callL Y hW2 hW1 (Or.inr hb2) (Nat.le_trans hb1 (Nat.le_trans (Nat.le_add_right _ _) hb2)) hS (As := [.int (xs (Int32.toNatClampNeg (x3 + 1))), .int (xs (Int32.toNatClampNeg (x3 + 2)))]) (rest := [.int r]) (st1 := [.int r, .int r]) (c_X12_joined l D (q_ca b2 q_S2) dt2 b2 (xs (Int32.toNatClampNeg (x3 + 1))) (xs (Int32.toNatClampNeg (x3 + 2))) kd2 r d2 hm2) yl_X12_joined vl_X12_joined ml_RL_147 (ci := 12) rfl kd2 (by decide) rfl ⟨(Nat.le_of_ble_eq_true rfl), (Nat.le_of_ble_eq_true rfl)⟩ hl rfl (Nat.le_of_ble_eq_true rfl) dL_law_1529 hcs rfl (fun H locs hW2 hW1 hS => ?_)
  refine lv_icmp_eq (tgt := 2235) hx hb dL_law_1532 (by decide) (fun _ => ?_) (fun q => absurd rfl q)
  exact next _ _ _ _ _ hR1 hW1 hW2 hS hl
set_option maxRecDepth 100000 in
theorem w_frame {p : Program} {l : Launch} {e : Env} {s : State} {m : MethodId} {below : List Frame} {meth : Method} {c : Code} {D : q_D} {b L b1 b2 cells slots : Nat} {xs : Nat → Int32} (Y : q_Cy D s.heap.size code 4 ret R_law p s m #[Value.ref b] meth c) (hX : va_X b L xs s s.heap) (hbl : b < s.heap.size) (hb1 : s.heap.size ≤ b1) (hb2 : b1 + q_S1.length ≤ b2) (hcs : cells ≤ room_1.cells ∧ slots ≤ room_1.slots) {Rel : Nat → Nat → Nat → q_Dt → q_Dt → Prop} (hf : q_c_frame Rel) {k : Nat} {dt1 dt2 : q_Dt} {H : Heap} {locs : List Loc} {ls : Array Slot} {x3 : Int32} (hk : k < 512) (hR : Rel k b1 b2 dt1 dt2) (hin0 : vp_in x3 L) (hin : ∀ j, j < 8 → vp_in (x3 + Int32.ofNat j) L) (hW1 : q_W D (q_ca b1 q_S1) dt1 H) (hW2 : q_W D (q_ca b2 q_S2) dt2 H) (hS : va_S (fun q => s.heap.size ≤ q) s.heap H locs) (hl : lv_has ls 4 [(0, .ref b), (1, .ref b1), (2, .ref b2), (3, .int x3)]) (next : ∀ (d1 d2 : q_Dt) (H : Heap) (locs : List Loc) (ls : Array Slot), Rel (k + 1) b1 b2 d1 d2 → q_W D (q_ca b1 q_S1) d1 H → q_W D (q_ca b2 q_S2) d2 H → va_S (fun q => s.heap.size ≤ q) s.heap H locs → lv_has ls 4 [(0, .ref b), (1, .ref b1), (2, .ref b2), (3, .int x3)] → W p l e room_1 s m #[Value.ref b] below meth c H locs cells slots (lw_Z below #[Value.ref b] s) (F0 m 2235 ls [])) : W p l e room_1 s m #[Value.ref b] below meth c H locs cells slots (lw_Z below #[Value.ref b] s) (F0 m 1537 ls []) := by
  have hx := Y.1
  have hb := Y.2.1
  have hown := Y.2.2.2.2.2.1
  have hts := Y.2.2.2.2.2.2.1
  have hbA : ¬ (fun q : Nat => s.heap.size ≤ q) b := Nat.not_le.mpr hbl
  have kd1 := kd1_ok b1
  have kd2 := kd2_ok b2
  refine lv_aload_n hx hb dL_law_1537 rfl (lv_at hl 1 rfl) ?_
  refine lv_aload_n hx hb dL_law_1538 rfl (lv_at hl 0 rfl) ?_
  refine lv_iload_n hx hb dL_law_1539 rfl (lv_at hl 3 rfl) ?_
  refine lv_iconst (v := 1) hx hb dL_law_1540 (by decide) ?_
  refine lv_iadd hx hb dL_law_1541 ?_
  refine va_sld hx hb hX hbl hbA hS (hin 1 (by decide)) dL_law_1542 ?_
  refine lv_aload_n hx hb dL_law_1543 rfl (lv_at hl 0 rfl) ?_
  refine lv_iload_n hx hb dL_law_1544 rfl (lv_at hl 3 rfl) ?_
  refine lv_iconst (v := 2) hx hb dL_law_1545 (by decide) ?_
  refine lv_iadd hx hb dL_law_1546 ?_
  refine va_sld hx hb hX hbl hbA hS (hin 2 (by decide)) dL_law_1547 ?_
  refine lv_aload_n hx hb dL_law_1548 rfl (lv_at hl 0 rfl) ?_
  refine lv_iload_n hx hb dL_law_1549 rfl (lv_at hl 3 rfl) ?_
  refine lv_iconst (v := 3) hx hb dL_law_1550 (by decide) ?_
  refine lv_iadd hx hb dL_law_1551 ?_
  refine va_sld hx hb hX hbl hbA hS (hin 3 (by decide)) dL_law_1552 ?_
  obtain ⟨r, d1, d2, hm1, hm2, hR1⟩ := hf k b1 b2 dt1 dt2 (xs (Int32.toNatClampNeg (x3 + 1))) (xs (Int32.toNatClampNeg (x3 + 2))) (xs (Int32.toNatClampNeg (x3 + 3))) hk hR
  refine q_callL Y hW1 hW2 (Or.inl hb2) hb1 hS (As := [.int (xs (Int32.toNatClampNeg (x3 + 1))), .int (xs (Int32.toNatClampNeg (x3 + 2))), .int (xs (Int32.toNatClampNeg (x3 + 3)))]) (rest := []) (st1 := [.int r]) (c_X11_frame l D (q_ca b1 q_S1) dt1 b1 (xs (Int32.toNatClampNeg (x3 + 1))) (xs (Int32.toNatClampNeg (x3 + 2))) (xs (Int32.toNatClampNeg (x3 + 3))) kd1 r d1 hm1) yl_X11_frame vl_X11_frame ml_RL_148 (ci := 11) rfl kd1 (by decide) rfl ⟨(Nat.le_of_ble_eq_true rfl), (Nat.le_of_ble_eq_true rfl)⟩ hl rfl (Nat.le_of_ble_eq_true rfl) dL_law_1553 hcs rfl (fun H locs hW1 hW2 hS => ?_)
  refine lv_aload_n hx hb dL_law_1556 rfl (lv_at hl 2 rfl) ?_
  refine lv_aload_n hx hb dL_law_1557 rfl (lv_at hl 0 rfl) ?_
  refine lv_iload_n hx hb dL_law_1558 rfl (lv_at hl 3 rfl) ?_
  refine lv_iconst (v := 1) hx hb dL_law_1559 (by decide) ?_
  refine lv_iadd hx hb dL_law_1560 ?_
  refine va_sld hx hb hX hbl hbA hS (hin 1 (by decide)) dL_law_1561 ?_
  refine lv_aload_n hx hb dL_law_1562 rfl (lv_at hl 0 rfl) ?_
  refine lv_iload_n hx hb dL_law_1563 rfl (lv_at hl 3 rfl) ?_
  refine lv_iconst (v := 2) hx hb dL_law_1564 (by decide) ?_
  refine lv_iadd hx hb dL_law_1565 ?_
  refine va_sld hx hb hX hbl hbA hS (hin 2 (by decide)) dL_law_1566 ?_
  refine lv_aload_n hx hb dL_law_1567 rfl (lv_at hl 0 rfl) ?_
  refine lv_iload_n hx hb dL_law_1568 rfl (lv_at hl 3 rfl) ?_
  refine lv_iconst (v := 3) hx hb dL_law_1569 (by decide) ?_
  refine lv_iadd hx hb dL_law_1570 ?_
  refine va_sld hx hb hX hbl hbA hS (hin 3 (by decide)) dL_law_1571 ?_
  refine q_callL Y hW2 hW1 (Or.inr hb2) (Nat.le_trans hb1 (Nat.le_trans (Nat.le_add_right _ _) hb2)) hS (As := [.int (xs (Int32.toNatClampNeg (x3 + 1))), .int (xs (Int32.toNatClampNeg (x3 + 2))), .int (xs (Int32.toNatClampNeg (x3 + 3)))]) (rest := [.int r]) (st1 := [.int r, .int r]) (c_X12_frame l D (q_ca b2 q_S2) dt2 b2 (xs (Int32.toNatClampNeg (x3 + 1))) (xs (Int32.toNatClampNeg (x3 + 2))) (xs (Int32.toNatClampNeg (x3 + 3))) kd2 r d2 hm2) yl_X12_frame vl_X12_frame ml_RL_151 (ci := 12) rfl kd2 (by decide) rfl ⟨(Nat.le_of_ble_eq_true rfl), (Nat.le_of_ble_eq_true rfl)⟩ hl rfl (Nat.le_of_ble_eq_true rfl) dL_law_1572 hcs rfl (fun H locs hW2 hW1 hS => ?_)
  refine lv_icmp_eq (tgt := 2235) hx hb dL_law_1575 (by decide) (fun _ => ?_) (fun q => absurd rfl q)
  exact next _ _ _ _ _ hR1 hW1 hW2 hS hl
set_option maxRecDepth 100000 in
theorem w_hurt {p : Program} {l : Launch} {e : Env} {s : State} {m : MethodId} {below : List Frame} {meth : Method} {c : Code} {D : q_D} {b L b1 b2 cells slots : Nat} {xs : Nat → Int32} (Y : q_Cy D s.heap.size code 4 ret R_law p s m #[Value.ref b] meth c) (hX : va_X b L xs s s.heap) (hbl : b < s.heap.size) (hb1 : s.heap.size ≤ b1) (hb2 : b1 + q_S1.length ≤ b2) (hcs : cells ≤ room_1.cells ∧ slots ≤ room_1.slots) {Rel : Nat → Nat → Nat → q_Dt → q_Dt → Prop} (hf : q_c_hurt Rel) {k : Nat} {dt1 dt2 : q_Dt} {H : Heap} {locs : List Loc} {ls : Array Slot} {x3 : Int32} (hk : k < 512) (hR : Rel k b1 b2 dt1 dt2) (hin0 : vp_in x3 L) (hin : ∀ j, j < 8 → vp_in (x3 + Int32.ofNat j) L) (hW1 : q_W D (q_ca b1 q_S1) dt1 H) (hW2 : q_W D (q_ca b2 q_S2) dt2 H) (hS : va_S (fun q => s.heap.size ≤ q) s.heap H locs) (hl : lv_has ls 4 [(0, .ref b), (1, .ref b1), (2, .ref b2), (3, .int x3)]) (next : ∀ (d1 d2 : q_Dt) (H : Heap) (locs : List Loc) (ls : Array Slot), Rel (k + 1) b1 b2 d1 d2 → q_W D (q_ca b1 q_S1) d1 H → q_W D (q_ca b2 q_S2) d2 H → va_S (fun q => s.heap.size ≤ q) s.heap H locs → lv_has ls 4 [(0, .ref b), (1, .ref b1), (2, .ref b2), (3, .int x3)] → W p l e room_1 s m #[Value.ref b] below meth c H locs cells slots (lw_Z below #[Value.ref b] s) (F0 m 2235 ls [])) : W p l e room_1 s m #[Value.ref b] below meth c H locs cells slots (lw_Z below #[Value.ref b] s) (F0 m 1580 ls []) := by
  have hx := Y.1
  have hb := Y.2.1
  have hown := Y.2.2.2.2.2.1
  have hts := Y.2.2.2.2.2.2.1
  have hbA : ¬ (fun q : Nat => s.heap.size ≤ q) b := Nat.not_le.mpr hbl
  have kd1 := kd1_ok b1
  have kd2 := kd2_ok b2
  refine lv_aload_n hx hb dL_law_1580 rfl (lv_at hl 1 rfl) ?_
  refine lv_aload_n hx hb dL_law_1581 rfl (lv_at hl 0 rfl) ?_
  refine lv_iload_n hx hb dL_law_1582 rfl (lv_at hl 3 rfl) ?_
  refine lv_iconst (v := 1) hx hb dL_law_1583 (by decide) ?_
  refine lv_iadd hx hb dL_law_1584 ?_
  refine va_sld hx hb hX hbl hbA hS (hin 1 (by decide)) dL_law_1585 ?_
  refine lv_aload_n hx hb dL_law_1586 rfl (lv_at hl 0 rfl) ?_
  refine lv_iload_n hx hb dL_law_1587 rfl (lv_at hl 3 rfl) ?_
  refine lv_iconst (v := 2) hx hb dL_law_1588 (by decide) ?_
  refine lv_iadd hx hb dL_law_1589 ?_
  refine va_sld hx hb hX hbl hbA hS (hin 2 (by decide)) dL_law_1590 ?_
  refine lv_aload_n hx hb dL_law_1591 rfl (lv_at hl 0 rfl) ?_
  refine lv_iload_n hx hb dL_law_1592 rfl (lv_at hl 3 rfl) ?_
  refine lv_iconst (v := 3) hx hb dL_law_1593 (by decide) ?_
  refine lv_iadd hx hb dL_law_1594 ?_
  refine va_sld hx hb hX hbl hbA hS (hin 3 (by decide)) dL_law_1595 ?_
  refine lv_aload_n hx hb dL_law_1596 rfl (lv_at hl 0 rfl) ?_
  refine lv_iload_n hx hb dL_law_1597 rfl (lv_at hl 3 rfl) ?_
  refine lv_iconst (v := 4) hx hb dL_law_1598 (by decide) ?_
  refine lv_iadd hx hb dL_law_1599 ?_
  refine va_sld hx hb hX hbl hbA hS (hin 4 (by decide)) dL_law_1600 ?_
  obtain ⟨r, d1, d2, hm1, hm2, hR1⟩ := hf k b1 b2 dt1 dt2 (xs (Int32.toNatClampNeg (x3 + 1))) (xs (Int32.toNatClampNeg (x3 + 2))) (xs (Int32.toNatClampNeg (x3 + 3))) (xs (Int32.toNatClampNeg (x3 + 4))) hk hR
  refine q_callL Y hW1 hW2 (Or.inl hb2) hb1 hS (As := [.int (xs (Int32.toNatClampNeg (x3 + 1))), .int (xs (Int32.toNatClampNeg (x3 + 2))), .int (xs (Int32.toNatClampNeg (x3 + 3))), .int (xs (Int32.toNatClampNeg (x3 + 4)))]) (rest := []) (st1 := [.int r]) (c_X11_hurt l D (q_ca b1 q_S1) dt1 b1 (xs (Int32.toNatClampNeg (x3 + 1))) (xs (Int32.toNatClampNeg (x3 + 2))) (xs (Int32.toNatClampNeg (x3 + 3))) (xs (Int32.toNatClampNeg (x3 + 4))) kd1 r d1 hm1) yl_X11_hurt vl_X11_hurt ml_RL_152 (ci := 11) rfl kd1 (by decide) rfl ⟨(Nat.le_of_ble_eq_true rfl), (Nat.le_of_ble_eq_true rfl)⟩ hl rfl (Nat.le_of_ble_eq_true rfl) dL_law_1601 hcs rfl (fun H locs hW1 hW2 hS => ?_)
  refine lv_aload_n hx hb dL_law_1604 rfl (lv_at hl 2 rfl) ?_
  refine lv_aload_n hx hb dL_law_1605 rfl (lv_at hl 0 rfl) ?_
  refine lv_iload_n hx hb dL_law_1606 rfl (lv_at hl 3 rfl) ?_
  refine lv_iconst (v := 1) hx hb dL_law_1607 (by decide) ?_
  refine lv_iadd hx hb dL_law_1608 ?_
  refine va_sld hx hb hX hbl hbA hS (hin 1 (by decide)) dL_law_1609 ?_
  refine lv_aload_n hx hb dL_law_1610 rfl (lv_at hl 0 rfl) ?_
  refine lv_iload_n hx hb dL_law_1611 rfl (lv_at hl 3 rfl) ?_
  refine lv_iconst (v := 2) hx hb dL_law_1612 (by decide) ?_
  refine lv_iadd hx hb dL_law_1613 ?_
  refine va_sld hx hb hX hbl hbA hS (hin 2 (by decide)) dL_law_1614 ?_
  refine lv_aload_n hx hb dL_law_1615 rfl (lv_at hl 0 rfl) ?_
  refine lv_iload_n hx hb dL_law_1616 rfl (lv_at hl 3 rfl) ?_
  refine lv_iconst (v := 3) hx hb dL_law_1617 (by decide) ?_
  refine lv_iadd hx hb dL_law_1618 ?_
  refine va_sld hx hb hX hbl hbA hS (hin 3 (by decide)) dL_law_1619 ?_
  refine lv_aload_n hx hb dL_law_1620 rfl (lv_at hl 0 rfl) ?_
  refine lv_iload_n hx hb dL_law_1621 rfl (lv_at hl 3 rfl) ?_
  refine lv_iconst (v := 4) hx hb dL_law_1622 (by decide) ?_
  refine lv_iadd hx hb dL_law_1623 ?_
  refine va_sld hx hb hX hbl hbA hS (hin 4 (by decide)) dL_law_1624 ?_
  refine q_callL Y hW2 hW1 (Or.inr hb2) (Nat.le_trans hb1 (Nat.le_trans (Nat.le_add_right _ _) hb2)) hS (As := [.int (xs (Int32.toNatClampNeg (x3 + 1))), .int (xs (Int32.toNatClampNeg (x3 + 2))), .int (xs (Int32.toNatClampNeg (x3 + 3))), .int (xs (Int32.toNatClampNeg (x3 + 4)))]) (rest := [.int r]) (st1 := [.int r, .int r]) (c_X12_hurt l D (q_ca b2 q_S2) dt2 b2 (xs (Int32.toNatClampNeg (x3 + 1))) (xs (Int32.toNatClampNeg (x3 + 2))) (xs (Int32.toNatClampNeg (x3 + 3))) (xs (Int32.toNatClampNeg (x3 + 4))) kd2 r d2 hm2) yl_X12_hurt vl_X12_hurt ml_RL_155 (ci := 12) rfl kd2 (by decide) rfl ⟨(Nat.le_of_ble_eq_true rfl), (Nat.le_of_ble_eq_true rfl)⟩ hl rfl (Nat.le_of_ble_eq_true rfl) dL_law_1625 hcs rfl (fun H locs hW2 hW1 hS => ?_)
  refine lv_icmp_eq (tgt := 2235) hx hb dL_law_1628 (by decide) (fun _ => ?_) (fun q => absurd rfl q)
  exact next _ _ _ _ _ hR1 hW1 hW2 hS hl
set_option maxRecDepth 100000 in
theorem w_atOnce {p : Program} {l : Launch} {e : Env} {s : State} {m : MethodId} {below : List Frame} {meth : Method} {c : Code} {D : q_D} {b L b1 b2 cells slots : Nat} {xs : Nat → Int32} (Y : q_Cy D s.heap.size code 4 ret R_law p s m #[Value.ref b] meth c) (hX : va_X b L xs s s.heap) (hbl : b < s.heap.size) (hb1 : s.heap.size ≤ b1) (hb2 : b1 + q_S1.length ≤ b2) (hcs : cells ≤ room_1.cells ∧ slots ≤ room_1.slots) {Rel : Nat → Nat → Nat → q_Dt → q_Dt → Prop} (hf : q_c_atOnce Rel) {k : Nat} {dt1 dt2 : q_Dt} {H : Heap} {locs : List Loc} {ls : Array Slot} {x3 : Int32} (hk : k < 512) (hR : Rel k b1 b2 dt1 dt2) (hin0 : vp_in x3 L) (hin : ∀ j, j < 8 → vp_in (x3 + Int32.ofNat j) L) (hW1 : q_W D (q_ca b1 q_S1) dt1 H) (hW2 : q_W D (q_ca b2 q_S2) dt2 H) (hS : va_S (fun q => s.heap.size ≤ q) s.heap H locs) (hl : lv_has ls 4 [(0, .ref b), (1, .ref b1), (2, .ref b2), (3, .int x3)]) (next : ∀ (d1 d2 : q_Dt) (H : Heap) (locs : List Loc) (ls : Array Slot), Rel (k + 1) b1 b2 d1 d2 → q_W D (q_ca b1 q_S1) d1 H → q_W D (q_ca b2 q_S2) d2 H → va_S (fun q => s.heap.size ≤ q) s.heap H locs → lv_has ls 4 [(0, .ref b), (1, .ref b1), (2, .ref b2), (3, .int x3)] → W p l e room_1 s m #[Value.ref b] below meth c H locs cells slots (lw_Z below #[Value.ref b] s) (F0 m 2235 ls [])) : W p l e room_1 s m #[Value.ref b] below meth c H locs cells slots (lw_Z below #[Value.ref b] s) (F0 m 1633 ls []) := by
  have hx := Y.1
  have hb := Y.2.1
  have hown := Y.2.2.2.2.2.1
  have hts := Y.2.2.2.2.2.2.1
  have hbA : ¬ (fun q : Nat => s.heap.size ≤ q) b := Nat.not_le.mpr hbl
  have kd1 := kd1_ok b1
  have kd2 := kd2_ok b2
  refine lv_aload_n hx hb dL_law_1633 rfl (lv_at hl 1 rfl) ?_
  refine lv_aload_n hx hb dL_law_1634 rfl (lv_at hl 0 rfl) ?_
  refine lv_iload_n hx hb dL_law_1635 rfl (lv_at hl 3 rfl) ?_
  refine lv_iconst (v := 1) hx hb dL_law_1636 (by decide) ?_
  refine lv_iadd hx hb dL_law_1637 ?_
  refine va_sld hx hb hX hbl hbA hS (hin 1 (by decide)) dL_law_1638 ?_
  obtain ⟨r, d1, d2, hm1, hm2, hR1⟩ := hf k b1 b2 dt1 dt2 (xs (Int32.toNatClampNeg (x3 + 1))) hk hR
  refine q_callL Y hW1 hW2 (Or.inl hb2) hb1 hS (As := [.int (xs (Int32.toNatClampNeg (x3 + 1)))]) (rest := []) (st1 := [.int r]) (c_X11_atOnce l D (q_ca b1 q_S1) dt1 b1 (xs (Int32.toNatClampNeg (x3 + 1))) kd1 r d1 hm1) yl_X11_atOnce vl_X11_atOnce ml_RL_156 (ci := 11) rfl kd1 (by decide) rfl ⟨(Nat.le_of_ble_eq_true rfl), (Nat.le_of_ble_eq_true rfl)⟩ hl rfl (Nat.le_of_ble_eq_true rfl) dL_law_1639 hcs rfl (fun H locs hW1 hW2 hS => ?_)
  refine lv_aload_n hx hb dL_law_1642 rfl (lv_at hl 2 rfl) ?_
  refine lv_aload_n hx hb dL_law_1643 rfl (lv_at hl 0 rfl) ?_
  refine lv_iload_n hx hb dL_law_1644 rfl (lv_at hl 3 rfl) ?_
  refine lv_iconst (v := 1) hx hb dL_law_1645 (by decide) ?_
  refine lv_iadd hx hb dL_law_1646 ?_
  refine va_sld hx hb hX hbl hbA hS (hin 1 (by decide)) dL_law_1647 ?_
  refine q_callL Y hW2 hW1 (Or.inr hb2) (Nat.le_trans hb1 (Nat.le_trans (Nat.le_add_right _ _) hb2)) hS (As := [.int (xs (Int32.toNatClampNeg (x3 + 1)))]) (rest := [.int r]) (st1 := [.int r, .int r]) (c_X12_atOnce l D (q_ca b2 q_S2) dt2 b2 (xs (Int32.toNatClampNeg (x3 + 1))) kd2 r d2 hm2) yl_X12_atOnce vl_X12_atOnce ml_RL_159 (ci := 12) rfl kd2 (by decide) rfl ⟨(Nat.le_of_ble_eq_true rfl), (Nat.le_of_ble_eq_true rfl)⟩ hl rfl (Nat.le_of_ble_eq_true rfl) dL_law_1648 hcs rfl (fun H locs hW2 hW1 hS => ?_)
  refine lv_icmp_eq (tgt := 2235) hx hb dL_law_1651 (by decide) (fun _ => ?_) (fun q => absurd rfl q)
  exact next _ _ _ _ _ hR1 hW1 hW2 hS hl
set_option maxRecDepth 100000 in
theorem w_taken {p : Program} {l : Launch} {e : Env} {s : State} {m : MethodId} {below : List Frame} {meth : Method} {c : Code} {D : q_D} {b L b1 b2 cells slots : Nat} {xs : Nat → Int32} (Y : q_Cy D s.heap.size code 4 ret R_law p s m #[Value.ref b] meth c) (hX : va_X b L xs s s.heap) (hbl : b < s.heap.size) (hb1 : s.heap.size ≤ b1) (hb2 : b1 + q_S1.length ≤ b2) (hcs : cells ≤ room_1.cells ∧ slots ≤ room_1.slots) {Rel : Nat → Nat → Nat → q_Dt → q_Dt → Prop} (hf : q_c_taken Rel) {k : Nat} {dt1 dt2 : q_Dt} {H : Heap} {locs : List Loc} {ls : Array Slot} {x3 : Int32} (hk : k < 512) (hR : Rel k b1 b2 dt1 dt2) (hin0 : vp_in x3 L) (hin : ∀ j, j < 8 → vp_in (x3 + Int32.ofNat j) L) (hW1 : q_W D (q_ca b1 q_S1) dt1 H) (hW2 : q_W D (q_ca b2 q_S2) dt2 H) (hS : va_S (fun q => s.heap.size ≤ q) s.heap H locs) (hl : lv_has ls 4 [(0, .ref b), (1, .ref b1), (2, .ref b2), (3, .int x3)]) (next : ∀ (d1 d2 : q_Dt) (H : Heap) (locs : List Loc) (ls : Array Slot), Rel (k + 1) b1 b2 d1 d2 → q_W D (q_ca b1 q_S1) d1 H → q_W D (q_ca b2 q_S2) d2 H → va_S (fun q => s.heap.size ≤ q) s.heap H locs → lv_has ls 4 [(0, .ref b), (1, .ref b1), (2, .ref b2), (3, .int x3)] → W p l e room_1 s m #[Value.ref b] below meth c H locs cells slots (lw_Z below #[Value.ref b] s) (F0 m 2235 ls [])) : W p l e room_1 s m #[Value.ref b] below meth c H locs cells slots (lw_Z below #[Value.ref b] s) (F0 m 1656 ls []) := by
  have hx := Y.1
  have hb := Y.2.1
  have hown := Y.2.2.2.2.2.1
  have hts := Y.2.2.2.2.2.2.1
  have hbA : ¬ (fun q : Nat => s.heap.size ≤ q) b := Nat.not_le.mpr hbl
  have kd1 := kd1_ok b1
  have kd2 := kd2_ok b2
  refine lv_aload_n hx hb dL_law_1656 rfl (lv_at hl 1 rfl) ?_
  refine lv_aload_n hx hb dL_law_1657 rfl (lv_at hl 0 rfl) ?_
  refine lv_iload_n hx hb dL_law_1658 rfl (lv_at hl 3 rfl) ?_
  refine lv_iconst (v := 1) hx hb dL_law_1659 (by decide) ?_
  refine lv_iadd hx hb dL_law_1660 ?_
  refine va_sld hx hb hX hbl hbA hS (hin 1 (by decide)) dL_law_1661 ?_
  refine lv_aload_n hx hb dL_law_1662 rfl (lv_at hl 0 rfl) ?_
  refine lv_iload_n hx hb dL_law_1663 rfl (lv_at hl 3 rfl) ?_
  refine lv_iconst (v := 2) hx hb dL_law_1664 (by decide) ?_
  refine lv_iadd hx hb dL_law_1665 ?_
  refine va_sld hx hb hX hbl hbA hS (hin 2 (by decide)) dL_law_1666 ?_
  obtain ⟨r, d1, d2, hm1, hm2, hR1⟩ := hf k b1 b2 dt1 dt2 (xs (Int32.toNatClampNeg (x3 + 1))) (xs (Int32.toNatClampNeg (x3 + 2))) hk hR
  refine q_callL Y hW1 hW2 (Or.inl hb2) hb1 hS (As := [.int (xs (Int32.toNatClampNeg (x3 + 1))), .int (xs (Int32.toNatClampNeg (x3 + 2)))]) (rest := []) (st1 := [.int r]) (c_X11_taken l D (q_ca b1 q_S1) dt1 b1 (xs (Int32.toNatClampNeg (x3 + 1))) (xs (Int32.toNatClampNeg (x3 + 2))) kd1 r d1 hm1) yl_X11_taken vl_X11_taken ml_RL_160 (ci := 11) rfl kd1 (by decide) rfl ⟨(Nat.le_of_ble_eq_true rfl), (Nat.le_of_ble_eq_true rfl)⟩ hl rfl (Nat.le_of_ble_eq_true rfl) dL_law_1667 hcs rfl (fun H locs hW1 hW2 hS => ?_)
  refine lv_aload_n hx hb dL_law_1670 rfl (lv_at hl 2 rfl) ?_
  refine lv_aload_n hx hb dL_law_1671 rfl (lv_at hl 0 rfl) ?_
  refine lv_iload_n hx hb dL_law_1672 rfl (lv_at hl 3 rfl) ?_
  refine lv_iconst (v := 1) hx hb dL_law_1673 (by decide) ?_
  refine lv_iadd hx hb dL_law_1674 ?_
  refine va_sld hx hb hX hbl hbA hS (hin 1 (by decide)) dL_law_1675 ?_
  refine lv_aload_n hx hb dL_law_1676 rfl (lv_at hl 0 rfl) ?_
  refine lv_iload_n hx hb dL_law_1677 rfl (lv_at hl 3 rfl) ?_
  refine lv_iconst (v := 2) hx hb dL_law_1678 (by decide) ?_
  refine lv_iadd hx hb dL_law_1679 ?_
  refine va_sld hx hb hX hbl hbA hS (hin 2 (by decide)) dL_law_1680 ?_
  refine q_callL Y hW2 hW1 (Or.inr hb2) (Nat.le_trans hb1 (Nat.le_trans (Nat.le_add_right _ _) hb2)) hS (As := [.int (xs (Int32.toNatClampNeg (x3 + 1))), .int (xs (Int32.toNatClampNeg (x3 + 2)))]) (rest := [.int r]) (st1 := [.int r, .int r]) (c_X12_taken l D (q_ca b2 q_S2) dt2 b2 (xs (Int32.toNatClampNeg (x3 + 1))) (xs (Int32.toNatClampNeg (x3 + 2))) kd2 r d2 hm2) yl_X12_taken vl_X12_taken ml_RL_163 (ci := 12) rfl kd2 (by decide) rfl ⟨(Nat.le_of_ble_eq_true rfl), (Nat.le_of_ble_eq_true rfl)⟩ hl rfl (Nat.le_of_ble_eq_true rfl) dL_law_1681 hcs rfl (fun H locs hW2 hW1 hS => ?_)
  refine lv_icmp_eq (tgt := 2235) hx hb dL_law_1684 (by decide) (fun _ => ?_) (fun q => absurd rfl q)
  exact next _ _ _ _ _ hR1 hW1 hW2 hS hl
set_option maxRecDepth 100000 in
theorem w_rest {p : Program} {l : Launch} {e : Env} {s : State} {m : MethodId} {below : List Frame} {meth : Method} {c : Code} {D : q_D} {b L b1 b2 cells slots : Nat} {xs : Nat → Int32} (Y : q_Cy D s.heap.size code 4 ret R_law p s m #[Value.ref b] meth c) (hX : va_X b L xs s s.heap) (hbl : b < s.heap.size) (hb1 : s.heap.size ≤ b1) (hb2 : b1 + q_S1.length ≤ b2) (hcs : cells ≤ room_1.cells ∧ slots ≤ room_1.slots) {Rel : Nat → Nat → Nat → q_Dt → q_Dt → Prop} (hf : q_c_rest Rel) {k : Nat} {dt1 dt2 : q_Dt} {H : Heap} {locs : List Loc} {ls : Array Slot} {x3 : Int32} (hk : k < 512) (hR : Rel k b1 b2 dt1 dt2) (hin0 : vp_in x3 L) (hin : ∀ j, j < 8 → vp_in (x3 + Int32.ofNat j) L) (hW1 : q_W D (q_ca b1 q_S1) dt1 H) (hW2 : q_W D (q_ca b2 q_S2) dt2 H) (hS : va_S (fun q => s.heap.size ≤ q) s.heap H locs) (hl : lv_has ls 4 [(0, .ref b), (1, .ref b1), (2, .ref b2), (3, .int x3)]) (next : ∀ (d1 d2 : q_Dt) (H : Heap) (locs : List Loc) (ls : Array Slot), Rel (k + 1) b1 b2 d1 d2 → q_W D (q_ca b1 q_S1) d1 H → q_W D (q_ca b2 q_S2) d2 H → va_S (fun q => s.heap.size ≤ q) s.heap H locs → lv_has ls 4 [(0, .ref b), (1, .ref b1), (2, .ref b2), (3, .int x3)] → W p l e room_1 s m #[Value.ref b] below meth c H locs cells slots (lw_Z below #[Value.ref b] s) (F0 m 2235 ls [])) : W p l e room_1 s m #[Value.ref b] below meth c H locs cells slots (lw_Z below #[Value.ref b] s) (F0 m 1689 ls []) := by
  have hx := Y.1
  have hb := Y.2.1
  have hown := Y.2.2.2.2.2.1
  have hts := Y.2.2.2.2.2.2.1
  have hbA : ¬ (fun q : Nat => s.heap.size ≤ q) b := Nat.not_le.mpr hbl
  have kd1 := kd1_ok b1
  have kd2 := kd2_ok b2
  refine lv_aload_n hx hb dL_law_1689 rfl (lv_at hl 1 rfl) ?_
  refine lv_aload_n hx hb dL_law_1690 rfl (lv_at hl 0 rfl) ?_
  refine lv_iload_n hx hb dL_law_1691 rfl (lv_at hl 3 rfl) ?_
  refine lv_iconst (v := 1) hx hb dL_law_1692 (by decide) ?_
  refine lv_iadd hx hb dL_law_1693 ?_
  refine va_sld hx hb hX hbl hbA hS (hin 1 (by decide)) dL_law_1694 ?_
  obtain ⟨r, d1, d2, hm1, hm2, hR1⟩ := hf k b1 b2 dt1 dt2 (xs (Int32.toNatClampNeg (x3 + 1))) hk hR
  refine q_callL Y hW1 hW2 (Or.inl hb2) hb1 hS (As := [.int (xs (Int32.toNatClampNeg (x3 + 1)))]) (rest := []) (st1 := [.long r]) (c_X11_rest l D (q_ca b1 q_S1) dt1 b1 (xs (Int32.toNatClampNeg (x3 + 1))) kd1 r d1 hm1) yl_X11_rest vl_X11_rest ml_RL_164 (ci := 11) rfl kd1 (by decide) rfl ⟨(Nat.le_of_ble_eq_true rfl), (Nat.le_of_ble_eq_true rfl)⟩ hl rfl (Nat.le_of_ble_eq_true rfl) dL_law_1695 hcs rfl (fun H locs hW1 hW2 hS => ?_)
  refine lv_aload_n hx hb dL_law_1698 rfl (lv_at hl 2 rfl) ?_
  refine lv_aload_n hx hb dL_law_1699 rfl (lv_at hl 0 rfl) ?_
  refine lv_iload_n hx hb dL_law_1700 rfl (lv_at hl 3 rfl) ?_
  refine lv_iconst (v := 1) hx hb dL_law_1701 (by decide) ?_
  refine lv_iadd hx hb dL_law_1702 ?_
  refine va_sld hx hb hX hbl hbA hS (hin 1 (by decide)) dL_law_1703 ?_
  refine q_callL Y hW2 hW1 (Or.inr hb2) (Nat.le_trans hb1 (Nat.le_trans (Nat.le_add_right _ _) hb2)) hS (As := [.int (xs (Int32.toNatClampNeg (x3 + 1)))]) (rest := [.long r]) (st1 := [.long r, .long r]) (c_X12_rest l D (q_ca b2 q_S2) dt2 b2 (xs (Int32.toNatClampNeg (x3 + 1))) kd2 r d2 hm2) yl_X12_rest vl_X12_rest ml_RL_168 (ci := 12) rfl kd2 (by decide) rfl ⟨(Nat.le_of_ble_eq_true rfl), (Nat.le_of_ble_eq_true rfl)⟩ hl rfl (Nat.le_of_ble_eq_true rfl) dL_law_1704 hcs rfl (fun H locs hW2 hW1 hS => ?_)
  refine W.lcmp hx hb dL_law_1707 ?_
  refine lv_if_eq (tgt := 2235) hx hb dL_law_1708 (by decide) (fun _ => ?_) (fun q => absurd (q_cmp_eq.mpr rfl) q)
  exact next _ _ _ _ _ hR1 hW1 hW2 hS hl
set_option maxRecDepth 100000 in
theorem w_loop {p : Program} {l : Launch} {e : Env} {s : State} {m : MethodId} {below : List Frame} {meth : Method} {c : Code} {D : q_D} {b L b1 b2 cells slots : Nat} {xs : Nat → Int32} (Y : q_Cy D s.heap.size code 4 ret R_law p s m #[Value.ref b] meth c) (hX : va_X b L xs s s.heap) (hbl : b < s.heap.size) (hb1 : s.heap.size ≤ b1) (hb2 : b1 + q_S1.length ≤ b2) (hcs : cells ≤ room_1.cells ∧ slots ≤ room_1.slots) {Rel : Nat → Nat → Nat → q_Dt → q_Dt → Prop} (hf : q_c_loop Rel) {k : Nat} {dt1 dt2 : q_Dt} {H : Heap} {locs : List Loc} {ls : Array Slot} {x3 : Int32} (hk : k < 512) (hR : Rel k b1 b2 dt1 dt2) (hin0 : vp_in x3 L) (hin : ∀ j, j < 8 → vp_in (x3 + Int32.ofNat j) L) (hW1 : q_W D (q_ca b1 q_S1) dt1 H) (hW2 : q_W D (q_ca b2 q_S2) dt2 H) (hS : va_S (fun q => s.heap.size ≤ q) s.heap H locs) (hl : lv_has ls 4 [(0, .ref b), (1, .ref b1), (2, .ref b2), (3, .int x3)]) (next : ∀ (d1 d2 : q_Dt) (H : Heap) (locs : List Loc) (ls : Array Slot), Rel (k + 1) b1 b2 d1 d2 → q_W D (q_ca b1 q_S1) d1 H → q_W D (q_ca b2 q_S2) d2 H → va_S (fun q => s.heap.size ≤ q) s.heap H locs → lv_has ls 4 [(0, .ref b), (1, .ref b1), (2, .ref b2), (3, .int x3)] → W p l e room_1 s m #[Value.ref b] below meth c H locs cells slots (lw_Z below #[Value.ref b] s) (F0 m 2235 ls [])) : W p l e room_1 s m #[Value.ref b] below meth c H locs cells slots (lw_Z below #[Value.ref b] s) (F0 m 1713 ls []) := by
  have hx := Y.1
  have hb := Y.2.1
  have hown := Y.2.2.2.2.2.1
  have hts := Y.2.2.2.2.2.2.1
  have hbA : ¬ (fun q : Nat => s.heap.size ≤ q) b := Nat.not_le.mpr hbl
  have kd1 := kd1_ok b1
  have kd2 := kd2_ok b2
  refine lv_aload_n hx hb dL_law_1713 rfl (lv_at hl 1 rfl) ?_
  refine lv_aload_n hx hb dL_law_1714 rfl (lv_at hl 0 rfl) ?_
  refine lv_iload_n hx hb dL_law_1715 rfl (lv_at hl 3 rfl) ?_
  refine lv_iconst (v := 1) hx hb dL_law_1716 (by decide) ?_
  refine lv_iadd hx hb dL_law_1717 ?_
  refine va_sld hx hb hX hbl hbA hS (hin 1 (by decide)) dL_law_1718 ?_
  refine lv_aload_n hx hb dL_law_1719 rfl (lv_at hl 0 rfl) ?_
  refine lv_iload_n hx hb dL_law_1720 rfl (lv_at hl 3 rfl) ?_
  refine lv_iconst (v := 2) hx hb dL_law_1721 (by decide) ?_
  refine lv_iadd hx hb dL_law_1722 ?_
  refine va_sld hx hb hX hbl hbA hS (hin 2 (by decide)) dL_law_1723 ?_
  refine lv_aload_n hx hb dL_law_1724 rfl (lv_at hl 0 rfl) ?_
  refine lv_iload_n hx hb dL_law_1725 rfl (lv_at hl 3 rfl) ?_
  refine lv_iconst (v := 3) hx hb dL_law_1726 (by decide) ?_
  refine lv_iadd hx hb dL_law_1727 ?_
  refine va_sld hx hb hX hbl hbA hS (hin 3 (by decide)) dL_law_1728 ?_
  refine lv_aload_n hx hb dL_law_1729 rfl (lv_at hl 0 rfl) ?_
  refine lv_iload_n hx hb dL_law_1730 rfl (lv_at hl 3 rfl) ?_
  refine lv_iconst (v := 4) hx hb dL_law_1731 (by decide) ?_
  refine lv_iadd hx hb dL_law_1732 ?_
  refine va_sld hx hb hX hbl hbA hS (hin 4 (by decide)) dL_law_1733 ?_
  refine lv_aload_n hx hb dL_law_1734 rfl (lv_at hl 0 rfl) ?_
  refine lv_iload_n hx hb dL_law_1735 rfl (lv_at hl 3 rfl) ?_
  refine lv_iconst (v := 5) hx hb dL_law_1736 (by decide) ?_
  refine lv_iadd hx hb dL_law_1737 ?_
  refine va_sld hx hb hX hbl hbA hS (hin 5 (by decide)) dL_law_1738 ?_
  obtain ⟨r, d1, d2, hm1, hm2, hR1⟩ := hf k b1 b2 dt1 dt2 (xs (Int32.toNatClampNeg (x3 + 1))) (xs (Int32.toNatClampNeg (x3 + 2))) (xs (Int32.toNatClampNeg (x3 + 3))) (xs (Int32.toNatClampNeg (x3 + 4))) (xs (Int32.toNatClampNeg (x3 + 5))) hk hR
  refine q_callL Y hW1 hW2 (Or.inl hb2) hb1 hS (As := [.int (xs (Int32.toNatClampNeg (x3 + 1))), .int (xs (Int32.toNatClampNeg (x3 + 2))), .int (xs (Int32.toNatClampNeg (x3 + 3))), .int (xs (Int32.toNatClampNeg (x3 + 4))), .int (xs (Int32.toNatClampNeg (x3 + 5)))]) (rest := []) (st1 := [.int r]) (c_X11_loop l D (q_ca b1 q_S1) dt1 b1 (xs (Int32.toNatClampNeg (x3 + 1))) (xs (Int32.toNatClampNeg (x3 + 2))) (xs (Int32.toNatClampNeg (x3 + 3))) (xs (Int32.toNatClampNeg (x3 + 4))) (xs (Int32.toNatClampNeg (x3 + 5))) kd1 r d1 hm1) yl_X11_loop vl_X11_loop ml_RL_169 (ci := 11) rfl kd1 (by decide) rfl ⟨(Nat.le_of_ble_eq_true rfl), (Nat.le_of_ble_eq_true rfl)⟩ hl rfl (Nat.le_of_ble_eq_true rfl) dL_law_1739 hcs rfl (fun H locs hW1 hW2 hS => ?_)
  refine lv_aload_n hx hb dL_law_1742 rfl (lv_at hl 2 rfl) ?_
  refine lv_aload_n hx hb dL_law_1743 rfl (lv_at hl 0 rfl) ?_
  refine lv_iload_n hx hb dL_law_1744 rfl (lv_at hl 3 rfl) ?_
  refine lv_iconst (v := 1) hx hb dL_law_1745 (by decide) ?_
  refine lv_iadd hx hb dL_law_1746 ?_
  refine va_sld hx hb hX hbl hbA hS (hin 1 (by decide)) dL_law_1747 ?_
  refine lv_aload_n hx hb dL_law_1748 rfl (lv_at hl 0 rfl) ?_
  refine lv_iload_n hx hb dL_law_1749 rfl (lv_at hl 3 rfl) ?_
  refine lv_iconst (v := 2) hx hb dL_law_1750 (by decide) ?_
  refine lv_iadd hx hb dL_law_1751 ?_
  refine va_sld hx hb hX hbl hbA hS (hin 2 (by decide)) dL_law_1752 ?_
  refine lv_aload_n hx hb dL_law_1753 rfl (lv_at hl 0 rfl) ?_
  refine lv_iload_n hx hb dL_law_1754 rfl (lv_at hl 3 rfl) ?_
  refine lv_iconst (v := 3) hx hb dL_law_1755 (by decide) ?_
  refine lv_iadd hx hb dL_law_1756 ?_
  refine va_sld hx hb hX hbl hbA hS (hin 3 (by decide)) dL_law_1757 ?_
  refine lv_aload_n hx hb dL_law_1758 rfl (lv_at hl 0 rfl) ?_
  refine lv_iload_n hx hb dL_law_1759 rfl (lv_at hl 3 rfl) ?_
  refine lv_iconst (v := 4) hx hb dL_law_1760 (by decide) ?_
  refine lv_iadd hx hb dL_law_1761 ?_
  refine va_sld hx hb hX hbl hbA hS (hin 4 (by decide)) dL_law_1762 ?_
  refine lv_aload_n hx hb dL_law_1763 rfl (lv_at hl 0 rfl) ?_
  refine lv_iload_n hx hb dL_law_1764 rfl (lv_at hl 3 rfl) ?_
  refine lv_iconst (v := 5) hx hb dL_law_1765 (by decide) ?_
  refine lv_iadd hx hb dL_law_1766 ?_
  refine va_sld hx hb hX hbl hbA hS (hin 5 (by decide)) dL_law_1767 ?_
  refine q_callL Y hW2 hW1 (Or.inr hb2) (Nat.le_trans hb1 (Nat.le_trans (Nat.le_add_right _ _) hb2)) hS (As := [.int (xs (Int32.toNatClampNeg (x3 + 1))), .int (xs (Int32.toNatClampNeg (x3 + 2))), .int (xs (Int32.toNatClampNeg (x3 + 3))), .int (xs (Int32.toNatClampNeg (x3 + 4))), .int (xs (Int32.toNatClampNeg (x3 + 5)))]) (rest := [.int r]) (st1 := [.int r, .int r]) (c_X12_loop l D (q_ca b2 q_S2) dt2 b2 (xs (Int32.toNatClampNeg (x3 + 1))) (xs (Int32.toNatClampNeg (x3 + 2))) (xs (Int32.toNatClampNeg (x3 + 3))) (xs (Int32.toNatClampNeg (x3 + 4))) (xs (Int32.toNatClampNeg (x3 + 5))) kd2 r d2 hm2) yl_X12_loop vl_X12_loop ml_RL_172 (ci := 12) rfl kd2 (by decide) rfl ⟨(Nat.le_of_ble_eq_true rfl), (Nat.le_of_ble_eq_true rfl)⟩ hl rfl (Nat.le_of_ble_eq_true rfl) dL_law_1768 hcs rfl (fun H locs hW2 hW1 hS => ?_)
  refine lv_icmp_eq (tgt := 2235) hx hb dL_law_1771 (by decide) (fun _ => ?_) (fun q => absurd rfl q)
  exact next _ _ _ _ _ hR1 hW1 hW2 hS hl
set_option maxRecDepth 100000 in
theorem w_follows {p : Program} {l : Launch} {e : Env} {s : State} {m : MethodId} {below : List Frame} {meth : Method} {c : Code} {D : q_D} {b L b1 b2 cells slots : Nat} {xs : Nat → Int32} (Y : q_Cy D s.heap.size code 4 ret R_law p s m #[Value.ref b] meth c) (hX : va_X b L xs s s.heap) (hbl : b < s.heap.size) (hb1 : s.heap.size ≤ b1) (hb2 : b1 + q_S1.length ≤ b2) (hcs : cells ≤ room_1.cells ∧ slots ≤ room_1.slots) {Rel : Nat → Nat → Nat → q_Dt → q_Dt → Prop} (hf : q_c_follows Rel) {k : Nat} {dt1 dt2 : q_Dt} {H : Heap} {locs : List Loc} {ls : Array Slot} {x3 : Int32} (hk : k < 512) (hR : Rel k b1 b2 dt1 dt2) (hin0 : vp_in x3 L) (hin : ∀ j, j < 8 → vp_in (x3 + Int32.ofNat j) L) (hW1 : q_W D (q_ca b1 q_S1) dt1 H) (hW2 : q_W D (q_ca b2 q_S2) dt2 H) (hS : va_S (fun q => s.heap.size ≤ q) s.heap H locs) (hl : lv_has ls 4 [(0, .ref b), (1, .ref b1), (2, .ref b2), (3, .int x3)]) (next : ∀ (d1 d2 : q_Dt) (H : Heap) (locs : List Loc) (ls : Array Slot), Rel (k + 1) b1 b2 d1 d2 → q_W D (q_ca b1 q_S1) d1 H → q_W D (q_ca b2 q_S2) d2 H → va_S (fun q => s.heap.size ≤ q) s.heap H locs → lv_has ls 4 [(0, .ref b), (1, .ref b1), (2, .ref b2), (3, .int x3)] → W p l e room_1 s m #[Value.ref b] below meth c H locs cells slots (lw_Z below #[Value.ref b] s) (F0 m 2235 ls [])) : W p l e room_1 s m #[Value.ref b] below meth c H locs cells slots (lw_Z below #[Value.ref b] s) (F0 m 1776 ls []) := by
  have hx := Y.1
  have hb := Y.2.1
  have hown := Y.2.2.2.2.2.1
  have hts := Y.2.2.2.2.2.2.1
  have hbA : ¬ (fun q : Nat => s.heap.size ≤ q) b := Nat.not_le.mpr hbl
  have kd1 := kd1_ok b1
  have kd2 := kd2_ok b2
  refine lv_aload_n hx hb dL_law_1776 rfl (lv_at hl 1 rfl) ?_
  refine lv_aload_n hx hb dL_law_1777 rfl (lv_at hl 0 rfl) ?_
  refine lv_iload_n hx hb dL_law_1778 rfl (lv_at hl 3 rfl) ?_
  refine lv_iconst (v := 1) hx hb dL_law_1779 (by decide) ?_
  refine lv_iadd hx hb dL_law_1780 ?_
  refine va_sld hx hb hX hbl hbA hS (hin 1 (by decide)) dL_law_1781 ?_
  refine lv_aload_n hx hb dL_law_1782 rfl (lv_at hl 0 rfl) ?_
  refine lv_iload_n hx hb dL_law_1783 rfl (lv_at hl 3 rfl) ?_
  refine lv_iconst (v := 2) hx hb dL_law_1784 (by decide) ?_
  refine lv_iadd hx hb dL_law_1785 ?_
  refine va_sld hx hb hX hbl hbA hS (hin 2 (by decide)) dL_law_1786 ?_
  obtain ⟨r, d1, d2, hm1, hm2, hR1⟩ := hf k b1 b2 dt1 dt2 (xs (Int32.toNatClampNeg (x3 + 1))) (xs (Int32.toNatClampNeg (x3 + 2))) hk hR
  refine q_callL Y hW1 hW2 (Or.inl hb2) hb1 hS (As := [.int (xs (Int32.toNatClampNeg (x3 + 1))), .int (xs (Int32.toNatClampNeg (x3 + 2)))]) (rest := []) (st1 := [.int r]) (c_X11_follows l D (q_ca b1 q_S1) dt1 b1 (xs (Int32.toNatClampNeg (x3 + 1))) (xs (Int32.toNatClampNeg (x3 + 2))) kd1 r d1 hm1) yl_X11_follows vl_X11_follows ml_RL_173 (ci := 11) rfl kd1 (by decide) rfl ⟨(Nat.le_of_ble_eq_true rfl), (Nat.le_of_ble_eq_true rfl)⟩ hl rfl (Nat.le_of_ble_eq_true rfl) dL_law_1787 hcs rfl (fun H locs hW1 hW2 hS => ?_)
  refine lv_aload_n hx hb dL_law_1790 rfl (lv_at hl 2 rfl) ?_
  refine lv_aload_n hx hb dL_law_1791 rfl (lv_at hl 0 rfl) ?_
  refine lv_iload_n hx hb dL_law_1792 rfl (lv_at hl 3 rfl) ?_
  refine lv_iconst (v := 1) hx hb dL_law_1793 (by decide) ?_
  refine lv_iadd hx hb dL_law_1794 ?_
  refine va_sld hx hb hX hbl hbA hS (hin 1 (by decide)) dL_law_1795 ?_
  refine lv_aload_n hx hb dL_law_1796 rfl (lv_at hl 0 rfl) ?_
  refine lv_iload_n hx hb dL_law_1797 rfl (lv_at hl 3 rfl) ?_
  refine lv_iconst (v := 2) hx hb dL_law_1798 (by decide) ?_
  refine lv_iadd hx hb dL_law_1799 ?_
  refine va_sld hx hb hX hbl hbA hS (hin 2 (by decide)) dL_law_1800 ?_
  refine q_callL Y hW2 hW1 (Or.inr hb2) (Nat.le_trans hb1 (Nat.le_trans (Nat.le_add_right _ _) hb2)) hS (As := [.int (xs (Int32.toNatClampNeg (x3 + 1))), .int (xs (Int32.toNatClampNeg (x3 + 2)))]) (rest := [.int r]) (st1 := [.int r, .int r]) (c_X12_follows l D (q_ca b2 q_S2) dt2 b2 (xs (Int32.toNatClampNeg (x3 + 1))) (xs (Int32.toNatClampNeg (x3 + 2))) kd2 r d2 hm2) yl_X12_follows vl_X12_follows ml_RL_176 (ci := 12) rfl kd2 (by decide) rfl ⟨(Nat.le_of_ble_eq_true rfl), (Nat.le_of_ble_eq_true rfl)⟩ hl rfl (Nat.le_of_ble_eq_true rfl) dL_law_1801 hcs rfl (fun H locs hW2 hW1 hS => ?_)
  refine lv_icmp_eq (tgt := 2235) hx hb dL_law_1804 (by decide) (fun _ => ?_) (fun q => absurd rfl q)
  exact next _ _ _ _ _ hR1 hW1 hW2 hS hl
set_option maxRecDepth 100000 in
theorem w_range {p : Program} {l : Launch} {e : Env} {s : State} {m : MethodId} {below : List Frame} {meth : Method} {c : Code} {D : q_D} {b L b1 b2 cells slots : Nat} {xs : Nat → Int32} (Y : q_Cy D s.heap.size code 4 ret R_law p s m #[Value.ref b] meth c) (hX : va_X b L xs s s.heap) (hbl : b < s.heap.size) (hb1 : s.heap.size ≤ b1) (hb2 : b1 + q_S1.length ≤ b2) (hcs : cells ≤ room_1.cells ∧ slots ≤ room_1.slots) {Rel : Nat → Nat → Nat → q_Dt → q_Dt → Prop} (hf : q_c_range Rel) {k : Nat} {dt1 dt2 : q_Dt} {H : Heap} {locs : List Loc} {ls : Array Slot} {x3 : Int32} (hk : k < 512) (hR : Rel k b1 b2 dt1 dt2) (hin0 : vp_in x3 L) (hin : ∀ j, j < 8 → vp_in (x3 + Int32.ofNat j) L) (hW1 : q_W D (q_ca b1 q_S1) dt1 H) (hW2 : q_W D (q_ca b2 q_S2) dt2 H) (hS : va_S (fun q => s.heap.size ≤ q) s.heap H locs) (hl : lv_has ls 4 [(0, .ref b), (1, .ref b1), (2, .ref b2), (3, .int x3)]) (next : ∀ (d1 d2 : q_Dt) (H : Heap) (locs : List Loc) (ls : Array Slot), Rel (k + 1) b1 b2 d1 d2 → q_W D (q_ca b1 q_S1) d1 H → q_W D (q_ca b2 q_S2) d2 H → va_S (fun q => s.heap.size ≤ q) s.heap H locs → lv_has ls 4 [(0, .ref b), (1, .ref b1), (2, .ref b2), (3, .int x3)] → W p l e room_1 s m #[Value.ref b] below meth c H locs cells slots (lw_Z below #[Value.ref b] s) (F0 m 2235 ls [])) : W p l e room_1 s m #[Value.ref b] below meth c H locs cells slots (lw_Z below #[Value.ref b] s) (F0 m 1809 ls []) := by
  have hx := Y.1
  have hb := Y.2.1
  have hown := Y.2.2.2.2.2.1
  have hts := Y.2.2.2.2.2.2.1
  have hbA : ¬ (fun q : Nat => s.heap.size ≤ q) b := Nat.not_le.mpr hbl
  have kd1 := kd1_ok b1
  have kd2 := kd2_ok b2
  refine lv_aload_n hx hb dL_law_1809 rfl (lv_at hl 1 rfl) ?_
  refine lv_aload_n hx hb dL_law_1810 rfl (lv_at hl 0 rfl) ?_
  refine lv_iload_n hx hb dL_law_1811 rfl (lv_at hl 3 rfl) ?_
  refine lv_iconst (v := 1) hx hb dL_law_1812 (by decide) ?_
  refine lv_iadd hx hb dL_law_1813 ?_
  refine va_sld hx hb hX hbl hbA hS (hin 1 (by decide)) dL_law_1814 ?_
  refine lv_aload_n hx hb dL_law_1815 rfl (lv_at hl 0 rfl) ?_
  refine lv_iload_n hx hb dL_law_1816 rfl (lv_at hl 3 rfl) ?_
  refine lv_iconst (v := 2) hx hb dL_law_1817 (by decide) ?_
  refine lv_iadd hx hb dL_law_1818 ?_
  refine va_sld hx hb hX hbl hbA hS (hin 2 (by decide)) dL_law_1819 ?_
  refine lv_aload_n hx hb dL_law_1820 rfl (lv_at hl 0 rfl) ?_
  refine lv_iload_n hx hb dL_law_1821 rfl (lv_at hl 3 rfl) ?_
  refine lv_iconst (v := 3) hx hb dL_law_1822 (by decide) ?_
  refine lv_iadd hx hb dL_law_1823 ?_
  refine va_sld hx hb hX hbl hbA hS (hin 3 (by decide)) dL_law_1824 ?_
  refine lv_aload_n hx hb dL_law_1825 rfl (lv_at hl 0 rfl) ?_
  refine lv_iload_n hx hb dL_law_1826 rfl (lv_at hl 3 rfl) ?_
  refine lv_iconst (v := 4) hx hb dL_law_1827 (by decide) ?_
  refine lv_iadd hx hb dL_law_1828 ?_
  refine va_sld hx hb hX hbl hbA hS (hin 4 (by decide)) dL_law_1829 ?_
  refine lv_aload_n hx hb dL_law_1830 rfl (lv_at hl 0 rfl) ?_
  refine lv_iload_n hx hb dL_law_1831 rfl (lv_at hl 3 rfl) ?_
  refine lv_iconst (v := 5) hx hb dL_law_1832 (by decide) ?_
  refine lv_iadd hx hb dL_law_1833 ?_
  refine va_sld hx hb hX hbl hbA hS (hin 5 (by decide)) dL_law_1834 ?_
  refine lv_aload_n hx hb dL_law_1835 rfl (lv_at hl 0 rfl) ?_
  refine lv_iload_n hx hb dL_law_1836 rfl (lv_at hl 3 rfl) ?_
  refine lv_bipush (v := 6) hx hb dL_law_1837 (by decide) ?_
  refine lv_iadd hx hb dL_law_1839 ?_
  refine va_sld hx hb hX hbl hbA hS (hin 6 (by decide)) dL_law_1840 ?_
  obtain ⟨r, hm1, hm2, hR1⟩ := hf k b1 b2 dt1 dt2 (xs (Int32.toNatClampNeg (x3 + 1))) (xs (Int32.toNatClampNeg (x3 + 2))) (xs (Int32.toNatClampNeg (x3 + 3))) (xs (Int32.toNatClampNeg (x3 + 4))) (xs (Int32.toNatClampNeg (x3 + 5))) (xs (Int32.toNatClampNeg (x3 + 6))) hk hR
  refine q_callL Y hW1 hW2 (Or.inl hb2) hb1 hS (As := [.int (xs (Int32.toNatClampNeg (x3 + 1))), .int (xs (Int32.toNatClampNeg (x3 + 2))), .int (xs (Int32.toNatClampNeg (x3 + 3))), .int (xs (Int32.toNatClampNeg (x3 + 4))), .int (xs (Int32.toNatClampNeg (x3 + 5))), .int (xs (Int32.toNatClampNeg (x3 + 6)))]) (rest := []) (st1 := [.long r]) (c_X11_range l D (q_ca b1 q_S1) dt1 b1 (xs (Int32.toNatClampNeg (x3 + 1))) (xs (Int32.toNatClampNeg (x3 + 2))) (xs (Int32.toNatClampNeg (x3 + 3))) (xs (Int32.toNatClampNeg (x3 + 4))) (xs (Int32.toNatClampNeg (x3 + 5))) (xs (Int32.toNatClampNeg (x3 + 6))) kd1 r hm1) yl_X11_range vl_X11_range ml_RL_177 (ci := 11) rfl kd1 (by decide) rfl ⟨(Nat.le_of_ble_eq_true rfl), (Nat.le_of_ble_eq_true rfl)⟩ hl rfl (Nat.le_of_ble_eq_true rfl) dL_law_1841 hcs rfl (fun H locs hW1 hW2 hS => ?_)
  refine lv_aload_n hx hb dL_law_1844 rfl (lv_at hl 2 rfl) ?_
  refine lv_aload_n hx hb dL_law_1845 rfl (lv_at hl 0 rfl) ?_
  refine lv_iload_n hx hb dL_law_1846 rfl (lv_at hl 3 rfl) ?_
  refine lv_iconst (v := 1) hx hb dL_law_1847 (by decide) ?_
  refine lv_iadd hx hb dL_law_1848 ?_
  refine va_sld hx hb hX hbl hbA hS (hin 1 (by decide)) dL_law_1849 ?_
  refine lv_aload_n hx hb dL_law_1850 rfl (lv_at hl 0 rfl) ?_
  refine lv_iload_n hx hb dL_law_1851 rfl (lv_at hl 3 rfl) ?_
  refine lv_iconst (v := 2) hx hb dL_law_1852 (by decide) ?_
  refine lv_iadd hx hb dL_law_1853 ?_
  refine va_sld hx hb hX hbl hbA hS (hin 2 (by decide)) dL_law_1854 ?_
  refine lv_aload_n hx hb dL_law_1855 rfl (lv_at hl 0 rfl) ?_
  refine lv_iload_n hx hb dL_law_1856 rfl (lv_at hl 3 rfl) ?_
  refine lv_iconst (v := 3) hx hb dL_law_1857 (by decide) ?_
  refine lv_iadd hx hb dL_law_1858 ?_
  refine va_sld hx hb hX hbl hbA hS (hin 3 (by decide)) dL_law_1859 ?_
  refine lv_aload_n hx hb dL_law_1860 rfl (lv_at hl 0 rfl) ?_
  refine lv_iload_n hx hb dL_law_1861 rfl (lv_at hl 3 rfl) ?_
  refine lv_iconst (v := 4) hx hb dL_law_1862 (by decide) ?_
  refine lv_iadd hx hb dL_law_1863 ?_
  refine va_sld hx hb hX hbl hbA hS (hin 4 (by decide)) dL_law_1864 ?_
  refine lv_aload_n hx hb dL_law_1865 rfl (lv_at hl 0 rfl) ?_
  refine lv_iload_n hx hb dL_law_1866 rfl (lv_at hl 3 rfl) ?_
  refine lv_iconst (v := 5) hx hb dL_law_1867 (by decide) ?_
  refine lv_iadd hx hb dL_law_1868 ?_
  refine va_sld hx hb hX hbl hbA hS (hin 5 (by decide)) dL_law_1869 ?_
  refine lv_aload_n hx hb dL_law_1870 rfl (lv_at hl 0 rfl) ?_
  refine lv_iload_n hx hb dL_law_1871 rfl (lv_at hl 3 rfl) ?_
  refine lv_bipush (v := 6) hx hb dL_law_1872 (by decide) ?_
  refine lv_iadd hx hb dL_law_1874 ?_
  refine va_sld hx hb hX hbl hbA hS (hin 6 (by decide)) dL_law_1875 ?_
  refine q_callL Y hW2 hW1 (Or.inr hb2) (Nat.le_trans hb1 (Nat.le_trans (Nat.le_add_right _ _) hb2)) hS (As := [.int (xs (Int32.toNatClampNeg (x3 + 1))), .int (xs (Int32.toNatClampNeg (x3 + 2))), .int (xs (Int32.toNatClampNeg (x3 + 3))), .int (xs (Int32.toNatClampNeg (x3 + 4))), .int (xs (Int32.toNatClampNeg (x3 + 5))), .int (xs (Int32.toNatClampNeg (x3 + 6)))]) (rest := [.long r]) (st1 := [.long r, .long r]) (c_X12_range l D (q_ca b2 q_S2) dt2 b2 (xs (Int32.toNatClampNeg (x3 + 1))) (xs (Int32.toNatClampNeg (x3 + 2))) (xs (Int32.toNatClampNeg (x3 + 3))) (xs (Int32.toNatClampNeg (x3 + 4))) (xs (Int32.toNatClampNeg (x3 + 5))) (xs (Int32.toNatClampNeg (x3 + 6))) kd2 r hm2) yl_X12_range vl_X12_range ml_RL_181 (ci := 12) rfl kd2 (by decide) rfl ⟨(Nat.le_of_ble_eq_true rfl), (Nat.le_of_ble_eq_true rfl)⟩ hl rfl (Nat.le_of_ble_eq_true rfl) dL_law_1876 hcs rfl (fun H locs hW2 hW1 hS => ?_)
  refine W.lcmp hx hb dL_law_1879 ?_
  refine lv_if_eq (tgt := 2235) hx hb dL_law_1880 (by decide) (fun _ => ?_) (fun q => absurd (q_cmp_eq.mpr rfl) q)
  exact next _ _ _ _ _ hR1 hW1 hW2 hS hl
set_option maxRecDepth 100000 in
theorem w_near {p : Program} {l : Launch} {e : Env} {s : State} {m : MethodId} {below : List Frame} {meth : Method} {c : Code} {D : q_D} {b L b1 b2 cells slots : Nat} {xs : Nat → Int32} (Y : q_Cy D s.heap.size code 4 ret R_law p s m #[Value.ref b] meth c) (hX : va_X b L xs s s.heap) (hbl : b < s.heap.size) (hb1 : s.heap.size ≤ b1) (hb2 : b1 + q_S1.length ≤ b2) (hcs : cells ≤ room_1.cells ∧ slots ≤ room_1.slots) {Rel : Nat → Nat → Nat → q_Dt → q_Dt → Prop} (hf : q_c_near Rel) {k : Nat} {dt1 dt2 : q_Dt} {H : Heap} {locs : List Loc} {ls : Array Slot} {x3 : Int32} (hk : k < 512) (hR : Rel k b1 b2 dt1 dt2) (hin0 : vp_in x3 L) (hin : ∀ j, j < 8 → vp_in (x3 + Int32.ofNat j) L) (hW1 : q_W D (q_ca b1 q_S1) dt1 H) (hW2 : q_W D (q_ca b2 q_S2) dt2 H) (hS : va_S (fun q => s.heap.size ≤ q) s.heap H locs) (hl : lv_has ls 4 [(0, .ref b), (1, .ref b1), (2, .ref b2), (3, .int x3)]) (next : ∀ (d1 d2 : q_Dt) (H : Heap) (locs : List Loc) (ls : Array Slot), Rel (k + 1) b1 b2 d1 d2 → q_W D (q_ca b1 q_S1) d1 H → q_W D (q_ca b2 q_S2) d2 H → va_S (fun q => s.heap.size ≤ q) s.heap H locs → lv_has ls 4 [(0, .ref b), (1, .ref b1), (2, .ref b2), (3, .int x3)] → W p l e room_1 s m #[Value.ref b] below meth c H locs cells slots (lw_Z below #[Value.ref b] s) (F0 m 2235 ls [])) : W p l e room_1 s m #[Value.ref b] below meth c H locs cells slots (lw_Z below #[Value.ref b] s) (F0 m 1885 ls []) := by
  have hx := Y.1
  have hb := Y.2.1
  have hown := Y.2.2.2.2.2.1
  have hts := Y.2.2.2.2.2.2.1
  have hbA : ¬ (fun q : Nat => s.heap.size ≤ q) b := Nat.not_le.mpr hbl
  have kd1 := kd1_ok b1
  have kd2 := kd2_ok b2
  refine lv_aload_n hx hb dL_law_1885 rfl (lv_at hl 1 rfl) ?_
  refine lv_aload_n hx hb dL_law_1886 rfl (lv_at hl 0 rfl) ?_
  refine lv_iload_n hx hb dL_law_1887 rfl (lv_at hl 3 rfl) ?_
  refine lv_iconst (v := 1) hx hb dL_law_1888 (by decide) ?_
  refine lv_iadd hx hb dL_law_1889 ?_
  refine va_sld hx hb hX hbl hbA hS (hin 1 (by decide)) dL_law_1890 ?_
  refine lv_aload_n hx hb dL_law_1891 rfl (lv_at hl 0 rfl) ?_
  refine lv_iload_n hx hb dL_law_1892 rfl (lv_at hl 3 rfl) ?_
  refine lv_iconst (v := 2) hx hb dL_law_1893 (by decide) ?_
  refine lv_iadd hx hb dL_law_1894 ?_
  refine va_sld hx hb hX hbl hbA hS (hin 2 (by decide)) dL_law_1895 ?_
  refine lv_aload_n hx hb dL_law_1896 rfl (lv_at hl 0 rfl) ?_
  refine lv_iload_n hx hb dL_law_1897 rfl (lv_at hl 3 rfl) ?_
  refine lv_iconst (v := 3) hx hb dL_law_1898 (by decide) ?_
  refine lv_iadd hx hb dL_law_1899 ?_
  refine va_sld hx hb hX hbl hbA hS (hin 3 (by decide)) dL_law_1900 ?_
  refine lv_aload_n hx hb dL_law_1901 rfl (lv_at hl 0 rfl) ?_
  refine lv_iload_n hx hb dL_law_1902 rfl (lv_at hl 3 rfl) ?_
  refine lv_iconst (v := 4) hx hb dL_law_1903 (by decide) ?_
  refine lv_iadd hx hb dL_law_1904 ?_
  refine va_sld hx hb hX hbl hbA hS (hin 4 (by decide)) dL_law_1905 ?_
  refine lv_aload_n hx hb dL_law_1906 rfl (lv_at hl 0 rfl) ?_
  refine lv_iload_n hx hb dL_law_1907 rfl (lv_at hl 3 rfl) ?_
  refine lv_iconst (v := 5) hx hb dL_law_1908 (by decide) ?_
  refine lv_iadd hx hb dL_law_1909 ?_
  refine va_sld hx hb hX hbl hbA hS (hin 5 (by decide)) dL_law_1910 ?_
  obtain ⟨r, hm1, hm2, hR1⟩ := hf k b1 b2 dt1 dt2 (xs (Int32.toNatClampNeg (x3 + 1))) (xs (Int32.toNatClampNeg (x3 + 2))) (xs (Int32.toNatClampNeg (x3 + 3))) (xs (Int32.toNatClampNeg (x3 + 4))) (xs (Int32.toNatClampNeg (x3 + 5))) hk hR
  refine q_callL Y hW1 hW2 (Or.inl hb2) hb1 hS (As := [.int (xs (Int32.toNatClampNeg (x3 + 1))), .int (xs (Int32.toNatClampNeg (x3 + 2))), .int (xs (Int32.toNatClampNeg (x3 + 3))), .int (xs (Int32.toNatClampNeg (x3 + 4))), .int (xs (Int32.toNatClampNeg (x3 + 5)))]) (rest := []) (st1 := [.int r]) (c_X11_near l D (q_ca b1 q_S1) dt1 b1 (xs (Int32.toNatClampNeg (x3 + 1))) (xs (Int32.toNatClampNeg (x3 + 2))) (xs (Int32.toNatClampNeg (x3 + 3))) (xs (Int32.toNatClampNeg (x3 + 4))) (xs (Int32.toNatClampNeg (x3 + 5))) kd1 r hm1) yl_X11_near vl_X11_near ml_RL_182 (ci := 11) rfl kd1 (by decide) rfl ⟨(Nat.le_of_ble_eq_true rfl), (Nat.le_of_ble_eq_true rfl)⟩ hl rfl (Nat.le_of_ble_eq_true rfl) dL_law_1911 hcs rfl (fun H locs hW1 hW2 hS => ?_)
  refine lv_aload_n hx hb dL_law_1914 rfl (lv_at hl 2 rfl) ?_
  refine lv_aload_n hx hb dL_law_1915 rfl (lv_at hl 0 rfl) ?_
  refine lv_iload_n hx hb dL_law_1916 rfl (lv_at hl 3 rfl) ?_
  refine lv_iconst (v := 1) hx hb dL_law_1917 (by decide) ?_
  refine lv_iadd hx hb dL_law_1918 ?_
  refine va_sld hx hb hX hbl hbA hS (hin 1 (by decide)) dL_law_1919 ?_
  refine lv_aload_n hx hb dL_law_1920 rfl (lv_at hl 0 rfl) ?_
  refine lv_iload_n hx hb dL_law_1921 rfl (lv_at hl 3 rfl) ?_
  refine lv_iconst (v := 2) hx hb dL_law_1922 (by decide) ?_
  refine lv_iadd hx hb dL_law_1923 ?_
  refine va_sld hx hb hX hbl hbA hS (hin 2 (by decide)) dL_law_1924 ?_
  refine lv_aload_n hx hb dL_law_1925 rfl (lv_at hl 0 rfl) ?_
  refine lv_iload_n hx hb dL_law_1926 rfl (lv_at hl 3 rfl) ?_
  refine lv_iconst (v := 3) hx hb dL_law_1927 (by decide) ?_
  refine lv_iadd hx hb dL_law_1928 ?_
  refine va_sld hx hb hX hbl hbA hS (hin 3 (by decide)) dL_law_1929 ?_
  refine lv_aload_n hx hb dL_law_1930 rfl (lv_at hl 0 rfl) ?_
  refine lv_iload_n hx hb dL_law_1931 rfl (lv_at hl 3 rfl) ?_
  refine lv_iconst (v := 4) hx hb dL_law_1932 (by decide) ?_
  refine lv_iadd hx hb dL_law_1933 ?_
  refine va_sld hx hb hX hbl hbA hS (hin 4 (by decide)) dL_law_1934 ?_
  refine lv_aload_n hx hb dL_law_1935 rfl (lv_at hl 0 rfl) ?_
  refine lv_iload_n hx hb dL_law_1936 rfl (lv_at hl 3 rfl) ?_
  refine lv_iconst (v := 5) hx hb dL_law_1937 (by decide) ?_
  refine lv_iadd hx hb dL_law_1938 ?_
  refine va_sld hx hb hX hbl hbA hS (hin 5 (by decide)) dL_law_1939 ?_
  refine q_callL Y hW2 hW1 (Or.inr hb2) (Nat.le_trans hb1 (Nat.le_trans (Nat.le_add_right _ _) hb2)) hS (As := [.int (xs (Int32.toNatClampNeg (x3 + 1))), .int (xs (Int32.toNatClampNeg (x3 + 2))), .int (xs (Int32.toNatClampNeg (x3 + 3))), .int (xs (Int32.toNatClampNeg (x3 + 4))), .int (xs (Int32.toNatClampNeg (x3 + 5)))]) (rest := [.int r]) (st1 := [.int r, .int r]) (c_X12_near l D (q_ca b2 q_S2) dt2 b2 (xs (Int32.toNatClampNeg (x3 + 1))) (xs (Int32.toNatClampNeg (x3 + 2))) (xs (Int32.toNatClampNeg (x3 + 3))) (xs (Int32.toNatClampNeg (x3 + 4))) (xs (Int32.toNatClampNeg (x3 + 5))) kd2 r hm2) yl_X12_near vl_X12_near ml_RL_185 (ci := 12) rfl kd2 (by decide) rfl ⟨(Nat.le_of_ble_eq_true rfl), (Nat.le_of_ble_eq_true rfl)⟩ hl rfl (Nat.le_of_ble_eq_true rfl) dL_law_1940 hcs rfl (fun H locs hW2 hW1 hS => ?_)
  refine lv_icmp_eq (tgt := 2235) hx hb dL_law_1943 (by decide) (fun _ => ?_) (fun q => absurd rfl q)
  exact next _ _ _ _ _ hR1 hW1 hW2 hS hl
set_option maxRecDepth 100000 in
theorem w_hop {p : Program} {l : Launch} {e : Env} {s : State} {m : MethodId} {below : List Frame} {meth : Method} {c : Code} {D : q_D} {b L b1 b2 cells slots : Nat} {xs : Nat → Int32} (Y : q_Cy D s.heap.size code 4 ret R_law p s m #[Value.ref b] meth c) (hX : va_X b L xs s s.heap) (hbl : b < s.heap.size) (hb1 : s.heap.size ≤ b1) (hb2 : b1 + q_S1.length ≤ b2) (hcs : cells ≤ room_1.cells ∧ slots ≤ room_1.slots) {Rel : Nat → Nat → Nat → q_Dt → q_Dt → Prop} (hf : q_c_hop Rel) {k : Nat} {dt1 dt2 : q_Dt} {H : Heap} {locs : List Loc} {ls : Array Slot} {x3 : Int32} (hk : k < 512) (hR : Rel k b1 b2 dt1 dt2) (hin0 : vp_in x3 L) (hin : ∀ j, j < 8 → vp_in (x3 + Int32.ofNat j) L) (hW1 : q_W D (q_ca b1 q_S1) dt1 H) (hW2 : q_W D (q_ca b2 q_S2) dt2 H) (hS : va_S (fun q => s.heap.size ≤ q) s.heap H locs) (hl : lv_has ls 4 [(0, .ref b), (1, .ref b1), (2, .ref b2), (3, .int x3)]) (next : ∀ (d1 d2 : q_Dt) (H : Heap) (locs : List Loc) (ls : Array Slot), Rel (k + 1) b1 b2 d1 d2 → q_W D (q_ca b1 q_S1) d1 H → q_W D (q_ca b2 q_S2) d2 H → va_S (fun q => s.heap.size ≤ q) s.heap H locs → lv_has ls 4 [(0, .ref b), (1, .ref b1), (2, .ref b2), (3, .int x3)] → W p l e room_1 s m #[Value.ref b] below meth c H locs cells slots (lw_Z below #[Value.ref b] s) (F0 m 2235 ls [])) : W p l e room_1 s m #[Value.ref b] below meth c H locs cells slots (lw_Z below #[Value.ref b] s) (F0 m 1948 ls []) := by
  have hx := Y.1
  have hb := Y.2.1
  have hown := Y.2.2.2.2.2.1
  have hts := Y.2.2.2.2.2.2.1
  have hbA : ¬ (fun q : Nat => s.heap.size ≤ q) b := Nat.not_le.mpr hbl
  have kd1 := kd1_ok b1
  have kd2 := kd2_ok b2
  refine lv_aload_n hx hb dL_law_1948 rfl (lv_at hl 1 rfl) ?_
  refine lv_aload_n hx hb dL_law_1949 rfl (lv_at hl 0 rfl) ?_
  refine lv_iload_n hx hb dL_law_1950 rfl (lv_at hl 3 rfl) ?_
  refine lv_iconst (v := 1) hx hb dL_law_1951 (by decide) ?_
  refine lv_iadd hx hb dL_law_1952 ?_
  refine va_sld hx hb hX hbl hbA hS (hin 1 (by decide)) dL_law_1953 ?_
  refine lv_aload_n hx hb dL_law_1954 rfl (lv_at hl 0 rfl) ?_
  refine lv_iload_n hx hb dL_law_1955 rfl (lv_at hl 3 rfl) ?_
  refine lv_iconst (v := 2) hx hb dL_law_1956 (by decide) ?_
  refine lv_iadd hx hb dL_law_1957 ?_
  refine va_sld hx hb hX hbl hbA hS (hin 2 (by decide)) dL_law_1958 ?_
  obtain ⟨r, hm1, hm2, hR1⟩ := hf k b1 b2 dt1 dt2 (xs (Int32.toNatClampNeg (x3 + 1))) (xs (Int32.toNatClampNeg (x3 + 2))) hk hR
  refine q_callL Y hW1 hW2 (Or.inl hb2) hb1 hS (As := [.int (xs (Int32.toNatClampNeg (x3 + 1))), .int (xs (Int32.toNatClampNeg (x3 + 2)))]) (rest := []) (st1 := [.int r]) (c_X11_hop l D (q_ca b1 q_S1) dt1 b1 (xs (Int32.toNatClampNeg (x3 + 1))) (xs (Int32.toNatClampNeg (x3 + 2))) kd1 r hm1) yl_X11_hop vl_X11_hop ml_RL_186 (ci := 11) rfl kd1 (by decide) rfl ⟨(Nat.le_of_ble_eq_true rfl), (Nat.le_of_ble_eq_true rfl)⟩ hl rfl (Nat.le_of_ble_eq_true rfl) dL_law_1959 hcs rfl (fun H locs hW1 hW2 hS => ?_)
  refine lv_aload_n hx hb dL_law_1962 rfl (lv_at hl 2 rfl) ?_
  refine lv_aload_n hx hb dL_law_1963 rfl (lv_at hl 0 rfl) ?_
  refine lv_iload_n hx hb dL_law_1964 rfl (lv_at hl 3 rfl) ?_
  refine lv_iconst (v := 1) hx hb dL_law_1965 (by decide) ?_
  refine lv_iadd hx hb dL_law_1966 ?_
  refine va_sld hx hb hX hbl hbA hS (hin 1 (by decide)) dL_law_1967 ?_
  refine lv_aload_n hx hb dL_law_1968 rfl (lv_at hl 0 rfl) ?_
  refine lv_iload_n hx hb dL_law_1969 rfl (lv_at hl 3 rfl) ?_
  refine lv_iconst (v := 2) hx hb dL_law_1970 (by decide) ?_
  refine lv_iadd hx hb dL_law_1971 ?_
  refine va_sld hx hb hX hbl hbA hS (hin 2 (by decide)) dL_law_1972 ?_
  refine q_callL Y hW2 hW1 (Or.inr hb2) (Nat.le_trans hb1 (Nat.le_trans (Nat.le_add_right _ _) hb2)) hS (As := [.int (xs (Int32.toNatClampNeg (x3 + 1))), .int (xs (Int32.toNatClampNeg (x3 + 2)))]) (rest := [.int r]) (st1 := [.int r, .int r]) (c_X12_hop l D (q_ca b2 q_S2) dt2 b2 (xs (Int32.toNatClampNeg (x3 + 1))) (xs (Int32.toNatClampNeg (x3 + 2))) kd2 r hm2) yl_X12_hop vl_X12_hop ml_RL_189 (ci := 12) rfl kd2 (by decide) rfl ⟨(Nat.le_of_ble_eq_true rfl), (Nat.le_of_ble_eq_true rfl)⟩ hl rfl (Nat.le_of_ble_eq_true rfl) dL_law_1973 hcs rfl (fun H locs hW2 hW1 hS => ?_)
  refine lv_icmp_eq (tgt := 2235) hx hb dL_law_1976 (by decide) (fun _ => ?_) (fun q => absurd rfl q)
  exact next _ _ _ _ _ hR1 hW1 hW2 hS hl
set_option maxRecDepth 100000 in
theorem w_hits {p : Program} {l : Launch} {e : Env} {s : State} {m : MethodId} {below : List Frame} {meth : Method} {c : Code} {D : q_D} {b L b1 b2 cells slots : Nat} {xs : Nat → Int32} (Y : q_Cy D s.heap.size code 4 ret R_law p s m #[Value.ref b] meth c) (hX : va_X b L xs s s.heap) (hbl : b < s.heap.size) (hb1 : s.heap.size ≤ b1) (hb2 : b1 + q_S1.length ≤ b2) (hcs : cells ≤ room_1.cells ∧ slots ≤ room_1.slots) {Rel : Nat → Nat → Nat → q_Dt → q_Dt → Prop} (hf : q_c_hits Rel) {k : Nat} {dt1 dt2 : q_Dt} {H : Heap} {locs : List Loc} {ls : Array Slot} {x3 : Int32} (hk : k < 512) (hR : Rel k b1 b2 dt1 dt2) (hin0 : vp_in x3 L) (hin : ∀ j, j < 8 → vp_in (x3 + Int32.ofNat j) L) (hW1 : q_W D (q_ca b1 q_S1) dt1 H) (hW2 : q_W D (q_ca b2 q_S2) dt2 H) (hS : va_S (fun q => s.heap.size ≤ q) s.heap H locs) (hl : lv_has ls 4 [(0, .ref b), (1, .ref b1), (2, .ref b2), (3, .int x3)]) (next : ∀ (d1 d2 : q_Dt) (H : Heap) (locs : List Loc) (ls : Array Slot), Rel (k + 1) b1 b2 d1 d2 → q_W D (q_ca b1 q_S1) d1 H → q_W D (q_ca b2 q_S2) d2 H → va_S (fun q => s.heap.size ≤ q) s.heap H locs → lv_has ls 4 [(0, .ref b), (1, .ref b1), (2, .ref b2), (3, .int x3)] → W p l e room_1 s m #[Value.ref b] below meth c H locs cells slots (lw_Z below #[Value.ref b] s) (F0 m 2235 ls [])) : W p l e room_1 s m #[Value.ref b] below meth c H locs cells slots (lw_Z below #[Value.ref b] s) (F0 m 1981 ls []) := by
  have hx := Y.1
  have hb := Y.2.1
  have hown := Y.2.2.2.2.2.1
  have hts := Y.2.2.2.2.2.2.1
  have hbA : ¬ (fun q : Nat => s.heap.size ≤ q) b := Nat.not_le.mpr hbl
  have kd1 := kd1_ok b1
  have kd2 := kd2_ok b2
  refine lv_aload_n hx hb dL_law_1981 rfl (lv_at hl 1 rfl) ?_
  refine lv_aload_n hx hb dL_law_1982 rfl (lv_at hl 0 rfl) ?_
  refine lv_iload_n hx hb dL_law_1983 rfl (lv_at hl 3 rfl) ?_
  refine lv_iconst (v := 1) hx hb dL_law_1984 (by decide) ?_
  refine lv_iadd hx hb dL_law_1985 ?_
  refine va_sld hx hb hX hbl hbA hS (hin 1 (by decide)) dL_law_1986 ?_
  refine lv_aload_n hx hb dL_law_1987 rfl (lv_at hl 0 rfl) ?_
  refine lv_iload_n hx hb dL_law_1988 rfl (lv_at hl 3 rfl) ?_
  refine lv_iconst (v := 2) hx hb dL_law_1989 (by decide) ?_
  refine lv_iadd hx hb dL_law_1990 ?_
  refine va_sld hx hb hX hbl hbA hS (hin 2 (by decide)) dL_law_1991 ?_
  refine lv_aload_n hx hb dL_law_1992 rfl (lv_at hl 0 rfl) ?_
  refine lv_iload_n hx hb dL_law_1993 rfl (lv_at hl 3 rfl) ?_
  refine lv_iconst (v := 3) hx hb dL_law_1994 (by decide) ?_
  refine lv_iadd hx hb dL_law_1995 ?_
  refine va_sld hx hb hX hbl hbA hS (hin 3 (by decide)) dL_law_1996 ?_
  obtain ⟨r, hm1, hm2, hR1⟩ := hf k b1 b2 dt1 dt2 (xs (Int32.toNatClampNeg (x3 + 1))) (xs (Int32.toNatClampNeg (x3 + 2))) (xs (Int32.toNatClampNeg (x3 + 3))) hk hR
  refine q_callL Y hW1 hW2 (Or.inl hb2) hb1 hS (As := [.int (xs (Int32.toNatClampNeg (x3 + 1))), .int (xs (Int32.toNatClampNeg (x3 + 2))), .int (xs (Int32.toNatClampNeg (x3 + 3)))]) (rest := []) (st1 := [.int r]) (c_X11_hits l D (q_ca b1 q_S1) dt1 b1 (xs (Int32.toNatClampNeg (x3 + 1))) (xs (Int32.toNatClampNeg (x3 + 2))) (xs (Int32.toNatClampNeg (x3 + 3))) kd1 r hm1) yl_X11_hits vl_X11_hits ml_RL_190 (ci := 11) rfl kd1 (by decide) rfl ⟨(Nat.le_of_ble_eq_true rfl), (Nat.le_of_ble_eq_true rfl)⟩ hl rfl (Nat.le_of_ble_eq_true rfl) dL_law_1997 hcs rfl (fun H locs hW1 hW2 hS => ?_)
  refine lv_aload_n hx hb dL_law_2000 rfl (lv_at hl 2 rfl) ?_
  refine lv_aload_n hx hb dL_law_2001 rfl (lv_at hl 0 rfl) ?_
  refine lv_iload_n hx hb dL_law_2002 rfl (lv_at hl 3 rfl) ?_
  refine lv_iconst (v := 1) hx hb dL_law_2003 (by decide) ?_
  refine lv_iadd hx hb dL_law_2004 ?_
  refine va_sld hx hb hX hbl hbA hS (hin 1 (by decide)) dL_law_2005 ?_
  refine lv_aload_n hx hb dL_law_2006 rfl (lv_at hl 0 rfl) ?_
  refine lv_iload_n hx hb dL_law_2007 rfl (lv_at hl 3 rfl) ?_
  refine lv_iconst (v := 2) hx hb dL_law_2008 (by decide) ?_
  refine lv_iadd hx hb dL_law_2009 ?_
  refine va_sld hx hb hX hbl hbA hS (hin 2 (by decide)) dL_law_2010 ?_
  refine lv_aload_n hx hb dL_law_2011 rfl (lv_at hl 0 rfl) ?_
  refine lv_iload_n hx hb dL_law_2012 rfl (lv_at hl 3 rfl) ?_
  refine lv_iconst (v := 3) hx hb dL_law_2013 (by decide) ?_
  refine lv_iadd hx hb dL_law_2014 ?_
  refine va_sld hx hb hX hbl hbA hS (hin 3 (by decide)) dL_law_2015 ?_
  refine q_callL Y hW2 hW1 (Or.inr hb2) (Nat.le_trans hb1 (Nat.le_trans (Nat.le_add_right _ _) hb2)) hS (As := [.int (xs (Int32.toNatClampNeg (x3 + 1))), .int (xs (Int32.toNatClampNeg (x3 + 2))), .int (xs (Int32.toNatClampNeg (x3 + 3)))]) (rest := [.int r]) (st1 := [.int r, .int r]) (c_X12_hits l D (q_ca b2 q_S2) dt2 b2 (xs (Int32.toNatClampNeg (x3 + 1))) (xs (Int32.toNatClampNeg (x3 + 2))) (xs (Int32.toNatClampNeg (x3 + 3))) kd2 r hm2) yl_X12_hits vl_X12_hits ml_RL_193 (ci := 12) rfl kd2 (by decide) rfl ⟨(Nat.le_of_ble_eq_true rfl), (Nat.le_of_ble_eq_true rfl)⟩ hl rfl (Nat.le_of_ble_eq_true rfl) dL_law_2016 hcs rfl (fun H locs hW2 hW1 hS => ?_)
  refine lv_icmp_eq (tgt := 2235) hx hb dL_law_2019 (by decide) (fun _ => ?_) (fun q => absurd rfl q)
  exact next _ _ _ _ _ hR1 hW1 hW2 hS hl
set_option maxRecDepth 100000 in
theorem w_worstHits {p : Program} {l : Launch} {e : Env} {s : State} {m : MethodId} {below : List Frame} {meth : Method} {c : Code} {D : q_D} {b L b1 b2 cells slots : Nat} {xs : Nat → Int32} (Y : q_Cy D s.heap.size code 4 ret R_law p s m #[Value.ref b] meth c) (hX : va_X b L xs s s.heap) (hbl : b < s.heap.size) (hb1 : s.heap.size ≤ b1) (hb2 : b1 + q_S1.length ≤ b2) (hcs : cells ≤ room_1.cells ∧ slots ≤ room_1.slots) {Rel : Nat → Nat → Nat → q_Dt → q_Dt → Prop} (hf : q_c_worstHits Rel) {k : Nat} {dt1 dt2 : q_Dt} {H : Heap} {locs : List Loc} {ls : Array Slot} {x3 : Int32} (hk : k < 512) (hR : Rel k b1 b2 dt1 dt2) (hin0 : vp_in x3 L) (hin : ∀ j, j < 8 → vp_in (x3 + Int32.ofNat j) L) (hW1 : q_W D (q_ca b1 q_S1) dt1 H) (hW2 : q_W D (q_ca b2 q_S2) dt2 H) (hS : va_S (fun q => s.heap.size ≤ q) s.heap H locs) (hl : lv_has ls 4 [(0, .ref b), (1, .ref b1), (2, .ref b2), (3, .int x3)]) (next : ∀ (d1 d2 : q_Dt) (H : Heap) (locs : List Loc) (ls : Array Slot), Rel (k + 1) b1 b2 d1 d2 → q_W D (q_ca b1 q_S1) d1 H → q_W D (q_ca b2 q_S2) d2 H → va_S (fun q => s.heap.size ≤ q) s.heap H locs → lv_has ls 4 [(0, .ref b), (1, .ref b1), (2, .ref b2), (3, .int x3)] → W p l e room_1 s m #[Value.ref b] below meth c H locs cells slots (lw_Z below #[Value.ref b] s) (F0 m 2235 ls [])) : W p l e room_1 s m #[Value.ref b] below meth c H locs cells slots (lw_Z below #[Value.ref b] s) (F0 m 2024 ls []) := by
  have hx := Y.1
  have hb := Y.2.1
  have hown := Y.2.2.2.2.2.1
  have hts := Y.2.2.2.2.2.2.1
  have hbA : ¬ (fun q : Nat => s.heap.size ≤ q) b := Nat.not_le.mpr hbl
  have kd1 := kd1_ok b1
  have kd2 := kd2_ok b2
  refine lv_aload_n hx hb dL_law_2024 rfl (lv_at hl 1 rfl) ?_
  refine lv_aload_n hx hb dL_law_2025 rfl (lv_at hl 0 rfl) ?_
  refine lv_iload_n hx hb dL_law_2026 rfl (lv_at hl 3 rfl) ?_
  refine lv_iconst (v := 1) hx hb dL_law_2027 (by decide) ?_
  refine lv_iadd hx hb dL_law_2028 ?_
  refine va_sld hx hb hX hbl hbA hS (hin 1 (by decide)) dL_law_2029 ?_
  refine lv_aload_n hx hb dL_law_2030 rfl (lv_at hl 0 rfl) ?_
  refine lv_iload_n hx hb dL_law_2031 rfl (lv_at hl 3 rfl) ?_
  refine lv_iconst (v := 2) hx hb dL_law_2032 (by decide) ?_
  refine lv_iadd hx hb dL_law_2033 ?_
  refine va_sld hx hb hX hbl hbA hS (hin 2 (by decide)) dL_law_2034 ?_
  obtain ⟨r, hm1, hm2, hR1⟩ := hf k b1 b2 dt1 dt2 (xs (Int32.toNatClampNeg (x3 + 1))) (xs (Int32.toNatClampNeg (x3 + 2))) hk hR
  refine q_callL Y hW1 hW2 (Or.inl hb2) hb1 hS (As := [.int (xs (Int32.toNatClampNeg (x3 + 1))), .int (xs (Int32.toNatClampNeg (x3 + 2)))]) (rest := []) (st1 := [.int r]) (c_X11_worstHits l D (q_ca b1 q_S1) dt1 b1 (xs (Int32.toNatClampNeg (x3 + 1))) (xs (Int32.toNatClampNeg (x3 + 2))) kd1 r hm1) yl_X11_worstHits vl_X11_worstHits ml_RL_194 (ci := 11) rfl kd1 (by decide) rfl ⟨(Nat.le_of_ble_eq_true rfl), (Nat.le_of_ble_eq_true rfl)⟩ hl rfl (Nat.le_of_ble_eq_true rfl) dL_law_2035 hcs rfl (fun H locs hW1 hW2 hS => ?_)
  refine lv_aload_n hx hb dL_law_2038 rfl (lv_at hl 2 rfl) ?_
  refine lv_aload_n hx hb dL_law_2039 rfl (lv_at hl 0 rfl) ?_
  refine lv_iload_n hx hb dL_law_2040 rfl (lv_at hl 3 rfl) ?_
  refine lv_iconst (v := 1) hx hb dL_law_2041 (by decide) ?_
  refine lv_iadd hx hb dL_law_2042 ?_
  refine va_sld hx hb hX hbl hbA hS (hin 1 (by decide)) dL_law_2043 ?_
  refine lv_aload_n hx hb dL_law_2044 rfl (lv_at hl 0 rfl) ?_
  refine lv_iload_n hx hb dL_law_2045 rfl (lv_at hl 3 rfl) ?_
  refine lv_iconst (v := 2) hx hb dL_law_2046 (by decide) ?_
  refine lv_iadd hx hb dL_law_2047 ?_
  refine va_sld hx hb hX hbl hbA hS (hin 2 (by decide)) dL_law_2048 ?_
  refine q_callL Y hW2 hW1 (Or.inr hb2) (Nat.le_trans hb1 (Nat.le_trans (Nat.le_add_right _ _) hb2)) hS (As := [.int (xs (Int32.toNatClampNeg (x3 + 1))), .int (xs (Int32.toNatClampNeg (x3 + 2)))]) (rest := [.int r]) (st1 := [.int r, .int r]) (c_X12_worstHits l D (q_ca b2 q_S2) dt2 b2 (xs (Int32.toNatClampNeg (x3 + 1))) (xs (Int32.toNatClampNeg (x3 + 2))) kd2 r hm2) yl_X12_worstHits vl_X12_worstHits ml_RL_197 (ci := 12) rfl kd2 (by decide) rfl ⟨(Nat.le_of_ble_eq_true rfl), (Nat.le_of_ble_eq_true rfl)⟩ hl rfl (Nat.le_of_ble_eq_true rfl) dL_law_2049 hcs rfl (fun H locs hW2 hW1 hS => ?_)
  refine lv_icmp_eq (tgt := 2235) hx hb dL_law_2052 (by decide) (fun _ => ?_) (fun q => absurd rfl q)
  exact next _ _ _ _ _ hR1 hW1 hW2 hS hl
set_option maxRecDepth 100000 in
theorem w_crowded {p : Program} {l : Launch} {e : Env} {s : State} {m : MethodId} {below : List Frame} {meth : Method} {c : Code} {D : q_D} {b L b1 b2 cells slots : Nat} {xs : Nat → Int32} (Y : q_Cy D s.heap.size code 4 ret R_law p s m #[Value.ref b] meth c) (hX : va_X b L xs s s.heap) (hbl : b < s.heap.size) (hb1 : s.heap.size ≤ b1) (hb2 : b1 + q_S1.length ≤ b2) (hcs : cells ≤ room_1.cells ∧ slots ≤ room_1.slots) {Rel : Nat → Nat → Nat → q_Dt → q_Dt → Prop} (hf : q_c_crowded Rel) {k : Nat} {dt1 dt2 : q_Dt} {H : Heap} {locs : List Loc} {ls : Array Slot} {x3 : Int32} (hk : k < 512) (hR : Rel k b1 b2 dt1 dt2) (hin0 : vp_in x3 L) (hin : ∀ j, j < 8 → vp_in (x3 + Int32.ofNat j) L) (hW1 : q_W D (q_ca b1 q_S1) dt1 H) (hW2 : q_W D (q_ca b2 q_S2) dt2 H) (hS : va_S (fun q => s.heap.size ≤ q) s.heap H locs) (hl : lv_has ls 4 [(0, .ref b), (1, .ref b1), (2, .ref b2), (3, .int x3)]) (next : ∀ (d1 d2 : q_Dt) (H : Heap) (locs : List Loc) (ls : Array Slot), Rel (k + 1) b1 b2 d1 d2 → q_W D (q_ca b1 q_S1) d1 H → q_W D (q_ca b2 q_S2) d2 H → va_S (fun q => s.heap.size ≤ q) s.heap H locs → lv_has ls 4 [(0, .ref b), (1, .ref b1), (2, .ref b2), (3, .int x3)] → W p l e room_1 s m #[Value.ref b] below meth c H locs cells slots (lw_Z below #[Value.ref b] s) (F0 m 2235 ls [])) : W p l e room_1 s m #[Value.ref b] below meth c H locs cells slots (lw_Z below #[Value.ref b] s) (F0 m 2057 ls []) := by
  have hx := Y.1
  have hb := Y.2.1
  have hown := Y.2.2.2.2.2.1
  have hts := Y.2.2.2.2.2.2.1
  have hbA : ¬ (fun q : Nat => s.heap.size ≤ q) b := Nat.not_le.mpr hbl
  have kd1 := kd1_ok b1
  have kd2 := kd2_ok b2
  refine lv_aload_n hx hb dL_law_2057 rfl (lv_at hl 1 rfl) ?_
  refine lv_aload_n hx hb dL_law_2058 rfl (lv_at hl 0 rfl) ?_
  refine lv_iload_n hx hb dL_law_2059 rfl (lv_at hl 3 rfl) ?_
  refine lv_iconst (v := 1) hx hb dL_law_2060 (by decide) ?_
  refine lv_iadd hx hb dL_law_2061 ?_
  refine va_sld hx hb hX hbl hbA hS (hin 1 (by decide)) dL_law_2062 ?_
  refine lv_aload_n hx hb dL_law_2063 rfl (lv_at hl 0 rfl) ?_
  refine lv_iload_n hx hb dL_law_2064 rfl (lv_at hl 3 rfl) ?_
  refine lv_iconst (v := 2) hx hb dL_law_2065 (by decide) ?_
  refine lv_iadd hx hb dL_law_2066 ?_
  refine va_sld hx hb hX hbl hbA hS (hin 2 (by decide)) dL_law_2067 ?_
  refine lv_aload_n hx hb dL_law_2068 rfl (lv_at hl 0 rfl) ?_
  refine lv_iload_n hx hb dL_law_2069 rfl (lv_at hl 3 rfl) ?_
  refine lv_iconst (v := 3) hx hb dL_law_2070 (by decide) ?_
  refine lv_iadd hx hb dL_law_2071 ?_
  refine va_sld hx hb hX hbl hbA hS (hin 3 (by decide)) dL_law_2072 ?_
  obtain ⟨r, hm1, hm2, hR1⟩ := hf k b1 b2 dt1 dt2 (xs (Int32.toNatClampNeg (x3 + 1))) (xs (Int32.toNatClampNeg (x3 + 2))) (xs (Int32.toNatClampNeg (x3 + 3))) hk hR
  refine q_callL Y hW1 hW2 (Or.inl hb2) hb1 hS (As := [.int (xs (Int32.toNatClampNeg (x3 + 1))), .int (xs (Int32.toNatClampNeg (x3 + 2))), .int (xs (Int32.toNatClampNeg (x3 + 3)))]) (rest := []) (st1 := [.int r]) (c_X11_crowded l D (q_ca b1 q_S1) dt1 b1 (xs (Int32.toNatClampNeg (x3 + 1))) (xs (Int32.toNatClampNeg (x3 + 2))) (xs (Int32.toNatClampNeg (x3 + 3))) kd1 r hm1) yl_X11_crowded vl_X11_crowded ml_RL_198 (ci := 11) rfl kd1 (by decide) rfl ⟨(Nat.le_of_ble_eq_true rfl), (Nat.le_of_ble_eq_true rfl)⟩ hl rfl (Nat.le_of_ble_eq_true rfl) dL_law_2073 hcs rfl (fun H locs hW1 hW2 hS => ?_)
  refine lv_aload_n hx hb dL_law_2076 rfl (lv_at hl 2 rfl) ?_
  refine lv_aload_n hx hb dL_law_2077 rfl (lv_at hl 0 rfl) ?_
  refine lv_iload_n hx hb dL_law_2078 rfl (lv_at hl 3 rfl) ?_
  refine lv_iconst (v := 1) hx hb dL_law_2079 (by decide) ?_
  refine lv_iadd hx hb dL_law_2080 ?_
  refine va_sld hx hb hX hbl hbA hS (hin 1 (by decide)) dL_law_2081 ?_
  refine lv_aload_n hx hb dL_law_2082 rfl (lv_at hl 0 rfl) ?_
  refine lv_iload_n hx hb dL_law_2083 rfl (lv_at hl 3 rfl) ?_
  refine lv_iconst (v := 2) hx hb dL_law_2084 (by decide) ?_
  refine lv_iadd hx hb dL_law_2085 ?_
  refine va_sld hx hb hX hbl hbA hS (hin 2 (by decide)) dL_law_2086 ?_
  refine lv_aload_n hx hb dL_law_2087 rfl (lv_at hl 0 rfl) ?_
  refine lv_iload_n hx hb dL_law_2088 rfl (lv_at hl 3 rfl) ?_
  refine lv_iconst (v := 3) hx hb dL_law_2089 (by decide) ?_
  refine lv_iadd hx hb dL_law_2090 ?_
  refine va_sld hx hb hX hbl hbA hS (hin 3 (by decide)) dL_law_2091 ?_
  refine q_callL Y hW2 hW1 (Or.inr hb2) (Nat.le_trans hb1 (Nat.le_trans (Nat.le_add_right _ _) hb2)) hS (As := [.int (xs (Int32.toNatClampNeg (x3 + 1))), .int (xs (Int32.toNatClampNeg (x3 + 2))), .int (xs (Int32.toNatClampNeg (x3 + 3)))]) (rest := [.int r]) (st1 := [.int r, .int r]) (c_X12_crowded l D (q_ca b2 q_S2) dt2 b2 (xs (Int32.toNatClampNeg (x3 + 1))) (xs (Int32.toNatClampNeg (x3 + 2))) (xs (Int32.toNatClampNeg (x3 + 3))) kd2 r hm2) yl_X12_crowded vl_X12_crowded ml_RL_201 (ci := 12) rfl kd2 (by decide) rfl ⟨(Nat.le_of_ble_eq_true rfl), (Nat.le_of_ble_eq_true rfl)⟩ hl rfl (Nat.le_of_ble_eq_true rfl) dL_law_2092 hcs rfl (fun H locs hW2 hW1 hS => ?_)
  refine lv_icmp_eq (tgt := 2235) hx hb dL_law_2095 (by decide) (fun _ => ?_) (fun q => absurd rfl q)
  exact next _ _ _ _ _ hR1 hW1 hW2 hS hl
set_option maxRecDepth 100000 in
theorem w_jammed {p : Program} {l : Launch} {e : Env} {s : State} {m : MethodId} {below : List Frame} {meth : Method} {c : Code} {D : q_D} {b L b1 b2 cells slots : Nat} {xs : Nat → Int32} (Y : q_Cy D s.heap.size code 4 ret R_law p s m #[Value.ref b] meth c) (hX : va_X b L xs s s.heap) (hbl : b < s.heap.size) (hb1 : s.heap.size ≤ b1) (hb2 : b1 + q_S1.length ≤ b2) (hcs : cells ≤ room_1.cells ∧ slots ≤ room_1.slots) {Rel : Nat → Nat → Nat → q_Dt → q_Dt → Prop} (hf : q_c_jammed Rel) {k : Nat} {dt1 dt2 : q_Dt} {H : Heap} {locs : List Loc} {ls : Array Slot} {x3 : Int32} (hk : k < 512) (hR : Rel k b1 b2 dt1 dt2) (hin0 : vp_in x3 L) (hin : ∀ j, j < 8 → vp_in (x3 + Int32.ofNat j) L) (hW1 : q_W D (q_ca b1 q_S1) dt1 H) (hW2 : q_W D (q_ca b2 q_S2) dt2 H) (hS : va_S (fun q => s.heap.size ≤ q) s.heap H locs) (hl : lv_has ls 4 [(0, .ref b), (1, .ref b1), (2, .ref b2), (3, .int x3)]) (next : ∀ (d1 d2 : q_Dt) (H : Heap) (locs : List Loc) (ls : Array Slot), Rel (k + 1) b1 b2 d1 d2 → q_W D (q_ca b1 q_S1) d1 H → q_W D (q_ca b2 q_S2) d2 H → va_S (fun q => s.heap.size ≤ q) s.heap H locs → lv_has ls 4 [(0, .ref b), (1, .ref b1), (2, .ref b2), (3, .int x3)] → W p l e room_1 s m #[Value.ref b] below meth c H locs cells slots (lw_Z below #[Value.ref b] s) (F0 m 2235 ls [])) : W p l e room_1 s m #[Value.ref b] below meth c H locs cells slots (lw_Z below #[Value.ref b] s) (F0 m 2100 ls []) := by
  have hx := Y.1
  have hb := Y.2.1
  have hown := Y.2.2.2.2.2.1
  have hts := Y.2.2.2.2.2.2.1
  have hbA : ¬ (fun q : Nat => s.heap.size ≤ q) b := Nat.not_le.mpr hbl
  have kd1 := kd1_ok b1
  have kd2 := kd2_ok b2
  refine lv_aload_n hx hb dL_law_2100 rfl (lv_at hl 1 rfl) ?_
  refine lv_aload_n hx hb dL_law_2101 rfl (lv_at hl 0 rfl) ?_
  refine lv_iload_n hx hb dL_law_2102 rfl (lv_at hl 3 rfl) ?_
  refine lv_iconst (v := 1) hx hb dL_law_2103 (by decide) ?_
  refine lv_iadd hx hb dL_law_2104 ?_
  refine va_sld hx hb hX hbl hbA hS (hin 1 (by decide)) dL_law_2105 ?_
  refine lv_aload_n hx hb dL_law_2106 rfl (lv_at hl 0 rfl) ?_
  refine lv_iload_n hx hb dL_law_2107 rfl (lv_at hl 3 rfl) ?_
  refine lv_iconst (v := 2) hx hb dL_law_2108 (by decide) ?_
  refine lv_iadd hx hb dL_law_2109 ?_
  refine va_sld hx hb hX hbl hbA hS (hin 2 (by decide)) dL_law_2110 ?_
  obtain ⟨r, hm1, hm2, hR1⟩ := hf k b1 b2 dt1 dt2 (xs (Int32.toNatClampNeg (x3 + 1))) (xs (Int32.toNatClampNeg (x3 + 2))) hk hR
  refine q_callL Y hW1 hW2 (Or.inl hb2) hb1 hS (As := [.int (xs (Int32.toNatClampNeg (x3 + 1))), .int (xs (Int32.toNatClampNeg (x3 + 2)))]) (rest := []) (st1 := [.int r]) (c_X11_jammed l D (q_ca b1 q_S1) dt1 b1 (xs (Int32.toNatClampNeg (x3 + 1))) (xs (Int32.toNatClampNeg (x3 + 2))) kd1 r hm1) yl_X11_jammed vl_X11_jammed ml_RL_202 (ci := 11) rfl kd1 (by decide) rfl ⟨(Nat.le_of_ble_eq_true rfl), (Nat.le_of_ble_eq_true rfl)⟩ hl rfl (Nat.le_of_ble_eq_true rfl) dL_law_2111 hcs rfl (fun H locs hW1 hW2 hS => ?_)
  refine lv_aload_n hx hb dL_law_2114 rfl (lv_at hl 2 rfl) ?_
  refine lv_aload_n hx hb dL_law_2115 rfl (lv_at hl 0 rfl) ?_
  refine lv_iload_n hx hb dL_law_2116 rfl (lv_at hl 3 rfl) ?_
  refine lv_iconst (v := 1) hx hb dL_law_2117 (by decide) ?_
  refine lv_iadd hx hb dL_law_2118 ?_
  refine va_sld hx hb hX hbl hbA hS (hin 1 (by decide)) dL_law_2119 ?_
  refine lv_aload_n hx hb dL_law_2120 rfl (lv_at hl 0 rfl) ?_
  refine lv_iload_n hx hb dL_law_2121 rfl (lv_at hl 3 rfl) ?_
  refine lv_iconst (v := 2) hx hb dL_law_2122 (by decide) ?_
  refine lv_iadd hx hb dL_law_2123 ?_
  refine va_sld hx hb hX hbl hbA hS (hin 2 (by decide)) dL_law_2124 ?_
  refine q_callL Y hW2 hW1 (Or.inr hb2) (Nat.le_trans hb1 (Nat.le_trans (Nat.le_add_right _ _) hb2)) hS (As := [.int (xs (Int32.toNatClampNeg (x3 + 1))), .int (xs (Int32.toNatClampNeg (x3 + 2)))]) (rest := [.int r]) (st1 := [.int r, .int r]) (c_X12_jammed l D (q_ca b2 q_S2) dt2 b2 (xs (Int32.toNatClampNeg (x3 + 1))) (xs (Int32.toNatClampNeg (x3 + 2))) kd2 r hm2) yl_X12_jammed vl_X12_jammed ml_RL_205 (ci := 12) rfl kd2 (by decide) rfl ⟨(Nat.le_of_ble_eq_true rfl), (Nat.le_of_ble_eq_true rfl)⟩ hl rfl (Nat.le_of_ble_eq_true rfl) dL_law_2125 hcs rfl (fun H locs hW2 hW1 hS => ?_)
  refine lv_icmp_eq (tgt := 2235) hx hb dL_law_2128 (by decide) (fun _ => ?_) (fun q => absurd rfl q)
  exact next _ _ _ _ _ hR1 hW1 hW2 hS hl
set_option maxRecDepth 100000 in
theorem w_strongest {p : Program} {l : Launch} {e : Env} {s : State} {m : MethodId} {below : List Frame} {meth : Method} {c : Code} {D : q_D} {b L b1 b2 cells slots : Nat} {xs : Nat → Int32} (Y : q_Cy D s.heap.size code 4 ret R_law p s m #[Value.ref b] meth c) (hX : va_X b L xs s s.heap) (hbl : b < s.heap.size) (hb1 : s.heap.size ≤ b1) (hb2 : b1 + q_S1.length ≤ b2) (hcs : cells ≤ room_1.cells ∧ slots ≤ room_1.slots) {Rel : Nat → Nat → Nat → q_Dt → q_Dt → Prop} (hf : q_c_strongest Rel) {k : Nat} {dt1 dt2 : q_Dt} {H : Heap} {locs : List Loc} {ls : Array Slot} {x3 : Int32} (hk : k < 512) (hR : Rel k b1 b2 dt1 dt2) (hin0 : vp_in x3 L) (hin : ∀ j, j < 8 → vp_in (x3 + Int32.ofNat j) L) (hW1 : q_W D (q_ca b1 q_S1) dt1 H) (hW2 : q_W D (q_ca b2 q_S2) dt2 H) (hS : va_S (fun q => s.heap.size ≤ q) s.heap H locs) (hl : lv_has ls 4 [(0, .ref b), (1, .ref b1), (2, .ref b2), (3, .int x3)]) (next : ∀ (d1 d2 : q_Dt) (H : Heap) (locs : List Loc) (ls : Array Slot), Rel (k + 1) b1 b2 d1 d2 → q_W D (q_ca b1 q_S1) d1 H → q_W D (q_ca b2 q_S2) d2 H → va_S (fun q => s.heap.size ≤ q) s.heap H locs → lv_has ls 4 [(0, .ref b), (1, .ref b1), (2, .ref b2), (3, .int x3)] → W p l e room_1 s m #[Value.ref b] below meth c H locs cells slots (lw_Z below #[Value.ref b] s) (F0 m 2235 ls [])) : W p l e room_1 s m #[Value.ref b] below meth c H locs cells slots (lw_Z below #[Value.ref b] s) (F0 m 2133 ls []) := by
  have hx := Y.1
  have hb := Y.2.1
  have hown := Y.2.2.2.2.2.1
  have hts := Y.2.2.2.2.2.2.1
  have hbA : ¬ (fun q : Nat => s.heap.size ≤ q) b := Nat.not_le.mpr hbl
  have kd1 := kd1_ok b1
  have kd2 := kd2_ok b2
  refine lv_aload_n hx hb dL_law_2133 rfl (lv_at hl 1 rfl) ?_
  refine lv_aload_n hx hb dL_law_2134 rfl (lv_at hl 0 rfl) ?_
  refine lv_iload_n hx hb dL_law_2135 rfl (lv_at hl 3 rfl) ?_
  refine lv_iconst (v := 1) hx hb dL_law_2136 (by decide) ?_
  refine lv_iadd hx hb dL_law_2137 ?_
  refine va_sld hx hb hX hbl hbA hS (hin 1 (by decide)) dL_law_2138 ?_
  refine lv_aload_n hx hb dL_law_2139 rfl (lv_at hl 0 rfl) ?_
  refine lv_iload_n hx hb dL_law_2140 rfl (lv_at hl 3 rfl) ?_
  refine lv_iconst (v := 2) hx hb dL_law_2141 (by decide) ?_
  refine lv_iadd hx hb dL_law_2142 ?_
  refine va_sld hx hb hX hbl hbA hS (hin 2 (by decide)) dL_law_2143 ?_
  obtain ⟨r, hm1, hm2, hR1⟩ := hf k b1 b2 dt1 dt2 (xs (Int32.toNatClampNeg (x3 + 1))) (xs (Int32.toNatClampNeg (x3 + 2))) hk hR
  refine q_callL Y hW1 hW2 (Or.inl hb2) hb1 hS (As := [.int (xs (Int32.toNatClampNeg (x3 + 1))), .int (xs (Int32.toNatClampNeg (x3 + 2)))]) (rest := []) (st1 := [.int r]) (c_X11_strongest l D (q_ca b1 q_S1) dt1 b1 (xs (Int32.toNatClampNeg (x3 + 1))) (xs (Int32.toNatClampNeg (x3 + 2))) kd1 r hm1) yl_X11_strongest vl_X11_strongest ml_RL_206 (ci := 11) rfl kd1 (by decide) rfl ⟨(Nat.le_of_ble_eq_true rfl), (Nat.le_of_ble_eq_true rfl)⟩ hl rfl (Nat.le_of_ble_eq_true rfl) dL_law_2144 hcs rfl (fun H locs hW1 hW2 hS => ?_)
  refine lv_aload_n hx hb dL_law_2147 rfl (lv_at hl 2 rfl) ?_
  refine lv_aload_n hx hb dL_law_2148 rfl (lv_at hl 0 rfl) ?_
  refine lv_iload_n hx hb dL_law_2149 rfl (lv_at hl 3 rfl) ?_
  refine lv_iconst (v := 1) hx hb dL_law_2150 (by decide) ?_
  refine lv_iadd hx hb dL_law_2151 ?_
  refine va_sld hx hb hX hbl hbA hS (hin 1 (by decide)) dL_law_2152 ?_
  refine lv_aload_n hx hb dL_law_2153 rfl (lv_at hl 0 rfl) ?_
  refine lv_iload_n hx hb dL_law_2154 rfl (lv_at hl 3 rfl) ?_
  refine lv_iconst (v := 2) hx hb dL_law_2155 (by decide) ?_
  refine lv_iadd hx hb dL_law_2156 ?_
  refine va_sld hx hb hX hbl hbA hS (hin 2 (by decide)) dL_law_2157 ?_
  refine q_callL Y hW2 hW1 (Or.inr hb2) (Nat.le_trans hb1 (Nat.le_trans (Nat.le_add_right _ _) hb2)) hS (As := [.int (xs (Int32.toNatClampNeg (x3 + 1))), .int (xs (Int32.toNatClampNeg (x3 + 2)))]) (rest := [.int r]) (st1 := [.int r, .int r]) (c_X12_strongest l D (q_ca b2 q_S2) dt2 b2 (xs (Int32.toNatClampNeg (x3 + 1))) (xs (Int32.toNatClampNeg (x3 + 2))) kd2 r hm2) yl_X12_strongest vl_X12_strongest ml_RL_209 (ci := 12) rfl kd2 (by decide) rfl ⟨(Nat.le_of_ble_eq_true rfl), (Nat.le_of_ble_eq_true rfl)⟩ hl rfl (Nat.le_of_ble_eq_true rfl) dL_law_2158 hcs rfl (fun H locs hW2 hW1 hS => ?_)
  refine lv_icmp_eq (tgt := 2235) hx hb dL_law_2161 (by decide) (fun _ => ?_) (fun q => absurd rfl q)
  exact next _ _ _ _ _ hR1 hW1 hW2 hS hl
set_option maxRecDepth 100000 in
theorem w_hold {p : Program} {l : Launch} {e : Env} {s : State} {m : MethodId} {below : List Frame} {meth : Method} {c : Code} {D : q_D} {b L b1 b2 cells slots : Nat} {xs : Nat → Int32} (Y : q_Cy D s.heap.size code 4 ret R_law p s m #[Value.ref b] meth c) (hX : va_X b L xs s s.heap) (hbl : b < s.heap.size) (hb1 : s.heap.size ≤ b1) (hb2 : b1 + q_S1.length ≤ b2) (hcs : cells ≤ room_1.cells ∧ slots ≤ room_1.slots) {Rel : Nat → Nat → Nat → q_Dt → q_Dt → Prop} (hf : q_c_hold Rel) {k : Nat} {dt1 dt2 : q_Dt} {H : Heap} {locs : List Loc} {ls : Array Slot} {x3 : Int32} (hk : k < 512) (hR : Rel k b1 b2 dt1 dt2) (hin0 : vp_in x3 L) (hin : ∀ j, j < 8 → vp_in (x3 + Int32.ofNat j) L) (hW1 : q_W D (q_ca b1 q_S1) dt1 H) (hW2 : q_W D (q_ca b2 q_S2) dt2 H) (hS : va_S (fun q => s.heap.size ≤ q) s.heap H locs) (hl : lv_has ls 4 [(0, .ref b), (1, .ref b1), (2, .ref b2), (3, .int x3)]) (next : ∀ (d1 d2 : q_Dt) (H : Heap) (locs : List Loc) (ls : Array Slot), Rel (k + 1) b1 b2 d1 d2 → q_W D (q_ca b1 q_S1) d1 H → q_W D (q_ca b2 q_S2) d2 H → va_S (fun q => s.heap.size ≤ q) s.heap H locs → lv_has ls 4 [(0, .ref b), (1, .ref b1), (2, .ref b2), (3, .int x3)] → W p l e room_1 s m #[Value.ref b] below meth c H locs cells slots (lw_Z below #[Value.ref b] s) (F0 m 2235 ls [])) : W p l e room_1 s m #[Value.ref b] below meth c H locs cells slots (lw_Z below #[Value.ref b] s) (F0 m 2166 ls []) := by
  have hx := Y.1
  have hb := Y.2.1
  have hown := Y.2.2.2.2.2.1
  have hts := Y.2.2.2.2.2.2.1
  have hbA : ¬ (fun q : Nat => s.heap.size ≤ q) b := Nat.not_le.mpr hbl
  have kd1 := kd1_ok b1
  have kd2 := kd2_ok b2
  refine lv_aload_n hx hb dL_law_2166 rfl (lv_at hl 1 rfl) ?_
  refine lv_aload_n hx hb dL_law_2167 rfl (lv_at hl 0 rfl) ?_
  refine lv_iload_n hx hb dL_law_2168 rfl (lv_at hl 3 rfl) ?_
  refine lv_iconst (v := 1) hx hb dL_law_2169 (by decide) ?_
  refine lv_iadd hx hb dL_law_2170 ?_
  refine va_sld hx hb hX hbl hbA hS (hin 1 (by decide)) dL_law_2171 ?_
  obtain ⟨r, d1, d2, hm1, hm2, hR1⟩ := hf k b1 b2 dt1 dt2 (xs (Int32.toNatClampNeg (x3 + 1))) hk hR
  refine q_callL Y hW1 hW2 (Or.inl hb2) hb1 hS (As := [.int (xs (Int32.toNatClampNeg (x3 + 1)))]) (rest := []) (st1 := [.int r]) (c_X11_hold l D (q_ca b1 q_S1) dt1 b1 (xs (Int32.toNatClampNeg (x3 + 1))) kd1 r d1 hm1) yl_X11_hold vl_X11_hold ml_RL_210 (ci := 11) rfl kd1 (by decide) rfl ⟨(Nat.le_of_ble_eq_true rfl), (Nat.le_of_ble_eq_true rfl)⟩ hl rfl (Nat.le_of_ble_eq_true rfl) dL_law_2172 hcs rfl (fun H locs hW1 hW2 hS => ?_)
  refine lv_aload_n hx hb dL_law_2175 rfl (lv_at hl 2 rfl) ?_
  refine lv_aload_n hx hb dL_law_2176 rfl (lv_at hl 0 rfl) ?_
  refine lv_iload_n hx hb dL_law_2177 rfl (lv_at hl 3 rfl) ?_
  refine lv_iconst (v := 1) hx hb dL_law_2178 (by decide) ?_
  refine lv_iadd hx hb dL_law_2179 ?_
  refine va_sld hx hb hX hbl hbA hS (hin 1 (by decide)) dL_law_2180 ?_
  refine q_callL Y hW2 hW1 (Or.inr hb2) (Nat.le_trans hb1 (Nat.le_trans (Nat.le_add_right _ _) hb2)) hS (As := [.int (xs (Int32.toNatClampNeg (x3 + 1)))]) (rest := [.int r]) (st1 := [.int r, .int r]) (c_X12_hold l D (q_ca b2 q_S2) dt2 b2 (xs (Int32.toNatClampNeg (x3 + 1))) kd2 r d2 hm2) yl_X12_hold vl_X12_hold ml_RL_214 (ci := 12) rfl kd2 (by decide) rfl ⟨(Nat.le_of_ble_eq_true rfl), (Nat.le_of_ble_eq_true rfl)⟩ hl rfl (Nat.le_of_ble_eq_true rfl) dL_law_2181 hcs rfl (fun H locs hW2 hW1 hS => ?_)
  refine lv_icmp_eq (tgt := 2235) hx hb dL_law_2184 (by decide) (fun _ => ?_) (fun q => absurd rfl q)
  exact next _ _ _ _ _ hR1 hW1 hW2 hS hl
set_option maxRecDepth 100000 in
theorem w_restore {p : Program} {l : Launch} {e : Env} {s : State} {m : MethodId} {below : List Frame} {meth : Method} {c : Code} {D : q_D} {b L b1 b2 cells slots : Nat} {xs : Nat → Int32} (Y : q_Cy D s.heap.size code 4 ret R_law p s m #[Value.ref b] meth c) (hX : va_X b L xs s s.heap) (hbl : b < s.heap.size) (hb1 : s.heap.size ≤ b1) (hb2 : b1 + q_S1.length ≤ b2) (hcs : cells ≤ room_1.cells ∧ slots ≤ room_1.slots) {Rel : Nat → Nat → Nat → q_Dt → q_Dt → Prop} (hf : q_c_restore Rel) {k : Nat} {dt1 dt2 : q_Dt} {H : Heap} {locs : List Loc} {ls : Array Slot} {x3 : Int32} (hk : k < 512) (hR : Rel k b1 b2 dt1 dt2) (hin0 : vp_in x3 L) (hin : ∀ j, j < 8 → vp_in (x3 + Int32.ofNat j) L) (hW1 : q_W D (q_ca b1 q_S1) dt1 H) (hW2 : q_W D (q_ca b2 q_S2) dt2 H) (hS : va_S (fun q => s.heap.size ≤ q) s.heap H locs) (hl : lv_has ls 4 [(0, .ref b), (1, .ref b1), (2, .ref b2), (3, .int x3)]) (next : ∀ (d1 d2 : q_Dt) (H : Heap) (locs : List Loc) (ls : Array Slot), Rel (k + 1) b1 b2 d1 d2 → q_W D (q_ca b1 q_S1) d1 H → q_W D (q_ca b2 q_S2) d2 H → va_S (fun q => s.heap.size ≤ q) s.heap H locs → lv_has ls 4 [(0, .ref b), (1, .ref b1), (2, .ref b2), (3, .int x3)] → W p l e room_1 s m #[Value.ref b] below meth c H locs cells slots (lw_Z below #[Value.ref b] s) (F0 m 2235 ls [])) : W p l e room_1 s m #[Value.ref b] below meth c H locs cells slots (lw_Z below #[Value.ref b] s) (F0 m 2189 ls []) := by
  have hx := Y.1
  have hb := Y.2.1
  have hown := Y.2.2.2.2.2.1
  have hts := Y.2.2.2.2.2.2.1
  have hbA : ¬ (fun q : Nat => s.heap.size ≤ q) b := Nat.not_le.mpr hbl
  have kd1 := kd1_ok b1
  have kd2 := kd2_ok b2
  refine lv_aload_n hx hb dL_law_2189 rfl (lv_at hl 1 rfl) ?_
  refine lv_aload_n hx hb dL_law_2190 rfl (lv_at hl 0 rfl) ?_
  refine lv_iload_n hx hb dL_law_2191 rfl (lv_at hl 3 rfl) ?_
  refine lv_iconst (v := 1) hx hb dL_law_2192 (by decide) ?_
  refine lv_iadd hx hb dL_law_2193 ?_
  refine va_sld hx hb hX hbl hbA hS (hin 1 (by decide)) dL_law_2194 ?_
  obtain ⟨r, d1, d2, hm1, hm2, hR1⟩ := hf k b1 b2 dt1 dt2 (xs (Int32.toNatClampNeg (x3 + 1))) hk hR
  refine q_callL Y hW1 hW2 (Or.inl hb2) hb1 hS (As := [.int (xs (Int32.toNatClampNeg (x3 + 1)))]) (rest := []) (st1 := [.int r]) (c_X11_restore l D (q_ca b1 q_S1) dt1 b1 (xs (Int32.toNatClampNeg (x3 + 1))) kd1 r d1 hm1) yl_X11_restore vl_X11_restore ml_RL_215 (ci := 11) rfl kd1 (by decide) rfl ⟨(Nat.le_of_ble_eq_true rfl), (Nat.le_of_ble_eq_true rfl)⟩ hl rfl (Nat.le_of_ble_eq_true rfl) dL_law_2195 hcs rfl (fun H locs hW1 hW2 hS => ?_)
  refine lv_aload_n hx hb dL_law_2198 rfl (lv_at hl 2 rfl) ?_
  refine lv_aload_n hx hb dL_law_2199 rfl (lv_at hl 0 rfl) ?_
  refine lv_iload_n hx hb dL_law_2200 rfl (lv_at hl 3 rfl) ?_
  refine lv_iconst (v := 1) hx hb dL_law_2201 (by decide) ?_
  refine lv_iadd hx hb dL_law_2202 ?_
  refine va_sld hx hb hX hbl hbA hS (hin 1 (by decide)) dL_law_2203 ?_
  refine q_callL Y hW2 hW1 (Or.inr hb2) (Nat.le_trans hb1 (Nat.le_trans (Nat.le_add_right _ _) hb2)) hS (As := [.int (xs (Int32.toNatClampNeg (x3 + 1)))]) (rest := [.int r]) (st1 := [.int r, .int r]) (c_X12_restore l D (q_ca b2 q_S2) dt2 b2 (xs (Int32.toNatClampNeg (x3 + 1))) kd2 r d2 hm2) yl_X12_restore vl_X12_restore ml_RL_218 (ci := 12) rfl kd2 (by decide) rfl ⟨(Nat.le_of_ble_eq_true rfl), (Nat.le_of_ble_eq_true rfl)⟩ hl rfl (Nat.le_of_ble_eq_true rfl) dL_law_2204 hcs rfl (fun H locs hW2 hW1 hS => ?_)
  refine lv_icmp_eq (tgt := 2235) hx hb dL_law_2207 (by decide) (fun _ => ?_) (fun q => absurd rfl q)
  exact next _ _ _ _ _ hR1 hW1 hW2 hS hl
set_option maxRecDepth 100000 in
theorem w_count {p : Program} {l : Launch} {e : Env} {s : State} {m : MethodId} {below : List Frame} {meth : Method} {c : Code} {D : q_D} {b L b1 b2 cells slots : Nat} {xs : Nat → Int32} (Y : q_Cy D s.heap.size code 4 ret R_law p s m #[Value.ref b] meth c) (hX : va_X b L xs s s.heap) (hbl : b < s.heap.size) (hb1 : s.heap.size ≤ b1) (hb2 : b1 + q_S1.length ≤ b2) (hcs : cells ≤ room_1.cells ∧ slots ≤ room_1.slots) {Rel : Nat → Nat → Nat → q_Dt → q_Dt → Prop} (hf : q_c_count Rel) {k : Nat} {dt1 dt2 : q_Dt} {H : Heap} {locs : List Loc} {ls : Array Slot} {x3 : Int32} (hk : k < 512) (hR : Rel k b1 b2 dt1 dt2) (hin0 : vp_in x3 L) (hin : ∀ j, j < 8 → vp_in (x3 + Int32.ofNat j) L) (hW1 : q_W D (q_ca b1 q_S1) dt1 H) (hW2 : q_W D (q_ca b2 q_S2) dt2 H) (hS : va_S (fun q => s.heap.size ≤ q) s.heap H locs) (hl : lv_has ls 4 [(0, .ref b), (1, .ref b1), (2, .ref b2), (3, .int x3)]) (next : ∀ (d1 d2 : q_Dt) (H : Heap) (locs : List Loc) (ls : Array Slot), Rel (k + 1) b1 b2 d1 d2 → q_W D (q_ca b1 q_S1) d1 H → q_W D (q_ca b2 q_S2) d2 H → va_S (fun q => s.heap.size ≤ q) s.heap H locs → lv_has ls 4 [(0, .ref b), (1, .ref b1), (2, .ref b2), (3, .int x3)] → W p l e room_1 s m #[Value.ref b] below meth c H locs cells slots (lw_Z below #[Value.ref b] s) (F0 m 2235 ls [])) : W p l e room_1 s m #[Value.ref b] below meth c H locs cells slots (lw_Z below #[Value.ref b] s) (F0 m 2212 ls []) := by
  have hx := Y.1
  have hb := Y.2.1
  have hown := Y.2.2.2.2.2.1
  have hts := Y.2.2.2.2.2.2.1
  have hbA : ¬ (fun q : Nat => s.heap.size ≤ q) b := Nat.not_le.mpr hbl
  have kd1 := kd1_ok b1
  have kd2 := kd2_ok b2
  refine lv_aload_n hx hb dL_law_2212 rfl (lv_at hl 1 rfl) ?_
  refine lv_aload_n hx hb dL_law_2213 rfl (lv_at hl 0 rfl) ?_
  refine lv_iload_n hx hb dL_law_2214 rfl (lv_at hl 3 rfl) ?_
  refine lv_iconst (v := 1) hx hb dL_law_2215 (by decide) ?_
  refine lv_iadd hx hb dL_law_2216 ?_
  refine va_sld hx hb hX hbl hbA hS (hin 1 (by decide)) dL_law_2217 ?_
  obtain ⟨r, d2, hm1, hm2, hR1⟩ := hf k b1 b2 dt1 dt2 (xs (Int32.toNatClampNeg (x3 + 1))) hk hR
  refine q_callL Y hW1 hW2 (Or.inl hb2) hb1 hS (As := [.int (xs (Int32.toNatClampNeg (x3 + 1)))]) (rest := []) (st1 := [.int r]) (c_X11_count l D (q_ca b1 q_S1) dt1 b1 (xs (Int32.toNatClampNeg (x3 + 1))) kd1 r hm1) yl_X11_count vl_X11_count ml_RL_219 (ci := 11) rfl kd1 (by decide) rfl ⟨(Nat.le_of_ble_eq_true rfl), (Nat.le_of_ble_eq_true rfl)⟩ hl rfl (Nat.le_of_ble_eq_true rfl) dL_law_2218 hcs rfl (fun H locs hW1 hW2 hS => ?_)
  refine lv_aload_n hx hb dL_law_2221 rfl (lv_at hl 2 rfl) ?_
  refine lv_aload_n hx hb dL_law_2222 rfl (lv_at hl 0 rfl) ?_
  refine lv_iload_n hx hb dL_law_2223 rfl (lv_at hl 3 rfl) ?_
  refine lv_iconst (v := 1) hx hb dL_law_2224 (by decide) ?_
  refine lv_iadd hx hb dL_law_2225 ?_
  refine va_sld hx hb hX hbl hbA hS (hin 1 (by decide)) dL_law_2226 ?_
  refine q_callL Y hW2 hW1 (Or.inr hb2) (Nat.le_trans hb1 (Nat.le_trans (Nat.le_add_right _ _) hb2)) hS (As := [.int (xs (Int32.toNatClampNeg (x3 + 1)))]) (rest := [.int r]) (st1 := [.int r, .int r]) (c_X12_count l D (q_ca b2 q_S2) dt2 b2 (xs (Int32.toNatClampNeg (x3 + 1))) kd2 r d2 hm2) yl_X12_count vl_X12_count ml_RL_222 (ci := 12) rfl kd2 (by decide) rfl ⟨(Nat.le_of_ble_eq_true rfl), (Nat.le_of_ble_eq_true rfl)⟩ hl rfl (Nat.le_of_ble_eq_true rfl) dL_law_2227 hcs rfl (fun H locs hW2 hW1 hS => ?_)
  refine lv_icmp_eq (tgt := 2235) hx hb dL_law_2230 (by decide) (fun _ => ?_) (fun q => absurd rfl q)
  exact next _ _ _ _ _ hR1 hW1 hW2 hS hl
