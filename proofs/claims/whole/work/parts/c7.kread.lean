/-! level two: the check reads a whole text -/
theorem k_mloop {b sd N : Nat} {K P : Nat → Nat} {V : Nat → Int} (hN : qk_tok K P V N) : ∀ (n i k a : Nat) (T : q_Tl) (M : q_Nm) (F : Nat × Nat) (d : q_Dt), i + n = 400 → n + 1 < k → 2 * i ≤ a → a ≤ N → kq_P b N K P V d (a, 0) F M → kn_wf M → kn_r M T → kq_W b sd d T → ky_cw T → (F.1 = 0 → kq_S b sd d T) → ∃ e, X12_read_b162 (A2 b) b k d = X12_read_b184 (A2 b) b e ∧ kq_fr b sd d e ∧ kq_l b e ∧ ((ky_all K V n (ky_c T) a).2 ≠ 0 → ∃ F', ky_Z b P e (ky_all K V n (ky_c T) a) F') ∧ ((ky_all K V n (ky_c T) a).2 = 0 → ky_Z b P e (ky_all K V n (ky_c T) a) (kz_all K P V n a (T, M, F)).2.2 ∧ ((kz_all K P V n a (T, M, F)).2.2.1 ≤ 5 ∧ (kz_all K P V n a (T, M, F)).2.2.2 ≤ 2000) ∧ ((kz_all K P V n a (T, M, F)).2.2.1 = 0 → kq_S b sd e (kz_all K P V n a (T, M, F)).1 ∧ kq_W b sd e (kz_all K P V n a (T, M, F)).1)) := by
  intro n
  have hN4 := hN.1
  induction n with
  | zero =>
    intro i k a T M F d h1 h2 h3 h4
    exfalso
    omega
  | succ n ih =>
    intro i k a T M F d h1 h2 h3 h4 hP hM hr hW hcw hS
    obtain ⟨k, rfl⟩ : ∃ k', k = k' + 1 := ⟨k - 1, by omega⟩
    have e : kz_all K P V (n + 1) a (T, M, F) = if K a = 0 then (T, M, F) else kz_all K P V n (ky_tell K V (ky_c T) a).1 (kz_T K V M T a, kz_M V M T a, kz_F K P V M T a F) := rfl
    have eA : ky_all K V (n + 1) (ky_c T) a = if K a = 0 then (a, 0) else if (ky_tell K V (ky_c T) a).2 = 0 then ky_all K V n (ky_ci (ky_c T) (V a).toNat) (ky_tell K V (ky_c T) a).1 else ky_tell K V (ky_c T) a := rfl
    have h13 : d.1 b 13 = wI (0 : Nat) := hP.2.1.2.1
    have hg0 : ky_ok K N (a, 0) := ⟨h4, by show (0 : Nat) ≤ 2; omega⟩
    have hmk := (qk_mk_t hN a).2.2.2.2.1
    rw [e, eA, X12_read_b162.eq_2, h13, if_pos (show wI ((0 : Nat) : Int) = 0 from rfl), show (0 : Int32) = wI (0 : Nat) from rfl, k_is hP.1 hN hP.2.1 hg0 (by omega)]
    simp only [b1s]
    by_cases g : K a = 0
    · rw [if_pos g, if_pos g, if_pos (show True ∧ qk_mk (K a) (V a) = ((0 : Nat) : Int) from ⟨trivial, hmk.mpr g⟩), if_neg (show ¬ wI ((1 : Nat) : Int) = wI ((0 : Nat) : Int) by decide)]
      exact ⟨d, rfl, kq_fr_r, hW.2.2.2, fun q => absurd rfl q, fun _ => ⟨hP.2.1, hP.2.2.1.1, fun q => ⟨hS q, hW⟩⟩⟩
    · rw [if_neg g, if_neg g, if_neg (show ¬ (True ∧ qk_mk (K a) (V a) = ((0 : Nat) : Int)) from fun q => g (hmk.mp q.2)), if_pos (show wI ((0 : Nat) : Int) = wI ((0 : Nat) : Int) from rfl)]
      obtain ⟨e1, r1, r2, r3, r4, r5⟩ := k_tell hP hN h4 hM hr hW hcw hS
      rw [r1]
      simp only [b1s]
      have hb := ky_tell_b hN (c := ky_c T) h4
      by_cases g2 : (ky_tell K V (ky_c T) a).2 = 0
      · rw [if_pos g2]
        obtain ⟨w, hw10, hw, hk6, hroom, h4w⟩ := ky_tell_s hN h4 g2
        have hw3 : (V a).toNat = w := by omega
        have hk2 : w ≤ 5 → K (a + 1) = 2 := by
          intro h5
          have g3 := g2
          rw [h4w] at g3
          have h6 : w = 0 ∨ w = 1 ∨ w = 2 ∨ w = 3 ∨ w = 4 ∨ w = 5 := by omega
          rcases h6 with rfl | rfl | rfl | rfl | rfl | rfl
          · exact (ky_w0 g3).1
          · exact (ky_w1 g3).1
          · exact (ky_w2 g3).1
          · exact (ky_w3 g3).1
          · exact (ky_w4 g3).1
          · exact (ky_w5 g3).1
        have hok := kz_M_ok (K := K) hN hw hw10 hk2 hM hr hcw (ky_room_c hcw hw10 hroom)
        obtain ⟨s1, s2, s3⟩ := r5 g2
        have es : ky_tell K V (ky_c T) a = ((ky_tell K V (ky_c T) a).1, 0) := Prod.ext rfl g2
        rw [es] at s1
        have hb2 := hb.2.2 g2
        rw [hw3, ← kz_c_step (K := K) (P := P) (V := V) (M := M) hw hw10]
        obtain ⟨e2, v1, v2, v3, v4, v5⟩ := ih (i + 1) k (ky_tell K V (ky_c T) a).1 _ _ _ e1 (by omega) (by omega) (by omega) hb.1.1 s1 hok.1 hok.2.1 s2 hok.2.2.1 s3
        exact ⟨e2, v1, kq_fr_t r2 v2, v3, v4, v5⟩
      · rw [if_neg g2]
        obtain ⟨k, rfl⟩ : ∃ k', k = k' + 1 := ⟨k - 1, by omega⟩
        obtain ⟨F', hF'⟩ := r4 g2
        have hb3 := hb.1.2
        have hne : ¬ wI ((ky_tell K V (ky_c T) a).2 : Int) = 0 := by
          rw [show (0 : Int32) = wI (0 : Nat) from rfl, wI_eq (by omega) (by omega) (by omega) (by omega)]
          omega
        refine ⟨e1, ?_, r2, r3, fun _ => ⟨F', hF'⟩, fun q => absurd q g2⟩
        rw [X12_read_b162.eq_2, hF'.2.1, if_neg hne]
theorem ky_all_2 {K P : Nat → Nat} {V : Nat → Int} {N : Nat} (hN : qk_tok K P V N) : ∀ (n : Nat) (c : Nat → Nat) (a : Nat), a ≤ N → (ky_all K V n c a).2 ≤ 2 := by
  intro n
  induction n with
  | zero =>
    intro c a ha
    exact Nat.zero_le _
  | succ n ih =>
    intro c a ha
    have eA : ky_all K V (n + 1) c a = if K a = 0 then (a, 0) else if (ky_tell K V c a).2 = 0 then ky_all K V n (ky_ci c (V a).toNat) (ky_tell K V c a).1 else ky_tell K V c a := rfl
    have hb := ky_tell_b hN (c := c) ha
    rw [eA]
    by_cases g : K a = 0
    · rw [if_pos g]; exact Nat.zero_le _
    · rw [if_neg g]
      by_cases g2 : (ky_tell K V c a).2 = 0
      · rw [if_pos g2]; exact ih _ _ hb.1.1
      · rw [if_neg g2]; exact hb.1.2
theorem M_other {b lv sd : Nat} {dt d : q_Dt} {T : q_Tl} (h : q_M b lv dt T) (hf : kq_fr b sd dt d) (hne : lv ≠ sd) : q_M b lv d T := by
  obtain ⟨hw, ⟨h1, h2, h3⟩, hC, hH, hS, hE, hJ⟩ := h
  have hn := hw.1
  have f1 : ∀ o, 11 ≤ o → o ≤ 36 → kq_w o = 1 → d.1 (b + o) lv = dt.1 (b + o) lv := fun o o1 o2 o3 => hf.2.2.2.2 o o1 o2 lv (by rw [o3, Nat.div_one]; exact hne)
  have f6 : ∀ o, 11 ≤ o → o ≤ 36 → kq_w o = 6 → ∀ c, c < 6 → d.1 (b + o) (6 * lv + c) = dt.1 (b + o) (6 * lv + c) := fun o o1 o2 o3 c hc => hf.2.2.2.2 o o1 o2 _ (by rw [o3]; omega)
  have f4 : ∀ o, 11 ≤ o → o ≤ 36 → kq_w o = 4 → ∀ c, c < 4 → d.1 (b + o) (4 * lv + c) = dt.1 (b + o) (4 * lv + c) := fun o o1 o2 o3 c hc => hf.2.2.2.2 o o1 o2 _ (by rw [o3]; omega)
  refine ⟨hw, ⟨h1, ?_, ?_⟩, ?_, ?_, ?_, ?_, ?_⟩
  · rw [hf.2.1 18 (by omega) (by omega) (by omega) (by omega) (by omega) (by omega) (by omega)]; exact h2
  · rw [f1 11 (by omega) (by omega) rfl, f1 14 (by omega) (by omega) rfl, f1 18 (by omega) (by omega) rfl, f1 25 (by omega) (by omega) rfl, f1 29 (by omega) (by omega) rfl, f1 34 (by omega) (by omega) rfl, f1 35 (by omega) (by omega) rfl, f1 36 (by omega) (by omega) rfl]
    exact h3
  · intro c hc
    have h4 := hC c hc
    have h5 := hw.2.1 c hc
    refine ⟨?_, fun i hi => ?_⟩
    · rw [hf.2.2.2.2 12 (by omega) (by omega) _ (by rw [show kq_w 12 = 8 from rfl]; omega)]; exact h4.1
    · rw [hf.2.2.2.2 13 (by omega) (by omega) _ (by rw [show kq_w 13 = 1024 from rfl]; omega)]; exact h4.2 i hi
  · intro q hq
    rw [f6 15 (by omega) (by omega) rfl q (by omega), f6 16 (by omega) (by omega) rfl q (by omega), f6 17 (by omega) (by omega) rfl q (by omega)]
    exact hH q hq
  · intro q hq
    rw [f6 19 (by omega) (by omega) rfl q (by omega), f6 20 (by omega) (by omega) rfl q (by omega), f6 21 (by omega) (by omega) rfl q (by omega), f6 22 (by omega) (by omega) rfl q (by omega), f6 23 (by omega) (by omega) rfl q (by omega), f6 24 (by omega) (by omega) rfl q (by omega)]
    exact hS q hq
  · intro q hq
    rw [f6 26 (by omega) (by omega) rfl q (by omega), f6 27 (by omega) (by omega) rfl q (by omega), f6 28 (by omega) (by omega) rfl q (by omega)]
    exact hE q hq
  · intro q hq
    rw [f4 30 (by omega) (by omega) rfl q (by omega), f4 31 (by omega) (by omega) rfl q (by omega), f4 32 (by omega) (by omega) rfl q (by omega), f4 33 (by omega) (by omega) rfl q (by omega)]
    exact hJ q hq
theorem q_ox {α β : Type} {x : α} {f : α → β} {r : β} (h : f x = r) : q_o x f = r := h
theorem q_b1x {α β : Type} {o : Option α} {x : α} {f : α → Option β} {r : Option β} (c : o = some x) (h : f x = r) : q_b1 o f = r := by rw [c]; exact h
theorem q_gx {b o sd : Nat} {e : q_Dt} {v : Int32} {β : Type} {f : q_Dt → Option β} {r : Option β} (h19 : e.1 b 19 = wI sd) (hsd : sd < 2) (h : f (q_pI e (b + o) sd v) = r) : (if (e.1 b 19) < 0 ∨ 2 ≤ Int32.toNatClampNeg (e.1 b 19) then none else (q_o (q_pI e (b + o) (Int32.toNatClampNeg (e.1 b 19)) v) f)) = r := by
  rw [h19, if_neg (kz_ixn hsd (by omega)), kz_nat (by omega)]
  exact h
theorem k_begin {b lv L : Nat} {B : Nat → Int} {dt : q_Dt} {K P : Nat → Nat} {V : Nat → Int} {N : Nat} (hL : L ≤ 2000) (h2 : dt.1 b 2 = wI L) (ht : ∀ i, i < L → (0 ≤ B i ∧ B i ≤ 255) ∧ dt.1 (b + 1) i = wI (q_sgb (B i))) (hk : ∀ i, i < 11 → dt.2.1 (b + 7) i = wJ (q_key i)) (hlv : lv < 2) (h18 : dt.1 b 18 = wI lv) (hK : K = fun n => qk_k B L (qk_st B L n)) (hPe : P = qk_st B L) (hV : V = fun n => qk_v B L (qk_st B L n)) (hNe : N = qk_N K 400 0) : ∃ e, X12_read (A2 b) dt b = X12_read_b162 (A2 b) b q_FU e ∧ qk_tok K P V N ∧ kq_P b N K P V e (0, 0) (0, 0) kn_0 ∧ (e.1 b 19 = wI (1 - lv : Nat) ∧ e.1 b 18 = wI lv ∧ e.1 b 2 = 0) ∧ (∀ x, b + 37 ≤ x → e.1 x = dt.1 x) ∧ (∀ x, x ≠ b + 6 → e.2.1 x = dt.2.1 x) ∧ (∀ o, 11 ≤ o → o ≤ 36 → kq_w o ≠ 1 → e.1 (b + o) = dt.1 (b + o)) ∧ (∀ o, 11 ≤ o → o ≤ 36 → e.1 (b + o) lv = dt.1 (b + o) lv) ∧ (e.1 (b + 11) (1 - lv) = 0 ∧ e.1 (b + 14) (1 - lv) = 0 ∧ e.1 (b + 18) (1 - lv) = 0 ∧ e.1 (b + 25) (1 - lv) = 0 ∧ e.1 (b + 29) (1 - lv) = 0 ∧ e.1 (b + 34) (1 - lv) = 0 ∧ e.1 (b + 35) (1 - lv) = 0 ∧ e.1 (b + 36) (1 - lv) = 256) := by
  obtain ⟨d0, hd0⟩ : ∃ z, z = q_pI dt b 4 (wI L) := ⟨_, rfl⟩
  obtain ⟨f, hf⟩ : ∃ z : Nat → Int32, z = fun j => wI (q_sgb (B j)) := ⟨_, rfl⟩
  obtain ⟨sd, hsd⟩ : ∃ z, z = 1 - lv := ⟨_, rfl⟩
  have hsd2 : sd < 2 := by omega
  rw [← hsd]
  have hl : ∀ n i k : Nat, i + n = L → n < k → ∃ k', X12_read_b10 (A2 b) b k (wI i) (q_irow d0 (b + 2) 0 i f) = X12_read_b10 (A2 b) b (k' + 1) (wI L) (q_irow d0 (b + 2) 0 L f) := by
    intro n
    induction n with
    | zero =>
      intro i k z1 z2 
      obtain ⟨k, rfl⟩ : ∃ m, k = m + 1 := ⟨k - 1, by omega⟩
      have e : i = L := by omega
      rw [e]
      exact ⟨k, rfl⟩
    | succ n ih =>
      intro i k z1 z2 
      obtain ⟨k, rfl⟩ : ∃ m, k = m + 1 := ⟨k - 1, by omega⟩
      have hi : i < L := by omega
      obtain ⟨k', hih⟩ := ih (i + 1) k (by omega) (by omega)
      refine ⟨k', ?_⟩
      have h4 : (q_irow d0 (b + 2) 0 i f).1 b 4 = wI L := by rw [q_irow_o (by omega), hd0, q_pI_s]
      have h1 : (q_irow d0 (b + 2) 0 i f).1 (b + 1) i = wI (q_sgb (B i)) := by rw [q_irow_o (by omega), hd0, q_pI_o (by omega)]; exact (ht i hi).2
      have es := q_irow_s d0 (b + 2) 0 i f
      rw [Nat.zero_add] at es
      have ebt : Int8.toInt32 (Int32.toInt8 (wI (q_sgb (B i)))) = f i := by
        rw [hf, wI_byte]
        have hB := (ht i hi).1
        show wI (q_sgb (q_sgb (B i) % 256)) = wI (q_sgb (B i))
        congr 2
        unfold q_sgb
        by_cases g : B i < 128
        · rw [if_pos g]; omega
        · rw [if_neg g]; omega
      rw [X12_read_b10.eq_2, h4, if_neg (by rw [wI_le (by omega) (by omega) (by omega) (by omega)]; omega), m1, n1, m3, n3, if_neg (kz_ixn (by omega) (by omega)), if_neg (kz_ixn (by omega) (by omega)), kz_nat (by omega), h1, ebt, o1s, es, show wI (i : Int) + 1 = wI (i + 1 : Nat) from wI_add i 1]
      exact hih
  obtain ⟨k', h0⟩ := hl L 0 q_FU (by omega) (by unfold q_FU; omega)
  rw [q_irow_0] at h0
  obtain ⟨d1, hd1⟩ : ∃ z, z = q_pI (q_irow d0 (b + 2) 0 L f) b 2 0 := ⟨_, rfl⟩
  have hmx : qk_mx b L B d1 := by
    refine ⟨hL, ?_, fun i hi => ⟨(ht i hi).1, ?_⟩, fun i hi => ?_⟩
    · rw [hd1, q_pI_k (by omega), q_irow_o (by omega), hd0, q_pI_s]
    · have := q_irow_i (dt := d0) (arr := b + 2) (off := 0) (n := L) (f := f) hi
      rw [Nat.zero_add] at this
      rw [hd1, q_pI_o (by omega), this, hf]
    · rw [hd1, q_pI_2]
      show d0.2.1 (b + 7) i = _
      rw [hd0]
      exact hk i hi
  obtain ⟨d2, c1, c2, c3⟩ := k_cut hmx
  have hN := qk_tok_i B hL
  rw [← hK, ← hV, ← hPe, ← hNe] at hN c2
  obtain ⟨a1, ha1⟩ : ∃ z, z = q_pI (q_pI (q_pI (q_pI d2 b 11 0) b 12 0) b 13 0) b 15 0 := ⟨_, rfl⟩
  have f12 : ∀ x, x ≠ b → x ≠ b + 2 → d1.1 x = dt.1 x := fun x x1 x2 => by rw [hd1, q_pI_o x1, q_irow_o x2, hd0, q_pI_o x1]
  have hb18 : a1.1 b 18 = wI lv := by
    rw [ha1, q_pI_k (by omega), q_pI_k (by omega), q_pI_k (by omega), q_pI_k (by omega), c3.2.1 18 (by omega), hd1, q_pI_k (by omega), q_irow_o (by omega), hd0, q_pI_k (by omega)]
    exact h18
  have esd : (1 : Int32) - a1.1 b 18 = wI sd := by
    rw [hb18, show (1 : Int32) = wI 1 from rfl, wI_sub]
    congr 1
    omega
  obtain ⟨a2, ha2⟩ : ∃ z, z = q_pI (q_pI a1 b 19 (wI sd)) b 20 0 := ⟨_, rfl⟩
  have h19 : a2.1 b 19 = wI sd := by rw [ha2, q_pI_k (by omega), q_pI_s]
  obtain ⟨e, he⟩ : ∃ z, z = q_pI (q_pI (q_pI (q_pI (q_pI (q_pI (q_pI (q_pI a2 (b + 11) sd 0) (b + 14) sd 0) (b + 18) sd 0) (b + 25) sd 0) (b + 29) sd 0) (b + 34) sd 0) (b + 35) sd 0) (b + 36) sd 256 := ⟨_, rfl⟩
  have hbb : ∀ j, e.1 b j = a2.1 b j := fun j => by
    rw [he, q_pI_o (by omega), q_pI_o (by omega), q_pI_o (by omega), q_pI_o (by omega), q_pI_o (by omega), q_pI_o (by omega), q_pI_o (by omega), q_pI_o (by omega)]
  have hno : ∀ x, x ≠ b + 11 → x ≠ b + 14 → x ≠ b + 18 → x ≠ b + 25 → x ≠ b + 29 → x ≠ b + 34 → x ≠ b + 35 → x ≠ b + 36 → e.1 x = a2.1 x := fun x x1 x2 x3 x4 x5 x6 x7 x8 => by
    rw [he, q_pI_o x8, q_pI_o x7, q_pI_o x6, q_pI_o x5, q_pI_o x4, q_pI_o x3, q_pI_o x2, q_pI_o x1]
  have ha2x : ∀ x, x ≠ b → a2.1 x = d2.1 x := fun x hx => by
    rw [ha2, q_pI_o hx, q_pI_o hx, ha1, q_pI_o hx, q_pI_o hx, q_pI_o hx, q_pI_o hx]
  have hd2x : ∀ x, b + 7 ≤ x → d2.1 x = dt.1 x := fun x hx => by
    rw [c3.1 x (by omega) (by omega) (by omega) (by omega), f12 x (by omega) (by omega)]
  have hJ : e.2 = d2.2 := by rw [he, q_pI_2, q_pI_2, q_pI_2, q_pI_2, q_pI_2, q_pI_2, q_pI_2, q_pI_2, ha2, q_pI_2, q_pI_2, ha1, q_pI_2, q_pI_2, q_pI_2, q_pI_2]
  refine ⟨e, ?_, hN, ⟨fun j hj => ?_, ⟨?_, ?_, fun q => absurd rfl q, ?_, fun q => absurd rfl q⟩, ⟨⟨Nat.zero_le _, Nat.zero_le _⟩, fun _ q => absurd rfl q⟩, ⟨?_, fun k hk => absurd hk (Nat.not_lt_zero k)⟩⟩, ⟨?_, ?_, ?_⟩, fun x hx => ?_, fun x hx => ?_, fun o o1 o2 o3 => ?_, fun o o1 o2 => ?_, ?_⟩
  · unfold X12_read
    rw [h2, o1s, ← hd0, show (0 : Int32) = wI ((0 : Nat) : Int) from rfl, h0, X12_read_b10.eq_2]
    generalize q_FU = fu
    have h4 : (q_irow d0 (b + 2) 0 L f).1 b 4 = wI L := by rw [q_irow_o (by omega), hd0, q_pI_s]
    rw [h4, if_pos (by rw [wI_le (by omega) (by omega) (by omega) (by omega)]; omega)]
    refine q_ox ?_
    rw [← hd1]
    refine q_b1x c1 ?_
    refine q_ox (q_ox (q_ox (q_ox ?_)))
    rw [← ha1, esd]
    refine q_ox (q_ox ?_)
    rw [← ha2, m24, n24, m27, n27, m31, n31, m38, n38, m42, n42, m47, n47, m48, n48, m49, n49]
    refine q_gx (o := 11) h19 hsd2 ?_
    refine q_gx (o := 14) (by rw [q_pI_o (by omega)]; exact h19) hsd2 ?_
    refine q_gx (o := 18) (by rw [q_pI_o (by omega), q_pI_o (by omega)]; exact h19) hsd2 ?_
    refine q_gx (o := 25) (by rw [q_pI_o (by omega), q_pI_o (by omega), q_pI_o (by omega)]; exact h19) hsd2 ?_
    refine q_gx (o := 29) (by rw [q_pI_o (by omega), q_pI_o (by omega), q_pI_o (by omega), q_pI_o (by omega)]; exact h19) hsd2 ?_
    refine q_gx (o := 34) (by rw [q_pI_o (by omega), q_pI_o (by omega), q_pI_o (by omega), q_pI_o (by omega), q_pI_o (by omega)]; exact h19) hsd2 ?_
    refine q_gx (o := 35) (by rw [q_pI_o (by omega), q_pI_o (by omega), q_pI_o (by omega), q_pI_o (by omega), q_pI_o (by omega), q_pI_o (by omega)]; exact h19) hsd2 ?_
    refine q_gx (o := 36) (by rw [q_pI_o (by omega), q_pI_o (by omega), q_pI_o (by omega), q_pI_o (by omega), q_pI_o (by omega), q_pI_o (by omega), q_pI_o (by omega)]; exact h19) hsd2 ?_
    rw [he]
  · rw [hno (b + 3) (by omega) (by omega) (by omega) (by omega) (by omega) (by omega) (by omega) (by omega), hno (b + 4) (by omega) (by omega) (by omega) (by omega) (by omega) (by omega) (by omega) (by omega), hno (b + 5) (by omega) (by omega) (by omega) (by omega) (by omega) (by omega) (by omega) (by omega), ha2x (b + 3) (by omega), ha2x (b + 4) (by omega), ha2x (b + 5) (by omega), hJ]
    exact c2 j hj
  · rw [hbb, ha2, q_pI_k (by omega), q_pI_k (by omega), ha1, q_pI_k (by omega), q_pI_k (by omega), q_pI_k (by omega), q_pI_s]; rfl
  · rw [hbb, ha2, q_pI_k (by omega), q_pI_k (by omega), ha1, q_pI_k (by omega), q_pI_s]; rfl
  · rw [hbb, ha2, q_pI_k (by omega), q_pI_k (by omega), ha1, q_pI_s]; rfl
  · rw [hbb, ha2, q_pI_s]; rfl
  · rw [hbb]; exact h19
  · rw [hbb, ha2, q_pI_k (by omega), q_pI_k (by omega)]; exact hb18
  · rw [hbb, ha2, q_pI_k (by omega), q_pI_k (by omega), ha1, q_pI_k (by omega), q_pI_k (by omega), q_pI_k (by omega), q_pI_k (by omega), c3.2.1 2 (by omega), hd1, q_pI_s]
  · rw [hno x (by omega) (by omega) (by omega) (by omega) (by omega) (by omega) (by omega) (by omega), ha2x x (by omega), hd2x x (by omega)]
  · rw [hJ, c3.2.2.1 x hx, hd1, q_pI_2]
    show d0.2.1 x = dt.2.1 x
    rw [hd0]
    rfl
  · have hne : o ≠ 11 ∧ o ≠ 14 ∧ o ≠ 18 ∧ o ≠ 25 ∧ o ≠ 29 ∧ o ≠ 34 ∧ o ≠ 35 ∧ o ≠ 36 := by
      refine ⟨?_, ?_, ?_, ?_, ?_, ?_, ?_, ?_⟩ <;> (intro q; rw [q] at o3; exact o3 rfl)
    rw [hno (b + o) (by omega) (by omega) (by omega) (by omega) (by omega) (by omega) (by omega) (by omega), ha2x (b + o) (by omega), hd2x (b + o) (by omega)]
  · have hst : ∀ (z : q_Dt) (p : Nat) (v : Int32), (q_pI z (b + p) sd v).1 (b + o) lv = z.1 (b + o) lv := fun z p v => by
      by_cases g : o = p
      · rw [g, q_pI_k (by omega)]
      · rw [q_pI_o (by omega)]
    rw [he, hst, hst, hst, hst, hst, hst, hst, hst, ha2x (b + o) (by omega), hd2x (b + o) (by omega)]
  · rw [he]
    refine ⟨?_, ?_, ?_, ?_, ?_, ?_, ?_, q_pI_s⟩
    · rw [q_pI_o (by omega), q_pI_o (by omega), q_pI_o (by omega), q_pI_o (by omega), q_pI_o (by omega), q_pI_o (by omega), q_pI_o (by omega), q_pI_s]
    · rw [q_pI_o (by omega), q_pI_o (by omega), q_pI_o (by omega), q_pI_o (by omega), q_pI_o (by omega), q_pI_o (by omega), q_pI_s]
    · rw [q_pI_o (by omega), q_pI_o (by omega), q_pI_o (by omega), q_pI_o (by omega), q_pI_o (by omega), q_pI_s]
    · rw [q_pI_o (by omega), q_pI_o (by omega), q_pI_o (by omega), q_pI_o (by omega), q_pI_s]
    · rw [q_pI_o (by omega), q_pI_o (by omega), q_pI_o (by omega), q_pI_s]
    · rw [q_pI_o (by omega), q_pI_o (by omega), q_pI_s]
    · rw [q_pI_o (by omega), q_pI_s]
/-- what a whole reading of the check comes to -/
theorem k_read {b lv L : Nat} {B : Nat → Int} {dt : q_Dt} {K P : Nat → Nat} {V : Nat → Int} {N : Nat} {T0 : q_Tl} (hM : q_M b lv dt T0) (hl : kq_l b dt) (hL : L ≤ 2000) (h2 : dt.1 b 2 = wI L) (ht : ∀ i, i < L → (0 ≤ B i ∧ B i ≤ 255) ∧ dt.1 (b + 1) i = wI (q_sgb (B i))) (hk : ∀ i, i < 11 → dt.2.1 (b + 7) i = wJ (q_key i)) (hK : K = fun n => qk_k B L (qk_st B L n)) (hPe : P = qk_st B L) (hV : V = fun n => qk_v B L (qk_st B L n)) (hNe : N = qk_N K 400 0) : ∃ d, X12_read (A2 b) dt b = some (wI (kz_res K P V).1, d) ∧ kd_7 (d.1 b 17) (kz_res K P V) ∧ d.1 b 2 = 0 ∧ kq_l b d ∧ (∀ i, i < 11 → d.2.1 (b + 7) i = wJ (q_key i)) ∧ ((kz_res K P V).1 ≠ 0 → q_M b lv d T0 ∧ ∀ x, b + 37 ≤ x → d.1 x = dt.1 x) ∧ ((kz_res K P V).1 = 0 → q_M b (1 - lv) d (kz_told K P V) ∧ q_now (b + 39) d (q_lay (kz_told K P V)) ∧ ∀ s, s < 3 → d.1 (b + 49) s = 0) := by
  have hlv := hM.2.1.1
  have h18 := hM.2.1.2.1
  obtain ⟨e0, r1, hN, r2, ⟨r3, r4, r5⟩, r6, r7, r8, r9, r10⟩ := k_begin hL h2 ht hk hlv h18 hK hPe hV hNe
  obtain ⟨sd, hsd⟩ : ∃ z, z = 1 - lv := ⟨_, rfl⟩
  rw [← hsd] at r3 r10 ⊢
  have hsd2 : sd < 2 := by omega
  have hne : lv ≠ sd := by omega
  have hN4 := hN.1
  have hl0 : kq_l b e0 := fun j hj => by rw [r8 12 (by omega) (by omega) (by decide)]; exact hl j hj
  have hW0 : kq_W b sd e0 kt_0 := ⟨hsd2, r3, ⟨r10.1, r10.2.1, r10.2.2.1, r10.2.2.2.1, r10.2.2.2.2.1⟩, hl0⟩
  have hS0 : kq_S b sd e0 kt_0 := ⟨kt_0_wf, ⟨r10.2.2.2.2.2.1, r10.2.2.2.2.2.2.1, r10.2.2.2.2.2.2.2⟩, fun c hc => absurd hc (Nat.not_lt_zero c), fun c hc => absurd hc (Nat.not_lt_zero c), fun c hc => absurd hc (Nat.not_lt_zero c), fun c hc => absurd hc (Nat.not_lt_zero c), fun c hc => absurd hc (Nat.not_lt_zero c)⟩
  have hfr0 : ∀ e, kq_fr b sd e0 e → q_M b lv e T0 := by
    intro e hfe
    have hw := hM.1
    refine M_other (dt := e0) ?_ hfe hne
    obtain ⟨hw, ⟨g1, g2, g3⟩, gC, gH, gS, gE, gJ⟩ := hM
    refine ⟨hw, ⟨g1, r4, ?_⟩, ?_, ?_, ?_, ?_, ?_⟩
    · rw [r9 11 (by omega) (by omega), r9 14 (by omega) (by omega), r9 18 (by omega) (by omega), r9 25 (by omega) (by omega), r9 29 (by omega) (by omega), r9 34 (by omega) (by omega), r9 35 (by omega) (by omega), r9 36 (by omega) (by omega)]
      exact g3
    · unfold q_MC; rw [r8 12 (by omega) (by omega) (by decide), r8 13 (by omega) (by omega) (by decide)]; exact gC
    · unfold q_MH; rw [r8 15 (by omega) (by omega) (by decide), r8 16 (by omega) (by omega) (by decide), r8 17 (by omega) (by omega) (by decide)]; exact gH
    · unfold q_MS; rw [r8 19 (by omega) (by omega) (by decide), r8 20 (by omega) (by omega) (by decide), r8 21 (by omega) (by omega) (by decide), r8 22 (by omega) (by omega) (by decide), r8 23 (by omega) (by omega) (by decide), r8 24 (by omega) (by omega) (by decide)]; exact gS
    · unfold q_ME; rw [r8 26 (by omega) (by omega) (by decide), r8 27 (by omega) (by omega) (by decide), r8 28 (by omega) (by omega) (by decide)]; exact gE
    · unfold q_MJ; rw [r8 30 (by omega) (by omega) (by decide), r8 31 (by omega) (by omega) (by decide), r8 32 (by omega) (by omega) (by decide), r8 33 (by omega) (by omega) (by decide)]; exact gJ
  obtain ⟨e, v1, v2, v3, v4, v5⟩ := k_mloop hN 400 0 q_FU 0 kt_0 kn_0 (0, 0) e0 (by omega) (by unfold q_FU; omega) (by omega) (by omega) r2 ⟨Nat.zero_le _, fun k hk => absurd hk (Nat.not_lt_zero k)⟩ ⟨rfl, fun k hk => absurd hk (Nat.not_lt_zero k)⟩ hW0 ⟨Nat.zero_le _, Nat.zero_le _, Nat.zero_le _, Nat.zero_le _, Nat.zero_le _⟩ (fun _ => hS0)
  rw [ky_c_0] at v4 v5
  have hMe := hfr0 e v2
  have hke : ∀ i, i < 11 → e.2.1 (b + 7) i = wJ (q_key i) := fun i hi => by
    rw [v2.2.2.1 (b + 7) (by omega), r7 (b + 7) (by omega)]; exact hk i hi
  have hxe : ∀ x, b + 37 ≤ x → e.1 x = dt.1 x := fun x hx => by rw [v2.1 x (by omega) (by omega), r6 x hx]
  have h2e : e.1 b 2 = 0 := by rw [v2.2.1 2 (by omega) (by omega) (by omega) (by omega) (by omega) (by omega) (by omega)]; exact r5
  have h19e : e.1 b 19 = wI sd := by rw [v2.2.1 19 (by omega) (by omega) (by omega) (by omega) (by omega) (by omega) (by omega)]; exact r3
  rw [r1, v1]
  unfold kz_res kz_told
  -- a fault
  have hflt : ∀ z : Int32, (∀ x, b + 37 ≤ x → (q_pI e b 17 z).1 x = dt.1 x) ∧ q_M b lv (q_pI e b 17 z) T0 ∧ (q_pI e b 17 z).1 b 2 = 0 ∧ kq_l b (q_pI e b 17 z) := fun z => ⟨fun x hx => by rw [q_pI_o (by omega)]; exact hxe x hx, M_keep hMe (q_pI_k (by omega)) (fun x x1 x2 => q_pI_o (by omega)), by rw [q_pI_k (by omega)]; exact h2e, fun j hj => by rw [q_pI_o (by omega)]; exact v3 j hj⟩
  have hend : ∀ (z p : Nat) (c : Int32), z ≠ 0 → c = wI p → X12_read_b184 (A2 b) b e = some (wI z, q_pI e b 17 c) → ∃ d, X12_read_b184 (A2 b) b e = some (wI z, d) ∧ kd_7 (d.1 b 17) (z, p) ∧ d.1 b 2 = 0 ∧ kq_l b d ∧ (∀ i, i < 11 → d.2.1 (b + 7) i = wJ (q_key i)) ∧ (z ≠ 0 → q_M b lv d T0 ∧ ∀ x, b + 37 ≤ x → d.1 x = dt.1 x) ∧ (z = 0 → q_M b sd d (kz_all K P V 400 0 (kt_0, kn_0, (0, 0))).1 ∧ q_now (b + 39) d (q_lay (kz_all K P V 400 0 (kt_0, kn_0, (0, 0))).1) ∧ ∀ s, s < 3 → d.1 (b + 49) s = 0) := by
    intro z p c hz hc hr
    obtain ⟨y1, y2, y3, y4⟩ := hflt c
    exact ⟨_, hr, ⟨fun _ => by rw [q_pI_s]; exact hc, fun q => absurd q hz⟩, y3, y4, fun i hi => hke i hi, fun _ => ⟨y2, y1⟩, fun q => absurd q hz⟩
  have hpos : ∀ n : Nat, n ≠ 0 → n ≤ 5 → ¬ wI (n : Int) ≤ 0 := fun n n1 n2 => by
    rw [show (0 : Int32) = wI 0 from rfl, wI_le (by omega) (by omega) (by omega) (by omega)]
    omega
  have h13p : ∀ z, (q_pI e b 17 z).1 b 13 = e.1 b 13 := fun z => q_pI_k (by omega)
  have h15p : ∀ z, (q_pI e b 17 z).1 b 15 = e.1 b 15 := fun z => q_pI_k (by omega)
  by_cases g : (ky_all K V 400 (fun _ => 0) 0).2 = 0
  · rw [if_pos g]
    obtain ⟨w1, w2, w3⟩ := v5 g
    obtain ⟨X, hX⟩ : ∃ X, X = kz_all K P V 400 0 (kt_0, kn_0, (0, 0)) := ⟨_, rfl⟩
    rw [← hX] at w1 w2 w3 hend ⊢
    have e13 : e.1 b 13 = wI (0 : Nat) := by rw [w1.2.1, g]
    have e15 : e.1 b 15 = wI X.2.2.1 := w1.2.2.2.1
    have z0 : wI ((0 : Nat) : Int) ≤ 0 := by decide
    by_cases g2 : X.2.2.1 = 0
    · rw [g2] at e15
      obtain ⟨s1, s2⟩ := w3 g2
      obtain ⟨d1, hd1⟩ : ∃ z, z = q_pI e b 17 (-1) := ⟨_, rfl⟩
      obtain ⟨d2, hd2⟩ : ∃ z, z = q_pI d1 b 18 (wI sd) := ⟨_, rfl⟩
      have f2 : ∀ x, x ≠ b → d2.1 x = e.1 x := fun x hx => by rw [hd2, q_pI_o hx, hd1, q_pI_o hx]
      have hM2 : q_M b sd d2 X.1 := by
        obtain ⟨y1, y2, y3, y4, y5, y6, y7⟩ := s1
        obtain ⟨z1, z2, z3, z4⟩ := s2
        refine ⟨y1, ⟨hsd2, by rw [hd2, q_pI_s], ?_⟩, ?_, ?_, ?_, ?_, ?_⟩
        · rw [f2 (b + 11) (by omega), f2 (b + 14) (by omega), f2 (b + 18) (by omega), f2 (b + 25) (by omega), f2 (b + 29) (by omega), f2 (b + 34) (by omega), f2 (b + 35) (by omega), f2 (b + 36) (by omega)]
          exact ⟨z3.1, z3.2.1, z3.2.2.1, z3.2.2.2.1, z3.2.2.2.2, y2.1, y2.2.1, y2.2.2⟩
        · unfold q_MC; rw [f2 (b + 12) (by omega), f2 (b + 13) (by omega)]; exact y3
        · unfold q_MH; rw [f2 (b + 15) (by omega), f2 (b + 16) (by omega), f2 (b + 17) (by omega)]; exact y4
        · unfold q_MS; rw [f2 (b + 19) (by omega), f2 (b + 20) (by omega), f2 (b + 21) (by omega), f2 (b + 22) (by omega), f2 (b + 23) (by omega), f2 (b + 24) (by omega)]; exact y5
        · unfold q_ME; rw [f2 (b + 26) (by omega), f2 (b + 27) (by omega), f2 (b + 28) (by omega)]; exact y6
        · unfold q_MJ; rw [f2 (b + 30) (by omega), f2 (b + 31) (by omega), f2 (b + 32) (by omega), f2 (b + 33) (by omega)]; exact y7
      obtain ⟨d3, l1, l2, l3⟩ := M_lay hM2
      have hz : ∀ n i k : Nat, i + n = 3 → n < k → X12_read_b255 (A2 b) b k (wI i) (q_irow d3 (b + 49) 0 i (fun _ => 0)) = some (wI ((0 : Nat) : Int), q_irow d3 (b + 49) 0 3 (fun _ => 0)) := by
        intro n
        induction n with
        | zero =>
          intro i k z1 z2 
          obtain ⟨k, rfl⟩ : ∃ m, k = m + 1 := ⟨k - 1, by omega⟩
          have e : i = 3 := by omega
          rw [e, X12_read_b255.eq_2, if_pos (show (3 : Int32) ≤ wI ((3 : Nat) : Int) by decide)]
          rfl
        | succ n ih =>
          intro i k z1 z2 
          obtain ⟨k, rfl⟩ : ∃ m, k = m + 1 := ⟨k - 1, by omega⟩
          have hi : i < 3 := by omega
          have es := q_irow_s d3 (b + 49) 0 i (fun _ => 0)
          rw [Nat.zero_add] at es
          rw [X12_read_b255.eq_2, if_neg (show ¬ (3 : Int32) ≤ wI (i : Int) by rw [show (3 : Int32) = wI 3 from rfl, wI_le (by omega) (by omega) (by omega) (by omega)]; omega), m65, n65, if_neg (kz_ixn hi (by omega)), kz_nat (by omega), show vp_nar .boolean 0 = (0 : Int32) from rfl, o1s, es, show wI (i : Int) + 1 = wI (i + 1 : Nat) from wI_add i 1]
          exact ih (i + 1) k (by omega) (by omega)
      have hz0 := hz 3 0 q_FU (by omega) (by unfold q_FU; omega)
      rw [q_irow_0] at hz0
      rw [g2]
      have h7 : (q_irow d3 (b + 49) 0 3 (fun _ => 0)).1 b = d2.1 b := by rw [q_irow_o (by omega), l3.1 b (by omega) (by omega)]
      refine ⟨q_irow d3 (b + 49) 0 3 (fun _ => 0), ?_, ⟨fun q => absurd g2 q, fun _ => ?_⟩, ?_, fun j hj => ?_, fun i hi => ?_, fun q => absurd rfl q, fun _ => ⟨?_, fun i hi => ?_, fun s hs => ?_⟩⟩
      · unfold X12_read_b184 X12_read_b214
        rw [e13, if_pos z0, e15, if_pos z0]
        refine q_ox ?_
        rw [← hd1, hd1, h13p, h15p, e13, if_pos z0, e15, if_pos z0, ← hd1]
        refine q_ox ?_
        rw [show d1.1 b 19 = wI sd by rw [hd1, q_pI_k (by omega)]; exact h19e, ← hd2]
        exact q_b1x l1 hz0
      · rw [h7, hd2, q_pI_k (by omega), hd1, q_pI_s]; rfl
      · rw [h7, hd2, q_pI_k (by omega), hd1, q_pI_k (by omega)]; exact h2e
      · rw [q_irow_o (by omega), l3.1 (b + 12) (by omega) (by omega), f2 (b + 12) (by omega)]; exact v3 j hj
      · show d3.2.1 (b + 7) i = _
        rw [l3.2, hd2, hd1]; exact hke i hi
      · exact M_keep hM2 (by rw [h7]) (fun x x1 x2 => by rw [q_irow_o (by omega), l3.1 x (by omega) (by omega)])
      · rw [q_irow_o (by omega)]; exact l2 i hi
      · have h9 := q_irow_i (dt := d3) (arr := b + 49) (off := 0) (n := 3) (j := s) (f := fun _ => 0) hs
        rw [Nat.zero_add] at h9
        exact h9
    · refine hend X.2.2.1 X.2.2.2 (e.1 b 16) g2 (w1.2.2.2.2 g2) ?_
      unfold X12_read_b184 X12_read_b214
      have hn := hpos _ g2 w2.1
      rw [e13, if_pos z0, e15, if_neg hn]
      refine q_ox ?_
      rw [h13p, h15p, e13, if_pos z0, e15, if_neg hn]
  · rw [if_neg g]
    obtain ⟨F', w1⟩ := v4 g
    have hb := ky_all_2 hN 400 (fun _ => 0) 0 (by omega)
    refine hend _ _ (e.1 b 14) g (w1.2.2.1 g) ?_
    unfold X12_read_b184 X12_read_b214
    have hn := hpos _ g (by omega)
    rw [w1.2.1, if_neg hn]
    refine q_ox ?_
    rw [h13p, w1.2.1, if_neg hn]
