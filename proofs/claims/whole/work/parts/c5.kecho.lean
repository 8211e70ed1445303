/-! level two: the check's tells of echoes, jams, noise, samples -/
theorem S_addecho {b sd : Nat} {d e : q_Dt} {T : q_Tl} {o l : Nat} {z : Int} (h : kq_S b sd d T) (hn : Tne T < 6) (ho : o < Tns T) (hl : 1 ≤ l ∧ l ≤ 99) (hz : -99 ≤ z ∧ z ≤ 99) (e26 : e.1 (b + 26) (6 * sd + Tne T) = wI o ∧ e.1 (b + 27) (6 * sd + Tne T) = wI l ∧ e.1 (b + 28) (6 * sd + Tne T) = wI z) (fj : ∀ o, 26 ≤ o → o ≤ 28 → ∀ j, j ≠ 6 * sd + Tne T → e.1 (b + o) j = d.1 (b + o) j) (f : ∀ o, 12 ≤ o → o ≤ 36 → (o < 25 ∨ 29 ≤ o) → e.1 (b + o) = d.1 (b + o)) : kq_S b sd e (kt_echo T o l z) := by
  obtain ⟨hw, h0, hC, hH, hS, hE, hJ⟩ := h
  refine ⟨kt_echo_wf hw hn ho hl hz, ?_, ?_, ?_, ?_, ?_, ?_⟩
  · simp only [kt_echo_Tnc, kt_echo_Tnh, kt_echo_Tns, kt_echo_Tne, kt_echo_Tnj, kt_echo_TN, kt_echo_Tnm, kt_echo_Tnd, kt_echo_Tlen, kt_echo_Thp, kt_echo_Tha, kt_echo_Thb, kt_echo_Tsc, kt_echo_Tsa, kt_echo_Tsd, kt_echo_Tst, kt_echo_Tsx, kt_echo_Tsf, kt_echo_Teo, kt_echo_Tel, kt_echo_Tjf, kt_echo_Tjt, kt_echo_Tja, kt_echo_Tje, kt_echo_Tch, kt_echo_Tea]
    rw [f 34 (by omega) (by omega) (by omega), f 35 (by omega) (by omega) (by omega), f 36 (by omega) (by omega) (by omega)]
    exact h0
  · unfold q_MC
    simp only [kt_echo_Tnc, kt_echo_Tnh, kt_echo_Tns, kt_echo_Tne, kt_echo_Tnj, kt_echo_TN, kt_echo_Tnm, kt_echo_Tnd, kt_echo_Tlen, kt_echo_Thp, kt_echo_Tha, kt_echo_Thb, kt_echo_Tsc, kt_echo_Tsa, kt_echo_Tsd, kt_echo_Tst, kt_echo_Tsx, kt_echo_Tsf, kt_echo_Teo, kt_echo_Tel, kt_echo_Tjf, kt_echo_Tjt, kt_echo_Tja, kt_echo_Tje, kt_echo_Tch, kt_echo_Tea]
    rw [f 12 (by omega) (by omega) (by omega), f 13 (by omega) (by omega) (by omega)]
    exact hC
  · unfold q_MH
    simp only [kt_echo_Tnc, kt_echo_Tnh, kt_echo_Tns, kt_echo_Tne, kt_echo_Tnj, kt_echo_TN, kt_echo_Tnm, kt_echo_Tnd, kt_echo_Tlen, kt_echo_Thp, kt_echo_Tha, kt_echo_Thb, kt_echo_Tsc, kt_echo_Tsa, kt_echo_Tsd, kt_echo_Tst, kt_echo_Tsx, kt_echo_Tsf, kt_echo_Teo, kt_echo_Tel, kt_echo_Tjf, kt_echo_Tjt, kt_echo_Tja, kt_echo_Tje, kt_echo_Tch, kt_echo_Tea]
    rw [f 15 (by omega) (by omega) (by omega), f 16 (by omega) (by omega) (by omega), f 17 (by omega) (by omega) (by omega)]
    exact hH
  · unfold q_MS
    simp only [kt_echo_Tnc, kt_echo_Tnh, kt_echo_Tns, kt_echo_Tne, kt_echo_Tnj, kt_echo_TN, kt_echo_Tnm, kt_echo_Tnd, kt_echo_Tlen, kt_echo_Thp, kt_echo_Tha, kt_echo_Thb, kt_echo_Tsc, kt_echo_Tsa, kt_echo_Tsd, kt_echo_Tst, kt_echo_Tsx, kt_echo_Tsf, kt_echo_Teo, kt_echo_Tel, kt_echo_Tjf, kt_echo_Tjt, kt_echo_Tja, kt_echo_Tje, kt_echo_Tch, kt_echo_Tea]
    rw [f 19 (by omega) (by omega) (by omega), f 20 (by omega) (by omega) (by omega), f 21 (by omega) (by omega) (by omega), f 22 (by omega) (by omega) (by omega), f 23 (by omega) (by omega) (by omega), f 24 (by omega) (by omega) (by omega)]
    exact hS
  · unfold q_ME
    simp only [kt_echo_Tnc, kt_echo_Tnh, kt_echo_Tns, kt_echo_Tne, kt_echo_Tnj, kt_echo_TN, kt_echo_Tnm, kt_echo_Tnd, kt_echo_Tlen, kt_echo_Thp, kt_echo_Tha, kt_echo_Thb, kt_echo_Tsc, kt_echo_Tsa, kt_echo_Tsd, kt_echo_Tst, kt_echo_Tsx, kt_echo_Tsf, kt_echo_Teo, kt_echo_Tel, kt_echo_Tjf, kt_echo_Tjt, kt_echo_Tja, kt_echo_Tje, kt_echo_Tch, kt_echo_Tea]
    intro q hq
    by_cases g : q = Tne T
    · simp only [if_pos g]
      rw [g]
      exact e26
    · simp only [if_neg g]
      rw [fj 26 (by omega) (by omega) _ (by omega), fj 27 (by omega) (by omega) _ (by omega), fj 28 (by omega) (by omega) _ (by omega)]
      exact hE q (by omega)
  · unfold q_MJ
    simp only [kt_echo_Tnc, kt_echo_Tnh, kt_echo_Tns, kt_echo_Tne, kt_echo_Tnj, kt_echo_TN, kt_echo_Tnm, kt_echo_Tnd, kt_echo_Tlen, kt_echo_Thp, kt_echo_Tha, kt_echo_Thb, kt_echo_Tsc, kt_echo_Tsa, kt_echo_Tsd, kt_echo_Tst, kt_echo_Tsx, kt_echo_Tsf, kt_echo_Teo, kt_echo_Tel, kt_echo_Tjf, kt_echo_Tjt, kt_echo_Tja, kt_echo_Tje, kt_echo_Tch, kt_echo_Tea]
    rw [f 30 (by omega) (by omega) (by omega), f 31 (by omega) (by omega) (by omega), f 32 (by omega) (by omega) (by omega), f 33 (by omega) (by omega) (by omega)]
    exact hJ
theorem S_addjam {b sd : Nat} {d e : q_Dt} {T : q_Tl} {x y l z : Nat} (h : kq_S b sd d T) (hn : Tnj T < 4) (hf : x ≤ y) (ht : y ≤ 511) (hl : 1 ≤ l ∧ l ≤ 99) (hz : 1 ≤ z ∧ z ≤ 99) (e30 : e.1 (b + 30) (4 * sd + Tnj T) = wI x ∧ e.1 (b + 31) (4 * sd + Tnj T) = wI y ∧ e.1 (b + 32) (4 * sd + Tnj T) = wI l ∧ e.1 (b + 33) (4 * sd + Tnj T) = wI z) (fj : ∀ o, 30 ≤ o → o ≤ 33 → ∀ j, j ≠ 4 * sd + Tnj T → e.1 (b + o) j = d.1 (b + o) j) (f : ∀ o, 12 ≤ o → o ≤ 36 → (o < 29 ∨ 34 ≤ o) → e.1 (b + o) = d.1 (b + o)) : kq_S b sd e (kt_jam T x y l z) := by
  obtain ⟨hw, h0, hC, hH, hS, hE, hJ⟩ := h
  refine ⟨kt_jam_wf hw hn hf ht hl hz, ?_, ?_, ?_, ?_, ?_, ?_⟩
  · simp only [kt_jam_Tnc, kt_jam_Tnh, kt_jam_Tns, kt_jam_Tne, kt_jam_Tnj, kt_jam_TN, kt_jam_Tnm, kt_jam_Tnd, kt_jam_Tlen, kt_jam_Thp, kt_jam_Tha, kt_jam_Thb, kt_jam_Tsc, kt_jam_Tsa, kt_jam_Tsd, kt_jam_Tst, kt_jam_Tsx, kt_jam_Tsf, kt_jam_Teo, kt_jam_Tel, kt_jam_Tjf, kt_jam_Tjt, kt_jam_Tja, kt_jam_Tje, kt_jam_Tch, kt_jam_Tea]
    rw [f 34 (by omega) (by omega) (by omega), f 35 (by omega) (by omega) (by omega), f 36 (by omega) (by omega) (by omega)]
    exact h0
  · unfold q_MC
    simp only [kt_jam_Tnc, kt_jam_Tnh, kt_jam_Tns, kt_jam_Tne, kt_jam_Tnj, kt_jam_TN, kt_jam_Tnm, kt_jam_Tnd, kt_jam_Tlen, kt_jam_Thp, kt_jam_Tha, kt_jam_Thb, kt_jam_Tsc, kt_jam_Tsa, kt_jam_Tsd, kt_jam_Tst, kt_jam_Tsx, kt_jam_Tsf, kt_jam_Teo, kt_jam_Tel, kt_jam_Tjf, kt_jam_Tjt, kt_jam_Tja, kt_jam_Tje, kt_jam_Tch, kt_jam_Tea]
    rw [f 12 (by omega) (by omega) (by omega), f 13 (by omega) (by omega) (by omega)]
    exact hC
  · unfold q_MH
    simp only [kt_jam_Tnc, kt_jam_Tnh, kt_jam_Tns, kt_jam_Tne, kt_jam_Tnj, kt_jam_TN, kt_jam_Tnm, kt_jam_Tnd, kt_jam_Tlen, kt_jam_Thp, kt_jam_Tha, kt_jam_Thb, kt_jam_Tsc, kt_jam_Tsa, kt_jam_Tsd, kt_jam_Tst, kt_jam_Tsx, kt_jam_Tsf, kt_jam_Teo, kt_jam_Tel, kt_jam_Tjf, kt_jam_Tjt, kt_jam_Tja, kt_jam_Tje, kt_jam_Tch, kt_jam_Tea]
    rw [f 15 (by omega) (by omega) (by omega), f 16 (by omega) (by omega) (by omega), f 17 (by omega) (by omega) (by omega)]
    exact hH
  · unfold q_MS
    simp only [kt_jam_Tnc, kt_jam_Tnh, kt_jam_Tns, kt_jam_Tne, kt_jam_Tnj, kt_jam_TN, kt_jam_Tnm, kt_jam_Tnd, kt_jam_Tlen, kt_jam_Thp, kt_jam_Tha, kt_jam_Thb, kt_jam_Tsc, kt_jam_Tsa, kt_jam_Tsd, kt_jam_Tst, kt_jam_Tsx, kt_jam_Tsf, kt_jam_Teo, kt_jam_Tel, kt_jam_Tjf, kt_jam_Tjt, kt_jam_Tja, kt_jam_Tje, kt_jam_Tch, kt_jam_Tea]
    rw [f 19 (by omega) (by omega) (by omega), f 20 (by omega) (by omega) (by omega), f 21 (by omega) (by omega) (by omega), f 22 (by omega) (by omega) (by omega), f 23 (by omega) (by omega) (by omega), f 24 (by omega) (by omega) (by omega)]
    exact hS
  · unfold q_ME
    simp only [kt_jam_Tnc, kt_jam_Tnh, kt_jam_Tns, kt_jam_Tne, kt_jam_Tnj, kt_jam_TN, kt_jam_Tnm, kt_jam_Tnd, kt_jam_Tlen, kt_jam_Thp, kt_jam_Tha, kt_jam_Thb, kt_jam_Tsc, kt_jam_Tsa, kt_jam_Tsd, kt_jam_Tst, kt_jam_Tsx, kt_jam_Tsf, kt_jam_Teo, kt_jam_Tel, kt_jam_Tjf, kt_jam_Tjt, kt_jam_Tja, kt_jam_Tje, kt_jam_Tch, kt_jam_Tea]
    rw [f 26 (by omega) (by omega) (by omega), f 27 (by omega) (by omega) (by omega), f 28 (by omega) (by omega) (by omega)]
    exact hE
  · unfold q_MJ
    simp only [kt_jam_Tnc, kt_jam_Tnh, kt_jam_Tns, kt_jam_Tne, kt_jam_Tnj, kt_jam_TN, kt_jam_Tnm, kt_jam_Tnd, kt_jam_Tlen, kt_jam_Thp, kt_jam_Tha, kt_jam_Thb, kt_jam_Tsc, kt_jam_Tsa, kt_jam_Tsd, kt_jam_Tst, kt_jam_Tsx, kt_jam_Tsf, kt_jam_Teo, kt_jam_Tel, kt_jam_Tjf, kt_jam_Tjt, kt_jam_Tja, kt_jam_Tje, kt_jam_Tch, kt_jam_Tea]
    intro q hq
    by_cases g : q = Tnj T
    · simp only [if_pos g]
      rw [g]
      exact e30
    · simp only [if_neg g]
      rw [fj 30 (by omega) (by omega) _ (by omega), fj 31 (by omega) (by omega) _ (by omega), fj 32 (by omega) (by omega) _ (by omega), fj 33 (by omega) (by omega) _ (by omega)]
      exact hJ q (by omega)
theorem S_noise {b sd : Nat} {d e : q_Dt} {T : q_Tl} {m s : Nat} (h : kq_S b sd d T) (hm : m ≤ 50) (hs : s ≤ 9999) (e34 : e.1 (b + 34) sd = wI m) (e35 : e.1 (b + 35) sd = wI s) (f : ∀ o, 12 ≤ o → o ≤ 36 → (o < 34 ∨ 36 ≤ o) → e.1 (b + o) = d.1 (b + o)) : kq_S b sd e (kt_noise T m s) := by
  obtain ⟨hw, h0, hC, hH, hS, hE, hJ⟩ := h
  refine ⟨kt_noise_wf hw hm hs, ?_, ?_, ?_, ?_, ?_, ?_⟩
  · simp only [kt_noise_Tnc, kt_noise_Tnh, kt_noise_Tns, kt_noise_Tne, kt_noise_Tnj, kt_noise_TN, kt_noise_Tnm, kt_noise_Tnd, kt_noise_Tlen, kt_noise_Thp, kt_noise_Tha, kt_noise_Thb, kt_noise_Tsc, kt_noise_Tsa, kt_noise_Tsd, kt_noise_Tst, kt_noise_Tsx, kt_noise_Tsf, kt_noise_Teo, kt_noise_Tel, kt_noise_Tjf, kt_noise_Tjt, kt_noise_Tja, kt_noise_Tje, kt_noise_Tch, kt_noise_Tea]
    rw [f 36 (by omega) (by omega) (by omega)]
    exact ⟨e34, e35, h0.2.2⟩
  · unfold q_MC
    simp only [kt_noise_Tnc, kt_noise_Tnh, kt_noise_Tns, kt_noise_Tne, kt_noise_Tnj, kt_noise_TN, kt_noise_Tnm, kt_noise_Tnd, kt_noise_Tlen, kt_noise_Thp, kt_noise_Tha, kt_noise_Thb, kt_noise_Tsc, kt_noise_Tsa, kt_noise_Tsd, kt_noise_Tst, kt_noise_Tsx, kt_noise_Tsf, kt_noise_Teo, kt_noise_Tel, kt_noise_Tjf, kt_noise_Tjt, kt_noise_Tja, kt_noise_Tje, kt_noise_Tch, kt_noise_Tea]
    rw [f 12 (by omega) (by omega) (by omega), f 13 (by omega) (by omega) (by omega)]
    exact hC
  · unfold q_MH
    simp only [kt_noise_Tnc, kt_noise_Tnh, kt_noise_Tns, kt_noise_Tne, kt_noise_Tnj, kt_noise_TN, kt_noise_Tnm, kt_noise_Tnd, kt_noise_Tlen, kt_noise_Thp, kt_noise_Tha, kt_noise_Thb, kt_noise_Tsc, kt_noise_Tsa, kt_noise_Tsd, kt_noise_Tst, kt_noise_Tsx, kt_noise_Tsf, kt_noise_Teo, kt_noise_Tel, kt_noise_Tjf, kt_noise_Tjt, kt_noise_Tja, kt_noise_Tje, kt_noise_Tch, kt_noise_Tea]
    rw [f 15 (by omega) (by omega) (by omega), f 16 (by omega) (by omega) (by omega), f 17 (by omega) (by omega) (by omega)]
    exact hH
  · unfold q_MS
    simp only [kt_noise_Tnc, kt_noise_Tnh, kt_noise_Tns, kt_noise_Tne, kt_noise_Tnj, kt_noise_TN, kt_noise_Tnm, kt_noise_Tnd, kt_noise_Tlen, kt_noise_Thp, kt_noise_Tha, kt_noise_Thb, kt_noise_Tsc, kt_noise_Tsa, kt_noise_Tsd, kt_noise_Tst, kt_noise_Tsx, kt_noise_Tsf, kt_noise_Teo, kt_noise_Tel, kt_noise_Tjf, kt_noise_Tjt, kt_noise_Tja, kt_noise_Tje, kt_noise_Tch, kt_noise_Tea]
    rw [f 19 (by omega) (by omega) (by omega), f 20 (by omega) (by omega) (by omega), f 21 (by omega) (by omega) (by omega), f 22 (by omega) (by omega) (by omega), f 23 (by omega) (by omega) (by omega), f 24 (by omega) (by omega) (by omega)]
    exact hS
  · unfold q_ME
    simp only [kt_noise_Tnc, kt_noise_Tnh, kt_noise_Tns, kt_noise_Tne, kt_noise_Tnj, kt_noise_TN, kt_noise_Tnm, kt_noise_Tnd, kt_noise_Tlen, kt_noise_Thp, kt_noise_Tha, kt_noise_Thb, kt_noise_Tsc, kt_noise_Tsa, kt_noise_Tsd, kt_noise_Tst, kt_noise_Tsx, kt_noise_Tsf, kt_noise_Teo, kt_noise_Tel, kt_noise_Tjf, kt_noise_Tjt, kt_noise_Tja, kt_noise_Tje, kt_noise_Tch, kt_noise_Tea]
    rw [f 26 (by omega) (by omega) (by omega), f 27 (by omega) (by omega) (by omega), f 28 (by omega) (by omega) (by omega)]
    exact hE
  · unfold q_MJ
    simp only [kt_noise_Tnc, kt_noise_Tnh, kt_noise_Tns, kt_noise_Tne, kt_noise_Tnj, kt_noise_TN, kt_noise_Tnm, kt_noise_Tnd, kt_noise_Tlen, kt_noise_Thp, kt_noise_Tha, kt_noise_Thb, kt_noise_Tsc, kt_noise_Tsa, kt_noise_Tsd, kt_noise_Tst, kt_noise_Tsx, kt_noise_Tsf, kt_noise_Teo, kt_noise_Tel, kt_noise_Tjf, kt_noise_Tjt, kt_noise_Tja, kt_noise_Tje, kt_noise_Tch, kt_noise_Tea]
    rw [f 30 (by omega) (by omega) (by omega), f 31 (by omega) (by omega) (by omega), f 32 (by omega) (by omega) (by omega), f 33 (by omega) (by omega) (by omega)]
    exact hJ
theorem S_samp {b sd : Nat} {d e : q_Dt} {T : q_Tl} {n : Nat} (h : kq_S b sd d T) (hn : 16 ≤ n ∧ n ≤ 512) (e36 : e.1 (b + 36) sd = wI n) (f : ∀ o, 12 ≤ o → o ≤ 35 → e.1 (b + o) = d.1 (b + o)) : kq_S b sd e (kt_samp T n) := by
  obtain ⟨hw, h0, hC, hH, hS, hE, hJ⟩ := h
  refine ⟨kt_samp_wf hw hn, ?_, ?_, ?_, ?_, ?_, ?_⟩
  · simp only [kt_samp_Tnc, kt_samp_Tnh, kt_samp_Tns, kt_samp_Tne, kt_samp_Tnj, kt_samp_TN, kt_samp_Tnm, kt_samp_Tnd, kt_samp_Tlen, kt_samp_Thp, kt_samp_Tha, kt_samp_Thb, kt_samp_Tsc, kt_samp_Tsa, kt_samp_Tsd, kt_samp_Tst, kt_samp_Tsx, kt_samp_Tsf, kt_samp_Teo, kt_samp_Tel, kt_samp_Tjf, kt_samp_Tjt, kt_samp_Tja, kt_samp_Tje, kt_samp_Tch, kt_samp_Tea]
    rw [f 34 (by omega) (by omega), f 35 (by omega) (by omega)]
    exact ⟨h0.1, h0.2.1, e36⟩
  · unfold q_MC
    simp only [kt_samp_Tnc, kt_samp_Tnh, kt_samp_Tns, kt_samp_Tne, kt_samp_Tnj, kt_samp_TN, kt_samp_Tnm, kt_samp_Tnd, kt_samp_Tlen, kt_samp_Thp, kt_samp_Tha, kt_samp_Thb, kt_samp_Tsc, kt_samp_Tsa, kt_samp_Tsd, kt_samp_Tst, kt_samp_Tsx, kt_samp_Tsf, kt_samp_Teo, kt_samp_Tel, kt_samp_Tjf, kt_samp_Tjt, kt_samp_Tja, kt_samp_Tje, kt_samp_Tch, kt_samp_Tea]
    rw [f 12 (by omega) (by omega), f 13 (by omega) (by omega)]
    exact hC
  · unfold q_MH
    simp only [kt_samp_Tnc, kt_samp_Tnh, kt_samp_Tns, kt_samp_Tne, kt_samp_Tnj, kt_samp_TN, kt_samp_Tnm, kt_samp_Tnd, kt_samp_Tlen, kt_samp_Thp, kt_samp_Tha, kt_samp_Thb, kt_samp_Tsc, kt_samp_Tsa, kt_samp_Tsd, kt_samp_Tst, kt_samp_Tsx, kt_samp_Tsf, kt_samp_Teo, kt_samp_Tel, kt_samp_Tjf, kt_samp_Tjt, kt_samp_Tja, kt_samp_Tje, kt_samp_Tch, kt_samp_Tea]
    rw [f 15 (by omega) (by omega), f 16 (by omega) (by omega), f 17 (by omega) (by omega)]
    exact hH
  · unfold q_MS
    simp only [kt_samp_Tnc, kt_samp_Tnh, kt_samp_Tns, kt_samp_Tne, kt_samp_Tnj, kt_samp_TN, kt_samp_Tnm, kt_samp_Tnd, kt_samp_Tlen, kt_samp_Thp, kt_samp_Tha, kt_samp_Thb, kt_samp_Tsc, kt_samp_Tsa, kt_samp_Tsd, kt_samp_Tst, kt_samp_Tsx, kt_samp_Tsf, kt_samp_Teo, kt_samp_Tel, kt_samp_Tjf, kt_samp_Tjt, kt_samp_Tja, kt_samp_Tje, kt_samp_Tch, kt_samp_Tea]
    rw [f 19 (by omega) (by omega), f 20 (by omega) (by omega), f 21 (by omega) (by omega), f 22 (by omega) (by omega), f 23 (by omega) (by omega), f 24 (by omega) (by omega)]
    exact hS
  · unfold q_ME
    simp only [kt_samp_Tnc, kt_samp_Tnh, kt_samp_Tns, kt_samp_Tne, kt_samp_Tnj, kt_samp_TN, kt_samp_Tnm, kt_samp_Tnd, kt_samp_Tlen, kt_samp_Thp, kt_samp_Tha, kt_samp_Thb, kt_samp_Tsc, kt_samp_Tsa, kt_samp_Tsd, kt_samp_Tst, kt_samp_Tsx, kt_samp_Tsf, kt_samp_Teo, kt_samp_Tel, kt_samp_Tjf, kt_samp_Tjt, kt_samp_Tja, kt_samp_Tje, kt_samp_Tch, kt_samp_Tea]
    rw [f 26 (by omega) (by omega), f 27 (by omega) (by omega), f 28 (by omega) (by omega)]
    exact hE
  · unfold q_MJ
    simp only [kt_samp_Tnc, kt_samp_Tnh, kt_samp_Tns, kt_samp_Tne, kt_samp_Tnj, kt_samp_TN, kt_samp_Tnm, kt_samp_Tnd, kt_samp_Tlen, kt_samp_Thp, kt_samp_Tha, kt_samp_Thb, kt_samp_Tsc, kt_samp_Tsa, kt_samp_Tsd, kt_samp_Tst, kt_samp_Tsx, kt_samp_Tsf, kt_samp_Teo, kt_samp_Tel, kt_samp_Tjf, kt_samp_Tjt, kt_samp_Tja, kt_samp_Tje, kt_samp_Tch, kt_samp_Tea]
    rw [f 30 (by omega) (by omega), f 31 (by omega) (by omega), f 32 (by omega) (by omega), f 33 (by omega) (by omega)]
    exact hJ
/-- rows from one address to another, at one index -/
def kv_G (b lo hi i : Nat) (d e : q_Dt) : Prop := (∀ z, z ≠ b → (z < b + lo ∨ b + hi < z) → e.1 z = d.1 z) ∧ (∀ j, j ≠ 11 → j ≠ 13 → j ≠ 14 → j ≠ 15 → j ≠ 16 → j ≠ 50 → e.1 b j = d.1 b j) ∧ e.2 = d.2 ∧ ∀ o, lo ≤ o → o ≤ hi → ∀ j, j ≠ i → e.1 (b + o) j = d.1 (b + o) j
theorem kv_G_t {b lo hi i : Nat} {d e f : q_Dt} (h : kv_G b lo hi i d e) (h' : kv_G b lo hi i e f) : kv_G b lo hi i d f := ⟨fun z h1 h2 => (h'.1 z h1 h2).trans (h.1 z h1 h2), fun j h1 h2 h3 h4 h5 h6 => (h'.2.1 j h1 h2 h3 h4 h5 h6).trans (h.2.1 j h1 h2 h3 h4 h5 h6), h'.2.2.1.trans h.2.2.1, fun o h1 h2 j h3 => (h'.2.2.2 o h1 h2 j h3).trans (h.2.2.2 o h1 h2 j h3)⟩
theorem kv_G_z {b lo hi i : Nat} {d e : q_Dt} (h : ky_fz b d e) (hlo : 11 ≤ lo) : kv_G b lo hi i d e := ⟨fun z h1 _ => h.1 z h1, h.2.1, h.2.2, fun o _ _ j _ => by rw [h.1 (b + o) (by omega)]⟩
theorem kv_G_I {b lo hi i o : Nat} {d : q_Dt} {v : Int32} (h1 : lo ≤ o) (h2 : o ≤ hi) (hlo : 11 ≤ lo) : kv_G b lo hi i d (q_pI d (b + o) i v) := by
  refine ⟨fun z h3 h4 => q_pI_o (by omega), fun j _ _ _ _ _ _ => by rw [q_pI_o (by omega)], rfl, fun o2 _ _ j hj => ?_⟩
  by_cases g : o2 = o
  · rw [g, q_pI_k hj]
  · rw [q_pI_o (by omega)]
theorem kv_G_fr {b lo hi i sd : Nat} {d e : q_Dt} (h : kv_G b lo hi i d e) (hw : ∀ o, lo ≤ o → o ≤ hi → i / kq_w o = sd) (hhi : hi ≤ 36) (hlo : 11 ≤ lo) : kq_fr b sd d e := by
  refine ⟨fun x h1 h2 => h.1 x h1 (by omega), fun j h1 h2 h3 h4 h5 _ h7 => h.2.1 j h1 h2 h3 h4 h5 h7, fun x _ => by rw [h.2.2.1], by rw [h.2.2.1], fun o o1 o2 j hj => ?_⟩
  by_cases g : lo ≤ o ∧ o ≤ hi
  · exact h.2.2.2 o g.1 g.2 j (fun q => hj (by rw [q]; exact hw o g.1 g.2))
  · rw [h.1 (b + o) (by omega) (by omega)]
theorem ky_r6 {K : Nat → Nat} {V : Nat → Int} {s : Nat × Nat} : ky_run K V (ky_sh 6) s = ky_mu K 4 (ky_mu K 3 (ky_op K (ky_mu K 3 (ky_mu K 2 s)))) := by
  show ky_run K V [110, 105, 45, 105, 59] s = _
  simp only [ky_run_c, ky_run_n, ky_p1, ky_p2, ky_p3, ky_p5]
theorem ky_r7 {K : Nat → Nat} {V : Nat → Int} {s : Nat × Nat} : ky_run K V (ky_sh 7) s = ky_mu K 4 (ky_mu K 3 (ky_mu K 3 (ky_mu K 3 (ky_mu K 3 s)))) := by
  show ky_run K V [105, 105, 105, 105, 59] s = _
  simp only [ky_run_c, ky_run_n, ky_p1, ky_p2, ky_p3]
theorem ky_r8 {K : Nat → Nat} {V : Nat → Int} {s : Nat × Nat} : ky_run K V (ky_sh 8) s = ky_mu K 4 (ky_mu K 3 (ky_mu K 3 s)) := by
  show ky_run K V [105, 105, 59] s = _
  simp only [ky_run_c, ky_run_n, ky_p1, ky_p2, ky_p3]
theorem ky_r9 {K : Nat → Nat} {V : Nat → Int} {s : Nat × Nat} : ky_run K V (ky_sh 9) s = ky_mu K 4 (ky_mu K 3 s) := by
  show ky_run K V [105, 59] s = _
  simp only [ky_run_c, ky_run_n, ky_p1, ky_p2, ky_p3]
/-- the end of a tell without a name -/
theorem kq_end2 {b N o sd nc : Nat} {K P : Nat → Nat} {V : Nat → Int} {d : q_Dt} {s F : Nat × Nat} {M : q_Nm} (h : kq_P b N K P V d s F M) (hN : qk_tok K P V N) (hs : ky_ok K N s) (ho : 11 ≤ o ∧ o ≤ 36) (hsd : sd < 2) (h19 : d.1 b 19 = wI sd) (hc : d.1 (b + o) sd = wI nc) : ∃ e, q_b1 (X12_must (A2 b) d b 4) (fun dt => if (dt.1 b 13) = 0 then (if (dt.1 b 19) < 0 ∨ 2 ≤ Int32.toNatClampNeg (dt.1 b 19) then none else (if (dt.1 b 19) < 0 ∨ 2 ≤ Int32.toNatClampNeg (dt.1 b 19) then none else (q_o (q_pI dt (b + o) (Int32.toNatClampNeg (dt.1 b 19)) ((dt.1 (b + o) (Int32.toNatClampNeg (dt.1 b 19))) + 1)) (fun dt => some dt)))) else (some dt)) = some e ∧ kq_P b N K P V e (ky_mu K 4 s) F M ∧ ((ky_mu K 4 s).2 = 0 → e.1 (b + o) sd = wI (nc + 1 : Nat)) ∧ kv_G b o o sd d e := by
  obtain ⟨d1, r1, r2, r3⟩ := kq_must4 h hN hs
  have hs2 := (ky_mu_b hN hs (k := 4) (by omega)).1
  have hs22 := hs2.2
  rw [r1]
  simp only [b1s]
  rw [r2.2.1.2.1]
  have e13 : (wI ((ky_mu K 4 s).2 : Int) = 0) = ((ky_mu K 4 s).2 = 0) := by
    rw [show (0 : Int32) = wI (0 : Nat) from rfl, wI_eq (by omega) (by omega) (by omega) (by omega)]
    exact propext ⟨fun q => by omega, fun q => by omega⟩
  simp only [e13]
  by_cases g : (ky_mu K 4 s).2 = 0
  · have g19 : d1.1 b 19 = wI sd := by rw [r3.2.1 19 (by omega) (by omega) (by omega) (by omega) (by omega) (by omega)]; exact h19
    have gc : d1.1 (b + o) sd = wI nc := by rw [r3.1 (b + o) (by omega)]; exact hc
    rw [if_pos g, g19, if_neg (kz_ixn hsd (by omega)), if_neg (kz_ixn hsd (by omega)), kz_nat (by omega), gc, show wI (nc : Int) + 1 = wI (nc + 1 : Nat) from wI_add nc 1]
    simp only [o1s]
    exact ⟨_, rfl, kq_P_I r2 ho.1, fun _ => q_pI_s, kv_G_t (kv_G_z r3 ho.1) (kv_G_I (Nat.le_refl _) (Nat.le_refl _) ho.1)⟩
  · rw [if_neg g]
    exact ⟨d1, rfl, r2, fun q => absurd q g, kv_G_z r3 ho.1⟩
set_option maxHeartbeats 16000000 in
theorem k_techo {b sd N a : Nat} {K P : Nat → Nat} {V : Nat → Int} {d : q_Dt} {F : Nat × Nat} {M : q_Nm} {T : q_Tl} (hV : V a = (6 : Nat)) (h : kq_P b N K P V d (ky_go (a, 0)) F M) (hN : qk_tok K P V N) (ha : a ≤ N) (hK : K a = 6) (hM : kn_wf M) (hr : kn_r M T) (hW : kq_W b sd d T) (hns : Tns T ≤ 6) (hc : Tne T < 6) (hS : F.1 = 0 → kq_S b sd d T) : ∃ e, X12_tellEcho (A2 b) d b = some e ∧ kq_R b sd N K P V d e (ky_run K V (ky_sh 6) (ky_go (a, 0))) (kz_F K P V M T a F) (kz_M V M T a) (kz_T K V M T a) := by
  have hN4 := hN.1
  have hg0 : ky_ok K N (a, 0) := ⟨ha, by show (0 : Nat) ≤ 2; omega⟩
  have hs := (ky_go_b hN hg0 (fun _ => by show 2 ≤ K a; omega)).1
  obtain ⟨s, hse⟩ : ∃ s, s = ky_go (a, 0) := ⟨_, rfl⟩
  rw [ky_r6, ← hse]
  rw [← hse] at h hs
  obtain ⟨s1, e1⟩ : ∃ x, x = ky_mu K 2 s := ⟨_, rfl⟩
  obtain ⟨s2, e2⟩ : ∃ x, x = ky_mu K 3 s1 := ⟨_, rfl⟩
  obtain ⟨s3, e3⟩ : ∃ x, x = ky_op K s2 := ⟨_, rfl⟩
  obtain ⟨s4, e4⟩ : ∃ x, x = ky_mu K 3 s3 := ⟨_, rfl⟩
  rw [← e1, ← e2, ← e3, ← e4]
  have hs1 := (ky_mu_b hN hs (k := 2) (by omega)).1; rw [← e1] at hs1
  have hs2 := (ky_mu_b hN hs1 (k := 3) (by omega)).1; rw [← e2] at hs2
  have hs3 := (ky_op_b hN hs2).1; rw [← e3] at hs3
  have hs4 := (ky_mu_b hN hs3 (k := 3) (by omega)).1; rw [← e4] at hs4
  obtain ⟨hsd, h19, hcn, hl⟩ := hW
  have hV3 := kz_w hV
  obtain ⟨i, hi⟩ : ∃ i, i = 6 * sd + Tne T := ⟨_, rfl⟩
  have hi12 : i < 12 := by omega
  have hid : i / 6 = sd := by omega
  have hin := kz_ixn hi12 (by omega)
  have him := kz_ixm hi12 (by omega)
  have hinat := kz_nat (n := i) (by omega)
  have hpos : (ky_mu K 4 s4).2 = 0 → (s.1 = a + 1 ∧ s1.2 = 0) ∧ (s1.1 = a + 2 ∧ s1.2 = 0 ∧ K s1.1 = 3) ∧ (s2.1 = a + 3 ∧ s2.2 = 0) ∧ (s3.1 = a + 3 + kz_e K a ∧ s3.2 = 0 ∧ K s3.1 = 3) ∧ (K (a + 3) = 5 ↔ (s2.2 = 0 ∧ K s2.1 = 5)) := by
    intro q
    have q4 := ky_mu_s q
    have t4 := ky_mu_s (by have x := q4.1; rw [e4] at x; exact x)
    have q2 : s2.2 = 0 := by
      by_cases g : s2.2 = 0
      · exact g
      · have : ky_op K s2 = s2 := if_neg (fun x => g x.1)
        rw [← e3] at this
        rw [this] at t4
        exact t4.1
    have t2 := ky_mu_s (by rw [e2] at q2; exact q2)
    have g := ky_g1 hse (by have x := t2.1; rw [e1] at x; exact x)
    rw [← e1] at g
    have p2 : s2.1 = a + 3 := by rw [e2, t2.2.2.1, g.2.2]
    have p3 : s3.1 = a + 3 + kz_e K a := by
      rw [e3]
      unfold ky_op kz_e
      by_cases g5 : K (a + 3) = 5
      · have g6 : s2.2 = 0 ∧ K s2.1 = 5 := ⟨q2, by rw [p2]; exact g5⟩
        rw [if_pos g6, if_pos g5]
        have t3 := t4.1
        rw [e3] at t3
        unfold ky_op at t3
        rw [if_pos g6] at t3
        rw [(ky_go_s t3).2.1, p2]
      · rw [if_neg (fun x => g5 (by rw [← p2]; exact x.2)), if_neg g5, p2]
    exact ⟨⟨g.1, t2.1⟩, ⟨g.2.2, t2.1, t2.2.1⟩, ⟨p2, q2⟩, ⟨p3, t4.1, t4.2.1⟩, ⟨fun x => ⟨q2, by rw [p2]; exact x⟩, fun x => by rw [← p2]; exact x.2⟩⟩
  obtain ⟨d2, p1, p2, p3⟩ := kq_known h hN hs hM (so := 2) (by omega)
  rw [← e1] at p2
  have p1' : X12_known (A2 b) d b 2 = some (wI (ky_oi (ky_kn K V M 2 s)), d2) := p1
  obtain ⟨o, ho⟩ : ∃ o, o = ky_kn K V M 2 s := ⟨_, rfl⟩
  rw [← ho] at p1'
  obtain ⟨F2, hF2⟩ : ∃ x, x = ky_k1 K P V M 2 s F := ⟨_, rfl⟩
  rw [← hF2] at p2
  have hG2 : (ky_mu K 4 s4).2 = 0 → F2 = kz_un P V M 2 F (a + 1) ∧ o = kn_fd M (V (a + 1)) 2 M.1 0 := by
    intro q
    obtain ⟨g1, g2, -⟩ := hpos q
    have k1 := ky_kn_s (P := P) (V := V) (M := M) (so := 2) (s := s) (F := F) (by rw [← e1]; exact g1.2)
    rw [hF2, ho, k1.1, k1.2, g1.1]
    exact ⟨rfl, rfl⟩
  have hoc : ∀ c, o = some c → c < Tns T := fun c hc => by rw [ho] at hc; exact kn_r_fd2 hr (ky_kn_c hc).1
  obtain ⟨d3, hd3⟩ : ∃ z, z = q_pI d2 (b + 26) i (wI (ky_oi o)) := ⟨_, rfl⟩
  have hP3 : kq_P b N K P V d3 s1 F2 M := by rw [hd3]; exact kq_P_I p2 (by omega)
  obtain ⟨lt, d4, F3, q1, q2, q3, q4, q5, q6⟩ := kq_bounded hP3 hN hs1 (lo := 1) (hi := 99) (by omega) (by omega)
  rw [← e2] at q2
  have q1' : X12_bounded (A2 b) d3 b 1 99 = some (wI lt, d4) := q1
  obtain ⟨d5, hd5⟩ : ∃ z, z = q_pI d4 (b + 27) i (wI lt) := ⟨_, rfl⟩
  have hP5 : kq_P b N K P V d5 s2 F3 M := by rw [hd5]; exact kq_P_I q2 (by omega)
  have f5 : kv_G b 25 28 i d d5 ∧ d5.1 (b + 25) = d.1 (b + 25) := by
    rw [hd5]
    rw [hd3] at q3
    refine ⟨kv_G_t (kv_G_t (kv_G_t (kv_G_z p3 (by omega)) (kv_G_I (by omega) (by omega) (by omega))) (kv_G_z q3 (by omega))) (kv_G_I (by omega) (by omega) (by omega)), ?_⟩
    rw [q_pI_o (by omega), q3.1 _ (by omega), q_pI_o (by omega), p3.1 _ (by omega)]
  have g5 : d5.1 (b + 26) i = wI (ky_oi o) ∧ d5.1 (b + 27) i = wI lt := by
    rw [hd5]
    exact ⟨by rw [q_pI_o (by omega), q3.1 _ (by omega), hd3, q_pI_s], q_pI_s⟩
  have hG3 : (ky_mu K 4 s4).2 = 0 → F3 = kz_nu P V 1 99 (kz_un P V M 2 F (a + 1)) (a + 2) ∧ lt = V (a + 2) := by
    intro q
    obtain ⟨g1, g2, -⟩ := hpos q
    have x1 := q5 g2.2
    rw [g2.1, (hG2 q).1] at x1
    exact ⟨x1.2, x1.1⟩
  -- the amplitude and the end
  have hmain : ∀ (e0 : q_Dt) (bl : Int32), kq_P b N K P V e0 s3 F3 M → ky_fz b d5 e0 → ((ky_mu K 4 s4).2 = 0 → (bl = 0 ↔ ¬ K (a + 3) = 5)) → ∃ e, X12_tellEcho_b71 (A2 b) b (wI i) bl e0 = some e ∧ kq_R b sd N K P V d e (ky_mu K 4 s4) (kz_F K P V M T a F) (kz_M V M T a) (kz_T K V M T a) := by
    intro e0 bl he fe hbl
    obtain ⟨v, d6, F4, u1, u2, u3, u4, u5, u6⟩ := kq_bounded he hN hs3 (lo := 1) (hi := 99) (by omega) (by omega)
    rw [← e4] at u2
    have u1' : X12_bounded (A2 b) e0 b 1 99 = some (wI v, d6) := u1
    have hfin : ∀ z : Int, ((ky_mu K 4 s4).2 = 0 → z = if K (a + 3) = 5 then -v else v) → ∃ e, X12_tellEcho_b94 (A2 b) b (b + 28) (wI i) (wI z) d6 = some e ∧ kq_R b sd N K P V d e (ky_mu K 4 s4) (kz_F K P V M T a F) (kz_M V M T a) (kz_T K V M T a) := by
      intro z hz
      obtain ⟨d7, hd7⟩ : ∃ y, y = q_pI d6 (b + 28) i (wI z) := ⟨_, rfl⟩
      have hP7 : kq_P b N K P V d7 s4 F4 M := by rw [hd7]; exact kq_P_I u2 (by omega)
      have f7 : kv_G b 25 28 i d d7 := by
        rw [hd7]
        exact kv_G_t (kv_G_t (kv_G_t f5.1 (kv_G_z fe (by omega))) (kv_G_z u3 (by omega))) (kv_G_I (by omega) (by omega) (by omega))
      have g25 : d7.1 (b + 25) = d.1 (b + 25) := by
        rw [hd7, q_pI_o (by omega), u3.1 _ (by omega), fe.1 _ (by omega)]; exact f5.2
      have g19 : d7.1 b 19 = wI sd := by rw [f7.2.1 19 (by omega) (by omega) (by omega) (by omega) (by omega) (by omega)]; exact h19
      obtain ⟨e, z1, z2, z3, z4⟩ := kq_end2 (o := 25) hP7 hN hs4 (by omega) hsd g19 (by rw [g25]; exact hcn.2.2.2.1)
      have fr2 : kq_fr b sd d7 e := kv_G_fr z4 (fun o o1 o2 => by rw [show o = 25 by omega]; exact Nat.div_one sd) (by omega) (by omega)
      have fr1 : kq_fr b sd d d7 := by
        refine ⟨fun x h1 h2 => f7.1 x h1 (by omega), fun j h1 h2 h3 h4 h5 _ h7 => f7.2.1 j h1 h2 h3 h4 h5 h7, fun x _ => by rw [f7.2.2.1], by rw [f7.2.2.1], fun o o1 o2 j hj => ?_⟩
        by_cases g : o = 25
        · rw [g, g25]
        · by_cases g2 : 26 ≤ o ∧ o ≤ 28
          · have h6 : kq_w o = 6 := by
              have h9 : o = 26 ∨ o = 27 ∨ o = 28 := by omega
              rcases h9 with rfl | rfl | rfl <;> rfl
            rw [h6] at hj
            exact f7.2.2.2 o (by omega) (by omega) j (fun q => hj (by rw [q]; exact hid))
          · rw [f7.1 (b + o) (by omega) (by omega)]
      have fo : ∀ o, 11 ≤ o → o ≤ 36 → (o < 25 ∨ 29 ≤ o) → e.1 (b + o) = d.1 (b + o) := fun o o1 o2 o3 => by
        rw [z4.1 (b + o) (by omega) (by omega), f7.1 (b + o) (by omega) (by omega)]
      have hl2 : kq_l b e := fun j hj2 => by rw [fo 12 (by omega) (by omega) (by omega)]; exact hl j hj2
      refine ⟨e, ?_, kq_fr_t fr1 fr2, hl2, fun q => ⟨F4, z2.2.1⟩, fun q => ?_⟩
      · unfold X12_tellEcho_b94
        rw [n41, if_neg hin, hinat]
        simp only [o1s]
        rw [← hd7, m38, n38]
        exact z1
      obtain ⟨g1, g2, g3, g4, g6⟩ := hpos q
      have y1 := u5 g4.2
      rw [g4.1, (hG3 q).1] at y1
      have eT : kz_T K V M T a = kz_T6 K V M T a := by unfold kz_T; rw [hV3]; rfl
      have eM : kz_M V M T a = M := by unfold kz_M; rw [hV3]; rfl
      have eF : kz_F K P V M T a F = F4 := by
        unfold kz_F
        rw [hV3, y1.2]
        rfl
      rw [eT, eM, eF]
      unfold kz_T6
      refine ⟨z2, ⟨hsd, ?_, ⟨?_, ?_, ?_, ?_, ?_⟩, hl2⟩, fun h0 => ?_⟩
      · rw [z4.2.1 19 (by omega) (by omega) (by omega) (by omega) (by omega) (by omega)]; exact g19
      · rw [kt_echo_Tnc, fo 11 (by omega) (by omega) (by omega)]; exact hcn.1
      · rw [kt_echo_Tnh, fo 14 (by omega) (by omega) (by omega)]; exact hcn.2.1
      · rw [kt_echo_Tns, fo 18 (by omega) (by omega) (by omega)]; exact hcn.2.2.1
      · rw [kt_echo_Tne]; exact z3 q
      · rw [kt_echo_Tnj, fo 29 (by omega) (by omega) (by omega)]; exact hcn.2.2.2.2
      · rw [y1.2] at h0
        have j1 := kz_nu_0 h0
        have j2 := kz_nu_0 j1.1
        have j3 := kz_un_0 j2.1
        have j6 := (hG2 q).2
        rw [j3.2] at j6
        have hcc := hoc _ j6
        have n1 : ((kz_n V (a + 2) : Nat) : Int) = lt := by have := (hG3 q).2; unfold kz_n; omega
        have hzz := hz q
        have ez : (if K (a + 3) = 5 then - V (a + 4) else V (a + 3)) = z := by
          unfold kz_e at y1
          by_cases g : K (a + 3) = 5
          · rw [if_pos g] at hzz y1 ⊢
            have : v = V (a + 4) := y1.1
            rw [hzz, this]
          · rw [if_neg g] at hzz y1 ⊢
            have : v = V (a + 3) := y1.1
            rw [hzz, this]
        have hvb : 1 ≤ v ∧ v ≤ 99 := by rw [y1.1]; exact j1.2
        have hzb : -99 ≤ z ∧ z ≤ 99 := by
          by_cases g : K (a + 3) = 5
          · rw [if_pos g] at hzz; omega
          · rw [if_neg g] at hzz; omega
        rw [ez]
        refine S_addecho (hS j3.1) hc hcc (by omega) hzb ⟨?_, ?_, ?_⟩ (fun o o1 o2 j hj2 => ?_) (fun o o1 o2 o3 => fo o (by omega) o2 o3)
        · rw [z4.1 (b + 26) (by omega) (by omega), ← hi, hd7, q_pI_o (by omega), u3.1 _ (by omega), fe.1 _ (by omega), g5.1, j6]; rfl
        · rw [z4.1 (b + 27) (by omega) (by omega), ← hi, hd7, q_pI_o (by omega), u3.1 _ (by omega), fe.1 _ (by omega), g5.2, n1]
        · rw [z4.1 (b + 28) (by omega) (by omega), ← hi, hd7, q_pI_s]
        · rw [z4.1 (b + o) (by omega) (by omega)]
          exact f7.2.2.2 o (by omega) o2 j (by omega)
    unfold X12_tellEcho_b71
    rw [u1']
    simp only [b2s]
    rw [m41]
    by_cases g : bl = 0
    · rw [if_pos g]
      exact hfin v (fun q => by rw [if_neg ((hbl q).mp g)])
    · rw [if_neg g, wI_neg]
      exact hfin (-v) (fun q => by
        have : K (a + 3) = 5 := by
          by_cases g5 : K (a + 3) = 5
          · exact g5
          · exact absurd ((hbl q).mpr g5) g
        rw [if_pos this])
  unfold X12_tellEcho
  rw [h19, m38, n38, if_neg (kz_ixn hsd (by omega)), kz_nat (by omega), hcn.2.2.2.1, kz_ix6, ← hi]
  simp only [o1s]
  rw [p1']
  simp only [b2s]
  rw [m39, n39, m40, n40, if_neg hin, hinat, ← hd3, q1']
  simp only [b2s]
  rw [if_neg him, ← hd5, hP5.2.1.2.1]
  have hs22 := hs2.2
  have e13 : (wI (s2.2 : Int) = 0) = (s2.2 = 0) := by
    rw [show (0 : Int32) = wI (0 : Nat) from rfl, wI_eq (by omega) (by omega) (by omega) (by omega)]
    exact propext ⟨fun q => by omega, fun q => by omega⟩
  simp only [e13]
  unfold X12_tellEcho_b61 X12_tellEcho_b62
  rw [if_pos rfl, if_neg kq_10]
  by_cases g0 : s2.2 = 0
  · have hmk := (qk_mk_t hN s2.1).2.2.2.1
    rw [if_pos g0, show (5 : Int32) = wI (5 : Nat) from rfl, k_is hP5.1 hN hP5.2.1 hs2 (by omega)]
    simp only [b1s]
    by_cases gd : K s2.1 = 5
    · have e3' : s3 = ky_go s2 := by rw [e3]; exact if_pos ⟨g0, gd⟩
      rw [if_pos (show s2.2 = 0 ∧ qk_mk (K s2.1) (V s2.1) = ((5 : Nat) : Int) from ⟨g0, hmk.mpr gd⟩), if_neg (show ¬ wI ((1 : Nat) : Int) = 0 by decide)]
      obtain ⟨d13, y1, y2, y3, y4⟩ := k_goes hP5.1 hN hP5.2.1 hs2 g0
      have hFOg : ky_FO P (ky_go s2) F3 := by
        refine ⟨hP5.2.2.1.1, fun z1 z2 => ?_⟩
        have z3 := ky_go_s z1
        rw [z3.2.1]
        have z4 := hP5.2.2.1.2 g0 z2
        have z5 := ky_ltN hN hs2.1 (by omega) z3.2.2
        have z6 := hN.2.2.2.2.1 _ z5
        show F3.2 < P (s2.1 + 1)
        omega
      have hP13 := kq_P_z hP5 y3 y2 hFOg
      rw [← e3'] at hP13
      rw [y1]
      simp only [b1s]
      exact hmain d13 1 hP13 y3 (fun q => ⟨fun x => absurd x kq_10, fun x => absurd ((hpos q).2.2.2.2.mpr ⟨g0, gd⟩) x⟩)
    · have e3' : s3 = s2 := by rw [e3]; exact if_neg (fun x => gd x.2)
      rw [if_neg (show ¬ (s2.2 = 0 ∧ qk_mk (K s2.1) (V s2.1) = ((5 : Nat) : Int)) from fun x => gd (hmk.mp x.2)), if_pos (show wI ((0 : Nat) : Int) = 0 from rfl)]
      have hP5' := hP5
      rw [← e3'] at hP5'
      exact hmain d5 0 hP5' ky_fz_r (fun q => ⟨fun _ x => gd ((hpos q).2.2.2.2.mp x).2, fun _ => rfl⟩)
  · rw [if_neg g0]
    have e3' : s3 = s2 := by rw [e3]; exact if_neg (fun x => g0 x.1)
    have hP5' := hP5
    rw [← e3'] at hP5'
    exact hmain d5 0 hP5' ky_fz_r (fun q => absurd (hpos q).2.2.1.2 g0)
