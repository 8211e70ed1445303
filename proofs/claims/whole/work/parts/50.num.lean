/-! level two: numbers -/
def wI (z : Int) : Int32 := Int32.ofInt z
def wJ (z : Int) : Int64 := Int64.ofInt z
theorem wI_add (a b : Int) : wI a + wI b = wI (a + b) := (Int32.ofInt_add a b).symm
theorem wI_sub (a b : Int) : wI a - wI b = wI (a - b) := (Int32.ofInt_sub a b).symm
theorem wI_mul (a b : Int) : wI a * wI b = wI (a * b) := (Int32.ofInt_mul a b).symm
theorem wI_neg (a : Int) : - wI a = wI (-a) := Int32.neg_ofInt
theorem wJ_add (a b : Int) : wJ a + wJ b = wJ (a + b) := (Int64.ofInt_add a b).symm
theorem wJ_sub (a b : Int) : wJ a - wJ b = wJ (a - b) := (Int64.ofInt_sub a b).symm
theorem wJ_mul (a b : Int) : wJ a * wJ b = wJ (a * b) := (Int64.ofInt_mul a b).symm
theorem wJ_neg (a : Int) : - wJ a = wJ (-a) := Int64.neg_ofInt
theorem wI_toInt {z : Int} (h1 : -2147483648 ≤ z) (h2 : z < 2147483648) : (wI z).toInt = z := Int32.toInt_ofInt_of_le (by omega) (by omega)
theorem wJ_toInt {z : Int} (h1 : -9223372036854775808 ≤ z) (h2 : z < 9223372036854775808) : (wJ z).toInt = z := Int64.toInt_ofInt_of_le (by omega) (by omega)
theorem wI_le {a b : Int} (h1 : -2147483648 ≤ a) (h2 : a < 2147483648) (h3 : -2147483648 ≤ b) (h4 : b < 2147483648) : (wI a ≤ wI b) = (a ≤ b) := by
  rw [Int32.le_iff_toInt_le, wI_toInt h1 h2, wI_toInt h3 h4]
theorem wI_lt {a b : Int} (h1 : -2147483648 ≤ a) (h2 : a < 2147483648) (h3 : -2147483648 ≤ b) (h4 : b < 2147483648) : (wI a < wI b) = (a < b) := by
  rw [Int32.lt_iff_toInt_lt, wI_toInt h1 h2, wI_toInt h3 h4]
theorem wI_eq {a b : Int} (h1 : -2147483648 ≤ a) (h2 : a < 2147483648) (h3 : -2147483648 ≤ b) (h4 : b < 2147483648) : (wI a = wI b) = (a = b) := by
  rw [← Int32.toInt_inj, wI_toInt h1 h2, wI_toInt h3 h4]
theorem wJ_le {a b : Int} (h1 : -9223372036854775808 ≤ a) (h2 : a < 9223372036854775808) (h3 : -9223372036854775808 ≤ b) (h4 : b < 9223372036854775808) : (wJ a ≤ wJ b) = (a ≤ b) := by
  rw [Int64.le_iff_toInt_le, wJ_toInt h1 h2, wJ_toInt h3 h4]
theorem wJ_lt {a b : Int} (h1 : -9223372036854775808 ≤ a) (h2 : a < 9223372036854775808) (h3 : -9223372036854775808 ≤ b) (h4 : b < 9223372036854775808) : (wJ a < wJ b) = (a < b) := by
  rw [Int64.lt_iff_toInt_lt, wJ_toInt h1 h2, wJ_toInt h3 h4]
theorem wJ_eq {a b : Int} (h1 : -9223372036854775808 ≤ a) (h2 : a < 9223372036854775808) (h3 : -9223372036854775808 ≤ b) (h4 : b < 9223372036854775808) : (wJ a = wJ b) = (a = b) := by
  rw [← Int64.toInt_inj, wJ_toInt h1 h2, wJ_toInt h3 h4]
theorem wI_nat {z : Int} (h1 : -2147483648 ≤ z) (h2 : z < 2147483648) : Int32.toNatClampNeg (wI z) = z.toNat := Int32.toNatClampNeg_ofInt_of_le (by omega) (by omega)
theorem wI_wJ {z : Int} (h1 : -2147483648 ≤ z) (h2 : z < 2147483648) : Int32.toInt64 (wI z) = wJ z := by
  rw [← Int64.toInt_inj, Int32.toInt_toInt64, wI_toInt h1 h2, wJ_toInt (by omega) (by omega)]
theorem wJ_wI (z : Int) : Int64.toInt32 (wJ z) = wI z := Int64.toInt32_ofInt
theorem wI_of (x : Int32) : x = wI x.toInt := (Int32.ofInt_toInt x).symm
theorem wJ_of (x : Int64) : x = wJ x.toInt := (Int64.ofInt_toInt x).symm
theorem wI_ofNat (n : Nat) : Int32.ofNat n = wI n := Int32.ofInt_eq_ofNat.symm
theorem wI_lit (n : Nat) : (no_index (OfNat.ofNat n) : Int32) = wI (OfNat.ofNat n : Nat) := Int32.ofInt_eq_ofNat.symm
theorem wJ_lit (n : Nat) : (no_index (OfNat.ofNat n) : Int64) = wJ (OfNat.ofNat n : Nat) := Int64.ofInt_eq_ofNat.symm
/-- one loop: the body carries on from `a` to `f i a` while the counter is below `L`, and answers `g a` at its end -/
def q_fold {α : Type} (f : Nat → α → α) : Nat → Nat → α → α
  | 0, _, a => a
  | c + 1, i, a => q_fold f c (i + 1) (f i a)
theorem q_fold_last {α : Type} (f : Nat → α → α) (c i : Nat) (a : α) : q_fold f (c + 1) i a = f (i + c) (q_fold f c i a) := by
  induction c generalizing i a with
  | zero => rfl
  | succ c ih =>
    show q_fold f (c + 1) (i + 1) (f i a) = _
    rw [ih (i + 1) (f i a), show i + 1 + c = i + (c + 1) by omega]
    rfl
theorem q_loop {α β : Type} {b : Nat → Nat → α → Option β} {L : Nat} {f : Nat → α → α} {g : α → Option β} {I : Nat → α → Prop}
    (he : ∀ n a, I L a → b (n + 1) L a = g a) (hs : ∀ n i a, i < L → I i a → I (i + 1) (f i a) ∧ b (n + 1) i a = b n (i + 1) (f i a)) :
    ∀ c i a n, i + c = L → c < n → I i a → I L (q_fold f c i a) ∧ b n i a = g (q_fold f c i a) := by
  intro c
  induction c with
  | zero =>
    intro i a n h1 h2 h3
    obtain ⟨n, rfl⟩ : ∃ m, n = m + 1 := ⟨n - 1, by omega⟩
    have e : i = L := by omega
    subst e
    exact ⟨h3, he n a h3⟩
  | succ c ih =>
    intro i a n h1 h2 h3
    obtain ⟨n, rfl⟩ : ∃ m, n = m + 1 := ⟨n - 1, by omega⟩
    have h4 := hs n i a (by omega) h3
    have h5 := ih (i + 1) (f i a) n (by omega) (by omega) h4.1
    exact ⟨h5.1, h4.2.trans h5.2⟩
