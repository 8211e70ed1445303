/-! level two: what is told, one more -/
def kt_code (T : q_Tl) (len : Nat) (ch : Nat → Int) : q_Tl := (fun x j => if x = 0 ∧ j = 0 then Tnc T + 1 else if x = 1 ∧ j = Tnc T then len else T.1 x j, fun c i => if c = Tnc T then ch i else T.2.1 c i, T.2.2)
theorem kt_code_Tnc {T : q_Tl} {len : Nat} {ch : Nat → Int} : Tnc (kt_code T len ch) = Tnc T + 1 := by simp [Tnc, kt_code]
theorem kt_code_Tnh {T : q_Tl} {len : Nat} {ch : Nat → Int} : Tnh (kt_code T len ch) = Tnh T := by simp [Tnh, kt_code]
theorem kt_code_Tns {T : q_Tl} {len : Nat} {ch : Nat → Int} : Tns (kt_code T len ch) = Tns T := by simp [Tns, kt_code]
theorem kt_code_Tne {T : q_Tl} {len : Nat} {ch : Nat → Int} : Tne (kt_code T len ch) = Tne T := by simp [Tne, kt_code]
theorem kt_code_Tnj {T : q_Tl} {len : Nat} {ch : Nat → Int} : Tnj (kt_code T len ch) = Tnj T := by simp [Tnj, kt_code]
theorem kt_code_TN {T : q_Tl} {len : Nat} {ch : Nat → Int} : TN (kt_code T len ch) = TN T := by simp [TN, kt_code]
theorem kt_code_Tnm {T : q_Tl} {len : Nat} {ch : Nat → Int} : Tnm (kt_code T len ch) = Tnm T := by simp [Tnm, kt_code]
theorem kt_code_Tnd {T : q_Tl} {len : Nat} {ch : Nat → Int} : Tnd (kt_code T len ch) = Tnd T := by simp [Tnd, kt_code]
theorem kt_code_Tlen {T : q_Tl} {len : Nat} {ch : Nat → Int} (q : Nat) : Tlen (kt_code T len ch) q = if q = Tnc T then len else Tlen T q := by simp [Tlen, kt_code]
theorem kt_code_Thp {T : q_Tl} {len : Nat} {ch : Nat → Int} : Thp (kt_code T len ch) = Thp T := by funext q; simp [Thp, kt_code]
theorem kt_code_Tha {T : q_Tl} {len : Nat} {ch : Nat → Int} : Tha (kt_code T len ch) = Tha T := by funext q; simp [Tha, kt_code]
theorem kt_code_Thb {T : q_Tl} {len : Nat} {ch : Nat → Int} : Thb (kt_code T len ch) = Thb T := by funext q; simp [Thb, kt_code]
theorem kt_code_Tsc {T : q_Tl} {len : Nat} {ch : Nat → Int} : Tsc (kt_code T len ch) = Tsc T := by funext q; simp [Tsc, kt_code]
theorem kt_code_Tsa {T : q_Tl} {len : Nat} {ch : Nat → Int} : Tsa (kt_code T len ch) = Tsa T := by funext q; simp [Tsa, kt_code]
theorem kt_code_Tsd {T : q_Tl} {len : Nat} {ch : Nat → Int} : Tsd (kt_code T len ch) = Tsd T := by funext q; simp [Tsd, kt_code]
theorem kt_code_Tst {T : q_Tl} {len : Nat} {ch : Nat → Int} : Tst (kt_code T len ch) = Tst T := by funext q; simp [Tst, kt_code]
theorem kt_code_Tsx {T : q_Tl} {len : Nat} {ch : Nat → Int} : Tsx (kt_code T len ch) = Tsx T := by funext q; simp [Tsx, kt_code]
theorem kt_code_Tsf {T : q_Tl} {len : Nat} {ch : Nat → Int} : Tsf (kt_code T len ch) = Tsf T := by funext q; simp [Tsf, kt_code]
theorem kt_code_Teo {T : q_Tl} {len : Nat} {ch : Nat → Int} : Teo (kt_code T len ch) = Teo T := by funext q; simp [Teo, kt_code]
theorem kt_code_Tel {T : q_Tl} {len : Nat} {ch : Nat → Int} : Tel (kt_code T len ch) = Tel T := by funext q; simp [Tel, kt_code]
theorem kt_code_Tjf {T : q_Tl} {len : Nat} {ch : Nat → Int} : Tjf (kt_code T len ch) = Tjf T := by funext q; simp [Tjf, kt_code]
theorem kt_code_Tjt {T : q_Tl} {len : Nat} {ch : Nat → Int} : Tjt (kt_code T len ch) = Tjt T := by funext q; simp [Tjt, kt_code]
theorem kt_code_Tja {T : q_Tl} {len : Nat} {ch : Nat → Int} : Tja (kt_code T len ch) = Tja T := by funext q; simp [Tja, kt_code]
theorem kt_code_Tje {T : q_Tl} {len : Nat} {ch : Nat → Int} : Tje (kt_code T len ch) = Tje T := by funext q; simp [Tje, kt_code]
theorem kt_code_Tch {T : q_Tl} {len : Nat} {ch : Nat → Int} (q : Nat) : Tch (kt_code T len ch) q = if q = Tnc T then ch else Tch T q := by funext i; by_cases h : q = Tnc T <;> simp [Tch, kt_code, h]
theorem kt_code_Tea {T : q_Tl} {len : Nat} {ch : Nat → Int} : Tea (kt_code T len ch) = Tea T := rfl
def kt_hop (T : q_Tl) (p a c : Nat) : q_Tl := (fun x j => if x = 0 ∧ j = 1 then Tnh T + 1 else if x = 2 ∧ j = Tnh T then p else if x = 3 ∧ j = Tnh T then a else if x = 4 ∧ j = Tnh T then c else T.1 x j, T.2.1, T.2.2)
theorem kt_hop_Tnc {T : q_Tl} {p a c : Nat} : Tnc (kt_hop T p a c) = Tnc T := by simp [Tnc, kt_hop]
theorem kt_hop_Tnh {T : q_Tl} {p a c : Nat} : Tnh (kt_hop T p a c) = Tnh T + 1 := by simp [Tnh, kt_hop]
theorem kt_hop_Tns {T : q_Tl} {p a c : Nat} : Tns (kt_hop T p a c) = Tns T := by simp [Tns, kt_hop]
theorem kt_hop_Tne {T : q_Tl} {p a c : Nat} : Tne (kt_hop T p a c) = Tne T := by simp [Tne, kt_hop]
theorem kt_hop_Tnj {T : q_Tl} {p a c : Nat} : Tnj (kt_hop T p a c) = Tnj T := by simp [Tnj, kt_hop]
theorem kt_hop_TN {T : q_Tl} {p a c : Nat} : TN (kt_hop T p a c) = TN T := by simp [TN, kt_hop]
theorem kt_hop_Tnm {T : q_Tl} {p a c : Nat} : Tnm (kt_hop T p a c) = Tnm T := by simp [Tnm, kt_hop]
theorem kt_hop_Tnd {T : q_Tl} {p a c : Nat} : Tnd (kt_hop T p a c) = Tnd T := by simp [Tnd, kt_hop]
theorem kt_hop_Tlen {T : q_Tl} {p a c : Nat} : Tlen (kt_hop T p a c) = Tlen T := by funext q; simp [Tlen, kt_hop]
theorem kt_hop_Thp {T : q_Tl} {p a c : Nat} (q : Nat) : Thp (kt_hop T p a c) q = if q = Tnh T then p else Thp T q := by simp [Thp, kt_hop]
theorem kt_hop_Tha {T : q_Tl} {p a c : Nat} (q : Nat) : Tha (kt_hop T p a c) q = if q = Tnh T then a else Tha T q := by simp [Tha, kt_hop]
theorem kt_hop_Thb {T : q_Tl} {p a c : Nat} (q : Nat) : Thb (kt_hop T p a c) q = if q = Tnh T then c else Thb T q := by simp [Thb, kt_hop]
theorem kt_hop_Tsc {T : q_Tl} {p a c : Nat} : Tsc (kt_hop T p a c) = Tsc T := by funext q; simp [Tsc, kt_hop]
theorem kt_hop_Tsa {T : q_Tl} {p a c : Nat} : Tsa (kt_hop T p a c) = Tsa T := by funext q; simp [Tsa, kt_hop]
theorem kt_hop_Tsd {T : q_Tl} {p a c : Nat} : Tsd (kt_hop T p a c) = Tsd T := by funext q; simp [Tsd, kt_hop]
theorem kt_hop_Tst {T : q_Tl} {p a c : Nat} : Tst (kt_hop T p a c) = Tst T := by funext q; simp [Tst, kt_hop]
theorem kt_hop_Tsx {T : q_Tl} {p a c : Nat} : Tsx (kt_hop T p a c) = Tsx T := by funext q; simp [Tsx, kt_hop]
theorem kt_hop_Tsf {T : q_Tl} {p a c : Nat} : Tsf (kt_hop T p a c) = Tsf T := by funext q; simp [Tsf, kt_hop]
theorem kt_hop_Teo {T : q_Tl} {p a c : Nat} : Teo (kt_hop T p a c) = Teo T := by funext q; simp [Teo, kt_hop]
theorem kt_hop_Tel {T : q_Tl} {p a c : Nat} : Tel (kt_hop T p a c) = Tel T := by funext q; simp [Tel, kt_hop]
theorem kt_hop_Tjf {T : q_Tl} {p a c : Nat} : Tjf (kt_hop T p a c) = Tjf T := by funext q; simp [Tjf, kt_hop]
theorem kt_hop_Tjt {T : q_Tl} {p a c : Nat} : Tjt (kt_hop T p a c) = Tjt T := by funext q; simp [Tjt, kt_hop]
theorem kt_hop_Tja {T : q_Tl} {p a c : Nat} : Tja (kt_hop T p a c) = Tja T := by funext q; simp [Tja, kt_hop]
theorem kt_hop_Tje {T : q_Tl} {p a c : Nat} : Tje (kt_hop T p a c) = Tje T := by funext q; simp [Tje, kt_hop]
theorem kt_hop_Tch {T : q_Tl} {p a c : Nat} : Tch (kt_hop T p a c) = Tch T := rfl
theorem kt_hop_Tea {T : q_Tl} {p a c : Nat} : Tea (kt_hop T p a c) = Tea T := rfl
def kt_send (T : q_Tl) (c am dl tn dt df : Nat) : q_Tl := (fun x j => if x = 0 ∧ j = 2 then Tns T + 1 else if x = 5 ∧ j = Tns T then c else if x = 6 ∧ j = Tns T then am else if x = 7 ∧ j = Tns T then dl else if x = 8 ∧ j = Tns T then tn else if x = 9 ∧ j = Tns T then dt else if x = 10 ∧ j = Tns T then df else T.1 x j, T.2.1, T.2.2)
theorem kt_send_Tnc {T : q_Tl} {c am dl tn dt df : Nat} : Tnc (kt_send T c am dl tn dt df) = Tnc T := by simp [Tnc, kt_send]
theorem kt_send_Tnh {T : q_Tl} {c am dl tn dt df : Nat} : Tnh (kt_send T c am dl tn dt df) = Tnh T := by simp [Tnh, kt_send]
theorem kt_send_Tns {T : q_Tl} {c am dl tn dt df : Nat} : Tns (kt_send T c am dl tn dt df) = Tns T + 1 := by simp [Tns, kt_send]
theorem kt_send_Tne {T : q_Tl} {c am dl tn dt df : Nat} : Tne (kt_send T c am dl tn dt df) = Tne T := by simp [Tne, kt_send]
theorem kt_send_Tnj {T : q_Tl} {c am dl tn dt df : Nat} : Tnj (kt_send T c am dl tn dt df) = Tnj T := by simp [Tnj, kt_send]
theorem kt_send_TN {T : q_Tl} {c am dl tn dt df : Nat} : TN (kt_send T c am dl tn dt df) = TN T := by simp [TN, kt_send]
theorem kt_send_Tnm {T : q_Tl} {c am dl tn dt df : Nat} : Tnm (kt_send T c am dl tn dt df) = Tnm T := by simp [Tnm, kt_send]
theorem kt_send_Tnd {T : q_Tl} {c am dl tn dt df : Nat} : Tnd (kt_send T c am dl tn dt df) = Tnd T := by simp [Tnd, kt_send]
theorem kt_send_Tlen {T : q_Tl} {c am dl tn dt df : Nat} : Tlen (kt_send T c am dl tn dt df) = Tlen T := by funext q; simp [Tlen, kt_send]
theorem kt_send_Thp {T : q_Tl} {c am dl tn dt df : Nat} : Thp (kt_send T c am dl tn dt df) = Thp T := by funext q; simp [Thp, kt_send]
theorem kt_send_Tha {T : q_Tl} {c am dl tn dt df : Nat} : Tha (kt_send T c am dl tn dt df) = Tha T := by funext q; simp [Tha, kt_send]
theorem kt_send_Thb {T : q_Tl} {c am dl tn dt df : Nat} : Thb (kt_send T c am dl tn dt df) = Thb T := by funext q; simp [Thb, kt_send]
theorem kt_send_Tsc {T : q_Tl} {c am dl tn dt df : Nat} (q : Nat) : Tsc (kt_send T c am dl tn dt df) q = if q = Tns T then c else Tsc T q := by simp [Tsc, kt_send]
theorem kt_send_Tsa {T : q_Tl} {c am dl tn dt df : Nat} (q : Nat) : Tsa (kt_send T c am dl tn dt df) q = if q = Tns T then am else Tsa T q := by simp [Tsa, kt_send]
theorem kt_send_Tsd {T : q_Tl} {c am dl tn dt df : Nat} (q : Nat) : Tsd (kt_send T c am dl tn dt df) q = if q = Tns T then dl else Tsd T q := by simp [Tsd, kt_send]
theorem kt_send_Tst {T : q_Tl} {c am dl tn dt df : Nat} (q : Nat) : Tst (kt_send T c am dl tn dt df) q = if q = Tns T then tn else Tst T q := by simp [Tst, kt_send]
theorem kt_send_Tsx {T : q_Tl} {c am dl tn dt df : Nat} (q : Nat) : Tsx (kt_send T c am dl tn dt df) q = if q = Tns T then dt else Tsx T q := by simp [Tsx, kt_send]
theorem kt_send_Tsf {T : q_Tl} {c am dl tn dt df : Nat} (q : Nat) : Tsf (kt_send T c am dl tn dt df) q = if q = Tns T then df else Tsf T q := by simp [Tsf, kt_send]
theorem kt_send_Teo {T : q_Tl} {c am dl tn dt df : Nat} : Teo (kt_send T c am dl tn dt df) = Teo T := by funext q; simp [Teo, kt_send]
theorem kt_send_Tel {T : q_Tl} {c am dl tn dt df : Nat} : Tel (kt_send T c am dl tn dt df) = Tel T := by funext q; simp [Tel, kt_send]
theorem kt_send_Tjf {T : q_Tl} {c am dl tn dt df : Nat} : Tjf (kt_send T c am dl tn dt df) = Tjf T := by funext q; simp [Tjf, kt_send]
theorem kt_send_Tjt {T : q_Tl} {c am dl tn dt df : Nat} : Tjt (kt_send T c am dl tn dt df) = Tjt T := by funext q; simp [Tjt, kt_send]
theorem kt_send_Tja {T : q_Tl} {c am dl tn dt df : Nat} : Tja (kt_send T c am dl tn dt df) = Tja T := by funext q; simp [Tja, kt_send]
theorem kt_send_Tje {T : q_Tl} {c am dl tn dt df : Nat} : Tje (kt_send T c am dl tn dt df) = Tje T := by funext q; simp [Tje, kt_send]
theorem kt_send_Tch {T : q_Tl} {c am dl tn dt df : Nat} : Tch (kt_send T c am dl tn dt df) = Tch T := rfl
theorem kt_send_Tea {T : q_Tl} {c am dl tn dt df : Nat} : Tea (kt_send T c am dl tn dt df) = Tea T := rfl
def kt_echo (T : q_Tl) (o l : Nat) (z : Int) : q_Tl := (fun x j => if x = 0 ∧ j = 3 then Tne T + 1 else if x = 11 ∧ j = Tne T then o else if x = 12 ∧ j = Tne T then l else T.1 x j, T.2.1, fun e => if e = Tne T then z else T.2.2 e)
theorem kt_echo_Tnc {T : q_Tl} {o l : Nat} {z : Int} : Tnc (kt_echo T o l z) = Tnc T := by simp [Tnc, kt_echo]
theorem kt_echo_Tnh {T : q_Tl} {o l : Nat} {z : Int} : Tnh (kt_echo T o l z) = Tnh T := by simp [Tnh, kt_echo]
theorem kt_echo_Tns {T : q_Tl} {o l : Nat} {z : Int} : Tns (kt_echo T o l z) = Tns T := by simp [Tns, kt_echo]
theorem kt_echo_Tne {T : q_Tl} {o l : Nat} {z : Int} : Tne (kt_echo T o l z) = Tne T + 1 := by simp [Tne, kt_echo]
theorem kt_echo_Tnj {T : q_Tl} {o l : Nat} {z : Int} : Tnj (kt_echo T o l z) = Tnj T := by simp [Tnj, kt_echo]
theorem kt_echo_TN {T : q_Tl} {o l : Nat} {z : Int} : TN (kt_echo T o l z) = TN T := by simp [TN, kt_echo]
theorem kt_echo_Tnm {T : q_Tl} {o l : Nat} {z : Int} : Tnm (kt_echo T o l z) = Tnm T := by simp [Tnm, kt_echo]
theorem kt_echo_Tnd {T : q_Tl} {o l : Nat} {z : Int} : Tnd (kt_echo T o l z) = Tnd T := by simp [Tnd, kt_echo]
theorem kt_echo_Tlen {T : q_Tl} {o l : Nat} {z : Int} : Tlen (kt_echo T o l z) = Tlen T := by funext q; simp [Tlen, kt_echo]
theorem kt_echo_Thp {T : q_Tl} {o l : Nat} {z : Int} : Thp (kt_echo T o l z) = Thp T := by funext q; simp [Thp, kt_echo]
theorem kt_echo_Tha {T : q_Tl} {o l : Nat} {z : Int} : Tha (kt_echo T o l z) = Tha T := by funext q; simp [Tha, kt_echo]
theorem kt_echo_Thb {T : q_Tl} {o l : Nat} {z : Int} : Thb (kt_echo T o l z) = Thb T := by funext q; simp [Thb, kt_echo]
theorem kt_echo_Tsc {T : q_Tl} {o l : Nat} {z : Int} : Tsc (kt_echo T o l z) = Tsc T := by funext q; simp [Tsc, kt_echo]
theorem kt_echo_Tsa {T : q_Tl} {o l : Nat} {z : Int} : Tsa (kt_echo T o l z) = Tsa T := by funext q; simp [Tsa, kt_echo]
theorem kt_echo_Tsd {T : q_Tl} {o l : Nat} {z : Int} : Tsd (kt_echo T o l z) = Tsd T := by funext q; simp [Tsd, kt_echo]
theorem kt_echo_Tst {T : q_Tl} {o l : Nat} {z : Int} : Tst (kt_echo T o l z) = Tst T := by funext q; simp [Tst, kt_echo]
theorem kt_echo_Tsx {T : q_Tl} {o l : Nat} {z : Int} : Tsx (kt_echo T o l z) = Tsx T := by funext q; simp [Tsx, kt_echo]
theorem kt_echo_Tsf {T : q_Tl} {o l : Nat} {z : Int} : Tsf (kt_echo T o l z) = Tsf T := by funext q; simp [Tsf, kt_echo]
theorem kt_echo_Teo {T : q_Tl} {o l : Nat} {z : Int} (q : Nat) : Teo (kt_echo T o l z) q = if q = Tne T then o else Teo T q := by simp [Teo, kt_echo]
theorem kt_echo_Tel {T : q_Tl} {o l : Nat} {z : Int} (q : Nat) : Tel (kt_echo T o l z) q = if q = Tne T then l else Tel T q := by simp [Tel, kt_echo]
theorem kt_echo_Tjf {T : q_Tl} {o l : Nat} {z : Int} : Tjf (kt_echo T o l z) = Tjf T := by funext q; simp [Tjf, kt_echo]
theorem kt_echo_Tjt {T : q_Tl} {o l : Nat} {z : Int} : Tjt (kt_echo T o l z) = Tjt T := by funext q; simp [Tjt, kt_echo]
theorem kt_echo_Tja {T : q_Tl} {o l : Nat} {z : Int} : Tja (kt_echo T o l z) = Tja T := by funext q; simp [Tja, kt_echo]
theorem kt_echo_Tje {T : q_Tl} {o l : Nat} {z : Int} : Tje (kt_echo T o l z) = Tje T := by funext q; simp [Tje, kt_echo]
theorem kt_echo_Tch {T : q_Tl} {o l : Nat} {z : Int} : Tch (kt_echo T o l z) = Tch T := rfl
theorem kt_echo_Tea {T : q_Tl} {o l : Nat} {z : Int} (q : Nat) : Tea (kt_echo T o l z) q = if q = Tne T then z else Tea T q := rfl
def kt_jam (T : q_Tl) (f t l e : Nat) : q_Tl := (fun x j => if x = 0 ∧ j = 4 then Tnj T + 1 else if x = 13 ∧ j = Tnj T then f else if x = 14 ∧ j = Tnj T then t else if x = 15 ∧ j = Tnj T then l else if x = 16 ∧ j = Tnj T then e else T.1 x j, T.2.1, T.2.2)
theorem kt_jam_Tnc {T : q_Tl} {f t l e : Nat} : Tnc (kt_jam T f t l e) = Tnc T := by simp [Tnc, kt_jam]
theorem kt_jam_Tnh {T : q_Tl} {f t l e : Nat} : Tnh (kt_jam T f t l e) = Tnh T := by simp [Tnh, kt_jam]
theorem kt_jam_Tns {T : q_Tl} {f t l e : Nat} : Tns (kt_jam T f t l e) = Tns T := by simp [Tns, kt_jam]
theorem kt_jam_Tne {T : q_Tl} {f t l e : Nat} : Tne (kt_jam T f t l e) = Tne T := by simp [Tne, kt_jam]
theorem kt_jam_Tnj {T : q_Tl} {f t l e : Nat} : Tnj (kt_jam T f t l e) = Tnj T + 1 := by simp [Tnj, kt_jam]
theorem kt_jam_TN {T : q_Tl} {f t l e : Nat} : TN (kt_jam T f t l e) = TN T := by simp [TN, kt_jam]
theorem kt_jam_Tnm {T : q_Tl} {f t l e : Nat} : Tnm (kt_jam T f t l e) = Tnm T := by simp [Tnm, kt_jam]
theorem kt_jam_Tnd {T : q_Tl} {f t l e : Nat} : Tnd (kt_jam T f t l e) = Tnd T := by simp [Tnd, kt_jam]
theorem kt_jam_Tlen {T : q_Tl} {f t l e : Nat} : Tlen (kt_jam T f t l e) = Tlen T := by funext q; simp [Tlen, kt_jam]
theorem kt_jam_Thp {T : q_Tl} {f t l e : Nat} : Thp (kt_jam T f t l e) = Thp T := by funext q; simp [Thp, kt_jam]
theorem kt_jam_Tha {T : q_Tl} {f t l e : Nat} : Tha (kt_jam T f t l e) = Tha T := by funext q; simp [Tha, kt_jam]
theorem kt_jam_Thb {T : q_Tl} {f t l e : Nat} : Thb (kt_jam T f t l e) = Thb T := by funext q; simp [Thb, kt_jam]
theorem kt_jam_Tsc {T : q_Tl} {f t l e : Nat} : Tsc (kt_jam T f t l e) = Tsc T := by funext q; simp [Tsc, kt_jam]
theorem kt_jam_Tsa {T : q_Tl} {f t l e : Nat} : Tsa (kt_jam T f t l e) = Tsa T := by funext q; simp [Tsa, kt_jam]
theorem kt_jam_Tsd {T : q_Tl} {f t l e : Nat} : Tsd (kt_jam T f t l e) = Tsd T := by funext q; simp [Tsd, kt_jam]
theorem kt_jam_Tst {T : q_Tl} {f t l e : Nat} : Tst (kt_jam T f t l e) = Tst T := by funext q; simp [Tst, kt_jam]
theorem kt_jam_Tsx {T : q_Tl} {f t l e : Nat} : Tsx (kt_jam T f t l e) = Tsx T := by funext q; simp [Tsx, kt_jam]
theorem kt_jam_Tsf {T : q_Tl} {f t l e : Nat} : Tsf (kt_jam T f t l e) = Tsf T := by funext q; simp [Tsf, kt_jam]
theorem kt_jam_Teo {T : q_Tl} {f t l e : Nat} : Teo (kt_jam T f t l e) = Teo T := by funext q; simp [Teo, kt_jam]
theorem kt_jam_Tel {T : q_Tl} {f t l e : Nat} : Tel (kt_jam T f t l e) = Tel T := by funext q; simp [Tel, kt_jam]
theorem kt_jam_Tjf {T : q_Tl} {f t l e : Nat} (q : Nat) : Tjf (kt_jam T f t l e) q = if q = Tnj T then f else Tjf T q := by simp [Tjf, kt_jam]
theorem kt_jam_Tjt {T : q_Tl} {f t l e : Nat} (q : Nat) : Tjt (kt_jam T f t l e) q = if q = Tnj T then t else Tjt T q := by simp [Tjt, kt_jam]
theorem kt_jam_Tja {T : q_Tl} {f t l e : Nat} (q : Nat) : Tja (kt_jam T f t l e) q = if q = Tnj T then l else Tja T q := by simp [Tja, kt_jam]
theorem kt_jam_Tje {T : q_Tl} {f t l e : Nat} (q : Nat) : Tje (kt_jam T f t l e) q = if q = Tnj T then e else Tje T q := by simp [Tje, kt_jam]
theorem kt_jam_Tch {T : q_Tl} {f t l e : Nat} : Tch (kt_jam T f t l e) = Tch T := rfl
theorem kt_jam_Tea {T : q_Tl} {f t l e : Nat} : Tea (kt_jam T f t l e) = Tea T := rfl
def kt_noise (T : q_Tl) (m s : Nat) : q_Tl := (fun x j => if x = 0 ∧ j = 6 then m else if x = 0 ∧ j = 7 then s else T.1 x j, T.2.1, T.2.2)
theorem kt_noise_Tnc {T : q_Tl} {m s : Nat} : Tnc (kt_noise T m s) = Tnc T := by simp [Tnc, kt_noise]
theorem kt_noise_Tnh {T : q_Tl} {m s : Nat} : Tnh (kt_noise T m s) = Tnh T := by simp [Tnh, kt_noise]
theorem kt_noise_Tns {T : q_Tl} {m s : Nat} : Tns (kt_noise T m s) = Tns T := by simp [Tns, kt_noise]
theorem kt_noise_Tne {T : q_Tl} {m s : Nat} : Tne (kt_noise T m s) = Tne T := by simp [Tne, kt_noise]
theorem kt_noise_Tnj {T : q_Tl} {m s : Nat} : Tnj (kt_noise T m s) = Tnj T := by simp [Tnj, kt_noise]
theorem kt_noise_TN {T : q_Tl} {m s : Nat} : TN (kt_noise T m s) = TN T := by simp [TN, kt_noise]
theorem kt_noise_Tnm {T : q_Tl} {m s : Nat} : Tnm (kt_noise T m s) = m := by simp [Tnm, kt_noise]
theorem kt_noise_Tnd {T : q_Tl} {m s : Nat} : Tnd (kt_noise T m s) = s := by simp [Tnd, kt_noise]
theorem kt_noise_Tlen {T : q_Tl} {m s : Nat} : Tlen (kt_noise T m s) = Tlen T := by funext q; simp [Tlen, kt_noise]
theorem kt_noise_Thp {T : q_Tl} {m s : Nat} : Thp (kt_noise T m s) = Thp T := by funext q; simp [Thp, kt_noise]
theorem kt_noise_Tha {T : q_Tl} {m s : Nat} : Tha (kt_noise T m s) = Tha T := by funext q; simp [Tha, kt_noise]
theorem kt_noise_Thb {T : q_Tl} {m s : Nat} : Thb (kt_noise T m s) = Thb T := by funext q; simp [Thb, kt_noise]
theorem kt_noise_Tsc {T : q_Tl} {m s : Nat} : Tsc (kt_noise T m s) = Tsc T := by funext q; simp [Tsc, kt_noise]
theorem kt_noise_Tsa {T : q_Tl} {m s : Nat} : Tsa (kt_noise T m s) = Tsa T := by funext q; simp [Tsa, kt_noise]
theorem kt_noise_Tsd {T : q_Tl} {m s : Nat} : Tsd (kt_noise T m s) = Tsd T := by funext q; simp [Tsd, kt_noise]
theorem kt_noise_Tst {T : q_Tl} {m s : Nat} : Tst (kt_noise T m s) = Tst T := by funext q; simp [Tst, kt_noise]
theorem kt_noise_Tsx {T : q_Tl} {m s : Nat} : Tsx (kt_noise T m s) = Tsx T := by funext q; simp [Tsx, kt_noise]
theorem kt_noise_Tsf {T : q_Tl} {m s : Nat} : Tsf (kt_noise T m s) = Tsf T := by funext q; simp [Tsf, kt_noise]
theorem kt_noise_Teo {T : q_Tl} {m s : Nat} : Teo (kt_noise T m s) = Teo T := by funext q; simp [Teo, kt_noise]
theorem kt_noise_Tel {T : q_Tl} {m s : Nat} : Tel (kt_noise T m s) = Tel T := by funext q; simp [Tel, kt_noise]
theorem kt_noise_Tjf {T : q_Tl} {m s : Nat} : Tjf (kt_noise T m s) = Tjf T := by funext q; simp [Tjf, kt_noise]
theorem kt_noise_Tjt {T : q_Tl} {m s : Nat} : Tjt (kt_noise T m s) = Tjt T := by funext q; simp [Tjt, kt_noise]
theorem kt_noise_Tja {T : q_Tl} {m s : Nat} : Tja (kt_noise T m s) = Tja T := by funext q; simp [Tja, kt_noise]
theorem kt_noise_Tje {T : q_Tl} {m s : Nat} : Tje (kt_noise T m s) = Tje T := by funext q; simp [Tje, kt_noise]
theorem kt_noise_Tch {T : q_Tl} {m s : Nat} : Tch (kt_noise T m s) = Tch T := rfl
theorem kt_noise_Tea {T : q_Tl} {m s : Nat} : Tea (kt_noise T m s) = Tea T := rfl
def kt_samp (T : q_Tl) (n : Nat) : q_Tl := (fun x j => if x = 0 ∧ j = 5 then n else T.1 x j, T.2.1, T.2.2)
theorem kt_samp_Tnc {T : q_Tl} {n : Nat} : Tnc (kt_samp T n) = Tnc T := by simp [Tnc, kt_samp]
theorem kt_samp_Tnh {T : q_Tl} {n : Nat} : Tnh (kt_samp T n) = Tnh T := by simp [Tnh, kt_samp]
theorem kt_samp_Tns {T : q_Tl} {n : Nat} : Tns (kt_samp T n) = Tns T := by simp [Tns, kt_samp]
theorem kt_samp_Tne {T : q_Tl} {n : Nat} : Tne (kt_samp T n) = Tne T := by simp [Tne, kt_samp]
theorem kt_samp_Tnj {T : q_Tl} {n : Nat} : Tnj (kt_samp T n) = Tnj T := by simp [Tnj, kt_samp]
theorem kt_samp_TN {T : q_Tl} {n : Nat} : TN (kt_samp T n) = n := by simp [TN, kt_samp]
theorem kt_samp_Tnm {T : q_Tl} {n : Nat} : Tnm (kt_samp T n) = Tnm T := by simp [Tnm, kt_samp]
theorem kt_samp_Tnd {T : q_Tl} {n : Nat} : Tnd (kt_samp T n) = Tnd T := by simp [Tnd, kt_samp]
theorem kt_samp_Tlen {T : q_Tl} {n : Nat} : Tlen (kt_samp T n) = Tlen T := by funext q; simp [Tlen, kt_samp]
theorem kt_samp_Thp {T : q_Tl} {n : Nat} : Thp (kt_samp T n) = Thp T := by funext q; simp [Thp, kt_samp]
theorem kt_samp_Tha {T : q_Tl} {n : Nat} : Tha (kt_samp T n) = Tha T := by funext q; simp [Tha, kt_samp]
theorem kt_samp_Thb {T : q_Tl} {n : Nat} : Thb (kt_samp T n) = Thb T := by funext q; simp [Thb, kt_samp]
theorem kt_samp_Tsc {T : q_Tl} {n : Nat} : Tsc (kt_samp T n) = Tsc T := by funext q; simp [Tsc, kt_samp]
theorem kt_samp_Tsa {T : q_Tl} {n : Nat} : Tsa (kt_samp T n) = Tsa T := by funext q; simp [Tsa, kt_samp]
theorem kt_samp_Tsd {T : q_Tl} {n : Nat} : Tsd (kt_samp T n) = Tsd T := by funext q; simp [Tsd, kt_samp]
theorem kt_samp_Tst {T : q_Tl} {n : Nat} : Tst (kt_samp T n) = Tst T := by funext q; simp [Tst, kt_samp]
theorem kt_samp_Tsx {T : q_Tl} {n : Nat} : Tsx (kt_samp T n) = Tsx T := by funext q; simp [Tsx, kt_samp]
theorem kt_samp_Tsf {T : q_Tl} {n : Nat} : Tsf (kt_samp T n) = Tsf T := by funext q; simp [Tsf, kt_samp]
theorem kt_samp_Teo {T : q_Tl} {n : Nat} : Teo (kt_samp T n) = Teo T := by funext q; simp [Teo, kt_samp]
theorem kt_samp_Tel {T : q_Tl} {n : Nat} : Tel (kt_samp T n) = Tel T := by funext q; simp [Tel, kt_samp]
theorem kt_samp_Tjf {T : q_Tl} {n : Nat} : Tjf (kt_samp T n) = Tjf T := by funext q; simp [Tjf, kt_samp]
theorem kt_samp_Tjt {T : q_Tl} {n : Nat} : Tjt (kt_samp T n) = Tjt T := by funext q; simp [Tjt, kt_samp]
theorem kt_samp_Tja {T : q_Tl} {n : Nat} : Tja (kt_samp T n) = Tja T := by funext q; simp [Tja, kt_samp]
theorem kt_samp_Tje {T : q_Tl} {n : Nat} : Tje (kt_samp T n) = Tje T := by funext q; simp [Tje, kt_samp]
theorem kt_samp_Tch {T : q_Tl} {n : Nat} : Tch (kt_samp T n) = Tch T := rfl
theorem kt_samp_Tea {T : q_Tl} {n : Nat} : Tea (kt_samp T n) = Tea T := rfl
theorem kt_code_wf {T : q_Tl} {len : Nat} {ch : Nat → Int} (h : q_wf T) (hn : Tnc T < 8) (hl : 1 ≤ len ∧ len ≤ 127) (hc : ∀ i, i < len → ch i = 1 ∨ ch i = -1) : q_wf (kt_code T len ch) := by
  obtain ⟨h0, hC, hH, hS, hE, hJ⟩ := h
  unfold q_wf q_wC q_wH q_wS q_wE q_wJ
  simp only [kt_code_Tnc, kt_code_Tnh, kt_code_Tns, kt_code_Tne, kt_code_Tnj, kt_code_TN, kt_code_Tnm, kt_code_Tnd, kt_code_Tlen, kt_code_Thp, kt_code_Tha, kt_code_Thb, kt_code_Tsc, kt_code_Tsa, kt_code_Tsd, kt_code_Tst, kt_code_Tsx, kt_code_Tsf, kt_code_Teo, kt_code_Tel, kt_code_Tjf, kt_code_Tjt, kt_code_Tja, kt_code_Tje, kt_code_Tch, kt_code_Tea]
  refine ⟨by omega, fun c hcc => ?_, hH, fun s hs => ?_, hE, hJ⟩
  · by_cases g : c = Tnc T
    · rw [if_pos g, if_pos g]
      exact ⟨hl, hc⟩
    · rw [if_neg g, if_neg g]
      exact hC c (by omega)
  · have h1 := hS s hs
    rw [if_neg (by omega)]
    exact ⟨by omega, h1.2⟩
theorem kt_hop_wf {T : q_Tl} {p a c : Nat} (h : q_wf T) (hn : Tnh T < 6) (hp : 2 ≤ p ∧ p ≤ 31) (ha : a < p) (hc : c < p) : q_wf (kt_hop T p a c) := by
  obtain ⟨h0, hC, hH, hS, hE, hJ⟩ := h
  unfold q_wf q_wC q_wH q_wS q_wE q_wJ
  simp only [kt_hop_Tnc, kt_hop_Tnh, kt_hop_Tns, kt_hop_Tne, kt_hop_Tnj, kt_hop_TN, kt_hop_Tnm, kt_hop_Tnd, kt_hop_Tlen, kt_hop_Thp, kt_hop_Tha, kt_hop_Thb, kt_hop_Tsc, kt_hop_Tsa, kt_hop_Tsd, kt_hop_Tst, kt_hop_Tsx, kt_hop_Tsf, kt_hop_Teo, kt_hop_Tel, kt_hop_Tjf, kt_hop_Tjt, kt_hop_Tja, kt_hop_Tje, kt_hop_Tch, kt_hop_Tea]
  refine ⟨by omega, hC, fun q hq => ?_, hS, hE, hJ⟩
  by_cases g : q = Tnh T
  · rw [if_pos g, if_pos g, if_pos g]
    exact ⟨hp.1, hp.2, ha, hc⟩
  · rw [if_neg g, if_neg g, if_neg g]
    exact hH q (by omega)
theorem kt_send_wf {T : q_Tl} {c am dl tn dt df : Nat} (h : q_wf T) (hn : Tns T < 6) (hc : c < Tnc T) (ha : 1 ≤ am ∧ am ≤ 99) (hd : dl < Tlen T c) (ht : tn < 4) (hx : dt ≤ 9999) (hf : df ≤ 99) : q_wf (kt_send T c am dl tn dt df) := by
  obtain ⟨h0, hC, hH, hS, hE, hJ⟩ := h
  unfold q_wf q_wC q_wH q_wS q_wE q_wJ
  simp only [kt_send_Tnc, kt_send_Tnh, kt_send_Tns, kt_send_Tne, kt_send_Tnj, kt_send_TN, kt_send_Tnm, kt_send_Tnd, kt_send_Tlen, kt_send_Thp, kt_send_Tha, kt_send_Thb, kt_send_Tsc, kt_send_Tsa, kt_send_Tsd, kt_send_Tst, kt_send_Tsx, kt_send_Tsf, kt_send_Teo, kt_send_Tel, kt_send_Tjf, kt_send_Tjt, kt_send_Tja, kt_send_Tje, kt_send_Tch, kt_send_Tea]
  refine ⟨by omega, hC, hH, fun s hs => ?_, fun e he => ?_, hJ⟩
  · by_cases g : s = Tns T
    · simp only [if_pos g]
      exact ⟨hc, ha, hd, ht, hx, hf⟩
    · simp only [if_neg g]
      exact hS s (by omega)
  · have h1 := hE e he
    exact ⟨by omega, h1.2⟩
theorem kt_echo_wf {T : q_Tl} {o l : Nat} {z : Int} (h : q_wf T) (hn : Tne T < 6) (ho : o < Tns T) (hl : 1 ≤ l ∧ l ≤ 99) (hz : -99 ≤ z ∧ z ≤ 99) : q_wf (kt_echo T o l z) := by
  obtain ⟨h0, hC, hH, hS, hE, hJ⟩ := h
  unfold q_wf q_wC q_wH q_wS q_wE q_wJ
  simp only [kt_echo_Tnc, kt_echo_Tnh, kt_echo_Tns, kt_echo_Tne, kt_echo_Tnj, kt_echo_TN, kt_echo_Tnm, kt_echo_Tnd, kt_echo_Tlen, kt_echo_Thp, kt_echo_Tha, kt_echo_Thb, kt_echo_Tsc, kt_echo_Tsa, kt_echo_Tsd, kt_echo_Tst, kt_echo_Tsx, kt_echo_Tsf, kt_echo_Teo, kt_echo_Tel, kt_echo_Tjf, kt_echo_Tjt, kt_echo_Tja, kt_echo_Tje, kt_echo_Tch, kt_echo_Tea]
  refine ⟨by omega, hC, hH, hS, fun e he => ?_, hJ⟩
  by_cases g : e = Tne T
  · simp only [if_pos g]
    exact ⟨ho, hl, hz⟩
  · simp only [if_neg g]
    exact hE e (by omega)
theorem kt_jam_wf {T : q_Tl} {f t l e : Nat} (h : q_wf T) (hn : Tnj T < 4) (hf : f ≤ t) (ht : t ≤ 511) (hl : 1 ≤ l ∧ l ≤ 99) (he : 1 ≤ e ∧ e ≤ 99) : q_wf (kt_jam T f t l e) := by
  obtain ⟨h0, hC, hH, hS, hE, hJ⟩ := h
  unfold q_wf q_wC q_wH q_wS q_wE q_wJ
  simp only [kt_jam_Tnc, kt_jam_Tnh, kt_jam_Tns, kt_jam_Tne, kt_jam_Tnj, kt_jam_TN, kt_jam_Tnm, kt_jam_Tnd, kt_jam_Tlen, kt_jam_Thp, kt_jam_Tha, kt_jam_Thb, kt_jam_Tsc, kt_jam_Tsa, kt_jam_Tsd, kt_jam_Tst, kt_jam_Tsx, kt_jam_Tsf, kt_jam_Teo, kt_jam_Tel, kt_jam_Tjf, kt_jam_Tjt, kt_jam_Tja, kt_jam_Tje, kt_jam_Tch, kt_jam_Tea]
  refine ⟨by omega, hC, hH, hS, hE, fun j hj => ?_⟩
  by_cases g : j = Tnj T
  · simp only [if_pos g]
    exact ⟨hf, ht, hl, he.1, he.2⟩
  · simp only [if_neg g]
    exact hJ j (by omega)
theorem kt_noise_wf {T : q_Tl} {m s : Nat} (h : q_wf T) (hm : m ≤ 50) (hs : s ≤ 9999) : q_wf (kt_noise T m s) := by
  obtain ⟨h0, hC, hH, hS, hE, hJ⟩ := h
  unfold q_wf q_wC q_wH q_wS q_wE q_wJ
  simp only [kt_noise_Tnc, kt_noise_Tnh, kt_noise_Tns, kt_noise_Tne, kt_noise_Tnj, kt_noise_TN, kt_noise_Tnm, kt_noise_Tnd, kt_noise_Tlen, kt_noise_Thp, kt_noise_Tha, kt_noise_Thb, kt_noise_Tsc, kt_noise_Tsa, kt_noise_Tsd, kt_noise_Tst, kt_noise_Tsx, kt_noise_Tsf, kt_noise_Teo, kt_noise_Tel, kt_noise_Tjf, kt_noise_Tjt, kt_noise_Tja, kt_noise_Tje, kt_noise_Tch, kt_noise_Tea]
  exact ⟨by omega, hC, hH, hS, hE, hJ⟩
theorem kt_samp_wf {T : q_Tl} {n : Nat} (h : q_wf T) (hn : 16 ≤ n ∧ n ≤ 512) : q_wf (kt_samp T n) := by
  obtain ⟨h0, hC, hH, hS, hE, hJ⟩ := h
  unfold q_wf q_wC q_wH q_wS q_wE q_wJ
  simp only [kt_samp_Tnc, kt_samp_Tnh, kt_samp_Tns, kt_samp_Tne, kt_samp_Tnj, kt_samp_TN, kt_samp_Tnm, kt_samp_Tnd, kt_samp_Tlen, kt_samp_Thp, kt_samp_Tha, kt_samp_Thb, kt_samp_Tsc, kt_samp_Tsa, kt_samp_Tsd, kt_samp_Tst, kt_samp_Tsx, kt_samp_Tsf, kt_samp_Teo, kt_samp_Tel, kt_samp_Tjf, kt_samp_Tjt, kt_samp_Tja, kt_samp_Tje, kt_samp_Tch, kt_samp_Tea]
  exact ⟨by omega, hC, hH, hS, hE, hJ⟩
/-- nothing told -/
def kt_0 : q_Tl := (fun x j => if x = 0 ∧ j = 5 then 256 else 0, fun _ _ => 0, fun _ => 0)
theorem kt_0_wf : q_wf kt_0 := by
  refine ⟨?_, fun c hc => absurd hc (Nat.not_lt_zero c), fun c hc => absurd hc (Nat.not_lt_zero c), fun c hc => absurd hc (Nat.not_lt_zero c), fun c hc => absurd hc (Nat.not_lt_zero c), fun c hc => absurd hc (Nat.not_lt_zero c)⟩
  decide
/-! the class's side of one more -/
theorem T_addcode {b t : Nat} {d e : q_Dt} {T : q_Tl} {len : Nat} {ch : Nat → Int} (h : q_TT b t d T) (hn : Tnc T < 8) (hl : 1 ≤ len ∧ len ≤ 127) (hc : ∀ i, i < len → ch i = 1 ∨ ch i = -1) (e7 : e.1 t 7 = wI (Tnc T + 1 : Nat)) (et : ∀ j, j ≠ 7 → e.1 t j = d.1 t j) (el : e.1 (t + 12 + 3 * Tnc T) 1 = wI len) (ec : ∀ i, i < len → e.2.1 (t + 14 + 3 * Tnc T) i = wJ (ch i)) (f1 : ∀ x, t ≤ x → x < t + 72 → x ≠ t → x ≠ t + 12 + 3 * Tnc T → e.1 x = d.1 x) (f2 : ∀ x, t ≤ x → x < t + 72 → x ≠ t + 14 + 3 * Tnc T → e.2.1 x = d.2.1 x) (f3 : ∀ x, t ≤ x → x < t + 72 → e.2.2 x = d.2.2 x) : q_TT b t e (kt_code T len ch) := by
  obtain ⟨hw, ht, h0, hC, hH, hS, hE, hJ⟩ := h
  have hn0 := hw.1
  refine ⟨kt_code_wf hw hn hl hc, ht, ?_, ?_, ?_, ?_, ?_, ?_⟩
  · unfold q_T0 at h0 ⊢
    simp only [kt_code_Tnc, kt_code_Tnh, kt_code_Tns, kt_code_Tne, kt_code_Tnj, kt_code_TN, kt_code_Tnm, kt_code_Tnd, kt_code_Tlen, kt_code_Thp, kt_code_Tha, kt_code_Thb, kt_code_Tsc, kt_code_Tsa, kt_code_Tsd, kt_code_Tst, kt_code_Tsx, kt_code_Tsf, kt_code_Teo, kt_code_Tel, kt_code_Tjf, kt_code_Tjt, kt_code_Tja, kt_code_Tje, kt_code_Tch, kt_code_Tea]
    rw [e7, et 8 (by omega), et 9 (by omega), et 10 (by omega), et 11 (by omega), et 12 (by omega), et 13 (by omega), et 14 (by omega)]
    exact ⟨rfl, h0.2⟩
  · unfold q_TC
    simp only [kt_code_Tnc, kt_code_Tnh, kt_code_Tns, kt_code_Tne, kt_code_Tnj, kt_code_TN, kt_code_Tnm, kt_code_Tnd, kt_code_Tlen, kt_code_Thp, kt_code_Tha, kt_code_Thb, kt_code_Tsc, kt_code_Tsa, kt_code_Tsd, kt_code_Tst, kt_code_Tsx, kt_code_Tsf, kt_code_Teo, kt_code_Tel, kt_code_Tjf, kt_code_Tjt, kt_code_Tja, kt_code_Tje, kt_code_Tch, kt_code_Tea]
    intro c hcc
    by_cases g : c = Tnc T
    · rw [if_pos g, if_pos g, g]
      exact ⟨el, ec⟩
    · rw [if_neg g, if_neg g, f1 _ (by omega) (by omega) (by omega) (by omega), f2 _ (by omega) (by omega) (by omega)]
      exact hC c (by omega)
  · unfold q_TH
    simp only [kt_code_Tnc, kt_code_Tnh, kt_code_Tns, kt_code_Tne, kt_code_Tnj, kt_code_TN, kt_code_Tnm, kt_code_Tnd, kt_code_Tlen, kt_code_Thp, kt_code_Tha, kt_code_Thb, kt_code_Tsc, kt_code_Tsa, kt_code_Tsd, kt_code_Tst, kt_code_Tsx, kt_code_Tsf, kt_code_Teo, kt_code_Tel, kt_code_Tjf, kt_code_Tjt, kt_code_Tja, kt_code_Tje, kt_code_Tch, kt_code_Tea]
    intro p hp
    rw [f1 _ (by omega) (by omega) (by omega) (by omega)]
    exact hH p hp
  · unfold q_TS
    simp only [kt_code_Tnc, kt_code_Tnh, kt_code_Tns, kt_code_Tne, kt_code_Tnj, kt_code_TN, kt_code_Tnm, kt_code_Tnd, kt_code_Tlen, kt_code_Thp, kt_code_Tha, kt_code_Thb, kt_code_Tsc, kt_code_Tsa, kt_code_Tsd, kt_code_Tst, kt_code_Tsx, kt_code_Tsf, kt_code_Teo, kt_code_Tel, kt_code_Tjf, kt_code_Tjt, kt_code_Tja, kt_code_Tje, kt_code_Tch, kt_code_Tea]
    intro s hs
    rw [f1 _ (by omega) (by omega) (by omega) (by omega), f3 _ (by omega) (by omega)]
    exact hS s hs
  · unfold q_TE
    simp only [kt_code_Tnc, kt_code_Tnh, kt_code_Tns, kt_code_Tne, kt_code_Tnj, kt_code_TN, kt_code_Tnm, kt_code_Tnd, kt_code_Tlen, kt_code_Thp, kt_code_Tha, kt_code_Thb, kt_code_Tsc, kt_code_Tsa, kt_code_Tsd, kt_code_Tst, kt_code_Tsx, kt_code_Tsf, kt_code_Teo, kt_code_Tel, kt_code_Tjf, kt_code_Tjt, kt_code_Tja, kt_code_Tje, kt_code_Tch, kt_code_Tea]
    intro s hs
    rw [f1 _ (by omega) (by omega) (by omega) (by omega), f2 (t + 44 + 5 * s) (by omega) (by omega) (by omega), f2 (t + 46 + 5 * s) (by omega) (by omega) (by omega)]
    exact hE s hs
  · unfold q_TJ
    simp only [kt_code_Tnc, kt_code_Tnh, kt_code_Tns, kt_code_Tne, kt_code_Tnj, kt_code_TN, kt_code_Tnm, kt_code_Tnd, kt_code_Tlen, kt_code_Thp, kt_code_Tha, kt_code_Thb, kt_code_Tsc, kt_code_Tsa, kt_code_Tsd, kt_code_Tst, kt_code_Tsx, kt_code_Tsf, kt_code_Teo, kt_code_Tel, kt_code_Tjf, kt_code_Tjt, kt_code_Tja, kt_code_Tje, kt_code_Tch, kt_code_Tea]
    intro j hj
    rw [f2 (t + 5) (by omega) (by omega) (by omega), f2 (t + 7) (by omega) (by omega) (by omega), f2 (t + 9) (by omega) (by omega) (by omega), f2 (t + 11) (by omega) (by omega) (by omega)]
    exact hJ j hj
theorem T_addhop {b t : Nat} {d e : q_Dt} {T : q_Tl} {p a c : Nat} (h : q_TT b t d T) (hn : Tnh T < 6) (hp : 2 ≤ p ∧ p ≤ 31) (ha : a < p) (hc : c < p) (e8 : e.1 t 8 = wI (Tnh T + 1 : Nat)) (et : ∀ j, j ≠ 8 → e.1 t j = d.1 t j) (el : e.1 (t + 36 + Tnh T) 0 = wI p ∧ e.1 (t + 36 + Tnh T) 1 = wI a ∧ e.1 (t + 36 + Tnh T) 2 = wI c) (f1 : ∀ x, t ≤ x → x < t + 72 → x ≠ t → x ≠ t + 36 + Tnh T → e.1 x = d.1 x) (f2 : ∀ x, t ≤ x → x < t + 72 → e.2.1 x = d.2.1 x) (f3 : ∀ x, t ≤ x → x < t + 72 → e.2.2 x = d.2.2 x) : q_TT b t e (kt_hop T p a c) := by
  obtain ⟨hw, ht, h0, hC, hH, hS, hE, hJ⟩ := h
  have hn0 := hw.1
  refine ⟨kt_hop_wf hw hn hp ha hc, ht, ?_, ?_, ?_, ?_, ?_, ?_⟩
  · unfold q_T0 at h0 ⊢
    simp only [kt_hop_Tnc, kt_hop_Tnh, kt_hop_Tns, kt_hop_Tne, kt_hop_Tnj, kt_hop_TN, kt_hop_Tnm, kt_hop_Tnd, kt_hop_Tlen, kt_hop_Thp, kt_hop_Tha, kt_hop_Thb, kt_hop_Tsc, kt_hop_Tsa, kt_hop_Tsd, kt_hop_Tst, kt_hop_Tsx, kt_hop_Tsf, kt_hop_Teo, kt_hop_Tel, kt_hop_Tjf, kt_hop_Tjt, kt_hop_Tja, kt_hop_Tje, kt_hop_Tch, kt_hop_Tea]
    rw [e8, et 7 (by omega), et 9 (by omega), et 10 (by omega), et 11 (by omega), et 12 (by omega), et 13 (by omega), et 14 (by omega)]
    exact ⟨h0.1, rfl, h0.2.2⟩
  · unfold q_TC
    simp only [kt_hop_Tnc, kt_hop_Tnh, kt_hop_Tns, kt_hop_Tne, kt_hop_Tnj, kt_hop_TN, kt_hop_Tnm, kt_hop_Tnd, kt_hop_Tlen, kt_hop_Thp, kt_hop_Tha, kt_hop_Thb, kt_hop_Tsc, kt_hop_Tsa, kt_hop_Tsd, kt_hop_Tst, kt_hop_Tsx, kt_hop_Tsf, kt_hop_Teo, kt_hop_Tel, kt_hop_Tjf, kt_hop_Tjt, kt_hop_Tja, kt_hop_Tje, kt_hop_Tch, kt_hop_Tea]
    intro c hcc
    rw [f1 _ (by omega) (by omega) (by omega) (by omega), f2 _ (by omega) (by omega)]
    exact hC c hcc
  · unfold q_TH
    simp only [kt_hop_Tnc, kt_hop_Tnh, kt_hop_Tns, kt_hop_Tne, kt_hop_Tnj, kt_hop_TN, kt_hop_Tnm, kt_hop_Tnd, kt_hop_Tlen, kt_hop_Thp, kt_hop_Tha, kt_hop_Thb, kt_hop_Tsc, kt_hop_Tsa, kt_hop_Tsd, kt_hop_Tst, kt_hop_Tsx, kt_hop_Tsf, kt_hop_Teo, kt_hop_Tel, kt_hop_Tjf, kt_hop_Tjt, kt_hop_Tja, kt_hop_Tje, kt_hop_Tch, kt_hop_Tea]
    intro q hq
    by_cases g : q = Tnh T
    · simp only [if_pos g]
      rw [g]
      exact el
    · simp only [if_neg g]
      rw [f1 _ (by omega) (by omega) (by omega) (by omega)]
      exact hH q (by omega)
  · unfold q_TS
    simp only [kt_hop_Tnc, kt_hop_Tnh, kt_hop_Tns, kt_hop_Tne, kt_hop_Tnj, kt_hop_TN, kt_hop_Tnm, kt_hop_Tnd, kt_hop_Tlen, kt_hop_Thp, kt_hop_Tha, kt_hop_Thb, kt_hop_Tsc, kt_hop_Tsa, kt_hop_Tsd, kt_hop_Tst, kt_hop_Tsx, kt_hop_Tsf, kt_hop_Teo, kt_hop_Tel, kt_hop_Tjf, kt_hop_Tjt, kt_hop_Tja, kt_hop_Tje, kt_hop_Tch, kt_hop_Tea]
    intro s hs
    rw [f1 _ (by omega) (by omega) (by omega) (by omega), f3 _ (by omega) (by omega)]
    exact hS s hs
  · unfold q_TE
    simp only [kt_hop_Tnc, kt_hop_Tnh, kt_hop_Tns, kt_hop_Tne, kt_hop_Tnj, kt_hop_TN, kt_hop_Tnm, kt_hop_Tnd, kt_hop_Tlen, kt_hop_Thp, kt_hop_Tha, kt_hop_Thb, kt_hop_Tsc, kt_hop_Tsa, kt_hop_Tsd, kt_hop_Tst, kt_hop_Tsx, kt_hop_Tsf, kt_hop_Teo, kt_hop_Tel, kt_hop_Tjf, kt_hop_Tjt, kt_hop_Tja, kt_hop_Tje, kt_hop_Tch, kt_hop_Tea]
    intro s hs
    rw [f1 _ (by omega) (by omega) (by omega) (by omega), f2 (t + 44 + 5 * s) (by omega) (by omega), f2 (t + 46 + 5 * s) (by omega) (by omega)]
    exact hE s hs
  · unfold q_TJ
    simp only [kt_hop_Tnc, kt_hop_Tnh, kt_hop_Tns, kt_hop_Tne, kt_hop_Tnj, kt_hop_TN, kt_hop_Tnm, kt_hop_Tnd, kt_hop_Tlen, kt_hop_Thp, kt_hop_Tha, kt_hop_Thb, kt_hop_Tsc, kt_hop_Tsa, kt_hop_Tsd, kt_hop_Tst, kt_hop_Tsx, kt_hop_Tsf, kt_hop_Teo, kt_hop_Tel, kt_hop_Tjf, kt_hop_Tjt, kt_hop_Tja, kt_hop_Tje, kt_hop_Tch, kt_hop_Tea]
    intro j hj
    rw [f2 (t + 5) (by omega) (by omega), f2 (t + 7) (by omega) (by omega), f2 (t + 9) (by omega) (by omega), f2 (t + 11) (by omega) (by omega)]
    exact hJ j hj
theorem q_sum_z0 {f : Nat → Int} : ∀ n, (∀ i, i < n → f i = 0) → q_sum f n = 0 := by
  intro n
  induction n with
  | zero => intro _; rfl
  | succ n ih =>
    intro h
    rw [q_sum_s, ih (fun i hi => h i (by omega)), h n (by omega)]
    rfl
theorem T_addsend {b t : Nat} {d e : q_Dt} {T : q_Tl} {c am dl tn dt df : Nat} (h : q_TT b t d T) (hn : Tns T < 6) (hc : c < Tnc T) (ha : 1 ≤ am ∧ am ≤ 99) (hd : dl < Tlen T c) (htn : tn < 4) (hx : dt ≤ 9999) (hf : df ≤ 99) (e9 : e.1 t 9 = wI (Tns T + 1 : Nat)) (et : ∀ j, j ≠ 9 → e.1 t j = d.1 t j) (er : e.2.2 (t + 42 + 5 * Tns T) 2 = some (t + 12 + 3 * c)) (el : e.1 (t + 42 + 5 * Tns T) 3 = wI (0 : Nat) ∧ e.1 (t + 42 + 5 * Tns T) 4 = wI am ∧ e.1 (t + 42 + 5 * Tns T) 5 = wI dl ∧ e.1 (t + 42 + 5 * Tns T) 6 = wI tn ∧ e.1 (t + 42 + 5 * Tns T) 7 = wI dt ∧ e.1 (t + 42 + 5 * Tns T) 8 = wI df) (f1 : ∀ x, t ≤ x → x < t + 72 → x ≠ t → x ≠ t + 42 + 5 * Tns T → e.1 x = d.1 x) (f2 : ∀ x, t ≤ x → x < t + 72 → e.2.1 x = d.2.1 x) (f3 : ∀ x, t ≤ x → x < t + 72 → x ≠ t + 42 + 5 * Tns T → e.2.2 x = d.2.2 x) : q_TT b t e (kt_send T c am dl tn dt df) := by
  obtain ⟨hw, ht, h0, hC, hH, hS, hE, hJ⟩ := h
  have hn0 := hw.1
  have hwE := hw.2.2.2.2.1
  refine ⟨kt_send_wf hw hn hc ha hd htn hx hf, ht, ?_, ?_, ?_, ?_, ?_, ?_⟩
  · unfold q_T0 at h0 ⊢
    simp only [kt_send_Tnc, kt_send_Tnh, kt_send_Tns, kt_send_Tne, kt_send_Tnj, kt_send_TN, kt_send_Tnm, kt_send_Tnd, kt_send_Tlen, kt_send_Thp, kt_send_Tha, kt_send_Thb, kt_send_Tsc, kt_send_Tsa, kt_send_Tsd, kt_send_Tst, kt_send_Tsx, kt_send_Tsf, kt_send_Teo, kt_send_Tel, kt_send_Tjf, kt_send_Tjt, kt_send_Tja, kt_send_Tje, kt_send_Tch, kt_send_Tea]
    rw [e9, et 7 (by omega), et 8 (by omega), et 10 (by omega), et 11 (by omega), et 12 (by omega), et 13 (by omega), et 14 (by omega)]
    exact ⟨h0.1, h0.2.1, rfl, h0.2.2.2⟩
  · unfold q_TC
    simp only [kt_send_Tnc, kt_send_Tnh, kt_send_Tns, kt_send_Tne, kt_send_Tnj, kt_send_TN, kt_send_Tnm, kt_send_Tnd, kt_send_Tlen, kt_send_Thp, kt_send_Tha, kt_send_Thb, kt_send_Tsc, kt_send_Tsa, kt_send_Tsd, kt_send_Tst, kt_send_Tsx, kt_send_Tsf, kt_send_Teo, kt_send_Tel, kt_send_Tjf, kt_send_Tjt, kt_send_Tja, kt_send_Tje, kt_send_Tch, kt_send_Tea]
    intro c hcc
    rw [f1 _ (by omega) (by omega) (by omega) (by omega), f2 _ (by omega) (by omega)]
    exact hC c hcc
  · unfold q_TH
    simp only [kt_send_Tnc, kt_send_Tnh, kt_send_Tns, kt_send_Tne, kt_send_Tnj, kt_send_TN, kt_send_Tnm, kt_send_Tnd, kt_send_Tlen, kt_send_Thp, kt_send_Tha, kt_send_Thb, kt_send_Tsc, kt_send_Tsa, kt_send_Tsd, kt_send_Tst, kt_send_Tsx, kt_send_Tsf, kt_send_Teo, kt_send_Tel, kt_send_Tjf, kt_send_Tjt, kt_send_Tja, kt_send_Tje, kt_send_Tch, kt_send_Tea]
    intro q hq
    rw [f1 _ (by omega) (by omega) (by omega) (by omega)]
    exact hH q hq
  · unfold q_TS
    simp only [kt_send_Tnc, kt_send_Tnh, kt_send_Tns, kt_send_Tne, kt_send_Tnj, kt_send_TN, kt_send_Tnm, kt_send_Tnd, kt_send_Tlen, kt_send_Thp, kt_send_Tha, kt_send_Thb, kt_send_Tsc, kt_send_Tsa, kt_send_Tsd, kt_send_Tst, kt_send_Tsx, kt_send_Tsf, kt_send_Teo, kt_send_Tel, kt_send_Tjf, kt_send_Tjt, kt_send_Tja, kt_send_Tje, kt_send_Tch, kt_send_Tea]
    intro s hs
    by_cases g : s = Tns T
    · simp only [if_pos g]
      rw [g]
      exact ⟨er, el.2⟩
    · simp only [if_neg g]
      rw [f1 _ (by omega) (by omega) (by omega) (by omega), f3 _ (by omega) (by omega) (by omega)]
      exact hS s (by omega)
  · unfold q_TE
    simp only [kt_send_Tnc, kt_send_Tnh, kt_send_Tns, kt_send_Tne, kt_send_Tnj, kt_send_TN, kt_send_Tnm, kt_send_Tnd, kt_send_Tlen, kt_send_Thp, kt_send_Tha, kt_send_Thb, kt_send_Tsc, kt_send_Tsa, kt_send_Tsd, kt_send_Tst, kt_send_Tsx, kt_send_Tsf, kt_send_Teo, kt_send_Tel, kt_send_Tjf, kt_send_Tjt, kt_send_Tja, kt_send_Tje, kt_send_Tch, kt_send_Tea]
    intro s hs
    rw [f2 (t + 44 + 5 * s) (by omega) (by omega), f2 (t + 46 + 5 * s) (by omega) (by omega)]
    by_cases g : s = Tns T
    · refine ⟨0, fun _ => 0, ?_, by omega, fun q hq => absurd hq (Nat.not_lt_zero q), fun F => ?_⟩
      · rw [g]
        exact el.1
      · rw [q_sum_z0 (Tne T) (fun i hi => if_neg (by have := (hwE i hi).1; omega))]
        rfl
    · rw [f1 _ (by omega) (by omega) (by omega) (by omega)]
      exact hE s (by omega)
  · unfold q_TJ
    simp only [kt_send_Tnc, kt_send_Tnh, kt_send_Tns, kt_send_Tne, kt_send_Tnj, kt_send_TN, kt_send_Tnm, kt_send_Tnd, kt_send_Tlen, kt_send_Thp, kt_send_Tha, kt_send_Thb, kt_send_Tsc, kt_send_Tsa, kt_send_Tsd, kt_send_Tst, kt_send_Tsx, kt_send_Tsf, kt_send_Teo, kt_send_Tel, kt_send_Tjf, kt_send_Tjt, kt_send_Tja, kt_send_Tje, kt_send_Tch, kt_send_Tea]
    intro j hj
    rw [f2 (t + 5) (by omega) (by omega), f2 (t + 7) (by omega) (by omega), f2 (t + 9) (by omega) (by omega), f2 (t + 11) (by omega) (by omega)]
    exact hJ j hj
theorem T_echo_m {b t o : Nat} {d : q_Dt} {T : q_Tl} (h : q_TT b t d T) (ho : o < Tns T) : ∃ (m : Nat) (ix : Nat → Nat), d.1 (t + 42 + 5 * o) 3 = wI m ∧ m ≤ Tne T ∧ (∀ e, e < m → ix e < Tne T ∧ Teo T (ix e) = o ∧ d.2.1 (t + 44 + 5 * o) e = wJ (Tel T (ix e)) ∧ d.2.1 (t + 46 + 5 * o) e = wJ (Tea T (ix e))) ∧ ∀ F : Nat → Int, q_sum (fun e => F (ix e)) m = q_sum (fun e => if Teo T e = o then F e else 0) (Tne T) := by
  obtain ⟨hw, ht, h0, hC, hH, hS, hE, hJ⟩ := h
  obtain ⟨m, ix, h1, h2, h3, h4⟩ := hE o ho
  refine ⟨m, ix, h1, ?_, h3, h4⟩
  have h5 := h4 (fun _ => 1)
  have h6 : ∀ n : Nat, q_sum (fun _ => 1) n = n := by
    intro n
    induction n with
    | zero => rfl
    | succ n ih => rw [q_sum_s, ih]; rfl
  have h7 : ∀ n : Nat, q_sum (fun e => if Teo T e = o then 1 else 0) n ≤ n := by
    intro n
    induction n with
    | zero => exact Int.le_refl _
    | succ n ih =>
      rw [q_sum_s]
      by_cases g : Teo T n = o
      · rw [if_pos g]; omega
      · rw [if_neg g]; omega
  have h8 := h7 (Tne T)
  have h9 := h6 m
  omega
theorem T_addecho {b t : Nat} {d e : q_Dt} {T : q_Tl} {o l m : Nat} {z : Int} {ix : Nat → Nat} (h : q_TT b t d T) (hn : Tne T < 6) (ho : o < Tns T) (hl : 1 ≤ l ∧ l ≤ 99) (hz : -99 ≤ z ∧ z ≤ 99) (hm : m ≤ Tne T) (h3 : ∀ e, e < m → ix e < Tne T ∧ Teo T (ix e) = o ∧ d.2.1 (t + 44 + 5 * o) e = wJ (Tel T (ix e)) ∧ d.2.1 (t + 46 + 5 * o) e = wJ (Tea T (ix e))) (h4 : ∀ F : Nat → Int, q_sum (fun e => F (ix e)) m = q_sum (fun e => if Teo T e = o then F e else 0) (Tne T)) (e10 : e.1 t 10 = wI (Tne T + 1 : Nat)) (et : ∀ j, j ≠ 10 → e.1 t j = d.1 t j) (el : e.1 (t + 42 + 5 * o) 3 = wI (m + 1 : Nat)) (ek : ∀ j, j ≠ 3 → e.1 (t + 42 + 5 * o) j = d.1 (t + 42 + 5 * o) j) (ea : e.2.1 (t + 44 + 5 * o) m = wJ l) (ea2 : ∀ j, j ≠ m → e.2.1 (t + 44 + 5 * o) j = d.2.1 (t + 44 + 5 * o) j) (eb : e.2.1 (t + 46 + 5 * o) m = wJ z) (eb2 : ∀ j, j ≠ m → e.2.1 (t + 46 + 5 * o) j = d.2.1 (t + 46 + 5 * o) j) (f1 : ∀ x, t ≤ x → x < t + 72 → x ≠ t → x ≠ t + 42 + 5 * o → e.1 x = d.1 x) (f2 : ∀ x, t ≤ x → x < t + 72 → x ≠ t + 44 + 5 * o → x ≠ t + 46 + 5 * o → e.2.1 x = d.2.1 x) (f3 : ∀ x, t ≤ x → x < t + 72 → e.2.2 x = d.2.2 x) : q_TT b t e (kt_echo T o l z) := by
  obtain ⟨hw, ht, h0, hC, hH, hS, hE, hJ⟩ := h
  have hn0 := hw.1
  refine ⟨kt_echo_wf hw hn ho hl hz, ht, ?_, ?_, ?_, ?_, ?_, ?_⟩
  · unfold q_T0 at h0 ⊢
    simp only [kt_echo_Tnc, kt_echo_Tnh, kt_echo_Tns, kt_echo_Tne, kt_echo_Tnj, kt_echo_TN, kt_echo_Tnm, kt_echo_Tnd, kt_echo_Tlen, kt_echo_Thp, kt_echo_Tha, kt_echo_Thb, kt_echo_Tsc, kt_echo_Tsa, kt_echo_Tsd, kt_echo_Tst, kt_echo_Tsx, kt_echo_Tsf, kt_echo_Teo, kt_echo_Tel, kt_echo_Tjf, kt_echo_Tjt, kt_echo_Tja, kt_echo_Tje, kt_echo_Tch, kt_echo_Tea]
    rw [e10, et 7 (by omega), et 8 (by omega), et 9 (by omega), et 11 (by omega), et 12 (by omega), et 13 (by omega), et 14 (by omega)]
    exact ⟨h0.1, h0.2.1, h0.2.2.1, rfl, h0.2.2.2.2⟩
  · unfold q_TC
    simp only [kt_echo_Tnc, kt_echo_Tnh, kt_echo_Tns, kt_echo_Tne, kt_echo_Tnj, kt_echo_TN, kt_echo_Tnm, kt_echo_Tnd, kt_echo_Tlen, kt_echo_Thp, kt_echo_Tha, kt_echo_Thb, kt_echo_Tsc, kt_echo_Tsa, kt_echo_Tsd, kt_echo_Tst, kt_echo_Tsx, kt_echo_Tsf, kt_echo_Teo, kt_echo_Tel, kt_echo_Tjf, kt_echo_Tjt, kt_echo_Tja, kt_echo_Tje, kt_echo_Tch, kt_echo_Tea]
    intro c hcc
    rw [f1 _ (by omega) (by omega) (by omega) (by omega), f2 _ (by omega) (by omega) (by omega) (by omega)]
    exact hC c hcc
  · unfold q_TH
    simp only [kt_echo_Tnc, kt_echo_Tnh, kt_echo_Tns, kt_echo_Tne, kt_echo_Tnj, kt_echo_TN, kt_echo_Tnm, kt_echo_Tnd, kt_echo_Tlen, kt_echo_Thp, kt_echo_Tha, kt_echo_Thb, kt_echo_Tsc, kt_echo_Tsa, kt_echo_Tsd, kt_echo_Tst, kt_echo_Tsx, kt_echo_Tsf, kt_echo_Teo, kt_echo_Tel, kt_echo_Tjf, kt_echo_Tjt, kt_echo_Tja, kt_echo_Tje, kt_echo_Tch, kt_echo_Tea]
    intro q hq
    rw [f1 _ (by omega) (by omega) (by omega) (by omega)]
    exact hH q hq
  · unfold q_TS
    simp only [kt_echo_Tnc, kt_echo_Tnh, kt_echo_Tns, kt_echo_Tne, kt_echo_Tnj, kt_echo_TN, kt_echo_Tnm, kt_echo_Tnd, kt_echo_Tlen, kt_echo_Thp, kt_echo_Tha, kt_echo_Thb, kt_echo_Tsc, kt_echo_Tsa, kt_echo_Tsd, kt_echo_Tst, kt_echo_Tsx, kt_echo_Tsf, kt_echo_Teo, kt_echo_Tel, kt_echo_Tjf, kt_echo_Tjt, kt_echo_Tja, kt_echo_Tje, kt_echo_Tch, kt_echo_Tea]
    intro s hs
    rw [f3 _ (by omega) (by omega)]
    by_cases g : s = o
    · rw [g, ek 4 (by omega), ek 5 (by omega), ek 6 (by omega), ek 7 (by omega), ek 8 (by omega)]
      exact hS o ho
    · rw [f1 _ (by omega) (by omega) (by omega) (by omega)]
      exact hS s hs
  · unfold q_TE
    simp only [kt_echo_Tnc, kt_echo_Tnh, kt_echo_Tns, kt_echo_Tne, kt_echo_Tnj, kt_echo_TN, kt_echo_Tnm, kt_echo_Tnd, kt_echo_Tlen, kt_echo_Thp, kt_echo_Tha, kt_echo_Thb, kt_echo_Tsc, kt_echo_Tsa, kt_echo_Tsd, kt_echo_Tst, kt_echo_Tsx, kt_echo_Tsf, kt_echo_Teo, kt_echo_Tel, kt_echo_Tjf, kt_echo_Tjt, kt_echo_Tja, kt_echo_Tje, kt_echo_Tch, kt_echo_Tea]
    intro s hs
    by_cases g : s = o
    · rw [g]
      refine ⟨m + 1, fun k => if k = m then Tne T else ix k, el, by omega, fun k hk => ?_, fun F => ?_⟩
      · dsimp only
        by_cases g2 : k = m
        · simp only [if_pos g2, if_true]
          rw [g2]
          exact ⟨by omega, trivial, ea, eb⟩
        · have h5 := h3 k (by omega)
          simp only [if_neg g2, if_neg (show ¬ ix k = Tne T by omega)]
          rw [ea2 k g2, eb2 k g2]
          exact ⟨by omega, h5.2⟩
      · rw [q_sum_s, q_sum_s, if_pos rfl, if_pos rfl]
        dsimp only
        rw [if_pos rfl]
        congr 1
        rw [q_sum_congr (g := fun k => F (ix k)) m (fun k hk => by rw [if_neg (show ¬ k = m by omega)]), h4 F]
        exact q_sum_congr _ (fun k hk => by rw [if_neg (show ¬ k = Tne T by omega)])
    · obtain ⟨m2, ix2, g1, g2, g3, g4⟩ := hE s hs
      rw [f1 _ (by omega) (by omega) (by omega) (by omega), f2 (t + 44 + 5 * s) (by omega) (by omega) (by omega) (by omega), f2 (t + 46 + 5 * s) (by omega) (by omega) (by omega) (by omega)]
      refine ⟨m2, ix2, g1, g2, fun k hk => ?_, fun F => ?_⟩
      · have h5 := g3 k hk
        rw [if_neg (show ¬ ix2 k = Tne T by omega), if_neg (show ¬ ix2 k = Tne T by omega), if_neg (show ¬ ix2 k = Tne T by omega)]
        exact ⟨by omega, h5.2⟩
      · rw [q_sum_s, if_pos rfl, if_neg (show ¬ o = s from fun q => g q.symm), Int.add_zero, g4 F]
        exact q_sum_congr _ (fun k hk => by rw [if_neg (show ¬ k = Tne T by omega)])
  · unfold q_TJ
    simp only [kt_echo_Tnc, kt_echo_Tnh, kt_echo_Tns, kt_echo_Tne, kt_echo_Tnj, kt_echo_TN, kt_echo_Tnm, kt_echo_Tnd, kt_echo_Tlen, kt_echo_Thp, kt_echo_Tha, kt_echo_Thb, kt_echo_Tsc, kt_echo_Tsa, kt_echo_Tsd, kt_echo_Tst, kt_echo_Tsx, kt_echo_Tsf, kt_echo_Teo, kt_echo_Tel, kt_echo_Tjf, kt_echo_Tjt, kt_echo_Tja, kt_echo_Tje, kt_echo_Tch, kt_echo_Tea]
    intro j hj
    rw [f2 (t + 5) (by omega) (by omega) (by omega) (by omega), f2 (t + 7) (by omega) (by omega) (by omega) (by omega), f2 (t + 9) (by omega) (by omega) (by omega) (by omega), f2 (t + 11) (by omega) (by omega) (by omega) (by omega)]
    exact hJ j hj
theorem T_addjam {b t : Nat} {d e : q_Dt} {T : q_Tl} {f to l ea : Nat} (h : q_TT b t d T) (hn : Tnj T < 4) (hf : f ≤ to) (hto : to ≤ 511) (hl : 1 ≤ l ∧ l ≤ 99) (hea : 1 ≤ ea ∧ ea ≤ 99) (e11 : e.1 t 11 = wI (Tnj T + 1 : Nat)) (et : ∀ j, j ≠ 11 → e.1 t j = d.1 t j) (el : e.2.1 (t + 5) (Tnj T) = wJ f ∧ e.2.1 (t + 7) (Tnj T) = wJ to ∧ e.2.1 (t + 9) (Tnj T) = wJ l ∧ e.2.1 (t + 11) (Tnj T) = wJ ea) (ek : ∀ j, j ≠ Tnj T → e.2.1 (t + 5) j = d.2.1 (t + 5) j ∧ e.2.1 (t + 7) j = d.2.1 (t + 7) j ∧ e.2.1 (t + 9) j = d.2.1 (t + 9) j ∧ e.2.1 (t + 11) j = d.2.1 (t + 11) j) (f1 : ∀ x, t ≤ x → x < t + 72 → x ≠ t → e.1 x = d.1 x) (f2 : ∀ x, t + 12 ≤ x → x < t + 72 → e.2.1 x = d.2.1 x) (f3 : ∀ x, t ≤ x → x < t + 72 → e.2.2 x = d.2.2 x) : q_TT b t e (kt_jam T f to l ea) := by
  obtain ⟨hw, ht, h0, hC, hH, hS, hE, hJ⟩ := h
  have hn0 := hw.1
  refine ⟨kt_jam_wf hw hn hf hto hl hea, ht, ?_, ?_, ?_, ?_, ?_, ?_⟩
  · unfold q_T0 at h0 ⊢
    simp only [kt_jam_Tnc, kt_jam_Tnh, kt_jam_Tns, kt_jam_Tne, kt_jam_Tnj, kt_jam_TN, kt_jam_Tnm, kt_jam_Tnd, kt_jam_Tlen, kt_jam_Thp, kt_jam_Tha, kt_jam_Thb, kt_jam_Tsc, kt_jam_Tsa, kt_jam_Tsd, kt_jam_Tst, kt_jam_Tsx, kt_jam_Tsf, kt_jam_Teo, kt_jam_Tel, kt_jam_Tjf, kt_jam_Tjt, kt_jam_Tja, kt_jam_Tje, kt_jam_Tch, kt_jam_Tea]
    rw [e11, et 7 (by omega), et 8 (by omega), et 9 (by omega), et 10 (by omega), et 12 (by omega), et 13 (by omega), et 14 (by omega)]
    exact ⟨h0.1, h0.2.1, h0.2.2.1, h0.2.2.2.1, rfl, h0.2.2.2.2.2⟩
  · unfold q_TC
    simp only [kt_jam_Tnc, kt_jam_Tnh, kt_jam_Tns, kt_jam_Tne, kt_jam_Tnj, kt_jam_TN, kt_jam_Tnm, kt_jam_Tnd, kt_jam_Tlen, kt_jam_Thp, kt_jam_Tha, kt_jam_Thb, kt_jam_Tsc, kt_jam_Tsa, kt_jam_Tsd, kt_jam_Tst, kt_jam_Tsx, kt_jam_Tsf, kt_jam_Teo, kt_jam_Tel, kt_jam_Tjf, kt_jam_Tjt, kt_jam_Tja, kt_jam_Tje, kt_jam_Tch, kt_jam_Tea]
    intro c hcc
    rw [f1 _ (by omega) (by omega) (by omega), f2 _ (by omega) (by omega)]
    exact hC c hcc
  · unfold q_TH
    simp only [kt_jam_Tnc, kt_jam_Tnh, kt_jam_Tns, kt_jam_Tne, kt_jam_Tnj, kt_jam_TN, kt_jam_Tnm, kt_jam_Tnd, kt_jam_Tlen, kt_jam_Thp, kt_jam_Tha, kt_jam_Thb, kt_jam_Tsc, kt_jam_Tsa, kt_jam_Tsd, kt_jam_Tst, kt_jam_Tsx, kt_jam_Tsf, kt_jam_Teo, kt_jam_Tel, kt_jam_Tjf, kt_jam_Tjt, kt_jam_Tja, kt_jam_Tje, kt_jam_Tch, kt_jam_Tea]
    intro q hq
    rw [f1 _ (by omega) (by omega) (by omega)]
    exact hH q hq
  · unfold q_TS
    simp only [kt_jam_Tnc, kt_jam_Tnh, kt_jam_Tns, kt_jam_Tne, kt_jam_Tnj, kt_jam_TN, kt_jam_Tnm, kt_jam_Tnd, kt_jam_Tlen, kt_jam_Thp, kt_jam_Tha, kt_jam_Thb, kt_jam_Tsc, kt_jam_Tsa, kt_jam_Tsd, kt_jam_Tst, kt_jam_Tsx, kt_jam_Tsf, kt_jam_Teo, kt_jam_Tel, kt_jam_Tjf, kt_jam_Tjt, kt_jam_Tja, kt_jam_Tje, kt_jam_Tch, kt_jam_Tea]
    intro s hs
    rw [f1 _ (by omega) (by omega) (by omega), f3 _ (by omega) (by omega)]
    exact hS s hs
  · unfold q_TE
    simp only [kt_jam_Tnc, kt_jam_Tnh, kt_jam_Tns, kt_jam_Tne, kt_jam_Tnj, kt_jam_TN, kt_jam_Tnm, kt_jam_Tnd, kt_jam_Tlen, kt_jam_Thp, kt_jam_Tha, kt_jam_Thb, kt_jam_Tsc, kt_jam_Tsa, kt_jam_Tsd, kt_jam_Tst, kt_jam_Tsx, kt_jam_Tsf, kt_jam_Teo, kt_jam_Tel, kt_jam_Tjf, kt_jam_Tjt, kt_jam_Tja, kt_jam_Tje, kt_jam_Tch, kt_jam_Tea]
    intro s hs
    rw [f1 _ (by omega) (by omega) (by omega), f2 (t + 44 + 5 * s) (by omega) (by omega), f2 (t + 46 + 5 * s) (by omega) (by omega)]
    exact hE s hs
  · unfold q_TJ
    simp only [kt_jam_Tnc, kt_jam_Tnh, kt_jam_Tns, kt_jam_Tne, kt_jam_Tnj, kt_jam_TN, kt_jam_Tnm, kt_jam_Tnd, kt_jam_Tlen, kt_jam_Thp, kt_jam_Tha, kt_jam_Thb, kt_jam_Tsc, kt_jam_Tsa, kt_jam_Tsd, kt_jam_Tst, kt_jam_Tsx, kt_jam_Tsf, kt_jam_Teo, kt_jam_Tel, kt_jam_Tjf, kt_jam_Tjt, kt_jam_Tja, kt_jam_Tje, kt_jam_Tch, kt_jam_Tea]
    intro j hj
    by_cases g : j = Tnj T
    · simp only [if_pos g]
      rw [g]
      exact el
    · simp only [if_neg g]
      have h5 := ek j g
      rw [h5.1, h5.2.1, h5.2.2.1, h5.2.2.2]
      exact hJ j (by omega)
theorem T_noise_s {b t : Nat} {d e : q_Dt} {T : q_Tl} {m s : Nat} (h : q_TT b t d T) (hm : m ≤ 50) (hs : s ≤ 9999) (e13 : e.1 t 13 = wI m) (e14 : e.1 t 14 = wI s) (et : ∀ j, j ≠ 13 → j ≠ 14 → e.1 t j = d.1 t j) (f1 : ∀ x, t ≤ x → x < t + 72 → x ≠ t → e.1 x = d.1 x) (f2 : ∀ x, t ≤ x → x < t + 72 → e.2.1 x = d.2.1 x) (f3 : ∀ x, t ≤ x → x < t + 72 → e.2.2 x = d.2.2 x) : q_TT b t e (kt_noise T m s) := by
  obtain ⟨hw, ht, h0, hC, hH, hS, hE, hJ⟩ := h
  have hn0 := hw.1
  refine ⟨kt_noise_wf hw hm hs, ht, ?_, ?_, ?_, ?_, ?_, ?_⟩
  · unfold q_T0 at h0 ⊢
    simp only [kt_noise_Tnc, kt_noise_Tnh, kt_noise_Tns, kt_noise_Tne, kt_noise_Tnj, kt_noise_TN, kt_noise_Tnm, kt_noise_Tnd, kt_noise_Tlen, kt_noise_Thp, kt_noise_Tha, kt_noise_Thb, kt_noise_Tsc, kt_noise_Tsa, kt_noise_Tsd, kt_noise_Tst, kt_noise_Tsx, kt_noise_Tsf, kt_noise_Teo, kt_noise_Tel, kt_noise_Tjf, kt_noise_Tjt, kt_noise_Tja, kt_noise_Tje, kt_noise_Tch, kt_noise_Tea]
    rw [e13, e14, et 7 (by omega) (by omega), et 8 (by omega) (by omega), et 9 (by omega) (by omega), et 10 (by omega) (by omega), et 11 (by omega) (by omega), et 12 (by omega) (by omega)]
    exact ⟨h0.1, h0.2.1, h0.2.2.1, h0.2.2.2.1, h0.2.2.2.2.1, h0.2.2.2.2.2.1, rfl, rfl⟩
  · unfold q_TC
    simp only [kt_noise_Tnc, kt_noise_Tnh, kt_noise_Tns, kt_noise_Tne, kt_noise_Tnj, kt_noise_TN, kt_noise_Tnm, kt_noise_Tnd, kt_noise_Tlen, kt_noise_Thp, kt_noise_Tha, kt_noise_Thb, kt_noise_Tsc, kt_noise_Tsa, kt_noise_Tsd, kt_noise_Tst, kt_noise_Tsx, kt_noise_Tsf, kt_noise_Teo, kt_noise_Tel, kt_noise_Tjf, kt_noise_Tjt, kt_noise_Tja, kt_noise_Tje, kt_noise_Tch, kt_noise_Tea]
    intro c hcc
    rw [f1 _ (by omega) (by omega) (by omega), f2 _ (by omega) (by omega)]
    exact hC c hcc
  · unfold q_TH
    simp only [kt_noise_Tnc, kt_noise_Tnh, kt_noise_Tns, kt_noise_Tne, kt_noise_Tnj, kt_noise_TN, kt_noise_Tnm, kt_noise_Tnd, kt_noise_Tlen, kt_noise_Thp, kt_noise_Tha, kt_noise_Thb, kt_noise_Tsc, kt_noise_Tsa, kt_noise_Tsd, kt_noise_Tst, kt_noise_Tsx, kt_noise_Tsf, kt_noise_Teo, kt_noise_Tel, kt_noise_Tjf, kt_noise_Tjt, kt_noise_Tja, kt_noise_Tje, kt_noise_Tch, kt_noise_Tea]
    intro q hq
    rw [f1 _ (by omega) (by omega) (by omega)]
    exact hH q hq
  · unfold q_TS
    simp only [kt_noise_Tnc, kt_noise_Tnh, kt_noise_Tns, kt_noise_Tne, kt_noise_Tnj, kt_noise_TN, kt_noise_Tnm, kt_noise_Tnd, kt_noise_Tlen, kt_noise_Thp, kt_noise_Tha, kt_noise_Thb, kt_noise_Tsc, kt_noise_Tsa, kt_noise_Tsd, kt_noise_Tst, kt_noise_Tsx, kt_noise_Tsf, kt_noise_Teo, kt_noise_Tel, kt_noise_Tjf, kt_noise_Tjt, kt_noise_Tja, kt_noise_Tje, kt_noise_Tch, kt_noise_Tea]
    intro s hs
    rw [f1 _ (by omega) (by omega) (by omega), f3 _ (by omega) (by omega)]
    exact hS s hs
  · unfold q_TE
    simp only [kt_noise_Tnc, kt_noise_Tnh, kt_noise_Tns, kt_noise_Tne, kt_noise_Tnj, kt_noise_TN, kt_noise_Tnm, kt_noise_Tnd, kt_noise_Tlen, kt_noise_Thp, kt_noise_Tha, kt_noise_Thb, kt_noise_Tsc, kt_noise_Tsa, kt_noise_Tsd, kt_noise_Tst, kt_noise_Tsx, kt_noise_Tsf, kt_noise_Teo, kt_noise_Tel, kt_noise_Tjf, kt_noise_Tjt, kt_noise_Tja, kt_noise_Tje, kt_noise_Tch, kt_noise_Tea]
    intro s hs
    rw [f1 _ (by omega) (by omega) (by omega), f2 (t + 44 + 5 * s) (by omega) (by omega), f2 (t + 46 + 5 * s) (by omega) (by omega)]
    exact hE s hs
  · unfold q_TJ
    simp only [kt_noise_Tnc, kt_noise_Tnh, kt_noise_Tns, kt_noise_Tne, kt_noise_Tnj, kt_noise_TN, kt_noise_Tnm, kt_noise_Tnd, kt_noise_Tlen, kt_noise_Thp, kt_noise_Tha, kt_noise_Thb, kt_noise_Tsc, kt_noise_Tsa, kt_noise_Tsd, kt_noise_Tst, kt_noise_Tsx, kt_noise_Tsf, kt_noise_Teo, kt_noise_Tel, kt_noise_Tjf, kt_noise_Tjt, kt_noise_Tja, kt_noise_Tje, kt_noise_Tch, kt_noise_Tea]
    intro j hj
    rw [f2 (t + 5) (by omega) (by omega), f2 (t + 7) (by omega) (by omega), f2 (t + 9) (by omega) (by omega), f2 (t + 11) (by omega) (by omega)]
    exact hJ j hj
theorem T_samp_s {b t : Nat} {d e : q_Dt} {T : q_Tl} {n : Nat} (h : q_TT b t d T) (hn : 16 ≤ n ∧ n ≤ 512) (e12 : e.1 t 12 = wI n) (et : ∀ j, j ≠ 12 → e.1 t j = d.1 t j) (f1 : ∀ x, t ≤ x → x < t + 72 → x ≠ t → e.1 x = d.1 x) (f2 : ∀ x, t ≤ x → x < t + 72 → e.2.1 x = d.2.1 x) (f3 : ∀ x, t ≤ x → x < t + 72 → e.2.2 x = d.2.2 x) : q_TT b t e (kt_samp T n) := by
  obtain ⟨hw, ht, h0, hC, hH, hS, hE, hJ⟩ := h
  have hn0 := hw.1
  refine ⟨kt_samp_wf hw hn, ht, ?_, ?_, ?_, ?_, ?_, ?_⟩
  · unfold q_T0 at h0 ⊢
    simp only [kt_samp_Tnc, kt_samp_Tnh, kt_samp_Tns, kt_samp_Tne, kt_samp_Tnj, kt_samp_TN, kt_samp_Tnm, kt_samp_Tnd, kt_samp_Tlen, kt_samp_Thp, kt_samp_Tha, kt_samp_Thb, kt_samp_Tsc, kt_samp_Tsa, kt_samp_Tsd, kt_samp_Tst, kt_samp_Tsx, kt_samp_Tsf, kt_samp_Teo, kt_samp_Tel, kt_samp_Tjf, kt_samp_Tjt, kt_samp_Tja, kt_samp_Tje, kt_samp_Tch, kt_samp_Tea]
    rw [e12, et 7 (by omega), et 8 (by omega), et 9 (by omega), et 10 (by omega), et 11 (by omega), et 13 (by omega), et 14 (by omega)]
    exact ⟨h0.1, h0.2.1, h0.2.2.1, h0.2.2.2.1, h0.2.2.2.2.1, rfl, h0.2.2.2.2.2.2⟩
  · unfold q_TC
    simp only [kt_samp_Tnc, kt_samp_Tnh, kt_samp_Tns, kt_samp_Tne, kt_samp_Tnj, kt_samp_TN, kt_samp_Tnm, kt_samp_Tnd, kt_samp_Tlen, kt_samp_Thp, kt_samp_Tha, kt_samp_Thb, kt_samp_Tsc, kt_samp_Tsa, kt_samp_Tsd, kt_samp_Tst, kt_samp_Tsx, kt_samp_Tsf, kt_samp_Teo, kt_samp_Tel, kt_samp_Tjf, kt_samp_Tjt, kt_samp_Tja, kt_samp_Tje, kt_samp_Tch, kt_samp_Tea]
    intro c hcc
    rw [f1 _ (by omega) (by omega) (by omega), f2 _ (by omega) (by omega)]
    exact hC c hcc
  · unfold q_TH
    simp only [kt_samp_Tnc, kt_samp_Tnh, kt_samp_Tns, kt_samp_Tne, kt_samp_Tnj, kt_samp_TN, kt_samp_Tnm, kt_samp_Tnd, kt_samp_Tlen, kt_samp_Thp, kt_samp_Tha, kt_samp_Thb, kt_samp_Tsc, kt_samp_Tsa, kt_samp_Tsd, kt_samp_Tst, kt_samp_Tsx, kt_samp_Tsf, kt_samp_Teo, kt_samp_Tel, kt_samp_Tjf, kt_samp_Tjt, kt_samp_Tja, kt_samp_Tje, kt_samp_Tch, kt_samp_Tea]
    intro q hq
    rw [f1 _ (by omega) (by omega) (by omega)]
    exact hH q hq
  · unfold q_TS
    simp only [kt_samp_Tnc, kt_samp_Tnh, kt_samp_Tns, kt_samp_Tne, kt_samp_Tnj, kt_samp_TN, kt_samp_Tnm, kt_samp_Tnd, kt_samp_Tlen, kt_samp_Thp, kt_samp_Tha, kt_samp_Thb, kt_samp_Tsc, kt_samp_Tsa, kt_samp_Tsd, kt_samp_Tst, kt_samp_Tsx, kt_samp_Tsf, kt_samp_Teo, kt_samp_Tel, kt_samp_Tjf, kt_samp_Tjt, kt_samp_Tja, kt_samp_Tje, kt_samp_Tch, kt_samp_Tea]
    intro s hs
    rw [f1 _ (by omega) (by omega) (by omega), f3 _ (by omega) (by omega)]
    exact hS s hs
  · unfold q_TE
    simp only [kt_samp_Tnc, kt_samp_Tnh, kt_samp_Tns, kt_samp_Tne, kt_samp_Tnj, kt_samp_TN, kt_samp_Tnm, kt_samp_Tnd, kt_samp_Tlen, kt_samp_Thp, kt_samp_Tha, kt_samp_Thb, kt_samp_Tsc, kt_samp_Tsa, kt_samp_Tsd, kt_samp_Tst, kt_samp_Tsx, kt_samp_Tsf, kt_samp_Teo, kt_samp_Tel, kt_samp_Tjf, kt_samp_Tjt, kt_samp_Tja, kt_samp_Tje, kt_samp_Tch, kt_samp_Tea]
    intro s hs
    rw [f1 _ (by omega) (by omega) (by omega), f2 (t + 44 + 5 * s) (by omega) (by omega), f2 (t + 46 + 5 * s) (by omega) (by omega)]
    exact hE s hs
  · unfold q_TJ
    simp only [kt_samp_Tnc, kt_samp_Tnh, kt_samp_Tns, kt_samp_Tne, kt_samp_Tnj, kt_samp_TN, kt_samp_Tnm, kt_samp_Tnd, kt_samp_Tlen, kt_samp_Thp, kt_samp_Tha, kt_samp_Thb, kt_samp_Tsc, kt_samp_Tsa, kt_samp_Tsd, kt_samp_Tst, kt_samp_Tsx, kt_samp_Tsf, kt_samp_Teo, kt_samp_Tel, kt_samp_Tjf, kt_samp_Tjt, kt_samp_Tja, kt_samp_Tje, kt_samp_Tch, kt_samp_Tea]
    intro j hj
    rw [f2 (t + 5) (by omega) (by omega), f2 (t + 7) (by omega) (by omega), f2 (t + 9) (by omega) (by omega), f2 (t + 11) (by omega) (by omega)]
    exact hJ j hj
