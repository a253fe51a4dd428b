theorem bI_1 {c : Bool} : ¬ bI c = 0 ↔ c = true := by cases c <;> decide
theorem bI_fit (c : Bool) : fits .boolean (.int (bI c)) = true := by cases c <;> rfl
theorem nq_le {a b : Nat} (ha : a < 2 ^ 31) (hb : b < 2 ^ 31) (h : nI a ≤ nI b) : a ≤ b := (nI_leI ha hb).mp h
theorem nq_nle {a b : Nat} (ha : a < 2 ^ 31) (hb : b < 2 ^ 31) (h : ¬ nI a ≤ nI b) : b < a := Nat.lt_of_not_le (fun z => h ((nI_leI ha hb).mpr z))
theorem nq_lt {a b : Nat} (ha : a < 2 ^ 31) (hb : b < 2 ^ 31) (h : nI a < nI b) : a < b := (nI_ltI ha hb).mp h
theorem nq_nlt {a b : Nat} (ha : a < 2 ^ 31) (hb : b < 2 ^ 31) (h : ¬ nI a < nI b) : b ≤ a := Nat.le_of_not_lt (fun z => h ((nI_ltI ha hb).mpr z))
theorem nq_eq {a b : Nat} (ha : a < 2 ^ 31) (hb : b < 2 ^ 31) (h : nI a = nI b) : a = b := (nI_eq ha hb).mp h
theorem nq_ne {a b : Nat} (ha : a < 2 ^ 31) (hb : b < 2 ^ 31) (h : ¬ nI a = nI b) : ¬ a = b := fun z => h ((nI_eq ha hb).mpr z)
/-! what the small methods answer -/
abbrev ju (x y : Int32) : Int32 := (x.toUInt32 >>> (y.toUInt32 &&& Int32.toUInt32 31)).toInt32
/-- Integer.bitCount, as it is computed -/
def jb1 (i : Int32) : Int32 := i - (ju i 1 &&& 1431655765)
def jb2 (i : Int32) : Int32 := (i &&& 858993459) + (ju i 2 &&& 858993459)
def jb3 (i : Int32) : Int32 := (i + ju i 4) &&& 252645135
def jb4 (i : Int32) : Int32 := i + ju i 8
def jb5 (i : Int32) : Int32 := i + ju i 16
def jbN (i : Int32) : Nat := (jb5 (jb4 (jb3 (jb2 (jb1 i))))).toBitVec.toNat % 2 ^ 6
theorem jbN_eq (i : Int32) : jb5 (jb4 (jb3 (jb2 (jb1 i)))) &&& 63 = nI (jbN i) := pk_and _ 6 rfl
theorem jbN_lt (i : Int32) : jbN i < 64 := Nat.mod_lt _ (by decide)
def ps_has (s k : Int32) : Bool := !decide ((s >>> (k &&& 31)) &&& 1 = 0)
def ps_least (s : Int32) : Nat := jbN ((s &&& (-s)) - 1)
def ps_below (x y : Int32) : Nat := jbN (x &&& ((y &&& (-y)) - 1))
theorem ps_least_lt (s : Int32) : ps_least s < 64 := jbN_lt _
theorem ps_below_lt (x y : Int32) : ps_below x y < 64 := jbN_lt _
def ps_in (v n : Int32) : Bool := !decide (v < 0) && !decide (n ≤ v)
def ps_ends (F S : Nat → Nat) (e : Nat) : Int32 := (1 <<< (nI (F e) &&& 31)) ||| (1 <<< (nI (S e) &&& 31))
def ps_betw (F S : Nat → Nat) (e : Nat) (x : Int32) : Bool := !decide (((x >>> (nI (F e) &&& 31)) ^^^ (x >>> (nI (S e) &&& 31))) &&& 1 = 0)
def ps_all (k : Nat) : Int32 := (1 <<< (nI k &&& 31)) - 1
def ps_deg1 (F S : Nat → Nat) (v part : Int32) : Nat → Int32 → Int32 := fun e d => if ps_has part (nI e) = true ∧ (nI (F e) = v ∨ nI (S e) = v) then d + 1 else d
