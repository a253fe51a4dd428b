/-! bits: the first rows are those of kit/laws/BITS.to-paste -/
def bt (x : Int32) (i : Nat) : Bool := x.toBitVec.getLsbD i
theorem b_ext {x y : Int32} (h : ∀ i, i < 32 → bt x i = bt y i) : x = y := Int32.toBitVec_inj.mp (BitVec.eq_of_getLsbD_eq (fun i hi => h i hi))
theorem b_or (x y : Int32) (i : Nat) : bt (x ||| y) i = (bt x i || bt y i) := by unfold bt; rw [Int32.toBitVec_or, BitVec.getLsbD_or]
theorem b_and (x y : Int32) (i : Nat) : bt (x &&& y) i = (bt x i && bt y i) := by unfold bt; rw [Int32.toBitVec_and, BitVec.getLsbD_and]
theorem b_xor (x y : Int32) (i : Nat) : bt (x ^^^ y) i = (bt x i ^^ bt y i) := by unfold bt; rw [Int32.toBitVec_xor, BitVec.getLsbD_xor]
theorem b_big {x : Int32} {i : Nat} (h : 32 ≤ i) : bt x i = false := BitVec.getLsbD_of_ge _ _ h
theorem b_m1 : ∀ i, i < 32 → bt (-1) i = true := by decide +kernel
theorem b_0 (i : Nat) : bt 0 i = false := BitVec.getLsbD_zero
theorem s_l : ∀ n, n < 32 → ((nI n &&& 31).toBitVec.smod 32).toNat = n := by decide +kernel
theorem s_u : ∀ n, n < 32 → (((nI n).toUInt32 &&& Int32.toUInt32 31).toBitVec % 32).toNat = n := by decide +kernel
theorem b_shl (n : Nat) (hn : n < 32) (x : Int32) {i : Nat} (hi : i < 32) : bt (x <<< (nI n &&& 31)) i = (decide (n ≤ i) && bt x (i - n)) := by
  unfold bt
  rw [Int32.toBitVec_shiftLeft]
  show (x.toBitVec <<< ((nI n &&& 31).toBitVec.smod 32).toNat).getLsbD i = _
  rw [s_l n hn, BitVec.getLsbD_shiftLeft]
  rcases Nat.lt_or_ge i n with h | h
  · simp [h, Nat.not_le.mpr h]
  · simp [hi, h, Nat.not_lt.mpr h]
theorem b_ushr (n : Nat) (hn : n < 32) (x : Int32) (i : Nat) : bt ((x.toUInt32 >>> ((nI n).toUInt32 &&& Int32.toUInt32 31)).toInt32) i = bt x (n + i) := by
  show (x.toUInt32 >>> ((nI n).toUInt32 &&& Int32.toUInt32 31)).toBitVec.getLsbD i = x.toUInt32.toBitVec.getLsbD (n + i)
  rw [UInt32.toBitVec_shiftRight]
  show (x.toUInt32.toBitVec >>> (((nI n).toUInt32 &&& Int32.toUInt32 31).toBitVec % 32).toNat).getLsbD i = _
  rw [s_u n hn, BitVec.getLsbD_ushiftRight]
theorem b_sshr (n : Nat) (hn : n < 32) (x : Int32) {i : Nat} (hi : i < 32) : bt (x >>> (nI n &&& 31)) i = if n + i < 32 then bt x (n + i) else bt x 31 := by
  unfold bt
  rw [Int32.toBitVec_shiftRight]
  show (x.toBitVec.sshiftRight ((nI n &&& 31).toBitVec.smod 32).toNat).getLsbD i = _
  rw [s_l n hn, BitVec.getLsbD_sshiftRight, BitVec.msb_eq_getLsbD_last]
  simp [hi]
theorem b_1 : ∀ i, i < 32 → bt 1 i = decide (i = 0) := by decide +kernel
theorem b_one : ∀ j, j < 32 → ∀ i, i < 32 → bt (1 <<< (nI j &&& 31)) i = decide (i = j) := by decide +kernel
theorem b_all : ∀ k, k < 32 → ∀ i, i < 32 → bt (ps_all k) i = decide (i < k) := by decide +kernel
theorem b_not (x : Int32) {i : Nat} (hi : i < 32) : bt (x ^^^ (-1)) i = !bt x i := by
  rw [b_xor, b_m1 i hi]
  cases bt x i <;> rfl
theorem b_and1 (y : Int32) : (y &&& 1 = 0) ↔ bt y 0 = false := by
  constructor
  · intro h
    have h1 := b_and y 1 0
    rw [h, b_0, b_1 0 (by decide)] at h1
    simpa using h1.symm
  · intro h
    apply b_ext
    intro i hi
    rw [b_and, b_0, b_1 i hi]
    by_cases e : i = 0
    · subst e
      simp [h]
    · simp [e]
theorem b_and2 (y : Int32) : (y &&& 1 = 1) ↔ bt y 0 = true := by
  constructor
  · intro h
    have h1 := b_and y 1 0
    rw [h, b_1 0 (by decide)] at h1
    simpa using h1.symm
  · intro h
    apply b_ext
    intro i hi
    rw [b_and, b_1 i hi]
    by_cases e : i = 0
    · subst e
      simp [h]
    · simp [e]
theorem ps_has_bt (x : Int32) {i : Nat} (hi : i < 32) : ps_has x (nI i) = bt x i := by
  unfold ps_has
  have h := b_and1 (x >>> (nI i &&& 31))
  rw [b_sshr i hi x (by decide), if_pos (by omega)] at h
  have h' : ((x >>> (nI i &&& 31)) &&& 1 = 0) ↔ bt x i = false := h
  cases e : bt x i with
  | false => simp [h'.mpr e]
  | true =>
    have hn : ¬ ((x >>> (nI i &&& 31)) &&& 1 = 0) := fun q => by rw [h'.mp q] at e; cases e
    simp [hn]
theorem pm_has_bt (x : Int32) {i : Nat} (hi : i < 32) : pm_has x (nI i) = bt x i := by
  unfold pm_has
  have h := b_and2 (x >>> (nI i &&& 31))
  rw [b_sshr i hi x (by decide), if_pos (by omega)] at h
  have h' : ((x >>> (nI i &&& 31)) &&& 1 = 1) ↔ bt x i = true := h
  cases e : bt x i with
  | true => simp [h'.mpr e]
  | false =>
    have hn : ¬ ((x >>> (nI i &&& 31)) &&& 1 = 1) := fun q => by rw [h'.mp q] at e; cases e
    simp [hn]
theorem b_zero {x : Int32} : x = 0 ↔ ∀ i, i < 32 → bt x i = false := by
  constructor
  · intro h i _
    rw [h, b_0]
  · intro h
    exact b_ext (fun i hi => by rw [h i hi, b_0])
theorem b_ne {x : Int32} (h : ¬ x = 0) : ∃ i, i < 32 ∧ bt x i = true := by
  refine Classical.byContradiction fun q => h (b_zero.mpr fun i hi => ?_)
  cases e : bt x i with
  | false => rfl
  | true => exact absurd ⟨i, hi, e⟩ q
/-- the least of those below n that have it -/
theorem least_of {n : Nat} {P : Nat → Bool} (h : ∃ i, i < n ∧ P i = true) : ∃ i, i < n ∧ P i = true ∧ ∀ j, j < i → P j = false := by
  induction n with
  | zero => obtain ⟨i, hi, _⟩ := h; omega
  | succ n ih =>
    by_cases q : ∃ i, i < n ∧ P i = true
    · obtain ⟨i, h1, h2, h3⟩ := ih q
      exact ⟨i, by omega, h2, h3⟩
    · obtain ⟨i, hi, hp⟩ := h
      have e : i = n := by
        rcases Nat.lt_or_ge i n with g | g
        · exact absurd ⟨i, g, hp⟩ q
        · omega
      subst e
      refine ⟨i, hi, hp, fun j hj => ?_⟩
      cases e : P j with
      | false => rfl
      | true => exact absurd ⟨j, hj, e⟩ q
theorem b_neg (x : Int32) {i : Nat} (hi : i < 32) : bt (-x) i = (bt x i ^^ decide (∃ j, j < i ∧ bt x j = true)) := by
  unfold bt
  rw [Int32.toBitVec_neg, BitVec.getLsbD_neg]
  simp [hi]
/-- the least bit alone -/
theorem b_low {x : Int32} {i : Nat} (hi : i < 32) (h : bt x i = true) (hl : ∀ j, j < i → bt x j = false) : x &&& (-x) = 1 <<< (nI i &&& 31) := by
  apply b_ext
  intro j hj
  rw [b_and, b_neg x hj, b_one i hi j hj]
  rcases Nat.lt_trichotomy j i with g | g | g
  · have e : ¬ j = i := by omega
    simp [hl j g, e]
  · subst g
    have : ¬ ∃ k, k < j ∧ bt x k = true := fun ⟨k, h1, h2⟩ => by rw [hl k h1] at h2; cases h2
    simp [h, this]
  · have : ∃ k, k < j ∧ bt x k = true := ⟨i, g, h⟩
    rw [decide_eq_true this, decide_eq_false (by omega : ¬ j = i)]
    cases bt x j <;> rfl
/-- how many below n -/
def cn : Nat → (Nat → Bool) → Nat
  | 0, _ => 0
  | n + 1, f => cn n f + (f n).toNat
theorem cn_s (n : Nat) (f : Nat → Bool) : cn (n + 1) f = cn n f + (f n).toNat := rfl
theorem cn_congr {n : Nat} {f g : Nat → Bool} (h : ∀ i, i < n → f i = g i) : cn n f = cn n g := by
  induction n with
  | zero => rfl
  | succ n ih => rw [cn_s, cn_s, ih (fun i hi => h i (by omega)), h n (by omega)]
theorem cn_le (n : Nat) (f : Nat → Bool) : cn n f ≤ n := by
  induction n with
  | zero => exact Nat.le_refl _
  | succ n ih =>
    rw [cn_s]
    have := Bool.toNat_le (f n)
    omega
theorem cn_add (n m : Nat) (f : Nat → Bool) : cn (n + m) f = cn n f + cn m (fun i => f (n + i)) := by
  induction m with
  | zero => rfl
  | succ m ih => rw [← Nat.add_assoc, cn_s, cn_s, ih, Nat.add_assoc]
theorem cn_lt (n k : Nat) (h : k ≤ n) : cn n (fun i => decide (i < k)) = k := by
  induction n generalizing k with
  | zero => have : k = 0 := by omega
            subst this; rfl
  | succ n ih =>
    rw [cn_s]
    by_cases e : k = n + 1
    · subst e
      rw [decide_eq_true (by omega), cn_congr (g := fun i => decide (i < n)) (fun i hi => by rw [decide_eq_true hi, decide_eq_true (by omega)]), ih n (Nat.le_refl n)]
      rfl
    · rw [decide_eq_false (by omega), ih k (by omega)]
      rfl
/-! the count of bits, byte by byte -/
theorem by_and {a b c d : Nat} (hc : c < 2 ^ 8) (hd : d < 2 ^ 8) : (2 ^ 8 * a + c) &&& (2 ^ 8 * b + d) = 2 ^ 8 * (a &&& b) + (c &&& d) := by
  apply Nat.eq_of_testBit_eq
  intro j
  rw [Nat.testBit_and, Nat.testBit_two_pow_mul_add a hc, Nat.testBit_two_pow_mul_add b hd, Nat.testBit_two_pow_mul_add _ (Nat.lt_of_le_of_lt Nat.and_le_left hc)]
  by_cases h : j < 8
  · simp [h]
  · simp [h]
theorem by_shr {a b c d s : Nat} (hs : s ≤ 8) (hc : c < 2 ^ 8) (hd : d < 2 ^ (8 - s)) : ((2 ^ 8 * a + c) >>> s) &&& (2 ^ 8 * b + d) = 2 ^ 8 * ((a >>> s) &&& b) + ((c >>> s) &&& d) := by
  have hd8 : d < 2 ^ 8 := Nat.lt_of_lt_of_le hd (Nat.pow_le_pow_right (by decide) (by omega))
  apply Nat.eq_of_testBit_eq
  intro j
  rw [Nat.testBit_and, Nat.testBit_shiftRight, Nat.testBit_two_pow_mul_add a hc, Nat.testBit_two_pow_mul_add b hd8, Nat.testBit_two_pow_mul_add _ (Nat.lt_of_le_of_lt Nat.and_le_right hd8)]
  by_cases h : j < 8
  · by_cases g : s + j < 8
    · simp [h, g]
    · have : d.testBit j = false := Nat.testBit_lt_two_pow (Nat.lt_of_lt_of_le hd (Nat.pow_le_pow_right (by decide) (by omega)))
      simp [h, g, this]
  · have g : ¬ s + j < 8 := by omega
    simp [h, g, show s + j - 8 = s + (j - 8) by omega]
def n1 (m x : Nat) : Nat := x - ((x >>> 1) &&& m)
def n2 (m x : Nat) : Nat := (x &&& m) + ((x >>> 2) &&& m)
def n3 (m x : Nat) : Nat := (x + (x >>> 4)) &&& m
theorem n1_le (m x : Nat) : (x >>> 1) &&& m ≤ x := Nat.le_trans Nat.and_le_left (by rw [Nat.shiftRight_eq_div_pow]; exact Nat.div_le_self _ _)
theorem n1_by (m a c : Nat) (hc : c < 2 ^ 8) : n1 (2 ^ 8 * m + 0x55) (2 ^ 8 * a + c) = 2 ^ 8 * n1 m a + n1 0x55 c := by
  unfold n1
  rw [by_shr (by decide) hc (by decide)]
  have := n1_le m a
  have := n1_le 0x55 c
  omega
theorem n2_by (m a c : Nat) (hc : c < 2 ^ 8) : n2 (2 ^ 8 * m + 0x33) (2 ^ 8 * a + c) = 2 ^ 8 * n2 m a + n2 0x33 c := by
  unfold n2
  rw [by_shr (by decide) hc (by decide), by_and hc (by decide)]
  omega
theorem n3_by (m a c : Nat) (hc : c + (c >>> 4) + 16 * (a % 16) < 2 ^ 8) : n3 (2 ^ 8 * m + 15) (2 ^ 8 * a + c) = 2 ^ 8 * n3 m a + n3 15 c := by
  unfold n3
  have e : 2 ^ 8 * a + c + ((2 ^ 8 * a + c) >>> 4) = 2 ^ 8 * (a + (a >>> 4)) + (c + (c >>> 4) + 16 * (a % 16)) := by
    simp only [Nat.shiftRight_eq_div_pow]
    omega
  rw [e, by_and hc (by decide)]
  congr 1
  have h1 : ∀ y : Nat, y &&& 15 = y % 16 := fun y => Nat.and_two_pow_sub_one_eq_mod y 4
  rw [h1, h1]
  omega
theorem pc_8 : ∀ c, c < 256 → n1 0x55 c < 256 ∧ n2 0x33 (n1 0x55 c) ≤ 68 ∧ n2 0x33 (n1 0x55 c) % 16 ≤ 4 ∧ n3 15 (n2 0x33 (n1 0x55 c)) = cn 8 (fun i => c.testBit i) := by decide +kernel
theorem pc_b (c : Nat) (h : c < 256) : n1 0x55 c < 256 := (pc_8 c h).1
theorem pc_b2 (c : Nat) (h : c < 256) : n2 0x33 (n1 0x55 c) ≤ 68 := (pc_8 c h).2.1
/-- the three steps on four bytes -/
theorem pc_32 (c0 c1 c2 c3 : Nat) (h0 : c0 < 256) (h1 : c1 < 256) (h2 : c2 < 256) (h3 : c3 < 256) :
    n3 252645135 (n2 858993459 (n1 1431655765 (2 ^ 8 * (2 ^ 8 * (2 ^ 8 * c3 + c2) + c1) + c0))) = 2 ^ 8 * (2 ^ 8 * (2 ^ 8 * n3 15 (n2 0x33 (n1 0x55 c3)) + n3 15 (n2 0x33 (n1 0x55 c2))) + n3 15 (n2 0x33 (n1 0x55 c1))) + n3 15 (n2 0x33 (n1 0x55 c0)) := by
  have e1 : n1 1431655765 (2 ^ 8 * (2 ^ 8 * (2 ^ 8 * c3 + c2) + c1) + c0) = 2 ^ 8 * (2 ^ 8 * (2 ^ 8 * n1 0x55 c3 + n1 0x55 c2) + n1 0x55 c1) + n1 0x55 c0 := by
    rw [show (1431655765 : Nat) = 2 ^ 8 * (2 ^ 8 * (2 ^ 8 * 0x55 + 0x55) + 0x55) + 0x55 from rfl, n1_by _ _ _ h0, n1_by _ _ _ h1, n1_by _ _ _ h2]
  have e2 : n2 858993459 (2 ^ 8 * (2 ^ 8 * (2 ^ 8 * n1 0x55 c3 + n1 0x55 c2) + n1 0x55 c1) + n1 0x55 c0) = 2 ^ 8 * (2 ^ 8 * (2 ^ 8 * n2 0x33 (n1 0x55 c3) + n2 0x33 (n1 0x55 c2)) + n2 0x33 (n1 0x55 c1)) + n2 0x33 (n1 0x55 c0) := by
    rw [show (858993459 : Nat) = 2 ^ 8 * (2 ^ 8 * (2 ^ 8 * 0x33 + 0x33) + 0x33) + 0x33 from rfl, n2_by _ _ _ (pc_b c0 h0), n2_by _ _ _ (pc_b c1 h1), n2_by _ _ _ (pc_b c2 h2)]
  rw [e1, e2]
  have q0 := pc_8 c0 h0
  have q1 := pc_8 c1 h1
  have q2 := pc_8 c2 h2
  have q3 := pc_8 c3 h3
  have s4 : ∀ y : Nat, y >>> 4 = y / 16 := fun y => Nat.shiftRight_eq_div_pow y 4
  rw [show (252645135 : Nat) = 2 ^ 8 * (2 ^ 8 * (2 ^ 8 * 15 + 15) + 15) + 15 from rfl, n3_by _ _ _ (by rw [s4]; omega), n3_by _ _ _ (by rw [s4]; omega), n3_by _ _ _ (by rw [s4]; omega)]
theorem ju_nat (x : Int32) (s : Nat) (hs : s < 32) : (ju x (nI s)).toBitVec.toNat = x.toBitVec.toNat >>> s := by
  apply Nat.eq_of_testBit_eq
  intro i
  have h := b_ushr s hs x i
  rw [Nat.testBit_shiftRight]
  exact h
theorem bt_nat (x : Int32) (i : Nat) : bt x i = x.toBitVec.toNat.testBit i := rfl
theorem i_and (x : Int32) (m : Int32) : (x &&& m).toBitVec.toNat = x.toBitVec.toNat &&& m.toBitVec.toNat := by rw [Int32.toBitVec_and, BitVec.toNat_and]
theorem i_add (x y : Int32) (h : x.toBitVec.toNat + y.toBitVec.toNat < 2 ^ 32) : (x + y).toBitVec.toNat = x.toBitVec.toNat + y.toBitVec.toNat := by rw [Int32.toBitVec_add, BitVec.toNat_add, Nat.mod_eq_of_lt h]
theorem i_sub (x y : Int32) (h : y.toBitVec.toNat ≤ x.toBitVec.toNat) : (x - y).toBitVec.toNat = x.toBitVec.toNat - y.toBitVec.toNat := by
  rw [Int32.toBitVec_sub, BitVec.toNat_sub]
  have := x.toBitVec.isLt
  have := y.toBitVec.isLt
  omega
theorem jbN_cn (x : Int32) : jbN x = cn 32 (bt x) := by
  obtain ⟨X, hX⟩ : ∃ X, X = x.toBitVec.toNat := ⟨_, rfl⟩
  have hlt : X < 2 ^ 32 := by rw [hX]; exact x.toBitVec.isLt
  obtain ⟨c0, c1, c2, c3, h0, h1, h2, h3, he⟩ : ∃ c0 c1 c2 c3 : Nat, c0 < 256 ∧ c1 < 256 ∧ c2 < 256 ∧ c3 < 256 ∧ X = 2 ^ 8 * (2 ^ 8 * (2 ^ 8 * c3 + c2) + c1) + c0 := ⟨X % 256, X / 256 % 256, X / 65536 % 256, X / 16777216, by omega, by omega, by omega, by omega, by omega⟩
  have a1 : (jb1 x).toBitVec.toNat = n1 1431655765 X := by
    unfold jb1 n1
    have e : (ju x 1 &&& 1431655765).toBitVec.toNat = (X >>> 1) &&& 1431655765 := by rw [i_and, show (1 : Int32) = nI 1 from rfl, ju_nat x 1 (by decide), hX]; rfl
    rw [i_sub _ _ (by rw [e, ← hX]; exact n1_le _ _), e, ← hX]
  have l1 : n1 1431655765 X < 2 ^ 32 := Nat.lt_of_le_of_lt (Nat.sub_le _ _) hlt
  have a2 : (jb2 (jb1 x)).toBitVec.toNat = n2 858993459 (n1 1431655765 X) := by
    unfold jb2 n2
    have e : (ju (jb1 x) 2 &&& 858993459).toBitVec.toNat = (n1 1431655765 X >>> 2) &&& 858993459 := by rw [i_and, show (2 : Int32) = nI 2 from rfl, ju_nat _ 2 (by decide), a1]; rfl
    have e' : (jb1 x &&& 858993459).toBitVec.toNat = n1 1431655765 X &&& 858993459 := by rw [i_and, a1]; rfl
    have g1 : n1 1431655765 X &&& 858993459 ≤ 858993459 := Nat.and_le_right
    have g2 : (n1 1431655765 X >>> 2) &&& 858993459 ≤ 858993459 := Nat.and_le_right
    rw [i_add _ _ (by rw [e, e']; omega), e, e']
  have l2 : n2 858993459 (n1 1431655765 X) ≤ 1717986918 := by
    unfold n2
    have g1 : n1 1431655765 X &&& 858993459 ≤ 858993459 := Nat.and_le_right
    have g2 : (n1 1431655765 X >>> 2) &&& 858993459 ≤ 858993459 := Nat.and_le_right
    omega
  have a3 : (jb3 (jb2 (jb1 x))).toBitVec.toNat = n3 252645135 (n2 858993459 (n1 1431655765 X)) := by
    unfold jb3 n3
    have e : (ju (jb2 (jb1 x)) 4).toBitVec.toNat = n2 858993459 (n1 1431655765 X) >>> 4 := by rw [show (4 : Int32) = nI 4 from rfl, ju_nat _ 4 (by decide), a2]
    have g : n2 858993459 (n1 1431655765 X) >>> 4 ≤ n2 858993459 (n1 1431655765 X) / 16 := by rw [Nat.shiftRight_eq_div_pow]; exact Nat.le_refl _
    rw [i_and, i_add _ _ (by rw [e, a2]; omega), e, a2]
    rfl
  have p := pc_32 c0 c1 c2 c3 h0 h1 h2 h3
  rw [← he] at p
  rw [p, (pc_8 c0 h0).2.2.2, (pc_8 c1 h1).2.2.2, (pc_8 c2 h2).2.2.2, (pc_8 c3 h3).2.2.2] at a3
  have b0 := cn_le 8 (fun i => c0.testBit i)
  have b1 := cn_le 8 (fun i => c1.testBit i)
  have b2 := cn_le 8 (fun i => c2.testBit i)
  have b3 := cn_le 8 (fun i => c3.testBit i)
  generalize hd0 : cn 8 (fun i => c0.testBit i) = d0 at a3 b0
  generalize hd1 : cn 8 (fun i => c1.testBit i) = d1 at a3 b1
  generalize hd2 : cn 8 (fun i => c2.testBit i) = d2 at a3 b2
  generalize hd3 : cn 8 (fun i => c3.testBit i) = d3 at a3 b3
  have a4 : (jb4 (jb3 (jb2 (jb1 x)))).toBitVec.toNat = (d0 + d1) + 256 * (d1 + d2) + 65536 * (d2 + d3) + 16777216 * d3 := by
    unfold jb4
    have e : (ju (jb3 (jb2 (jb1 x))) 8).toBitVec.toNat = d1 + 256 * d2 + 65536 * d3 := by
      rw [show (8 : Int32) = nI 8 from rfl, ju_nat _ 8 (by decide), a3, Nat.shiftRight_eq_div_pow]
      omega
    rw [i_add _ _ (by rw [e, a3]; omega), e, a3]
    omega
  have a5 : (jb5 (jb4 (jb3 (jb2 (jb1 x))))).toBitVec.toNat = (d0 + d1 + d2 + d3) + 256 * (d1 + d2 + d3) + 65536 * (d2 + d3) + 16777216 * d3 := by
    unfold jb5
    have e : (ju (jb4 (jb3 (jb2 (jb1 x)))) 16).toBitVec.toNat = (d2 + d3) + 256 * d3 := by
      rw [show (16 : Int32) = nI 16 from rfl, ju_nat _ 16 (by decide), a4, Nat.shiftRight_eq_div_pow]
      omega
    rw [i_add _ _ (by rw [e, a4]; omega), e, a4]
    omega
  have f : jbN x = d0 + d1 + d2 + d3 := by
    unfold jbN
    rw [a5]
    omega
  have tb : ∀ j, X.testBit j = if j < 8 then c0.testBit j else if j < 16 then c1.testBit (j - 8) else if j < 24 then c2.testBit (j - 16) else c3.testBit (j - 24) := by
    intro j
    rw [he, Nat.testBit_two_pow_mul_add _ h0, Nat.testBit_two_pow_mul_add _ h1, Nat.testBit_two_pow_mul_add _ h2]
    by_cases g1 : j < 8
    · rw [if_pos g1, if_pos g1]
    · by_cases g2 : j < 16
      · have : j - 8 < 8 := by omega
        rw [if_neg g1, if_pos this, if_neg g1, if_pos g2]
      · have t2 : ¬ j - 8 < 8 := by omega
        by_cases g3 : j < 24
        · have : j - 8 - 8 < 8 := by omega
          rw [if_neg g1, if_neg t2, if_pos this, if_neg g1, if_neg g2, if_pos g3, show j - 8 - 8 = j - 16 by omega]
        · have : ¬ j - 8 - 8 < 8 := by omega
          rw [if_neg g1, if_neg t2, if_neg this, if_neg g1, if_neg g2, if_neg g3, show j - 8 - 8 - 8 = j - 24 by omega]
  rw [f, ← hd0, ← hd1, ← hd2, ← hd3, show (32 : Nat) = 8 + (8 + (8 + 8)) from rfl, cn_add, cn_add, cn_add]
  rw [cn_congr (n := 8) (f := bt x) (g := fun i => c0.testBit i) (fun i hi => by rw [bt_nat, ← hX, tb, if_pos hi])]
  rw [cn_congr (n := 8) (f := fun i => bt x (8 + i)) (g := fun i => c1.testBit i) (fun i hi => by rw [bt_nat, ← hX, tb, if_neg (by omega), if_pos (by omega), Nat.add_sub_cancel_left])]
  rw [cn_congr (n := 8) (f := fun i => bt x (8 + (8 + i))) (g := fun i => c2.testBit i) (fun i hi => by rw [bt_nat, ← hX, tb, if_neg (by omega), if_neg (by omega), if_pos (by omega), show 8 + (8 + i) - 16 = i by omega])]
  rw [cn_congr (n := 8) (f := fun i => bt x (8 + (8 + (8 + i)))) (g := fun i => c3.testBit i) (fun i hi => by rw [bt_nat, ← hX, tb, if_neg (by omega), if_neg (by omega), if_neg (by omega), show 8 + (8 + (8 + i)) - 24 = i by omega])]
  omega
theorem ps_least_of {x : Int32} {i : Nat} (hi : i < 32) (h : bt x i = true) (hl : ∀ j, j < i → bt x j = false) : ps_least x = i := by
  unfold ps_least
  rw [b_low hi h hl, show ((1 : Int32) <<< (nI i &&& 31)) - 1 = ps_all i from rfl, jbN_cn, cn_congr (g := fun j => decide (j < i)) (fun j hj => b_all i hi j hj), cn_lt 32 i (by omega)]
/-- the least bit -/
theorem ps_least_ok {x : Int32} (h : ¬ x = 0) : ps_least x < 32 ∧ bt x (ps_least x) = true ∧ ∀ j, j < ps_least x → bt x j = false := by
  obtain ⟨i, h1, h2, h3⟩ := least_of (b_ne h)
  rw [ps_least_of h1 h2 h3]
  exact ⟨h1, h2, h3⟩
theorem ps_below_ok {x y : Int32} (h : ¬ y = 0) : ps_below x y = cn (ps_least y) (bt x) := by
  obtain ⟨h1, h2, h3⟩ := ps_least_ok h
  unfold ps_below
  rw [b_low h1 h2 h3, show ((1 : Int32) <<< (nI (ps_least y) &&& 31)) - 1 = ps_all (ps_least y) from rfl, jbN_cn]
  obtain ⟨d, hd⟩ : ∃ d, 32 = ps_least y + d := ⟨32 - ps_least y, by omega⟩
  rw [cn_congr (n := 32) (g := fun j => bt x j && decide (j < ps_least y)) (fun j hj => by rw [b_and, b_all _ h1 j hj]), hd, cn_add]
  rw [cn_congr (n := ps_least y) (g := bt x) (fun j hj => by rw [decide_eq_true hj, Bool.and_true])]
  rw [cn_congr (n := d) (g := fun _ => false) (fun j hj => by rw [decide_eq_false (by omega), Bool.and_false])]
  have : ∀ d, cn d (fun _ => false) = 0 := fun d => by
    induction d with
    | zero => rfl
    | succ d ih => rw [cn_s, ih]; rfl
  rw [this, Nat.add_zero]
