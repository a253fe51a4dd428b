/-! sums modulo two -/
def xr : Nat → (Nat → Bool) → Bool
  | 0, _ => false
  | n + 1, f => xr n f ^^ f n
theorem xr_congr {n : Nat} {f g : Nat → Bool} (h : ∀ i, i < n → f i = g i) : xr n f = xr n g := by
  induction n with
  | zero => rfl
  | succ k ih =>
    show (xr k f ^^ f k) = (xr k g ^^ g k)
    rw [ih (fun i hi => h i (by omega)), h k (by omega)]
theorem xr_zero {n : Nat} {f : Nat → Bool} (h : ∀ i, i < n → f i = false) : xr n f = false := by
  induction n with
  | zero => rfl
  | succ k ih =>
    show (xr k f ^^ f k) = false
    rw [ih (fun i hi => h i (by omega)), h k (by omega)]; rfl
theorem xr_xor (n : Nat) (f g : Nat → Bool) : xr n (fun i => f i ^^ g i) = (xr n f ^^ xr n g) := by
  induction n with
  | zero => rfl
  | succ k ih =>
    show (xr k (fun i => f i ^^ g i) ^^ (f k ^^ g k)) = ((xr k f ^^ f k) ^^ (xr k g ^^ g k))
    rw [ih]
    generalize xr k f = a; generalize xr k g = b; generalize f k = c; generalize g k = d
    cases a <;> cases b <;> cases c <;> cases d <;> rfl
theorem xr_and (n : Nat) (c : Bool) (f : Nat → Bool) : xr n (fun i => c && f i) = (c && xr n f) := by
  cases c with
  | true => exact xr_congr (fun i _ => Bool.true_and _)
  | false => exact xr_zero (fun i _ => Bool.false_and _)
theorem xr_and_r (n : Nat) (c : Bool) (f : Nat → Bool) : xr n (fun i => f i && c) = (xr n f && c) := by
  rw [Bool.and_comm, ← xr_and]
  exact xr_congr (fun i _ => Bool.and_comm _ _)
theorem xr_swap (n m : Nat) (F : Nat → Nat → Bool) : xr n (fun i => xr m (fun j => F i j)) = xr m (fun j => xr n (fun i => F i j)) := by
  induction n with
  | zero => exact (xr_zero (fun _ _ => rfl)).symm
  | succ k ih =>
    show (xr k (fun i => xr m (fun j => F i j)) ^^ xr m (fun j => F k j)) = _
    rw [ih, ← xr_xor]
    rfl
theorem xr_one {n k : Nat} {f : Nat → Bool} (hk : k < n) (h : ∀ i, i < n → i ≠ k → f i = false) : xr n f = f k := by
  induction n with
  | zero => omega
  | succ j ih =>
    show (xr j f ^^ f j) = f k
    by_cases e : j = k
    · subst e
      rw [xr_zero (fun i hi => h i (by omega) (by omega))]
      exact Bool.false_xor _
    · rw [ih (by omega) (fun i hi => h i (by omega)), h j (by omega) e]
      exact Bool.xor_false _
theorem xr_two {n a b : Nat} {f : Nat → Bool} (ha : a < n) (hb : b < n) (hab : a ≠ b) (h : ∀ i, i < n → i ≠ a → i ≠ b → f i = false) : xr n f = (f a ^^ f b) := by
  have e : xr n f = (xr n (fun i => f i && decide (i = a)) ^^ xr n (fun i => f i && !decide (i = a))) := by
    rw [← xr_xor]
    refine xr_congr (fun i _ => ?_)
    generalize decide (i = a) = c
    cases f i <;> cases c <;> rfl
  rw [e, xr_one (k := a) ha (fun i _ hi => by simp [hi]), xr_one (k := b) hb (fun i hi hib => by
    by_cases hia : i = a
    · simp [hia]
    · simp [h i hi hia hib])]
  simp [Ne.symm hab]
/-- a sum with one place changed -/
theorem xr_flip {n k : Nat} {f g : Nat → Bool} (hk : k < n) (h : ∀ i, i < n → i ≠ k → f i = g i) (hf : f k = !g k) : xr n f = !xr n g := by
  have e : xr n (fun i => f i ^^ g i) = true := by
    rw [xr_one hk (fun i hi hik => by rw [h i hi hik, Bool.xor_self]), hf]
    cases g k <;> rfl
  rw [xr_xor] at e
  revert e
  cases xr n f <;> cases xr n g <;> intro e <;> first | rfl | cases e
theorem xr_grow {n m : Nat} {f : Nat → Bool} (hn : n ≤ m) (h : ∀ i, n ≤ i → i < m → f i = false) : xr m f = xr n f := by
  induction m with
  | zero => rw [Nat.le_zero.mp hn]
  | succ k ih =>
    by_cases e : n = k + 1
    · rw [e]
    · show (xr k f ^^ f k) = xr n f
      rw [ih (by omega) (fun i h1 h2 => h i h1 (by omega)), h k (by omega) (by omega)]
      exact Bool.xor_false _
/-- some place is true where the sum is -/
theorem xr_ex {n : Nat} {f : Nat → Bool} (h : xr n f = true) : ∃ i, i < n ∧ f i = true := by
  induction n with
  | zero => cases h
  | succ k ih =>
    have h : (xr k f ^^ f k) = true := h
    by_cases e : f k = true
    · exact ⟨k, by omega, e⟩
    · rw [Bool.not_eq_true] at e
      rw [e, Bool.xor_false] at h
      obtain ⟨i, hi, hf⟩ := ih h
      exact ⟨i, by omega, hf⟩
/-- where the sum is false, one true place has another beside it -/
theorem xr_ex2 {n k : Nat} {f : Nat → Bool} (h : xr n f = false) (hk : k < n) (hf : f k = true) : ∃ i, i < n ∧ i ≠ k ∧ f i = true := by
  have e : xr n (fun i => f i && !decide (i = k)) = true := by
    have e2 := xr_flip (n := n) (k := k) (f := fun i => f i && !decide (i = k)) (g := f) hk (fun i _ hik => by simp [hik]) (by simp [hf])
    rw [e2, h]; rfl
  obtain ⟨i, hi, hq⟩ := xr_ex e
  by_cases hik : i = k
  · simp [hik] at hq
  · exact ⟨i, hi, hik, by simpa [hik] using hq⟩
/-- a sum carried over by a map that is one to one onto the other places -/
theorem xr_bij {n m : Nat} {P E : Nat → Bool} {g : Nat → Nat} {Z : Nat → Bool} (hg : ∀ v, v < n → P v = true → g v < m ∧ E (g v) = true) (hi : ∀ u v, u < n → v < n → P u = true → P v = true → g u = g v → u = v) (ho : ∀ e, e < m → E e = true → ∃ v, v < n ∧ P v = true ∧ g v = e) :
    xr n (fun v => P v && Z (g v)) = xr m (fun e => E e && Z e) := by
  have e1 : xr n (fun v => P v && Z (g v)) = xr n (fun v => xr m (fun e => (P v && decide (g v = e)) && Z e)) := by
    refine xr_congr (fun v hv => ?_)
    by_cases hp : P v = true
    · rw [xr_one (k := g v) (hg v hv hp).1 (fun i _ hik => by simp [Ne.symm hik])]
      simp [hp]
    · rw [Bool.not_eq_true] at hp
      rw [xr_zero (fun i _ => by simp [hp]), hp]; rfl
  rw [e1, xr_swap]
  refine xr_congr (fun e he => ?_)
  rw [xr_and_r]
  congr 1
  by_cases hE : E e = true
  · obtain ⟨v, hv, hp, rfl⟩ := ho e he hE
    rw [hE, xr_one (k := v) hv (fun i hi2 hik => by
      by_cases hpi : P i = true
      · have : ¬ g i = g v := fun q => hik (hi i v hi2 hv hpi hp q)
        simp [this]
      · simp [hpi])]
    simp [hp]
  · rw [Bool.not_eq_true] at hE
    rw [hE]
    refine xr_zero (fun v hv => ?_)
    by_cases hp : P v = true
    · have h2 := (hg v hv hp).2
      by_cases hq : g v = e
      · rw [hq, hE] at h2; cases h2
      · simp [hq]
    · simp [hp]
