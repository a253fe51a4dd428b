/-- the side of d against the way in by x and out by y -/
def pg_tau (o : Nat → Nat → Nat → Bool) (v x y d : Nat) : Bool := (o v x y ^^ o v y d) ^^ o v d x
theorem pg_loc_left {m : Nat} {a b : Nat → Nat} {o : Nat → Nat → Nat → Bool} {Y Z : Nat → Bool} {v x y : Nat} (hx : x < m) (hy : y < m) (hxy : x ≠ y)
    (hY : ∀ e, e < m → (Y e && pg_inc a b v e) = (decide (e = x) || decide (e = y))) :
    pg_loc m a b o Y Z v = xr m (fun f => (Z f && pg_inc a b v f) && ((!decide (x = f) && o v x f) ^^ (!decide (y = f) && o v y f))) := by
  unfold pg_loc
  rw [xr_swap]
  refine xr_congr (fun f _ => ?_)
  rw [xr_two hx hy hxy (fun i hi h1 h2 => by rw [hY i hi]; simp [h1, h2]), hY x hx, hY y hy]
  generalize (Z f && pg_inc a b v f) = c
  generalize (!decide (x = f) && o v x f) = d
  generalize (!decide (y = f) && o v y f) = g
  simp
  cases c <;> cases d <;> cases g <;> rfl
/-- at a vertex of a circle, way in x, way out y: an even set meets the circle there as often as it has the way out, and as often as it has others on side 1 -/
theorem pg_corner {n m : Nat} {a b : Nat → Nat} {o : Nat → Nat → Nat → Bool} {Y Z : Nat → Bool} {v x y : Nat} (hv : v < n) (ht : pg_tour n m a b o) (hx : x < m) (hy : y < m) (hxy : x ≠ y) (ix : pg_inc a b v x = true) (iy : pg_inc a b v y = true)
    (hY : ∀ e, e < m → (Y e && pg_inc a b v e) = (decide (e = x) || decide (e = y))) (hZ : xr m (fun e => Z e && pg_inc a b v e) = false) :
    pg_loc m a b o Y Z v = (Z y ^^ xr m (fun d => (Z d && pg_inc a b v d) && (!(Y d) && pg_tau o v x y d))) := by
  rw [pg_loc_left hx hy hxy hY]
  have e1 : xr m (fun f => (Z f && pg_inc a b v f) && ((!decide (x = f) && o v x f) ^^ (!decide (y = f) && o v y f))) = xr m (fun f => (((Z f && pg_inc a b v f) && !o v x y) ^^ (decide (f = y) && Z f)) ^^ ((Z f && pg_inc a b v f) && (!(Y f) && pg_tau o v x y f))) := by
    refine xr_congr (fun f hfm => ?_)
    by_cases h1 : Z f = true
    · by_cases h2 : pg_inc a b v f = true
      · have t1 := ht v x y hv hx hy hxy ix iy
        have hYf := hY f hfm
        rw [h2, Bool.and_true] at hYf
        by_cases e1 : f = x
        · subst e1
          have e3 : ¬ f = y := hxy
          simp [h1, h2, e3, Ne.symm hxy, hYf]
          revert t1
          cases o v f y <;> cases o v y f <;> simp
        · by_cases e2 : f = y
          · subst e2
            simp [h1, h2, hxy, hYf]
          · have t3 := ht v x f hv hx hfm (Ne.symm e1) ix h2
            have t4 := ht v y f hv hy hfm (Ne.symm e2) iy h2
            simp [h1, h2, e1, e2, Ne.symm e1, Ne.symm e2, hYf, pg_tau]
            revert t1 t3 t4
            cases o v x y <;> cases o v y x <;> cases o v x f <;> cases o v f x <;> cases o v y f <;> cases o v f y <;> simp
      · have h3 : ¬ f = y := fun q => h2 (q ▸ iy)
        simp [h2, h3]
    · simp [h1]
  rw [e1, xr_xor, xr_xor, xr_and_r, hZ, xr_one (k := y) hy (fun i _ hik => by simp [hik])]
  simp
/-- a circle: its vertices, the edge in and the edge out at each, its edges -/
def pg_cyc (n m : Nat) (a b : Nat → Nat) (P : Nat → Bool) (inn out : Nat → Nat) (C : Nat → Bool) : Prop :=
  (∀ v, v < n → P v = true → (inn v < m ∧ out v < m ∧ inn v ≠ out v ∧ pg_inc a b v (inn v) = true ∧ pg_inc a b v (out v) = true) ∧ ∀ e, e < m → (C e && pg_inc a b v e) = (decide (e = inn v) || decide (e = out v))) ∧
  (∀ v, v < n → P v = false → ∀ e, e < m → (C e && pg_inc a b v e) = false) ∧
  (∀ u v, u < n → v < n → P u = true → P v = true → out u = out v → u = v) ∧ (∀ e, e < m → C e = true → ∃ v, v < n ∧ P v = true ∧ out v = e) ∧ ∀ e, m ≤ e → C e = false
theorem pg_cyc_even {n m : Nat} {a b : Nat → Nat} {P : Nat → Bool} {inn out : Nat → Nat} {C : Nat → Bool} (h : pg_cyc n m a b P inn out C) : pg_even n m a b C := by
  obtain ⟨h1, h2, h3, h4, h5⟩ := h
  refine ⟨h5, fun v hv => ?_⟩
  by_cases hp : P v = true
  · obtain ⟨⟨q1, q2, q3, q4, q5⟩, q6⟩ := h1 v hv hp
    rw [xr_congr q6, xr_two q1 q2 q3 (fun i _ e1 e2 => by simp [e1, e2])]
    simp
  · rw [Bool.not_eq_true] at hp
    exact xr_zero (h2 v hv hp)
/-- what an even set has beside a circle, on side 1, counts the crossings of both -/
theorem pg_gl {n m : Nat} {a b : Nat → Nat} {o : Nat → Nat → Nat → Bool} {P : Nat → Bool} {inn out : Nat → Nat} {C Z : Nat → Bool} (ht : pg_tour n m a b o) (h : pg_cyc n m a b P inn out C) (hZ : pg_even n m a b Z) :
    pg_I n m a b o C Z = xr n (fun v => P v && xr m (fun d => (Z d && pg_inc a b v d) && (!(C d) && pg_tau o v (inn v) (out v) d))) := by
  obtain ⟨h1, h2, h3, h4, h5⟩ := h
  unfold pg_I
  have e1 : xr n (fun v => pg_loc m a b o C Z v) = xr n (fun v => (P v && Z (out v)) ^^ (P v && xr m (fun d => (Z d && pg_inc a b v d) && (!(C d) && pg_tau o v (inn v) (out v) d)))) := by
    refine xr_congr (fun v hv => ?_)
    by_cases hp : P v = true
    · obtain ⟨⟨q1, q2, q3, q4, q5⟩, q6⟩ := h1 v hv hp
      rw [pg_corner hv ht q1 q2 q3 q4 q5 q6 (hZ.2 v hv), hp, Bool.true_and, Bool.true_and]
    · rw [Bool.not_eq_true] at hp
      rw [pg_loc_zero (Or.inl (h2 v hv hp)), hp]; rfl
  rw [e1, xr_xor, xr_bij (E := C) (fun v hv hp => ?_) h3 h4]
  · generalize xr m (fun e => C e && Z e) = p
    generalize xr n (fun v => P v && xr m (fun d => (Z d && pg_inc a b v d) && (!(C d) && pg_tau o v (inn v) (out v) d))) = q
    cases p <;> cases q <;> rfl
  · obtain ⟨⟨q1, q2, q3, q4, q5⟩, q6⟩ := h1 v hv hp
    refine ⟨q2, ?_⟩
    have := q6 _ q2
    rw [q5, Bool.and_true] at this
    rw [this]; simp
/-- a face crosses no even set -/
theorem pg_face {n m : Nat} {a b : Nat → Nat} {o : Nat → Nat → Nat → Bool} {P : Nat → Bool} {inn out : Nat → Nat} {C Z : Nat → Bool} (ht : pg_tour n m a b o) (h : pg_cyc n m a b P inn out C) (hZ : pg_even n m a b Z)
    (hf : ∀ v d, v < n → d < m → P v = true → Z d = true → pg_inc a b v d = true → C d = false → pg_tau o v (inn v) (out v) d = false) : pg_I n m a b o C Z = false := by
  rw [pg_gl ht h hZ]
  refine xr_zero (fun v hv => ?_)
  by_cases hp : P v = true
  · rw [hp, Bool.true_and]
    refine xr_zero (fun d hd => ?_)
    by_cases h1 : Z d = true
    · by_cases h2 : pg_inc a b v d = true
      · by_cases h3 : C d = true
        · simp [h3]
        · rw [Bool.not_eq_true] at h3
          rw [hf v d hv hd hp h1 h2 h3]; simp
      · simp [h2]
    · simp [h1]
  · simp [hp]
