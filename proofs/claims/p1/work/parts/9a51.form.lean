/-! a graph: m edges, n vertices, ends a e and b e; edge sets as functions; the form of a choice of tournaments -/
def pg_inc (a b : Nat → Nat) (v e : Nat) : Bool := decide (a e = v) || decide (b e = v)
/-- even at every vertex, inside the first m edges -/
def pg_even (n m : Nat) (a b : Nat → Nat) (Z : Nat → Bool) : Prop := (∀ e, m ≤ e → Z e = false) ∧ ∀ v, v < n → xr m (fun e => Z e && pg_inc a b v e) = false
/-- the local number of crossings at v -/
def pg_loc (m : Nat) (a b : Nat → Nat) (o : Nat → Nat → Nat → Bool) (Y Z : Nat → Bool) (v : Nat) : Bool :=
  xr m (fun e => xr m (fun f => (Y e && pg_inc a b v e) && ((Z f && pg_inc a b v f) && (!decide (e = f) && o v e f))))
def pg_I (n m : Nat) (a b : Nat → Nat) (o : Nat → Nat → Nat → Bool) (Y Z : Nat → Bool) : Bool :=
  xr n (fun v => pg_loc m a b o Y Z v) ^^ xr m (fun e => Y e && Z e)
/-- tournaments: at each vertex, of two different edges there one is ahead -/
def pg_tour (n m : Nat) (a b : Nat → Nat) (o : Nat → Nat → Nat → Bool) : Prop := ∀ v e f, v < n → e < m → f < m → e ≠ f → pg_inc a b v e = true → pg_inc a b v f = true → (o v e f ^^ o v f e) = true
/-- a part X of the graph can be laid so that all even sets in it cross evenly -/
def pg_PP (n m : Nat) (a b : Nat → Nat) (X : Nat → Bool) : Prop := ∃ o, pg_tour n m a b o ∧ ∀ Y Z, pg_even n m a b Y → pg_even n m a b Z → (∀ e, Y e = true → X e = true) → (∀ e, Z e = true → X e = true) → pg_I n m a b o Y Z = false
theorem pg_PP_sub {n m : Nat} {a b : Nat → Nat} {X X' : Nat → Bool} (h : pg_PP n m a b X) (hs : ∀ e, X' e = true → X e = true) : pg_PP n m a b X' := by
  obtain ⟨o, h1, h2⟩ := h
  exact ⟨o, h1, fun Y Z hY hZ sY sZ => h2 Y Z hY hZ (fun e q => hs e (sY e q)) (fun e q => hs e (sZ e q))⟩
def pg_add (Y Z : Nat → Bool) : Nat → Bool := fun e => Y e ^^ Z e
theorem pg_even_add {n m : Nat} {a b : Nat → Nat} {Y Z : Nat → Bool} (hY : pg_even n m a b Y) (hZ : pg_even n m a b Z) : pg_even n m a b (pg_add Y Z) := by
  refine ⟨fun e he => by show (Y e ^^ Z e) = false; rw [hY.1 e he, hZ.1 e he]; rfl, fun v hv => ?_⟩
  have e : xr m (fun e => pg_add Y Z e && pg_inc a b v e) = xr m (fun e => (Y e && pg_inc a b v e) ^^ (Z e && pg_inc a b v e)) := xr_congr (fun i _ => by
    show ((Y i ^^ Z i) && _) = _
    generalize pg_inc a b v i = c
    cases Y i <;> cases Z i <;> cases c <;> rfl)
  rw [e, xr_xor, hY.2 v hv, hZ.2 v hv]; rfl
theorem pg_loc_addl (m : Nat) (a b : Nat → Nat) (o : Nat → Nat → Nat → Bool) (X Y Z : Nat → Bool) (v : Nat) : pg_loc m a b o (pg_add X Y) Z v = (pg_loc m a b o X Z v ^^ pg_loc m a b o Y Z v) := by
  unfold pg_loc
  rw [← xr_xor]
  refine xr_congr (fun e _ => ?_)
  rw [← xr_xor]
  refine xr_congr (fun f _ => ?_)
  show (((X e ^^ Y e) && _) && _) = _
  generalize pg_inc a b v e = c
  generalize ((Z f && pg_inc a b v f) && (!decide (e = f) && o v e f)) = d
  cases X e <;> cases Y e <;> cases c <;> cases d <;> rfl
theorem pg_loc_addr (m : Nat) (a b : Nat → Nat) (o : Nat → Nat → Nat → Bool) (X Y Z : Nat → Bool) (v : Nat) : pg_loc m a b o X (pg_add Y Z) v = (pg_loc m a b o X Y v ^^ pg_loc m a b o X Z v) := by
  unfold pg_loc
  rw [← xr_xor]
  refine xr_congr (fun e _ => ?_)
  rw [← xr_xor]
  refine xr_congr (fun f _ => ?_)
  show (_ && (((Y f ^^ Z f) && _) && _)) = _
  generalize pg_inc a b v f = c
  generalize (!decide (e = f) && o v e f) = d
  generalize (X e && pg_inc a b v e) = g
  cases Y f <;> cases Z f <;> cases c <;> cases d <;> cases g <;> rfl
theorem pg_I_addl (n m : Nat) (a b : Nat → Nat) (o : Nat → Nat → Nat → Bool) (X Y Z : Nat → Bool) : pg_I n m a b o (pg_add X Y) Z = (pg_I n m a b o X Z ^^ pg_I n m a b o Y Z) := by
  unfold pg_I
  have e1 : xr n (fun v => pg_loc m a b o (pg_add X Y) Z v) = (xr n (fun v => pg_loc m a b o X Z v) ^^ xr n (fun v => pg_loc m a b o Y Z v)) := by
    rw [← xr_xor]
    exact xr_congr (fun v _ => pg_loc_addl m a b o X Y Z v)
  have e2 : xr m (fun e => pg_add X Y e && Z e) = (xr m (fun e => X e && Z e) ^^ xr m (fun e => Y e && Z e)) := by
    rw [← xr_xor]
    exact xr_congr (fun e _ => by show ((X e ^^ Y e) && Z e) = _; cases X e <;> cases Y e <;> cases Z e <;> rfl)
  rw [e1, e2]
  generalize xr n (fun v => pg_loc m a b o X Z v) = p
  generalize xr n (fun v => pg_loc m a b o Y Z v) = q
  generalize xr m (fun e => X e && Z e) = r
  generalize xr m (fun e => Y e && Z e) = t
  cases p <;> cases q <;> cases r <;> cases t <;> rfl
theorem pg_I_addr (n m : Nat) (a b : Nat → Nat) (o : Nat → Nat → Nat → Bool) (X Y Z : Nat → Bool) : pg_I n m a b o X (pg_add Y Z) = (pg_I n m a b o X Y ^^ pg_I n m a b o X Z) := by
  unfold pg_I
  have e1 : xr n (fun v => pg_loc m a b o X (pg_add Y Z) v) = (xr n (fun v => pg_loc m a b o X Y v) ^^ xr n (fun v => pg_loc m a b o X Z v)) := by
    rw [← xr_xor]
    exact xr_congr (fun v _ => pg_loc_addr m a b o X Y Z v)
  have e2 : xr m (fun e => X e && pg_add Y Z e) = (xr m (fun e => X e && Y e) ^^ xr m (fun e => X e && Z e)) := by
    rw [← xr_xor]
    exact xr_congr (fun e _ => by show (X e && (Y e ^^ Z e)) = _; cases X e <;> cases Y e <;> cases Z e <;> rfl)
  rw [e1, e2]
  generalize xr n (fun v => pg_loc m a b o X Y v) = p
  generalize xr n (fun v => pg_loc m a b o X Z v) = q
  generalize xr m (fun e => X e && Y e) = r
  generalize xr m (fun e => X e && Z e) = t
  cases p <;> cases q <;> cases r <;> cases t <;> rfl
/-- the local number where both sets have two edges at v -/
theorem pg_loc_two {m : Nat} {a b : Nat → Nat} {o : Nat → Nat → Nat → Bool} {Y Z : Nat → Bool} {v e1 e2 f1 f2 : Nat} (h1 : e1 < m) (h2 : e2 < m) (h3 : f1 < m) (h4 : f2 < m) (he : e1 ≠ e2) (hf : f1 ≠ f2)
    (hY : ∀ e, e < m → (Y e && pg_inc a b v e) = (decide (e = e1) || decide (e = e2))) (hZ : ∀ e, e < m → (Z e && pg_inc a b v e) = (decide (e = f1) || decide (e = f2))) :
    pg_loc m a b o Y Z v = (((!decide (e1 = f1) && o v e1 f1) ^^ (!decide (e1 = f2) && o v e1 f2)) ^^ ((!decide (e2 = f1) && o v e2 f1) ^^ (!decide (e2 = f2) && o v e2 f2))) := by
  unfold pg_loc
  have row : ∀ e, e < m → xr m (fun f => (Y e && pg_inc a b v e) && ((Z f && pg_inc a b v f) && (!decide (e = f) && o v e f))) = ((Y e && pg_inc a b v e) && ((!decide (e = f1) && o v e f1) ^^ (!decide (e = f2) && o v e f2))) := by
    intro e _
    rw [xr_and]
    congr 1
    rw [xr_two h3 h4 hf (fun i hi hi1 hi2 => by rw [hZ i hi]; simp [hi1, hi2]), hZ f1 h3, hZ f2 h4]
    simp
  rw [xr_congr row, xr_two h1 h2 he (fun i hi hi1 hi2 => by rw [hY i hi]; simp [hi1, hi2]), hY e1 h1, hY e2 h2]
  simp
theorem pg_loc_zero {m : Nat} {a b : Nat → Nat} {o : Nat → Nat → Nat → Bool} {Y Z : Nat → Bool} {v : Nat} (h : (∀ e, e < m → (Y e && pg_inc a b v e) = false) ∨ (∀ e, e < m → (Z e && pg_inc a b v e) = false)) : pg_loc m a b o Y Z v = false := by
  unfold pg_loc
  refine xr_zero (fun e he => xr_zero (fun f hf => ?_))
  rcases h with h | h
  · rw [h e he]; rfl
  · rw [h f hf]
    cases (Y e && pg_inc a b v e) <;> rfl
