/-! walks: vertices qv 0 .. qv r, edges qe 0 .. qe (r-1); the edges that a walk has an odd number of times -/
def pg_ws (r : Nat) (qe : Nat → Nat) : Nat → Bool := fun e => xr r (fun i => decide (qe i = e))
def pg_joins (a b : Nat → Nat) (e u v : Nat) : Prop := (a e = u ∧ b e = v) ∨ (a e = v ∧ b e = u)
/-- a walk in a graph without loops -/
def pg_walk (n m : Nat) (a b : Nat → Nat) (r : Nat) (qv qe : Nat → Nat) : Prop := (∀ i, i ≤ r → qv i < n) ∧ ∀ i, i < r → qe i < m ∧ pg_joins a b (qe i) (qv i) (qv (i + 1)) ∧ qv i ≠ qv (i + 1)
theorem pg_inc_joins {a b : Nat → Nat} {e u v w : Nat} (h : pg_joins a b e u v) (huv : u ≠ v) : pg_inc a b w e = (decide (u = w) ^^ decide (v = w)) := by
  unfold pg_inc
  rcases h with ⟨h1, h2⟩ | ⟨h1, h2⟩ <;> rw [h1, h2] <;> by_cases q1 : u = w <;> by_cases q2 : v = w <;> simp [q1, q2] <;> exact huv (q1.trans q2.symm)
/-- a sum over a walk's edge set is the sum along the walk -/
theorem pg_ws_sum {m r : Nat} {qe : Nat → Nat} (hq : ∀ i, i < r → qe i < m) (f : Nat → Bool) : xr m (fun e => pg_ws r qe e && f e) = xr r (fun i => f (qe i)) := by
  have e1 : xr m (fun e => pg_ws r qe e && f e) = xr m (fun e => xr r (fun i => decide (qe i = e) && f e)) := xr_congr (fun e _ => (xr_and_r r (f e) (fun i => decide (qe i = e))).symm)
  rw [e1, xr_swap]
  refine xr_congr (fun i hi => ?_)
  rw [xr_one (k := qe i) (hq i hi) (fun j _ hj => by simp [Ne.symm hj])]
  simp
theorem xr_tele (r : Nat) (g : Nat → Bool) : xr r (fun i => g i ^^ g (i + 1)) = (g 0 ^^ g r) := by
  induction r with
  | zero => exact (Bool.xor_self _).symm
  | succ k ih =>
    show (xr k (fun i => g i ^^ g (i + 1)) ^^ (g k ^^ g (k + 1))) = _
    rw [ih]
    cases g 0 <;> cases g k <;> cases g (k + 1) <;> rfl
theorem pg_ws_deg {n m : Nat} {a b : Nat → Nat} {r : Nat} {qv qe : Nat → Nat} (h : pg_walk n m a b r qv qe) (v : Nat) : xr m (fun e => pg_ws r qe e && pg_inc a b v e) = (decide (qv 0 = v) ^^ decide (qv r = v)) := by
  rw [pg_ws_sum (fun i hi => (h.2 i hi).1)]
  rw [xr_congr (fun i hi => pg_inc_joins (w := v) (h.2 i hi).2.1 (h.2 i hi).2.2)]
  exact xr_tele r (fun i => decide (qv i = v))
/-- a closed walk's edge set is even -/
theorem pg_ws_even {n m : Nat} {a b : Nat → Nat} {r : Nat} {qv qe : Nat → Nat} (h : pg_walk n m a b r qv qe) (hc : qv 0 = qv r) : pg_even n m a b (pg_ws r qe) := by
  refine ⟨fun e he => ?_, fun v _ => ?_⟩
  · exact xr_zero (fun i hi => by
      have := (h.2 i hi).1
      simp; omega)
  · rw [pg_ws_deg h v, hc, Bool.xor_self]
/-- the crossings of a circle with a closed walk, counted along the walk -/
theorem pg_gl_walk {n m : Nat} {a b : Nat → Nat} {o : Nat → Nat → Nat → Bool} {P : Nat → Bool} {inn out : Nat → Nat} {C : Nat → Bool} {r : Nat} {qv qe : Nat → Nat} (ht : pg_tour n m a b o) (h : pg_cyc n m a b P inn out C) (hw : pg_walk n m a b r qv qe) (hc : qv 0 = qv r) :
    pg_I n m a b o C (pg_ws r qe) = xr r (fun i => !(C (qe i)) && ((P (qv i) && pg_tau o (qv i) (inn (qv i)) (out (qv i)) (qe i)) ^^ (P (qv (i + 1)) && pg_tau o (qv (i + 1)) (inn (qv (i + 1))) (out (qv (i + 1))) (qe i)))) := by
  rw [pg_gl ht h (pg_ws_even hw hc)]
  have e1 : xr n (fun v => P v && xr m (fun d => (pg_ws r qe d && pg_inc a b v d) && (!(C d) && pg_tau o v (inn v) (out v) d))) = xr n (fun v => xr r (fun i => (P v && pg_inc a b v (qe i)) && (!(C (qe i)) && pg_tau o v (inn v) (out v) (qe i)))) := by
    refine xr_congr (fun v _ => ?_)
    rw [xr_congr (g := fun d => pg_ws r qe d && (pg_inc a b v d && (!(C d) && pg_tau o v (inn v) (out v) d))) (fun d _ => Bool.and_assoc _ _ _), pg_ws_sum (fun i hi => (hw.2 i hi).1), ← xr_and]
    exact xr_congr (fun i _ => (Bool.and_assoc _ _ _).symm)
  rw [e1, xr_swap]
  refine xr_congr (fun i hi => ?_)
  obtain ⟨h1, h2, h3⟩ := hw.2 i hi
  have l1 := hw.1 i (by omega)
  have l2 := hw.1 (i + 1) (by omega)
  rw [xr_two l1 l2 h3 (fun v _ q1 q2 => by rw [pg_inc_joins h2 h3]; simp [Ne.symm q1, Ne.symm q2])]
  rw [pg_inc_joins h2 h3, pg_inc_joins h2 h3]
  simp [h3, Ne.symm h3]
  generalize C (qe i) = c
  generalize pg_tau o (qv i) (inn (qv i)) (out (qv i)) (qe i) = t1
  generalize pg_tau o (qv (i + 1)) (inn (qv (i + 1))) (out (qv (i + 1))) (qe i) = t2
  cases P (qv i) <;> cases P (qv (i + 1)) <;> cases c <;> cases t1 <;> cases t2 <;> rfl
