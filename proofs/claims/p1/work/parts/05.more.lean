/-! numbers with 'none': 0 is -1, x + 1 is x -/
def oI (x : Nat) : Int32 := nI x - 1
theorem oI_0 : oI 0 = -1 := by decide
theorem oI_s (x : Nat) : oI (x + 1) = nI x := nI_pred x
theorem oI_neg : oI 0 < 0 := by decide
theorem oI_pos {x : Nat} (h : x < 2 ^ 31) : ¬ oI (x + 1) < 0 := by rw [oI_s]; exact nI_pos h
theorem upd_oI1 (f : Nat → Nat) (j x : Nat) : upd (fun i => oI (f i)) j (nI x) = fun i => oI (va_up f j (x + 1) i) := by
  funext i
  by_cases h : i = j <;> simp [upd, va_up, h, oI_s]
theorem upd_oI0 (f : Nat → Nat) (j : Nat) : upd (fun i => oI (f i)) j (-1) = fun i => oI (va_up f j 0 i) := by
  funext i
  by_cases h : i = j <;> simp [upd, va_up, h, oI_0]
/-- a loop that is left when dn says so, at most f times -/
def wl {σ : Type} (dn : σ → Bool) (st : σ → σ) : Nat → σ → σ
  | 0, x => x
  | f + 1, x => if dn x = true then x else wl dn st f (st x)
theorem wl_dn {σ : Type} {dn : σ → Bool} {st : σ → σ} {x : σ} (h : dn x = true) : ∀ f, wl dn st f x = x
  | 0 => rfl
  | f + 1 => if_pos h
theorem wl_st {σ : Type} {dn : σ → Bool} {st : σ → σ} {x : σ} (h : dn x = false) (f : Nat) : wl dn st (f + 1) x = wl dn st f (st x) := by
  show (if dn x = true then x else wl dn st f (st x)) = _
  rw [if_neg (by rw [h]; decide)]
section GO
variable {p : Program} {l : Launch} {e : Env} {R : Room} {s : State} {m : MethodId} {args : Array Value} {below : List Frame} {meth : Method} {c : Code} {H : Heap} {locs : List Loc} {cells slots : Nat} {Q : State → Prop}
variable {cc : ByteArray} {pc nL : Nat} {ls : Array Slot} {rest : List Value} {D : va_G} {A : Nat → Prop} {a : Nat} {tys : List (ClassId × FieldType)} {ws : va_W} {H0 : Heap} {own : String}
theorem g_istO1 {cA : ClassId} {n j x : Nat} {f : Nat → Nat} (S : CallFix p m c cc nL s args gw own) (hK : va_K D pcl tys s) (hP : va_P D pcl ws H) (hD : va_D A ws) (hS : va_S A H0 H locs) (q0 t0 : Nat) (ha : ws[q0]? = some (a, .inl (cA, n, .inl (fun i => oI (f i))))) (ht : tys[t0]? = some (cA, .int)) (hj : j < n) (hn : n < 1000) (hdg : decode cc pc = .ok (.iastore, 1))
    (kk : ∀ (H1 : Heap) (locs1 : List Loc), va_P D pcl (ws.set q0 (a, .inl (cA, n, .inl (fun i => oI (va_up f j (x + 1) i))))) H1 → va_D A (ws.set q0 (a, .inl (cA, n, .inl (fun i => oI (va_up f j (x + 1) i))))) → va_S A H0 H1 locs1 → W p l e R s m args below meth c H1 locs1 cells slots Q (F0 m (pc + 1) ls rest)) : W p l e R s m args below meth c H locs cells slots Q (F0 m pc ls (.int (nI x) :: .int (nI j) :: .ref a :: rest)) := by
  refine g_ist S hK hP hD hS q0 t0 ha ht hj hn hdg ?_
  rw [upd_oI1]
  exact kk
theorem g_istO0 {cA : ClassId} {n j : Nat} {f : Nat → Nat} (S : CallFix p m c cc nL s args gw own) (hK : va_K D pcl tys s) (hP : va_P D pcl ws H) (hD : va_D A ws) (hS : va_S A H0 H locs) (q0 t0 : Nat) (ha : ws[q0]? = some (a, .inl (cA, n, .inl (fun i => oI (f i))))) (ht : tys[t0]? = some (cA, .int)) (hj : j < n) (hn : n < 1000) (hdg : decode cc pc = .ok (.iastore, 1))
    (kk : ∀ (H1 : Heap) (locs1 : List Loc), va_P D pcl (ws.set q0 (a, .inl (cA, n, .inl (fun i => oI (va_up f j 0 i))))) H1 → va_D A (ws.set q0 (a, .inl (cA, n, .inl (fun i => oI (va_up f j 0 i))))) → va_S A H0 H1 locs1 → W p l e R s m args below meth c H1 locs1 cells slots Q (F0 m (pc + 1) ls rest)) : W p l e R s m args below meth c H locs cells slots Q (F0 m pc ls (.int (-1) :: .int (nI j) :: .ref a :: rest)) := by
  refine g_ist S hK hP hD hS q0 t0 ha ht hj hn hdg ?_
  rw [upd_oI0]
  exact kk
end GO
theorem oI_ne {a : Nat} (h : ¬ oI a < 0) : a ≠ 0 := fun z => h (z ▸ oI_neg)
theorem oI_pred {a : Nat} (h : ¬ oI a < 0) : oI a = nI (a - 1) := by
  cases a with
  | zero => exact absurd oI_neg h
  | succ u => rw [oI_s]; rfl
theorem oI_pre {a : Nat} (h : 1 ≤ a) : oI a = nI (a - 1) := by
  cases a with
  | zero => omega
  | succ u => rw [oI_s]; rfl
theorem ps_in_nI {v n : Nat} (h : v < n) (hn : n < 2 ^ 31) : ps_in (nI v) (nI n) = true := by
  have h1 : ¬ nI v < 0 := nI_pos (by omega)
  have h2 : ¬ nI n ≤ nI v := nI_ge h hn
  simp [ps_in, h1, h2]
theorem if_cfT {α : Type} {b : Bool} {x y : α} (h : (!b) = true) : (if b = true then x else y) = y := by cases b <;> simp_all
theorem if_cfF {α : Type} {b : Bool} {x y : α} (h : (!b) = false) : (if b = true then x else y) = x := by cases b <;> simp_all
