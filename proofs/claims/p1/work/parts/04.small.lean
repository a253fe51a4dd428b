theorem bI_1 {c : Bool} : ¬ bI c = 0 ↔ c = true := by cases c <;> decide
theorem bI_fit (c : Bool) : fits .boolean (.int (bI c)) = true := by cases c <;> rfl
theorem nq_le {a b : Nat} (ha : a < 2 ^ 31) (hb : b < 2 ^ 31) (h : nI a ≤ nI b) : a ≤ b := (nI_leI ha hb).mp h
theorem nq_nle {a b : Nat} (ha : a < 2 ^ 31) (hb : b < 2 ^ 31) (h : ¬ nI a ≤ nI b) : b < a := Nat.lt_of_not_le (fun z => h ((nI_leI ha hb).mpr z))
theorem nq_lt {a b : Nat} (ha : a < 2 ^ 31) (hb : b < 2 ^ 31) (h : nI a < nI b) : a < b := (nI_ltI ha hb).mp h
theorem nq_nlt {a b : Nat} (ha : a < 2 ^ 31) (hb : b < 2 ^ 31) (h : ¬ nI a < nI b) : b ≤ a := Nat.le_of_not_lt (fun z => h ((nI_ltI ha hb).mpr z))
theorem nq_eq {a b : Nat} (ha : a < 2 ^ 31) (hb : b < 2 ^ 31) (h : nI a = nI b) : a = b := (nI_eq ha hb).mp h
theorem nq_ne {a b : Nat} (ha : a < 2 ^ 31) (hb : b < 2 ^ 31) (h : ¬ nI a = nI b) : ¬ a = b := fun z => h ((nI_eq ha hb).mpr z)
/-! what the small methods answer -/
abbrev ju (x y : Int32) : Int32 := (x.toUInt32 >>> (y.toUInt32 &&& Int32.toUInt32 31)).toInt32
/-- Integer.bitCount, as it is computed -/
def jb1 (i : Int32) : Int32 := i - (ju i 1 &&& 1431655765)
def jb2 (i : Int32) : Int32 := (i &&& 858993459) + (ju i 2 &&& 858993459)
def jb3 (i : Int32) : Int32 := (i + ju i 4) &&& 252645135
def jb4 (i : Int32) : Int32 := i + ju i 8
def jb5 (i : Int32) : Int32 := i + ju i 16
def jbN (i : Int32) : Nat := (jb5 (jb4 (jb3 (jb2 (jb1 i))))).toBitVec.toNat % 2 ^ 6
theorem jbN_eq (i : Int32) : jb5 (jb4 (jb3 (jb2 (jb1 i)))) &&& 63 = nI (jbN i) := pk_and _ 6 rfl
theorem jbN_lt (i : Int32) : jbN i < 64 := Nat.mod_lt _ (by decide)
def ps_has (s k : Int32) : Bool := !decide ((s >>> (k &&& 31)) &&& 1 = 0)
def ps_least (s : Int32) : Nat := jbN ((s &&& (-s)) - 1)
def ps_below (x y : Int32) : Nat := jbN (x &&& ((y &&& (-y)) - 1))
theorem ps_least_lt (s : Int32) : ps_least s < 64 := jbN_lt _
theorem ps_below_lt (x y : Int32) : ps_below x y < 64 := jbN_lt _
def ps_in (v n : Int32) : Bool := !decide (v < 0) && !decide (n ≤ v)
def ps_ends (F S : Nat → Nat) (e : Nat) : Int32 := (1 <<< (nI (F e) &&& 31)) ||| (1 <<< (nI (S e) &&& 31))
def ps_betw (F S : Nat → Nat) (e : Nat) (x : Int32) : Bool := !decide (((x >>> (nI (F e) &&& 31)) ^^^ (x >>> (nI (S e) &&& 31))) &&& 1 = 0)
def ps_all (k : Nat) : Int32 := (1 <<< (nI k &&& 31)) - 1
def ps_deg1 (F S : Nat → Nat) (v part : Int32) : Nat → Int32 → Int32 := fun e d => if ps_has part (nI e) = true ∧ (nI (F e) = v ∨ nI (S e) = v) then d + 1 else d
section GL
variable {p : Program} {l : Launch} {e : Env} {R : Room} {s : State} {m : MethodId} {args : Array Value} {below : List Frame} {meth : Method} {c : Code} {H : Heap} {locs : List Loc} {cells slots : Nat} {Q : State → Prop}
variable {cc bytes : ByteArray} {pc nL maxL index n ci q0 N : Nat} {ls : Array Slot} {rest st As : List Value} {D : va_G} {A : Nat → Prop} {b a : Nat} {tys tc : List (ClassId × FieldType)} {ws wc wr w1 : va_W} {H0 : Heap} {own C : String} {T : u_T} {fs : List Value} {y : MethodName} {ret : Option FieldType} {rm : Room}
theorem ro_VL {v : Int64} (S : CallFix p m c cc nL s args gw own) (hM : Met l y (.code y bytes maxL ret :: gw) rm (roP (.ref b :: As) D wc tc) (vp_Sl (fun r => r = v)) 0 0 (fun _ => False))
    (hG : GoodIn gw (wsV own index C y (.code y bytes maxL ret :: gw))) (hd : y.cls = C ∧ y.cls ≠ "java/lang/invoke/MethodHandle" ∧ y.cls ≠ "java/lang/invoke/VarHandle" ∧ (parseMethodDescriptor y.desc).map (fun d => d.parameters.length) = some n)
    (hrm : rm.cells = 0 ∧ rm.slots = 0) (hR : rm.frames + 1 ≤ R.frames ∧ 8 + (maxL + 11) + rm.locals ≤ R.locals) (hP : va_P D pcl wc H) (hK : va_K D pcl tc s) (hc : pcl[ci]? = some (C, T, N)) (q0 : Nat) (he : wc[q0]? = some (b, .inr (ci, fs)))
    (hn : As.length = n) (hsize : ls.size = nL) (hst : st = As.reverse ++ .ref b :: rest) (hW : (rest.map fun v => v.category).sum ≤ 8) (hdg : decode cc pc = .ok (.invokevirtual index, 3)) (hf : cells ≤ R.cells ∧ slots ≤ R.slots)
    (kk : W p l e R s m args below meth c H locs cells slots Q (F0 m (pc + 3) ls (.long v :: rest))) : W p l e R s m args below meth c H locs cells slots Q (F0 m pc ls st) := by
  subst hst
  refine vp_callSl (W.runV S hM (cwV n S.2.2.2.2 hG rfl hrm.1 hrm.2 hd hR) ⟨ro_blind, va_recv hK hP hc he, fun U hU hW => ⟨rfl, by rw [hU]; exact hP, va_K.moved hW.alike hK⟩⟩ rfl hn hsize rfl (lv_room hW) hdg hf) (fun r hr => ?_)
  subst hr
  exact kk
theorem g_lld {cA : ClassId} {n j : Nat} {f : Nat → Int64} (S : CallFix p m c cc nL s args gw own) (hK : va_K D pcl tys s) (hP : va_P D pcl ws H) (q0 t0 : Nat) (ha : ws[q0]? = some (a, .inl (cA, n, .inr (.inl f)))) (ht : tys[t0]? = some (cA, .long)) (hj : j < n) (hn : n < 1000) (hdg : decode cc pc = .ok (.laload, 1))
    (kk : W p l e R s m args below meth c H locs cells slots Q (F0 m (pc + 1) ls (.long (f j) :: rest))) : W p l e R s m args below meth c H locs cells slots Q (F0 m pc ls (.int (nI j) :: .ref a :: rest)) :=
  va_lald S.1 S.2.1 hK hP q0 t0 ha ht (vp_in_nI hj (by omega)) hdg (by rw [nI_clamp (by omega)]; exact kk)
theorem g_lst {cA : ClassId} {n j : Nat} {f : Nat → Int64} {x : Int64} (S : CallFix p m c cc nL s args gw own) (hK : va_K D pcl tys s) (hP : va_P D pcl ws H) (hD : va_D A ws) (hS : va_S A H0 H locs) (q0 t0 : Nat) (ha : ws[q0]? = some (a, .inl (cA, n, .inr (.inl f)))) (ht : tys[t0]? = some (cA, .long)) (hj : j < n) (hn : n < 1000) (hdg : decode cc pc = .ok (.lastore, 1))
    (kk : ∀ (H1 : Heap) (locs1 : List Loc), va_P D pcl (ws.set q0 (a, .inl (cA, n, .inr (.inl (vp_updL f j x))))) H1 → va_D A (ws.set q0 (a, .inl (cA, n, .inr (.inl (vp_updL f j x))))) → va_S A H0 H1 locs1 → W p l e R s m args below meth c H1 locs1 cells slots Q (F0 m (pc + 1) ls rest)) : W p l e R s m args below meth c H locs cells slots Q (F0 m pc ls (.long x :: .int (nI j) :: .ref a :: rest)) := by
  refine va_last S.1 S.2.1 hK hP hD hS q0 t0 ha ht (vp_in_nI hj (by omega)) hdg ?_
  rw [nI_clamp (by omega)]
  exact kk
end GL
theorem sh_pow : ∀ n, n ≤ 30 → (1 : Int32) <<< (nI n &&& 31) = nI (2 ^ n) := by decide
