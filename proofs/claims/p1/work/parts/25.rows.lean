/-! the rows of the drawing's faces: 18 arrays of 10, behind the other cells -/
abbrev wkR (r : Nat → Nat) (cI : ClassId) (M : Nat → Nat → Nat) : va_W := (List.range 18).map (fun j => (r j, .inl (cI, 10, .inl (fun i => nI (M j i)))))
theorem wkR_at {X : va_W} {r : Nat → Nat} {cI : ClassId} {M : Nat → Nat → Nat} {f : Nat} (hf : f < 18) : (X ++ wkR r cI M)[X.length + f]? = some (r f, .inl (cI, 10, .inl (fun i => nI (M f i)))) := by
  rw [List.getElem?_append_right (by omega), Nat.add_sub_cancel_left, List.getElem?_map, List.getElem?_range hf]
  rfl
theorem wkR_set {X : va_W} {r : Nat → Nat} {cI : ClassId} {M : Nat → Nat → Nat} {f : Nat} (R : Nat → Nat) : (X ++ wkR r cI M).set (X.length + f) (r f, .inl (cI, 10, .inl (fun i => nI (R i)))) = X ++ wkR r cI (va_up M f R) := by
  apply List.ext_getElem?
  intro i
  rw [List.getElem?_set]
  by_cases hx : i < X.length
  · rw [if_neg (by omega), List.getElem?_append_left hx, List.getElem?_append_left hx]
  · rw [List.getElem?_append_right (by omega), List.getElem?_append_right (by omega), List.length_append, List.length_map, List.length_range]
    by_cases h : X.length + f = i
    · subst h
      rw [if_pos rfl, Nat.add_sub_cancel_left]
      by_cases hl : f < 18
      · rw [if_pos (by omega), List.getElem?_map, List.getElem?_range hl]
        simp [va_up]
      · rw [if_neg (by omega), List.getElem?_eq_none (by rw [List.length_map, List.length_range]; omega)]
    · rw [if_neg h, List.getElem?_map, List.getElem?_map]
      by_cases hl : i - X.length < 18
      · rw [List.getElem?_range hl]
        have : ¬ i - X.length = f := by omega
        simp [va_up, this]
      · rw [List.getElem?_eq_none (by rw [List.length_range]; omega)]
        rfl
theorem cpy_nI (f g : Nat → Nat) (sp dp n : Nat) : va_cpy (fun i => nI (f i)) (fun i => nI (g i)) sp dp n = fun i => nI (va_cpy f g sp dp n i) := by
  funext i
  unfold va_cpy
  by_cases h : dp ≤ i ∧ i < dp + n
  · rw [if_pos h, if_pos h]
  · rw [if_neg h, if_neg h]
section GR
variable {p : Program} {l : Launch} {e : Env} {R : Room} {s : State} {m : MethodId} {args : Array Value} {below : List Frame} {meth : Method} {c : Code} {H : Heap} {locs : List Loc} {cells slots : Nat} {Q : State → Prop}
variable {cc : ByteArray} {pc nL : Nat} {ls : Array Slot} {rest : List Value} {D : va_G} {A : Nat → Prop} {a : Nat} {tys : List (ClassId × FieldType)} {ws X : va_W} {H0 : Heap} {own : String} {r : Nat → Nat} {cI : ClassId} {M : Nat → Nat → Nat}
theorem g_ald {cA : ClassId} {j : Nat} (S : CallFix p m c cc nL s args gw own) (hK : va_K D pcl tys s) (hP : va_P D pcl ws H) (q0 t0 : Nat) (ha : ws[q0]? = some (a, .inl (cA, 18, .inr (.inr (.inr (.inr (fun i => if i < 18 then some (r i) else none))))))) (ht : tys[t0]? = some (cA, .array .int)) (hj : j < 18) (hdg : decode cc pc = .ok (.aaload, 1))
    (kk : W p l e R s m args below meth c H locs cells slots Q (F0 m (pc + 1) ls (.ref (r j) :: rest))) : W p l e R s m args below meth c H locs cells slots Q (F0 m pc ls (.int (nI j) :: .ref a :: rest)) := by
  have hin : vp_in (nI j) 18 := vp_in_nI hj (by decide)
  have hlt : (nI j).toNatClampNeg < 18 := by rw [nI_clamp (by omega)]; exact hj
  have hv : va_rf (if (nI j).toNatClampNeg < 18 then some (r (nI j).toNatClampNeg) else none) = .ref (r j) := by
    rw [if_pos hlt, nI_clamp (by omega)]; rfl
  refine W.aald (v := va_rf (if (nI j).toNatClampNeg < 18 then some (r (nI j).toNatClampNeg) else none)) (ty := .array .int) S.1 S.2.1 (hP q0 _ ha) ((hK.2 t0 _ ht).1 18 (fun j => va_rf (if j < 18 then some (r j) else none))) rfl (fun q => by cases q) (by show ¬ (nI j < 0 ∨ (arrV _ _ _).slots.size ≤ _); rw [arrV_size]; exact hin) (by show (arrV _ _ _).slots[_]? = _; rw [arrV_read _ _ hlt]) rfl rfl hdg ?_
  rw [hv]
  exact kk
theorem g_rld {f j : Nat} (S : CallFix p m c cc nL s args gw own) (hK : va_K D pcl tys s) (hP : va_P D pcl (X ++ wkR r cI M) H) (t0 : Nat) (ht : tys[t0]? = some (cI, .int)) (hf : f < 18) (hj : j < 10) (hdg : decode cc pc = .ok (.iaload, 1))
    (kk : W p l e R s m args below meth c H locs cells slots Q (F0 m (pc + 1) ls (.int (nI (M f j)) :: rest))) : W p l e R s m args below meth c H locs cells slots Q (F0 m pc ls (.int (nI j) :: .ref (r f) :: rest)) :=
  g_ild S hK hP (X.length + f) t0 (wkR_at hf) ht hj (by decide) hdg kk
theorem g_rst {f j x : Nat} (S : CallFix p m c cc nL s args gw own) (hK : va_K D pcl tys s) (hP : va_P D pcl (X ++ wkR r cI M) H) (hD : va_D A (X ++ wkR r cI M)) (hS : va_S A H0 H locs) (t0 : Nat) (ht : tys[t0]? = some (cI, .int)) (hf : f < 18) (hj : j < 10) (hdg : decode cc pc = .ok (.iastore, 1))
    (kk : ∀ (H1 : Heap) (locs1 : List Loc), va_P D pcl (X ++ wkR r cI (va_up M f (va_up (M f) j x))) H1 → va_D A (X ++ wkR r cI (va_up M f (va_up (M f) j x))) → va_S A H0 H1 locs1 → W p l e R s m args below meth c H1 locs1 cells slots Q (F0 m (pc + 1) ls rest)) : W p l e R s m args below meth c H locs cells slots Q (F0 m pc ls (.int (nI x) :: .int (nI j) :: .ref (r f) :: rest)) := by
  refine g_istN S hK hP hD hS (X.length + f) t0 (wkR_at hf) ht hj (by decide) hdg ?_
  rw [wkR_set (va_up (M f) j x)]
  exact kk
theorem g_cpy {f n : Nat} {ow : Nat → Nat} (S : CallFix p m c cc nL s args gw own) (hsz : ls.size = nL) {index : Nat} (hlink : Cond.methodLink own index arraycopyName ∈ gw) (hnat : Cond.native arraycopyName ∈ gw) (hst : Cond.static arraycopyName ∈ gw) (hini : Cond.initialized "java/lang/System" ∈ gw) (hK : va_K D pcl tys s) (hP : va_P D pcl (X ++ wkR r cI M) H) (hD : va_D A (X ++ wkR r cI M)) (hS : va_S A H0 H locs) (q1 t0 : Nat) (ha : (X ++ wkR r cI M)[q1]? = some (a, .inl (cI, 10, .inl (fun i => nI (ow i))))) (ht : tys[t0]? = some (cI, .int)) (hf : f < 18) (hn : n ≤ 10)
    (hfr : 1 ≤ R.frames) (hlo : (rest.map fun v => v.category).sum + (nativeFrameWords "java/lang/System" "arraycopy" 5 + 11) ≤ R.locals) (hdg : decode cc pc = .ok (.invokestatic index, 3))
    (kk : ∀ (H1 : Heap) (locs1 : List Loc), va_P D pcl ((X ++ wkR r cI M).set q1 (a, .inl (cI, 10, .inl (fun i => nI (va_cpy (M f) ow 0 0 n i))))) H1 → va_D A ((X ++ wkR r cI M).set q1 (a, .inl (cI, 10, .inl (fun i => nI (va_cpy (M f) ow 0 0 n i))))) → va_S A H0 H1 locs1 → W p l e R s m args below meth c H1 locs1 cells slots Q (F0 m (pc + 3) ls rest)) : W p l e R s m args below meth c H locs cells slots Q (F0 m pc ls (.int (nI n) :: .int (nI 0) :: .ref a :: .int (nI 0) :: .ref (r f) :: rest)) := by
  refine va_copyi S.1 S.2.1 (S.2.2.1.trans hsz.symm) S.2.2.2.1 (S.2.2.2.2 _ hlink) (S.2.2.2.2 _ hnat) (S.2.2.2.2 _ hst) (S.2.2.2.2 _ hini) hK hP hD hS (X.length + f) q1 t0 t0 (wkR_at hf) ha ht ht rfl (by decide) (by decide) (nI_pos (by omega)) ?_ ?_ (fun i _ => rfl) hfr hlo hdg ?_
  · rw [nI_clamp (n := n) (by omega)]; show (nI 0).toNatClampNeg + n ≤ 10; rw [nI_clamp (by decide)]; omega
  · rw [nI_clamp (n := n) (by omega)]; show (nI 0).toNatClampNeg + n ≤ 10; rw [nI_clamp (by decide)]; omega
  · rw [nI_clamp (n := n) (by omega), nI_clamp (n := 0) (by decide), cpy_nI]
    exact kk
end GR
