/-! calls in a world whose last cells are the drawing's rows: only the cells ahead of them are looked up -/
theorem va_P_l {D : va_G} {cl : List vw_C} {X R : va_W} {H : Heap} (h : va_P D cl (X ++ R) H) : va_P D cl X H := fun k q hk => h k q (by rw [List.getElem?_append_left (List.getElem?_eq_some_iff.mp hk).1]; exact hk)
theorem va_D_l {A : Nat → Prop} {X R : va_W} (h : va_D A (X ++ R)) : va_D A X := ⟨fun i j p q hi hj e => h.1 i j p q (by rw [List.getElem?_append_left (List.getElem?_eq_some_iff.mp hi).1]; exact hi) (by rw [List.getElem?_append_left (List.getElem?_eq_some_iff.mp hj).1]; exact hj) e, fun k q hk => h.2 k q (by rw [List.getElem?_append_left (List.getElem?_eq_some_iff.mp hk).1]; exact hk)⟩
section GP
variable {p : Program} {l : Launch} {e : Env} {R : Room} {s : State} {m : MethodId} {args : Array Value} {below : List Frame} {meth : Method} {c : Code} {H : Heap} {locs : List Loc} {cells slots : Nat} {Q : State → Prop}
variable {cc bytes : ByteArray} {pc nL maxL index n ci N : Nat} {ls : Array Slot} {rest st As : List Value} {D : va_G} {A : Nat → Prop} {b : Nat} {tc : List (ClassId × FieldType)} {X cx wr rx w1 pl pl1 : va_W} {H0 : Heap} {own C : String} {T : u_T} {fs : List Value} {y : MethodName} {ret : Option FieldType} {rm : Room}
theorem rw_VP (S : CallFix p m c cc nL s args gw own) (hM : Met l y (.code y bytes maxL ret :: gw) rm (rwP (.ref b :: As) D (cx ++ pl) tc H.size) (va_Qv (fun _ : Unit => True) (rwB D (rx ++ pl1) tc (va_A (cx ++ pl) H.size)) (va_A (cx ++ pl) H.size)) 0 0 (va_A (cx ++ pl) H.size))
    (hG : GoodIn gw (wsV own index C y (.code y bytes maxL ret :: gw))) (hd : y.cls = C ∧ y.cls ≠ "java/lang/invoke/MethodHandle" ∧ y.cls ≠ "java/lang/invoke/VarHandle" ∧ (parseMethodDescriptor y.desc).map (fun d => d.parameters.length) = some n)
    (hrm : rm.cells = 0 ∧ rm.slots = 0) (hR : rm.frames + 1 ≤ R.frames ∧ 8 + (maxL + 11) + rm.locals ≤ R.locals) (hP : va_P D pcl (X ++ pl) H) (hD : va_D A (X ++ pl)) (hS : va_S A H0 H locs) (hA : ∀ q, H0.size ≤ q → A q) (hK : va_K D pcl tc s) (isC isR : List Nat)
    (hC : isC.map (fun i => X[i]?) = cx.map some) (hRr : isR.map (fun i => X[i]?) = wr.map some) (hnC : va_nd isC = true) (hnR : va_nd isR = true) (hdis : ∀ i ∈ isR, i ∉ isC)
    (hc : pcl[ci]? = some (C, T, N)) (q0 : Nat) (he : (cx ++ pl)[q0]? = some (b, .inr (ci, fs)))
    (hn : As.length = n) (hsize : ls.size = nL) (hst : st = As.reverse ++ .ref b :: rest) (hW : (rest.map fun v => v.category).sum ≤ 8) (hdg : decode cc pc = .ok (.invokevirtual index, 3)) (hf : cells ≤ R.cells ∧ slots ≤ R.slots)
    (kk : ∀ (H1 : Heap) (locs1 : List Loc), va_P D pcl ((wr ++ rx) ++ pl1) H1 → va_D A ((wr ++ rx) ++ pl1) → va_S A H0 H1 locs1 → W p l e R s m args below meth c H1 locs1 cells slots Q (F0 m (pc + 3) ls rest)) : W p l e R s m args below meth c H locs cells slots Q (F0 m pc ls st) := by
  subst hst
  have hPc := hP.part isC hC
  have hDc := hD.part isC hnC hC
  have hFc := va_freeP hD hS hA isC hC
  refine va_callv (va_runV S hM (cwV n S.2.2.2.2 hG rfl hrm.1 hrm.2 hd hR) ⟨rw_blind, va_recv hK hPc hc he, fun U hU hW => ⟨rfl, by rw [hU], by rw [hU]; exact hPc, va_K.moved hW.alike hK, hDc.weaken (fun _ _ _ _ => trivial)⟩⟩ rfl hn hsize rfl (lv_room hW) hdg hf) hS (fun q _ h => hFc q h) hFc (fun u t H1 locs1 ht hvm hw hB hz1 hk1 hS1 => ?_)
  obtain ⟨hP1, -, hD1⟩ := hB
  rw [ht] at hP1
  obtain ⟨hP2, hD2⟩ := va_joinP hP hD isC isR hC hRr hnR hdis hk1 hFc hP1 hD1
  exact kk H1 locs1 hP2 hD2 hS1
theorem rw_ViP {v : Int32} (S : CallFix p m c cc nL s args gw own) (hM : Met l y (.code y bytes maxL ret :: gw) rm (rwP (.ref b :: As) D (cx ++ pl) tc H.size) (va_Qi (fun (r : Int32) (_ : Unit) => r = v) (rwB D (rx ++ pl1) tc (va_A (cx ++ pl) H.size)) (va_A (cx ++ pl) H.size)) 0 0 (va_A (cx ++ pl) H.size))
    (hG : GoodIn gw (wsV own index C y (.code y bytes maxL ret :: gw))) (hd : y.cls = C ∧ y.cls ≠ "java/lang/invoke/MethodHandle" ∧ y.cls ≠ "java/lang/invoke/VarHandle" ∧ (parseMethodDescriptor y.desc).map (fun d => d.parameters.length) = some n)
    (hrm : rm.cells = 0 ∧ rm.slots = 0) (hR : rm.frames + 1 ≤ R.frames ∧ 8 + (maxL + 11) + rm.locals ≤ R.locals) (hP : va_P D pcl (X ++ pl) H) (hD : va_D A (X ++ pl)) (hS : va_S A H0 H locs) (hA : ∀ q, H0.size ≤ q → A q) (hK : va_K D pcl tc s) (isC isR : List Nat)
    (hC : isC.map (fun i => X[i]?) = cx.map some) (hRr : isR.map (fun i => X[i]?) = wr.map some) (hnC : va_nd isC = true) (hnR : va_nd isR = true) (hdis : ∀ i ∈ isR, i ∉ isC)
    (hc : pcl[ci]? = some (C, T, N)) (q0 : Nat) (he : (cx ++ pl)[q0]? = some (b, .inr (ci, fs)))
    (hn : As.length = n) (hsize : ls.size = nL) (hst : st = As.reverse ++ .ref b :: rest) (hW : (rest.map fun v => v.category).sum ≤ 8) (hdg : decode cc pc = .ok (.invokevirtual index, 3)) (hf : cells ≤ R.cells ∧ slots ≤ R.slots)
    (kk : ∀ (H1 : Heap) (locs1 : List Loc), va_P D pcl ((wr ++ rx) ++ pl1) H1 → va_D A ((wr ++ rx) ++ pl1) → va_S A H0 H1 locs1 → W p l e R s m args below meth c H1 locs1 cells slots Q (F0 m (pc + 3) ls (.int v :: rest))) : W p l e R s m args below meth c H locs cells slots Q (F0 m pc ls st) := by
  subst hst
  have hPc := hP.part isC hC
  have hDc := hD.part isC hnC hC
  have hFc := va_freeP hD hS hA isC hC
  refine va_calli (va_runV S hM (cwV n S.2.2.2.2 hG rfl hrm.1 hrm.2 hd hR) ⟨rw_blind, va_recv hK hPc hc he, fun U hU hW => ⟨rfl, by rw [hU], by rw [hU]; exact hPc, va_K.moved hW.alike hK, hDc.weaken (fun _ _ _ _ => trivial)⟩⟩ rfl hn hsize rfl (lv_room hW) hdg hf) hS (fun q _ h => hFc q h) hFc (fun r u t H1 locs1 ht hvm hw hB hz1 hk1 hS1 => ?_)
  subst hw
  obtain ⟨hP1, -, hD1⟩ := hB
  rw [ht] at hP1
  obtain ⟨hP2, hD2⟩ := va_joinP hP hD isC isR hC hRr hnR hdis hk1 hFc hP1 hD1
  exact kk H1 locs1 hP2 hD2 hS1
theorem rw_VQ (S : CallFix p m c cc nL s args gw own) (hM : Met l y (.code y bytes maxL ret :: gw) rm (rwP (.ref b :: As) D cx tc H.size) (va_Qv (fun _ : Unit => True) (rwB D w1 tc (va_A cx H.size)) (va_A cx H.size)) 0 0 (va_A cx H.size))
    (hG : GoodIn gw (wsV own index C y (.code y bytes maxL ret :: gw))) (hd : y.cls = C ∧ y.cls ≠ "java/lang/invoke/MethodHandle" ∧ y.cls ≠ "java/lang/invoke/VarHandle" ∧ (parseMethodDescriptor y.desc).map (fun d => d.parameters.length) = some n)
    (hrm : rm.cells = 0 ∧ rm.slots = 0) (hR : rm.frames + 1 ≤ R.frames ∧ 8 + (maxL + 11) + rm.locals ≤ R.locals) (hP : va_P D pcl (X ++ pl) H) (hD : va_D A (X ++ pl)) (hS : va_S A H0 H locs) (hA : ∀ q, H0.size ≤ q → A q) (hK : va_K D pcl tc s) (isC isR : List Nat)
    (hC : isC.map (fun i => X[i]?) = cx.map some) (hRr : isR.map (fun i => X[i]?) = wr.map some) (hnC : va_nd isC = true) (hnR : va_nd isR = true) (hdis : ∀ i ∈ isR, i ∉ isC)
    (hc : pcl[ci]? = some (C, T, N)) (q0 : Nat) (he : cx[q0]? = some (b, .inr (ci, fs)))
    (hn : As.length = n) (hsize : ls.size = nL) (hst : st = As.reverse ++ .ref b :: rest) (hW : (rest.map fun v => v.category).sum ≤ 8) (hdg : decode cc pc = .ok (.invokevirtual index, 3)) (hf : cells ≤ R.cells ∧ slots ≤ R.slots)
    (kk : ∀ (H1 : Heap) (locs1 : List Loc), va_P D pcl ((wr ++ w1) ++ pl) H1 → va_D A ((wr ++ w1) ++ pl) → va_S A H0 H1 locs1 → W p l e R s m args below meth c H1 locs1 cells slots Q (F0 m (pc + 3) ls rest)) : W p l e R s m args below meth c H locs cells slots Q (F0 m pc ls st) := by
  subst hst
  have hPc := va_P_map (va_P_l hP) isC hC
  have hDc := (va_D_l hD).sub isC hnC hC
  have hFc := va_free (wc := cx) (va_D_l hD) hS hA isC hC
  refine va_callv (va_runV S hM (cwV n S.2.2.2.2 hG rfl hrm.1 hrm.2 hd hR) ⟨rw_blind, va_recv hK hPc hc he, fun U hU hW => ⟨rfl, by rw [hU], by rw [hU]; exact hPc, va_K.moved hW.alike hK, hDc.weaken (fun _ _ _ _ => trivial)⟩⟩ rfl hn hsize rfl (lv_room hW) hdg hf) hS (fun q _ h => hFc q h) hFc (fun u t H1 locs1 ht hvm hw hB hz1 hk1 hS1 => ?_)
  obtain ⟨hP1, -, hD1⟩ := hB
  rw [ht] at hP1
  obtain ⟨hP2, hD2⟩ := va_joinQ hP hD isC isR hC hRr hnR hdis hk1 hFc hP1 hD1
  exact kk H1 locs1 hP2 hD2 hS1
theorem rw_ViQ {v : Int32} (S : CallFix p m c cc nL s args gw own) (hM : Met l y (.code y bytes maxL ret :: gw) rm (rwP (.ref b :: As) D cx tc H.size) (va_Qi (fun (r : Int32) (_ : Unit) => r = v) (rwB D w1 tc (va_A cx H.size)) (va_A cx H.size)) 0 0 (va_A cx H.size))
    (hG : GoodIn gw (wsV own index C y (.code y bytes maxL ret :: gw))) (hd : y.cls = C ∧ y.cls ≠ "java/lang/invoke/MethodHandle" ∧ y.cls ≠ "java/lang/invoke/VarHandle" ∧ (parseMethodDescriptor y.desc).map (fun d => d.parameters.length) = some n)
    (hrm : rm.cells = 0 ∧ rm.slots = 0) (hR : rm.frames + 1 ≤ R.frames ∧ 8 + (maxL + 11) + rm.locals ≤ R.locals) (hP : va_P D pcl (X ++ pl) H) (hD : va_D A (X ++ pl)) (hS : va_S A H0 H locs) (hA : ∀ q, H0.size ≤ q → A q) (hK : va_K D pcl tc s) (isC isR : List Nat)
    (hC : isC.map (fun i => X[i]?) = cx.map some) (hRr : isR.map (fun i => X[i]?) = wr.map some) (hnC : va_nd isC = true) (hnR : va_nd isR = true) (hdis : ∀ i ∈ isR, i ∉ isC)
    (hc : pcl[ci]? = some (C, T, N)) (q0 : Nat) (he : cx[q0]? = some (b, .inr (ci, fs)))
    (hn : As.length = n) (hsize : ls.size = nL) (hst : st = As.reverse ++ .ref b :: rest) (hW : (rest.map fun v => v.category).sum ≤ 8) (hdg : decode cc pc = .ok (.invokevirtual index, 3)) (hf : cells ≤ R.cells ∧ slots ≤ R.slots)
    (kk : ∀ (H1 : Heap) (locs1 : List Loc), va_P D pcl ((wr ++ w1) ++ pl) H1 → va_D A ((wr ++ w1) ++ pl) → va_S A H0 H1 locs1 → W p l e R s m args below meth c H1 locs1 cells slots Q (F0 m (pc + 3) ls (.int v :: rest))) : W p l e R s m args below meth c H locs cells slots Q (F0 m pc ls st) := by
  subst hst
  have hPc := va_P_map (va_P_l hP) isC hC
  have hDc := (va_D_l hD).sub isC hnC hC
  have hFc := va_free (wc := cx) (va_D_l hD) hS hA isC hC
  refine va_calli (va_runV S hM (cwV n S.2.2.2.2 hG rfl hrm.1 hrm.2 hd hR) ⟨rw_blind, va_recv hK hPc hc he, fun U hU hW => ⟨rfl, by rw [hU], by rw [hU]; exact hPc, va_K.moved hW.alike hK, hDc.weaken (fun _ _ _ _ => trivial)⟩⟩ rfl hn hsize rfl (lv_room hW) hdg hf) hS (fun q _ h => hFc q h) hFc (fun r u t H1 locs1 ht hvm hw hB hz1 hk1 hS1 => ?_)
  subst hw
  obtain ⟨hP1, -, hD1⟩ := hB
  rw [ht] at hP1
  obtain ⟨hP2, hD2⟩ := va_joinQ hP hD isC isR hC hRr hnR hdis hk1 hFc hP1 hD1
  exact kk H1 locs1 hP2 hD2 hS1
end GP
