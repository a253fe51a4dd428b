/-! constructors: new cells come. The words that are not 'good' (a private constructor of a nest mate; the class of int[][]) go along in Z. -/
theorem va_AOA_spec {t : FieldType} {args : Array Value} {first s : State} {o : Option Outcome} {idx : List Nat} (h : (Cond.arrayOver (.array t)).holds args first o s idx = true) :
    ∃ comp c k, s.vm.findClass (FieldType.array t).toString = some comp ∧ (s.vm.classes.findIdx? fun x => match x.kind with | .array component _ => component == comp | _ => false) = some c ∧ s.vm.classes[c]? = some k ∧ k.kind = .array comp (.array t) ∧
      s.vm.findClass ("[" ++ (FieldType.array t).toString) = some c := by
  simp only [Cond.holds, Cond.value, beq_iff_eq] at h
  cases hc : s.vm.findClass (FieldType.array t).toString with
  | none => simp [hc] at h
  | some comp =>
    simp only [hc, Option.bind_some, Option.bind_eq_some_iff, Option.map_eq_some_iff] at h
    obtain ⟨c, hi, k, hk, hb⟩ := h
    obtain ⟨hlt, hp, -⟩ := Array.findIdx?_eq_some_iff_getElem.mp hi
    have hkk : s.vm.classes[c] = k := (Array.getElem?_eq_some_iff.mp hk).2
    rw [hkk] at hp
    cases hkind : k.kind with
    | array component ty =>
      rw [hkind] at hb hp
      simp at hb hp
      exact ⟨comp, c, k, rfl, hi, hk, by rw [hkind, hp, hb.1], hb.2⟩
    | _ => rw [hkind] at hb; simp at hb
theorem va_AOA.moved {t : FieldType} {u U : State} (hvm : u.vm.Alike U.vm) (h : va_AOA t u) : va_AOA t U := by
  obtain ⟨comp, c, k, h1, h2, h3, h4, h5⟩ := va_AOA_spec h
  obtain ⟨k', hk', he⟩ := hvm.2.2 _ _ h3
  have hi : (U.vm.classes.findIdx? fun (x : Class) => match x.kind with | .array component _ => component == comp | _ => false) = some c := by
    have e3 : U.vm.bare = u.vm.bare := by first | exact hvm.bare_eq | exact hvm.bare_eq.symm
    have e1 := va_idx_bare U.vm comp
    rw [e3] at e1
    exact e1.symm.trans ((va_idx_bare u.vm comp).trans h2)
  have hkind : k'.kind = .array comp (.array t) := by rw [he]; exact h4
  have f1 : U.vm.findClass (FieldType.array t).toString = some comp := by rw [hvm.findClass]; exact h1
  have f2 : U.vm.findClass ("[" ++ (FieldType.array t).toString) = some c := by rw [hvm.findClass]; exact h5
  unfold va_AOA Cond.before Cond.holds
  simp only [Cond.value]
  rw [f1, Option.bind_some]
  refine (congrArg (fun o : Option Nat => (o.bind (fun c => (U.vm.classes[c]?).map fun (k : Class) => match k.kind with | .array _ ty => decide (ty = FieldType.array t) && decide (U.vm.findClass ("[" ++ (FieldType.array t).toString) = some c) | _ => false) == some true)) hi).trans ?_
  simp [hk', hkind, f2]
abbrev cnP (av : List Value) (D : va_G) (ws : va_W) (tys : List (ClassId × FieldType)) (sz : Nat) (Z : State → Prop) : Array Value → State → Prop := va_Pc av (fun U => U.heap.size = sz ∧ va_P D pcl ws U.heap ∧ va_K D pcl tys U ∧ va_D (fun _ => True) ws ∧ Z U)
abbrev cnB {S : Type} (D : va_G) (w1 : S → va_W) (tys : List (ClassId × FieldType)) (A : Nat → Prop) : S → State → Prop := fun u t => va_P D pcl (w1 u) t.heap ∧ va_K D pcl tys t ∧ va_D A (w1 u)
def cnZ (Z : State → Prop) : Prop := ∀ u U : State, u.vm = U.vm → Z u → Z U
abbrev nZ : State → Prop := fun _ => True
theorem nZ_ok : cnZ nZ := fun _ _ _ _ => trivial
abbrev dZ : State → Prop := va_AOA .int
theorem dZ_ok : cnZ dZ := fun u U h q => va_AOA.moved (by rw [h]; exact Vm.Alike.refl _) q
abbrev xZ : State → Prop := fun U => va_AOA .int U ∧ va_Nw (.methodLinkNest n_X 9 y_G_init n_X) U
theorem xZ_ok : cnZ xZ := fun u U h q => ⟨dZ_ok u U h q.1, va_Nw.same rfl h q.2⟩
theorem cn_blind {av : List Value} {D : va_G} {ws : va_W} {tys : List (ClassId × FieldType)} {sz : Nat} {Z : State → Prop} (hZ : cnZ Z) : FrameBlind (cnP av D ws tys sz Z) := fun a U g mk q => ⟨q.1, q.2.1, q.2.2.1, va_K.moved (u := U) (U := U.calling g mk a) (Vm.Alike.refl U.vm) q.2.2.2.1, q.2.2.2.2.1, hZ U (U.calling g mk a) rfl q.2.2.2.2.2⟩
theorem cn_met {S : Type} {l : Launch} {y : MethodName} {cc : ByteArray} {maxL : Nat} {rm : Room} {av : List Value} {D : va_G} {ws : va_W} {w1 : S → va_W} {tys : List (ClassId × FieldType)} {sz : Nat} {Z : State → Prop} (hy : plainName y.cls = true) (hyn : y.name = "<init>") (hle : (lg_sl av).length ≤ maxL)
    (body : ∀ (p : Program) (e : Env) (s : State) (m : MethodId) (args : Array Value) (below : List Frame) (meth : Method) (c : Code) (Q : State → Prop) (A : Nat → Prop) (ls : Array Slot), CallFix p m c cc maxL s args gw y.cls → meth.name = "<init>" → va_P D pcl ws s.heap → va_K D pcl tys s → va_D A ws → Z s → (∀ q, s.heap.size ≤ q → A q) → lv_has ls maxL (lv_args 0 av) →
      (∀ (u : S) (pc : Nat) (H : Heap) (locs : List Loc) (ls : Array Slot), decode cc pc = .ok (.return_, 1) → va_P D pcl (w1 u) H → va_D A (w1 u) → va_S A s.heap H locs → W p l e rm s m args below meth c H locs rm.cells rm.slots Q (F0 m pc ls [])) → W p l e rm s m args below meth c s.heap [] 0 0 Q (F0 m 0 ls [])) :
    Met l y (.code y cc maxL none :: gw) rm (cnP av D ws tys sz Z) (va_Qv (fun _ : S => True) (cnB D w1 tys (va_A ws sz)) (va_A ws sz)) rm.cells rm.slots (va_A ws sz) := by
  refine Met.ofW (cc := cc) (maxL := maxL) (ret := none) hy rfl ?_
  intro p e s m args below meth c s₁ B hml hv
  obtain ⟨rfl, hsz, hP, hK, hD0, hZ⟩ := hv
  have hx := B.exec
  have hb := B.bytes
  have hr := B.returns
  have hts := atoms_spec (ws := .code y cc maxL none :: gw) B.pre
  have hown : s.vm.findClass y.cls = some m.cls := findClass_of_methodNamed B.named
  have hlocks := B.notSynchronized
  have hin : meth.name = "<init>" := (name_of_methodNamed B.named B.method).1.trans hyn
  subst hsz
  have hD := hD0.self (sz := s.heap.size)
  generalize hAe : va_A ws s.heap.size = A at hD ⊢
  have hA : ∀ q : Nat, s.heap.size ≤ q → A q := fun q h => by rw [← hAe]; exact Or.inr h
  have hl := lv_entry av (n := maxL) hle
  rw [lg_entry_eq]
  generalize (lg_sl av ++ List.replicate (maxL - (lg_sl av).length) Slot.unset).toArray = ls at hl ⊢
  exact body p e s m _ below meth c _ A ls ⟨hx, hb, hml, hown, fun w h => hts w (List.mem_cons_of_mem _ h)⟩ hin hP hK hD hZ hA hl (fun u pc H locs ls hd hP hD hS => W.vret hx hb hr (fun t ht hW => ⟨⟨u, rfl, trivial, by rw [ht]; exact hP, va_K.moved hW.alike hK, hD⟩, hS.F ht⟩) hS.2.2 hd)
section GN
variable {p : Program} {l : Launch} {e : Env} {R : Room} {s : State} {m : MethodId} {args : Array Value} {below : List Frame} {meth : Method} {c : Code} {H : Heap} {locs : List Loc} {cells slots : Nat} {Q : State → Prop}
variable {cc bytes : ByteArray} {pc nL maxL index n ci N mc ms : Nat} {ls : Array Slot} {rest st As : List Value} {D : va_G} {A : Nat → Prop} {b a : Nat} {tys : List (ClassId × FieldType)} {ws wc wr X : va_W} {H0 : Heap} {own C : String} {T : u_T} {fs : List Value} {y : MethodName} {rm : Room} {Z : State → Prop}
theorem cn_I {S : Type} {w1 : S → va_W} (Sx : CallFix p m c cc nL s args gw own) (hM : Met l y (.code y bytes maxL none :: gw) rm (cnP (.ref b :: As) D wc tys H.size Z) (va_Qv (fun _ : S => True) (cnB D w1 tys (va_A wc H.size)) (va_A wc H.size)) mc ms (va_A wc H.size))
    (hlk : Cond.methodLink own index y ∈ gw) (hin : Cond.instanceMethod y ∈ gw) (hini : Cond.initialized y.cls ∈ gw) (hcd : Cond.code y bytes maxL none ∈ gw) (hy1 : y.name = "<init>") (hd : y.cls ≠ "java/lang/invoke/MethodHandle" ∧ y.cls ≠ "java/lang/invoke/VarHandle" ∧ (parseMethodDescriptor y.desc).map (fun d => d.parameters.length) = some n)
    (hrm : rm.cells = mc ∧ rm.slots = ms) (hR : rm.frames + 1 ≤ R.frames ∧ 8 + (maxL + 11) + rm.locals ≤ R.locals) (hZ : cnZ Z) (hZs : ∀ U : State, s.WarmedH U.vm → Z U) (hP : va_P D pcl ws H) (hD : va_D A ws) (hS : va_S A H0 H locs) (hA : ∀ q, H0.size ≤ q → A q) (hK : va_K D pcl tys s) (isC isR : List Nat)
    (hC : isC.map (fun i => ws[i]?) = wc.map some) (hRr : isR.map (fun i => ws[i]?) = wr.map some) (hnC : va_nd isC = true) (hnR : va_nd isR = true) (hdis : ∀ i ∈ isR, i ∉ isC)
    (hn : As.length = n) (hsize : ls.size = nL) (hst : st = As.reverse ++ .ref b :: rest) (hW : (rest.map fun v => v.category).sum ≤ 8) (hdg : decode cc pc = .ok (.invokespecial index, 3)) (hf : cells + mc ≤ R.cells ∧ slots + ms ≤ R.slots)
    (kk : ∀ (u : S) (H1 : Heap) (locs1 : List Loc), va_P D pcl (wr ++ w1 u) H1 → va_D A (wr ++ w1 u) → va_S A H0 H1 locs1 → W p l e R s m args below meth c H1 locs1 (cells + mc) (slots + ms) Q (F0 m (pc + 3) ls rest)) : W p l e R s m args below meth c H locs cells slots Q (F0 m pc ls st) := by
  subst hst
  have hPc := va_P_map hP isC hC
  have hDc := hD.sub isC hnC hC
  have hFc := va_free (wc := wc) hD hS hA isC hC
  refine va_callv (va_runI Sx hM (cwI n Sx.2.2.2.2 (gw_cons hcd) rfl hrm.1 hrm.2 (Sx.2.2.2.2 _ hini) (Sx.2.2.2.2 _ hlk) (Sx.2.2.2.2 _ hin) hy1 hd hR) ⟨cn_blind hZ, fun U hU hW => ⟨rfl, by rw [hU], by rw [hU]; exact hPc, va_K.moved hW.alike hK, hDc.weaken (fun _ _ _ _ => trivial), hZs U hW⟩⟩ rfl hn hsize rfl (lv_room hW) hdg hf) hS (fun q _ h => hFc q h) hFc (fun u t H1 locs1 ht hvm hw hB hz1 hk1 hS1 => ?_)
  obtain ⟨hP1, -, hD1⟩ := hB
  rw [ht] at hP1
  obtain ⟨hP2, hD2⟩ := va_join hP hD isC isR hC hRr hnR hdis hk1 hFc hP1 hD1
  exact kk u H1 locs1 hP2 hD2 hS1
theorem cn_IN {S : Type} {w1 : S → va_W} {host : String} (Sx : CallFix p m c cc nL s args gw own) (hM : Met l y (.code y bytes maxL none :: gw) rm (cnP (.ref b :: As) D wc tys H.size Z) (va_Qv (fun _ : S => True) (cnB D w1 tys (va_A wc H.size)) (va_A wc H.size)) mc ms (va_A wc H.size))
    (hlk : va_Nw (.methodLinkNest own index y host) s) (hin : Cond.instanceMethod y ∈ gw) (hini : Cond.initialized y.cls ∈ gw) (hcd : Cond.code y bytes maxL none ∈ gw) (hy1 : y.name = "<init>") (hd : y.cls ≠ "java/lang/invoke/MethodHandle" ∧ y.cls ≠ "java/lang/invoke/VarHandle" ∧ (parseMethodDescriptor y.desc).map (fun d => d.parameters.length) = some n)
    (hrm : rm.cells = mc ∧ rm.slots = ms) (hR : rm.frames + 1 ≤ R.frames ∧ 8 + (maxL + 11) + rm.locals ≤ R.locals) (hZ : cnZ Z) (hZs : ∀ U : State, s.WarmedH U.vm → Z U) (hP : va_P D pcl ws H) (hD : va_D A ws) (hS : va_S A H0 H locs) (hA : ∀ q, H0.size ≤ q → A q) (hK : va_K D pcl tys s) (isC isR : List Nat)
    (hC : isC.map (fun i => ws[i]?) = wc.map some) (hRr : isR.map (fun i => ws[i]?) = wr.map some) (hnC : va_nd isC = true) (hnR : va_nd isR = true) (hdis : ∀ i ∈ isR, i ∉ isC)
    (hn : As.length = n) (hsize : ls.size = nL) (hst : st = As.reverse ++ .ref b :: rest) (hW : (rest.map fun v => v.category).sum ≤ 8) (hdg : decode cc pc = .ok (.invokespecial index, 3)) (hf : cells + mc ≤ R.cells ∧ slots + ms ≤ R.slots)
    (kk : ∀ (u : S) (H1 : Heap) (locs1 : List Loc), va_P D pcl (wr ++ w1 u) H1 → va_D A (wr ++ w1 u) → va_S A H0 H1 locs1 → W p l e R s m args below meth c H1 locs1 (cells + mc) (slots + ms) Q (F0 m (pc + 3) ls rest)) : W p l e R s m args below meth c H locs cells slots Q (F0 m pc ls st) := by
  subst hst
  have hPc := va_P_map hP isC hC
  have hDc := hD.sub isC hnC hC
  have hFc := va_free (wc := wc) hD hS hA isC hC
  refine va_callv (va_runIN Sx hM ⟨va_cnB n Sx.2.2.2.2 (gw_cons hcd) rfl hrm.1 hrm.2 hlk (Sx.2.2.2.2 _ hini) hd hR, hy1, Sx.2.2.2.2 _ hin⟩ ⟨cn_blind hZ, fun U hU hW => ⟨rfl, by rw [hU], by rw [hU]; exact hPc, va_K.moved hW.alike hK, hDc.weaken (fun _ _ _ _ => trivial), hZs U hW⟩⟩ rfl hn hsize rfl (lv_room hW) hdg hf) hS (fun q _ h => hFc q h) hFc (fun u t H1 locs1 ht hvm hw hB hz1 hk1 hS1 => ?_)
  obtain ⟨hP1, -, hD1⟩ := hB
  rw [ht] at hP1
  obtain ⟨hP2, hD2⟩ := va_join hP hD isC isR hC hRr hnR hdis hk1 hFc hP1 hD1
  exact kk u H1 locs1 hP2 hD2 hS1
theorem g_putF {ty0 : Nat → FieldType} {v : Value} (S : CallFix p m c cc nL s args gw own) (hin2 : meth.name = "<init>") (hin : ∀ w ∈ u_ws C T N, w ∈ gw) (hty : ∀ k, k < N → parseFieldDescriptor (T k).2.2.1 = some (ty0 k)) (hnm : ∀ a, a < N → ∀ b, b < N → a ≠ b → (T a).2.1 ≠ (T b).2.1) (hK : va_K D pcl tys s) (hP : va_P D pcl ws H) (hD : va_D A ws) (hS : va_S A H0 H locs) (q0 : Nat) (he : ws[q0]? = some (a, .inr (ci, fs))) (hc : pcl[ci]? = some (C, T, N)) (k : Nat) (hk : k < N)
    (hlink : Cond.fieldLink own index (T k).1 (T k).2.1 (T k).2.2.1 ∈ gw) (hfin : (T k).2.2.2 = true) (hdecl : (T k).1 = own) (hn : narrow (ty0 k) v = v) (hfit : fits (ty0 k) v = true) (hl : k < fs.length) (hdg : decode cc pc = .ok (.putfield index, 3))
    (kk : ∀ (H1 : Heap) (locs1 : List Loc), va_P D pcl (ws.set q0 (a, .inr (ci, fs.set k v))) H1 → va_D A (ws.set q0 (a, .inr (ci, fs.set k v))) → va_S A H0 H1 locs1 → W p l e R s m args below meth c H1 locs1 cells slots Q (F0 m (pc + 3) ls rest)) : W p l e R s m args below meth c H locs cells slots Q (F0 m pc ls (v :: .ref a :: rest)) :=
  va_putF S.1 S.2.1 S.2.2.2.2 hin ty0 hty hnm S.2.2.2.1 hK hP hD hS q0 he hc k hk (S.2.2.2.2 _ hlink) (fun _ h => h) hfin hin2 hdecl (hty k hk) hn hfit hl hdg kk
theorem g_new {ty0 : Nat → FieldType} (S : CallFix p m c cc nL s args gw own) (hin : ∀ w ∈ u_ws C T N, w ∈ gw) (hty : ∀ k, k < N → parseFieldDescriptor (T k).2.2.1 = some (ty0 k)) (hcl : Cond.classLink own index C ∈ gw) (hinst : Cond.instantiable C N ∈ gw) (hini : Cond.initialized C ∈ gw)
    (hK : va_K D pcl tys s) (hP : va_P D pcl ws H) (hD : va_D A ws) (hS : va_S A H0 H locs) (hA : ∀ q, H0.size ≤ q → A q) (hc : pcl[ci]? = some (C, T, N)) (hfs : ∀ j, j < N → defaultValue (ty0 j) = vp_V fs j) (hcells : cells + 1 ≤ R.cells) (hslots : slots + N ≤ R.slots) (hdg : decode cc pc = .ok (.new index, 3))
    (kk : ∀ (q : Nat) (H1 : Heap), va_P D pcl (ws ++ [(q, .inr (ci, fs))]) H1 → va_D A (ws ++ [(q, .inr (ci, fs))]) → va_S A H0 H1 locs →
      W p l e R s m args below meth c H1 locs (cells + 1) (slots + N) Q (F0 m (pc + 3) ls (.ref q :: rest))) : W p l e R s m args below meth c H locs cells slots Q (F0 m pc ls rest) :=
  va_new S.1 S.2.1 S.2.2.2.2 hin ty0 hty S.2.2.2.1 (S.2.2.2.2 _ hcl) (S.2.2.2.2 _ hinst) (S.2.2.2.2 _ hini) hK hP hD hS hA hc hfs hcells hslots hdg kk
theorem g_newR {ty0 : Nat → FieldType} {rr : va_W} (S : CallFix p m c cc nL s args gw own) (hin : ∀ w ∈ u_ws C T N, w ∈ gw) (hty : ∀ k, k < N → parseFieldDescriptor (T k).2.2.1 = some (ty0 k)) (hcl : Cond.classLink own index C ∈ gw) (hinst : Cond.instantiable C N ∈ gw) (hini : Cond.initialized C ∈ gw)
    (hK : va_K D pcl tys s) (hP : va_P D pcl (X ++ rr) H) (hD : va_D A (X ++ rr)) (hS : va_S A H0 H locs) (hA : ∀ q, H0.size ≤ q → A q) (hc : pcl[ci]? = some (C, T, N)) (hfs : ∀ j, j < N → defaultValue (ty0 j) = vp_V fs j) (hcells : cells + 1 ≤ R.cells) (hslots : slots + N ≤ R.slots) (hdg : decode cc pc = .ok (.new index, 3))
    (kk : ∀ (q : Nat) (H1 : Heap), va_P D pcl ((X ++ [(q, .inr (ci, fs))]) ++ rr) H1 → va_D A ((X ++ [(q, .inr (ci, fs))]) ++ rr) → va_S A H0 H1 locs →
      W p l e R s m args below meth c H1 locs (cells + 1) (slots + N) Q (F0 m (pc + 3) ls (.ref q :: rest))) : W p l e R s m args below meth c H locs cells slots Q (F0 m pc ls rest) :=
  g_new S hin hty hcl hinst hini hK hP hD hS hA hc hfs hcells hslots hdg (fun q H1 hP1 hD1 hS1 => kk q H1 (va_P.swap hP1) (va_D.swap hD1) hS1)
theorem g_oinit (S : CallFix p m c cc nL s args gw own) (hlk : Cond.methodLink own index objectInit ∈ gw) (hin : Cond.instanceMethod objectInit ∈ gw) (hcd : Cond.code objectInit ⟨#[0xb1]⟩ 1 none ∈ gw) (hsize : ls.size = nL) (hdg : decode cc pc = .ok (.invokespecial index, 3)) (hfr : 1 ≤ R.frames) (hlo : 12 ≤ R.locals)
    (kk : W p l e R s m args below meth c H locs cells slots Q (F0 m (pc + 3) ls [])) : W p l e R s m args below meth c H locs cells slots Q (F0 m pc ls [.ref a]) := by
  refine W.objInit S.1 S.2.1 S.2.2.2.1 (S.2.2.2.2 _ hlk) (S.2.2.2.2 _ hin) (S.2.2.2.2 _ hcd) rfl (by rw [S.2.2.1]; exact hsize) rfl hdg hfr hlo ?_
  exact W.eq (g2 := F0 m (pc + 3) ls []) rfl kk
theorem g_newi {cI : ClassId} {N' : Nat} {nn : Int32} (S : CallFix p m c cc nL s args gw own) (hK : va_K D pcl tys s) (t0 : Nat) (ht : tys[t0]? = some (cI, .int)) (hP : va_P D pcl ws H) (hD : va_D A ws) (hS : va_S A H0 H locs) (hA : ∀ q, H0.size ≤ q → A q) (hn : ¬ nn < 0) (hN : nn.toNatClampNeg = N') (hN2 : N' ≤ 1000) (hcells : cells + 1 ≤ R.cells) (hslots : slots + N' ≤ R.slots) (hdg : decode cc pc = .ok (.newarray .int, 2))
    (kk : ∀ (q : Nat) (H1 : Heap), va_P D pcl (ws ++ [(q, .inl (cI, N', .inl (fun _ => 0)))]) H1 → va_D A (ws ++ [(q, .inl (cI, N', .inl (fun _ => 0)))]) → va_S A H0 H1 locs →
      W p l e R s m args below meth c H1 locs (cells + 1) (slots + N') Q (F0 m (pc + 2) ls (.ref q :: rest))) : W p l e R s m args below meth c H locs cells slots Q (F0 m pc ls (.int nn :: rest)) := by
  refine va_newa (atype := .int) (ty := .int) (a0 := (N', .inl (fun _ => 0))) S.1 S.2.1 (S.2.2.2.2 _ gm_99) rfl hK hP hD hS hA (fun cA => by rw [vp_cell_i] <;> rfl) hn hN (by show N' * 4 ≤ 536870912; omega) hcells hslots hdg (fun q cA H1 hK1 hP1 hD1 hS1 => ?_)
  have e1 : cA = cI := Option.some.inj ((va_nm_int (hK1.2 tys.length _ (by rw [List.getElem?_append_right (Nat.le_refl _), Nat.sub_self]; rfl)).2).symm.trans (va_nm_int (hK.2 t0 _ ht).2))
  subst e1
  exact kk q H1 hP1 hD1 hS1
theorem g_newl {cL : ClassId} {N' : Nat} {nn : Int32} (S : CallFix p m c cc nL s args gw own) (hK : va_K D pcl tys s) (t0 : Nat) (ht : tys[t0]? = some (cL, .long)) (hP : va_P D pcl ws H) (hD : va_D A ws) (hS : va_S A H0 H locs) (hA : ∀ q, H0.size ≤ q → A q) (hn : ¬ nn < 0) (hN : nn.toNatClampNeg = N') (hN2 : N' ≤ 1000) (hcells : cells + 1 ≤ R.cells) (hslots : slots + N' ≤ R.slots) (hdg : decode cc pc = .ok (.newarray .long, 2))
    (kk : ∀ (q : Nat) (H1 : Heap), va_P D pcl (ws ++ [(q, .inl (cL, N', .inr (.inl (fun _ => 0))))]) H1 → va_D A (ws ++ [(q, .inl (cL, N', .inr (.inl (fun _ => 0))))]) → va_S A H0 H1 locs →
      W p l e R s m args below meth c H1 locs (cells + 1) (slots + N') Q (F0 m (pc + 2) ls (.ref q :: rest))) : W p l e R s m args below meth c H locs cells slots Q (F0 m pc ls (.int nn :: rest)) := by
  refine va_newa (atype := .long) (ty := .long) (a0 := (N', .inr (.inl (fun _ => 0)))) S.1 S.2.1 (S.2.2.2.2 _ gm_180) rfl hK hP hD hS hA (fun cA => by rw [vp_cell_l] <;> rfl) hn hN (by show N' * 8 ≤ 536870912; omega) hcells hslots hdg (fun q cA H1 hK1 hP1 hD1 hS1 => ?_)
  have e1 : cA = cL := Option.some.inj ((va_nm_long (hK1.2 tys.length _ (by rw [List.getElem?_append_right (Nat.le_refl _), Nat.sub_self]; rfl)).2).symm.trans (va_nm_long (hK.2 t0 _ ht).2))
  subst e1
  exact kk q H1 hP1 hD1 hS1
/-- an int array behind which the drawing's rows stay the last -/
theorem g_newiR {cI : ClassId} {N' : Nat} {nn : Int32} {rr : va_W} (S : CallFix p m c cc nL s args gw own) (hK : va_K D pcl tys s) (t0 : Nat) (ht : tys[t0]? = some (cI, .int)) (hP : va_P D pcl (X ++ rr) H) (hD : va_D A (X ++ rr)) (hS : va_S A H0 H locs) (hA : ∀ q, H0.size ≤ q → A q) (hn : ¬ nn < 0) (hN : nn.toNatClampNeg = N') (hN2 : N' ≤ 1000) (hcells : cells + 1 ≤ R.cells) (hslots : slots + N' ≤ R.slots) (hdg : decode cc pc = .ok (.newarray .int, 2))
    (kk : ∀ (q : Nat) (H1 : Heap), va_P D pcl ((X ++ [(q, .inl (cI, N', .inl (fun _ => 0)))]) ++ rr) H1 → va_D A ((X ++ [(q, .inl (cI, N', .inl (fun _ => 0)))]) ++ rr) → va_S A H0 H1 locs →
      W p l e R s m args below meth c H1 locs (cells + 1) (slots + N') Q (F0 m (pc + 2) ls (.ref q :: rest))) : W p l e R s m args below meth c H locs cells slots Q (F0 m pc ls (.int nn :: rest)) :=
  g_newi S hK t0 ht hP hD hS hA hn hN hN2 hcells hslots hdg (fun q H1 hP1 hD1 hS1 => kk q H1 (va_P.swap hP1) (va_D.swap hD1) hS1)
theorem g_mna {cI cQ : ClassId} (S : CallFix p m c cc nL s args gw n_D) (hZ : va_AOA .int s) (hK : va_K D pcl tys s) (t0 t1 : Nat) (ht : tys[t0]? = some (cI, .int)) (ht1 : tys[t1]? = some (cQ, .array .int)) (hP : va_P D pcl ws H) (hD : va_D A ws) (hS : va_S A H0 H locs) (hA : ∀ q, H0.size ≤ q → A q) (hcells : cells + 19 ≤ R.cells) (hslots : slots + 198 ≤ R.slots) (hdg : decode cc pc = .ok (.multianewarray 18 2, 4))
    (kk : ∀ (q : Nat) (r : Nat → Nat) (H1 : Heap), va_P D pcl ((ws ++ [(q, .inl (cQ, 18, .inr (.inr (.inr (.inr (fun i9 => if i9 < 18 then some (r i9) else none))))))]) ++ wkR r cI (fun _ _ => 0)) H1 → va_D A ((ws ++ [(q, .inl (cQ, 18, .inr (.inr (.inr (.inr (fun i9 => if i9 < 18 then some (r i9) else none))))))]) ++ wkR r cI (fun _ _ => 0)) → va_S A H0 H1 locs →
      W p l e R s m args below meth c H1 locs (cells + 19) (slots + 198) Q (F0 m (pc + 4) ls (.ref q :: rest))) : W p l e R s m args below meth c H locs cells slots Q (F0 m pc ls (.int 10 :: .int 18 :: rest)) := by
  have hP : va_P D pcl (ws ++ va_pl [] (fun _ => .inr (0, []))) H := by show va_P D pcl (ws ++ []) H; rw [List.append_nil]; exact hP
  have hD : va_D A (ws ++ va_pl [] (fun _ => .inr (0, []))) := by show va_D A (ws ++ []); rw [List.append_nil]; exact hD
  refine va_mna (ty := .int) (cy := cI) (z := (10, .inl (fun _ => 0))) (N' := 18) (K' := 10) S.1 S.2.1 S.2.2.2.1 (S.2.2.2.2 _ gm_130) hZ (S.2.2.2.2 _ gm_99) (va_nm_int (hK.2 t0 _ ht).2) hK hP hD hS hA (by decide) (by decide) rfl rfl (by decide) (by decide) (by decide) rfl rfl hcells hslots (fun c => by rw [vp_cell_i]; exact arrV_new ..) hdg (fun q r cA H1 hinj hnin hK1 hP1 hD1 hS1 => ?_)
  have e1 : cA = cQ := by
    have h1 : s.vm.findClass ("[" ++ (FieldType.array .int).toString) = some cA := (hK1.2 tys.length (cA, .array .int) (by rw [List.getElem?_append_right (Nat.le_refl _), Nat.sub_self]; rfl)).2
    have h2 : s.vm.findClass ("[" ++ (FieldType.array .int).toString) = some cQ := (hK.2 t1 (cQ, .array .int) ht1).2
    exact Option.some.inj (h1.symm.trans h2)
  subst e1
  have e2 : va_pl ([] ++ (List.range 18).map r) (vr_up (fun _ => .inr (0, [])) ((List.range 18).map r) (.inl (cI, 10, .inl (fun _ => 0)))) = wkR r cI (fun _ _ => 0) := by
    rw [List.nil_append]
    unfold va_pl
    rw [List.map_map]
    apply List.map_congr_left
    intro i hi
    show (r i, vr_up _ _ _ (r i)) = _
    rw [vr_up_in (List.mem_map_of_mem hi)]
    rfl
  rw [e2] at hP1 hD1
  exact kk q r H1 hP1 hD1 hS1
end GN
theorem nZs {s : State} : ∀ U : State, s.WarmedH U.vm → nZ U := fun _ _ => trivial
theorem dZs {s : State} (h : dZ s) : ∀ U : State, s.WarmedH U.vm → dZ U := fun _ hW => h.moved hW.alike
theorem xZs {s : State} (h : xZ s) : ∀ U : State, s.WarmedH U.vm → xZ U := fun _ hW => ⟨h.1.moved hW.alike, h.2.warmM hW⟩
