/-! faces as walks: rows, lengths, sets -/
def dr_to (f v : Nat) (s : ((Nat → Nat → Nat) × (Nat → Nat) × (Nat → Int32))) : ((Nat → Nat → Nat) × (Nat → Nat) × (Nat → Int32)) := if s.2.1 f < 10 then (va_up s.1 f (va_up (s.1 f) (s.2.1 f) v), va_up s.2.1 f (s.2.1 f + 1), upd s.2.2 f (s.2.2 f ||| (1 <<< (nI v &&& 31)))) else s
theorem dr_to_rng {f v : Nat} {s : ((Nat → Nat → Nat) × (Nat → Nat) × (Nat → Int32))} (h : ∀ j, s.2.1 j ≤ 10) : ∀ j, (dr_to f v s).2.1 j ≤ 10 := by
  intro j
  unfold dr_to
  by_cases hc : s.2.1 f < 10
  · rw [if_pos hc]
    show va_up s.2.1 f (s.2.1 f + 1) j ≤ 10
    unfold va_up
    by_cases hj : j = f
    · rw [if_pos hj]; omega
    · rw [if_neg hj]; exact h j
  · rw [if_neg hc]; exact h j
def dr_plD (ow : Nat → Nat) (v len : Nat) (j : Nat) : Bool := decide (len - 1 ≤ j) || decide (nI (ow j) = nI v)
def dr_pl (ow : Nat → Nat) (v len : Nat) : Nat := wl (dr_plD ow v len) pm_leS 10 0
theorem dr_pl_dn (ow : Nat → Nat) (v len : Nat) (h : len ≤ 10) : dr_plD ow v len (dr_pl ow v len) = true := wl_cntN (e := len - 1) (fun s h => by simp [dr_plD, h]) (fun s => rfl) 10 0 (by omega)
theorem dr_pl_le (ow : Nat → Nat) (v len : Nat) (h : 1 ≤ len) : dr_pl ow v len < len := by
  have key : ∀ f j, j < len → wl (dr_plD ow v len) pm_leS f j < len := by
    intro f
    induction f with
    | zero => exact fun j h => h
    | succ f ih =>
      intro j hj
      cases hd : dr_plD ow v len j with
      | true => rw [wl_dn hd]; exact hj
      | false =>
        rw [wl_st hd]
        apply ih
        show j + 1 < len
        simp [dr_plD] at hd
        omega
  exact key 10 0 (by omega)
def dr_last (a b len : Nat) : Nat := if b < a then b + len else b
def dr_wrap (i len : Nat) : Nat := if i < len then i else i - len
def dr_arc1 (ow : Nat → Nat) (f a len : Nat) : Nat → ((Nat → Nat → Nat) × (Nat → Nat) × (Nat → Int32)) → ((Nat → Nat → Nat) × (Nat → Nat) × (Nat → Int32)) := fun i s => dr_to f (ow (dr_wrap (a + i) len)) s
def dr_arc (ow : Nat → Nat) (f a b len : Nat) (s : ((Nat → Nat → Nat) × (Nat → Nat) × (Nat → Int32))) : ((Nat → Nat → Nat) × (Nat → Nat) × (Nat → Int32)) := fo (dr_arc1 ow f a len) (dr_last a b len + 1 - a) s
theorem dr_arc1_rng {ow : Nat → Nat} {f a len : Nat} {s : ((Nat → Nat → Nat) × (Nat → Nat) × (Nat → Int32))} (h : ∀ j, s.2.1 j ≤ 10) : ∀ i j, (fo (dr_arc1 ow f a len) i s).2.1 j ≤ 10
  | 0, j => h j
  | i + 1, j => dr_to_rng (dr_arc1_rng h i) j
theorem d_D_startWalk_0 : decode k_D_startWalk 0 = .ok (.aload_n 0, 1) := by decide +kernel
theorem d_D_startWalk_1 : decode k_D_startWalk 1 = .ok (.getfield 23, 3) := by decide +kernel
theorem d_D_startWalk_4 : decode k_D_startWalk 4 = .ok (.iload_n 1, 1) := by decide +kernel
theorem d_D_startWalk_5 : decode k_D_startWalk 5 = .ok (.iconst 0, 1) := by decide +kernel
theorem d_D_startWalk_6 : decode k_D_startWalk 6 = .ok (.iastore, 1) := by decide +kernel
theorem d_D_startWalk_7 : decode k_D_startWalk 7 = .ok (.aload_n 0, 1) := by decide +kernel
theorem d_D_startWalk_8 : decode k_D_startWalk 8 = .ok (.getfield 26, 3) := by decide +kernel
theorem d_D_startWalk_11 : decode k_D_startWalk 11 = .ok (.iload_n 1, 1) := by decide +kernel
theorem d_D_startWalk_12 : decode k_D_startWalk 12 = .ok (.iconst 0, 1) := by decide +kernel
theorem d_D_startWalk_13 : decode k_D_startWalk 13 = .ok (.iastore, 1) := by decide +kernel
theorem d_D_startWalk_14 : decode k_D_startWalk 14 = .ok (.return_, 1) := by decide +kernel
abbrev rm_D_startWalk : Room := { frames := 0, cells := 0, slots := 0, locals := 0 }
theorem hd_D_startWalk : y_D_startWalk.cls = n_D ∧ y_D_startWalk.cls ≠ "java/lang/invoke/MethodHandle" ∧ y_D_startWalk.cls ≠ "java/lang/invoke/VarHandle" ∧ (parseMethodDescriptor y_D_startWalk.desc).map (fun d => d.parameters.length) = some 1 := by decide +kernel
set_option maxHeartbeats 4000000 in
set_option maxRecDepth 100000 in
theorem c_D_startWalk (l : Launch) (dC : Nat → ClassId) (dI : Nat → Nat → Nat) (hd : Nat) (hg : Nat) (dE : Int32) (dV : Int32) (fc : Nat) (fE : Int32) (fV : Int32) (cE : Int32) (cC : Int32) (pn : Nat) (d1 : Nat) (d2 : Nat) (d3 : Nat) (d4 : Nat) (d5 : Nat) (d6 : Nat) (d7 : Nat) (d8 : Nat) (cI : ClassId) (cQ : ClassId) (WL : Nat → Nat) (WS : Nat → Int32) (f0 : Nat) (sz : Nat) (hf : f0 < 18) : Met l y_D_startWalk (.code y_D_startWalk k_D_startWalk 2 none :: gw) rm_D_startWalk (rwP [.ref hd, .int (nI f0)] (dC, dI) [(hd, .inr (0, [.ref hg, .ref d1, .ref d2, .int dE, .int dV, .ref d3, .ref d4, .ref d5, .int (nI fc), .int fE, .int fV, .int cE, .int cC, .ref d6, .ref d7, .int (nI pn), .ref d8])), (d4, .inl (cI, 18, .inl (fun i9 => nI (WL i9)))), (d5, .inl (cI, 18, .inl WS))] [(cI, .int)] sz) (va_Qv (fun _ : Unit => True) (rwB (dC, dI) [(hd, .inr (0, [.ref hg, .ref d1, .ref d2, .int dE, .int dV, .ref d3, .ref d4, .ref d5, .int (nI fc), .int fE, .int fV, .int cE, .int cC, .ref d6, .ref d7, .int (nI pn), .ref d8])), (d4, .inl (cI, 18, .inl (fun i9 => nI ((va_up WL f0 0) i9)))), (d5, .inl (cI, 18, .inl (upd WS f0 0)))] [(cI, .int)] (va_A [(hd, .inr (0, [.ref hg, .ref d1, .ref d2, .int dE, .int dV, .ref d3, .ref d4, .ref d5, .int (nI fc), .int fE, .int fV, .int cE, .int cC, .ref d6, .ref d7, .int (nI pn), .ref d8])), (d4, .inl (cI, 18, .inl (fun i9 => nI (WL i9)))), (d5, .inl (cI, 18, .inl WS))] sz)) (va_A [(hd, .inr (0, [.ref hg, .ref d1, .ref d2, .int dE, .int dV, .ref d3, .ref d4, .ref d5, .int (nI fc), .int fE, .int fV, .int cE, .int cC, .ref d6, .ref d7, .int (nI pn), .ref d8])), (d4, .inl (cI, 18, .inl (fun i9 => nI (WL i9)))), (d5, .inl (cI, 18, .inl WS))] sz)) 0 0 (va_A [(hd, .inr (0, [.ref hg, .ref d1, .ref d2, .int dE, .int dV, .ref d3, .ref d4, .ref d5, .int (nI fc), .int fE, .int fV, .int cE, .int cC, .ref d6, .ref d7, .int (nI pn), .ref d8])), (d4, .inl (cI, 18, .inl (fun i9 => nI (WL i9)))), (d5, .inl (cI, 18, .inl WS))] sz) := by
  refine rw_met (by decide) ⟨rfl, rfl⟩ (Nat.le_of_ble_eq_true rfl) ?_
  intro p e s m args below meth c Q A ls Sx hP hK hD hA hl hret
  have hx := Sx.1
  have hb := Sx.2.1
  have hl : lv_has ls 2 [(0, .ref hd), (1, .int (nI f0))] := hl
  have hS : va_S A s.heap s.heap [] := va_S.rf
  obtain ⟨H, hH⟩ : ∃ H, H = s.heap := ⟨_, rfl⟩
  obtain ⟨locs, hlo⟩ : ∃ locs : List Loc, locs = [] := ⟨_, rfl⟩
  rw [← hlo]
  rw [← hlo] at hS
  have hP : va_P (dC, dI) pcl [(hd, .inr (0, [.ref hg, .ref d1, .ref d2, .int dE, .int dV, .ref d3, .ref d4, .ref d5, .int (nI fc), .int fE, .int fV, .int cE, .int cC, .ref d6, .ref d7, .int (nI pn), .ref d8])), (d4, .inl (cI, 18, .inl (fun i9 => nI (WL i9)))), (d5, .inl (cI, 18, .inl WS))] H := by rw [hH]; exact hP
  have hS : va_S A s.heap H locs := by rw [hH]; exact hS
  suffices hgo : W p l e rm_D_startWalk s m args below meth c H locs 0 0 Q (F0 m 0 ls []) by rw [hH] at hgo; exact hgo
  refine lv_aload_n hx hb d_D_startWalk_0 rfl (lv_at hl 0 rfl) ?_
  refine g_get Sx gf_D hK hP 0 rfl rfl 6 (by decide) gm_137 rfl d_D_startWalk_1 ?_
  refine lv_iload_n hx hb d_D_startWalk_4 rfl (lv_at hl 1 rfl) ?_
  refine lv_iconst (v := nI 0) hx hb d_D_startWalk_5 (by decide) ?_
  refine g_istN (j := f0) Sx hK hP hD hS 1 0 rfl rfl (by omega) (by decide) d_D_startWalk_6 (fun H locs hP hD hS => ?_)
  have hP : va_P (dC, dI) pcl [(hd, .inr (0, [.ref hg, .ref d1, .ref d2, .int dE, .int dV, .ref d3, .ref d4, .ref d5, .int (nI fc), .int fE, .int fV, .int cE, .int cC, .ref d6, .ref d7, .int (nI pn), .ref d8])), (d4, .inl (cI, 18, .inl (fun i9 => nI ((va_up WL f0 0) i9)))), (d5, .inl (cI, 18, .inl WS))] H := hP
  have hD : va_D A [(hd, .inr (0, [.ref hg, .ref d1, .ref d2, .int dE, .int dV, .ref d3, .ref d4, .ref d5, .int (nI fc), .int fE, .int fV, .int cE, .int cC, .ref d6, .ref d7, .int (nI pn), .ref d8])), (d4, .inl (cI, 18, .inl (fun i9 => nI ((va_up WL f0 0) i9)))), (d5, .inl (cI, 18, .inl WS))] := hD
  refine lv_aload_n hx hb d_D_startWalk_7 rfl (lv_at hl 0 rfl) ?_
  refine g_get Sx gf_D hK hP 0 rfl rfl 7 (by decide) gm_138 rfl d_D_startWalk_8 ?_
  refine lv_iload_n hx hb d_D_startWalk_11 rfl (lv_at hl 1 rfl) ?_
  refine lv_iconst (v := 0) hx hb d_D_startWalk_12 (by decide) ?_
  refine g_ist (j := f0) Sx hK hP hD hS 2 0 rfl rfl (by omega) (by decide) d_D_startWalk_13 (fun H locs hP hD hS => ?_)
  have hP : va_P (dC, dI) pcl [(hd, .inr (0, [.ref hg, .ref d1, .ref d2, .int dE, .int dV, .ref d3, .ref d4, .ref d5, .int (nI fc), .int fE, .int fV, .int cE, .int cC, .ref d6, .ref d7, .int (nI pn), .ref d8])), (d4, .inl (cI, 18, .inl (fun i9 => nI ((va_up WL f0 0) i9)))), (d5, .inl (cI, 18, .inl (upd WS f0 0)))] H := hP
  have hD : va_D A [(hd, .inr (0, [.ref hg, .ref d1, .ref d2, .int dE, .int dV, .ref d3, .ref d4, .ref d5, .int (nI fc), .int fE, .int fV, .int cE, .int cC, .ref d6, .ref d7, .int (nI pn), .ref d8])), (d4, .inl (cI, 18, .inl (fun i9 => nI ((va_up WL f0 0) i9)))), (d5, .inl (cI, 18, .inl (upd WS f0 0)))] := hD
  exact hret _ H locs _ d_D_startWalk_14 hP hD hS
theorem d_D_walkTo_0 : decode k_D_walkTo 0 = .ok (.aload_n 0, 1) := by decide +kernel
theorem d_D_walkTo_1 : decode k_D_walkTo 1 = .ok (.getfield 23, 3) := by decide +kernel
theorem d_D_walkTo_4 : decode k_D_walkTo 4 = .ok (.iload_n 1, 1) := by decide +kernel
theorem d_D_walkTo_5 : decode k_D_walkTo 5 = .ok (.iaload, 1) := by decide +kernel
theorem d_D_walkTo_6 : decode k_D_walkTo 6 = .ok (.bipush 10, 2) := by decide +kernel
theorem d_D_walkTo_8 : decode k_D_walkTo 8 = .ok (.if_icmp .ge 39, 3) := by decide +kernel
theorem d_D_walkTo_11 : decode k_D_walkTo 11 = .ok (.aload_n 0, 1) := by decide +kernel
theorem d_D_walkTo_12 : decode k_D_walkTo 12 = .ok (.getfield 20, 3) := by decide +kernel
theorem d_D_walkTo_15 : decode k_D_walkTo 15 = .ok (.iload_n 1, 1) := by decide +kernel
theorem d_D_walkTo_16 : decode k_D_walkTo 16 = .ok (.aaload, 1) := by decide +kernel
theorem d_D_walkTo_17 : decode k_D_walkTo 17 = .ok (.aload_n 0, 1) := by decide +kernel
theorem d_D_walkTo_18 : decode k_D_walkTo 18 = .ok (.getfield 23, 3) := by decide +kernel
theorem d_D_walkTo_21 : decode k_D_walkTo 21 = .ok (.iload_n 1, 1) := by decide +kernel
theorem d_D_walkTo_22 : decode k_D_walkTo 22 = .ok (.iaload, 1) := by decide +kernel
theorem d_D_walkTo_23 : decode k_D_walkTo 23 = .ok (.iload_n 2, 1) := by decide +kernel
theorem d_D_walkTo_24 : decode k_D_walkTo 24 = .ok (.iastore, 1) := by decide +kernel
theorem d_D_walkTo_25 : decode k_D_walkTo 25 = .ok (.aload_n 0, 1) := by decide +kernel
theorem d_D_walkTo_26 : decode k_D_walkTo 26 = .ok (.getfield 23, 3) := by decide +kernel
theorem d_D_walkTo_29 : decode k_D_walkTo 29 = .ok (.iload_n 1, 1) := by decide +kernel
theorem d_D_walkTo_30 : decode k_D_walkTo 30 = .ok (.dup2, 1) := by decide +kernel
theorem d_D_walkTo_31 : decode k_D_walkTo 31 = .ok (.iaload, 1) := by decide +kernel
theorem d_D_walkTo_32 : decode k_D_walkTo 32 = .ok (.iconst 1, 1) := by decide +kernel
theorem d_D_walkTo_33 : decode k_D_walkTo 33 = .ok (.iadd, 1) := by decide +kernel
theorem d_D_walkTo_34 : decode k_D_walkTo 34 = .ok (.iastore, 1) := by decide +kernel
theorem d_D_walkTo_35 : decode k_D_walkTo 35 = .ok (.aload_n 0, 1) := by decide +kernel
theorem d_D_walkTo_36 : decode k_D_walkTo 36 = .ok (.getfield 26, 3) := by decide +kernel
theorem d_D_walkTo_39 : decode k_D_walkTo 39 = .ok (.iload_n 1, 1) := by decide +kernel
theorem d_D_walkTo_40 : decode k_D_walkTo 40 = .ok (.dup2, 1) := by decide +kernel
theorem d_D_walkTo_41 : decode k_D_walkTo 41 = .ok (.iaload, 1) := by decide +kernel
theorem d_D_walkTo_42 : decode k_D_walkTo 42 = .ok (.iconst 1, 1) := by decide +kernel
theorem d_D_walkTo_43 : decode k_D_walkTo 43 = .ok (.iload_n 2, 1) := by decide +kernel
theorem d_D_walkTo_44 : decode k_D_walkTo 44 = .ok (.ishl, 1) := by decide +kernel
theorem d_D_walkTo_45 : decode k_D_walkTo 45 = .ok (.ior, 1) := by decide +kernel
theorem d_D_walkTo_46 : decode k_D_walkTo 46 = .ok (.iastore, 1) := by decide +kernel
theorem d_D_walkTo_47 : decode k_D_walkTo 47 = .ok (.return_, 1) := by decide +kernel
abbrev rm_D_walkTo : Room := { frames := 0, cells := 0, slots := 0, locals := 0 }
theorem hd_D_walkTo : y_D_walkTo.cls = n_D ∧ y_D_walkTo.cls ≠ "java/lang/invoke/MethodHandle" ∧ y_D_walkTo.cls ≠ "java/lang/invoke/VarHandle" ∧ (parseMethodDescriptor y_D_walkTo.desc).map (fun d => d.parameters.length) = some 2 := by decide +kernel
set_option maxHeartbeats 4000000 in
set_option maxRecDepth 100000 in
theorem c_D_walkTo (l : Launch) (dC : Nat → ClassId) (dI : Nat → Nat → Nat) (hd : Nat) (hg : Nat) (dE : Int32) (dV : Int32) (fc : Nat) (fE : Int32) (fV : Int32) (cE : Int32) (cC : Int32) (pn : Nat) (d1 : Nat) (d2 : Nat) (d3 : Nat) (d4 : Nat) (d5 : Nat) (d6 : Nat) (d7 : Nat) (d8 : Nat) (cI : ClassId) (cQ : ClassId) (WL : Nat → Nat) (WS : Nat → Int32) (r : Nat → Nat) (M : Nat → Nat → Nat) (f0 : Nat) (v0 : Nat) (sz : Nat) (hf : f0 < 18) (hWL : ∀ j, WL j ≤ 10) : Met l y_D_walkTo (.code y_D_walkTo k_D_walkTo 3 none :: gw) rm_D_walkTo (rwP [.ref hd, .int (nI f0), .int (nI v0)] (dC, dI) ([(hd, .inr (0, [.ref hg, .ref d1, .ref d2, .int dE, .int dV, .ref d3, .ref d4, .ref d5, .int (nI fc), .int fE, .int fV, .int cE, .int cC, .ref d6, .ref d7, .int (nI pn), .ref d8])), (d3, .inl (cQ, 18, .inr (.inr (.inr (.inr (fun i9 => if i9 < 18 then some (r i9) else none)))))), (d4, .inl (cI, 18, .inl (fun i9 => nI (WL i9)))), (d5, .inl (cI, 18, .inl WS))] ++ wkR r cI M) [(cI, .int), (cQ, .array .int)] sz) (va_Qv (fun _ : Unit => True) (rwB (dC, dI) ([(hd, .inr (0, [.ref hg, .ref d1, .ref d2, .int dE, .int dV, .ref d3, .ref d4, .ref d5, .int (nI fc), .int fE, .int fV, .int cE, .int cC, .ref d6, .ref d7, .int (nI pn), .ref d8])), (d3, .inl (cQ, 18, .inr (.inr (.inr (.inr (fun i9 => if i9 < 18 then some (r i9) else none)))))), (d4, .inl (cI, 18, .inl (fun i9 => nI (((dr_to f0 v0 (M, WL, WS)).2.1) i9)))), (d5, .inl (cI, 18, .inl ((dr_to f0 v0 (M, WL, WS)).2.2)))] ++ wkR r cI ((dr_to f0 v0 (M, WL, WS)).1)) [(cI, .int), (cQ, .array .int)] (va_A ([(hd, .inr (0, [.ref hg, .ref d1, .ref d2, .int dE, .int dV, .ref d3, .ref d4, .ref d5, .int (nI fc), .int fE, .int fV, .int cE, .int cC, .ref d6, .ref d7, .int (nI pn), .ref d8])), (d3, .inl (cQ, 18, .inr (.inr (.inr (.inr (fun i9 => if i9 < 18 then some (r i9) else none)))))), (d4, .inl (cI, 18, .inl (fun i9 => nI (WL i9)))), (d5, .inl (cI, 18, .inl WS))] ++ wkR r cI M) sz)) (va_A ([(hd, .inr (0, [.ref hg, .ref d1, .ref d2, .int dE, .int dV, .ref d3, .ref d4, .ref d5, .int (nI fc), .int fE, .int fV, .int cE, .int cC, .ref d6, .ref d7, .int (nI pn), .ref d8])), (d3, .inl (cQ, 18, .inr (.inr (.inr (.inr (fun i9 => if i9 < 18 then some (r i9) else none)))))), (d4, .inl (cI, 18, .inl (fun i9 => nI (WL i9)))), (d5, .inl (cI, 18, .inl WS))] ++ wkR r cI M) sz)) 0 0 (va_A ([(hd, .inr (0, [.ref hg, .ref d1, .ref d2, .int dE, .int dV, .ref d3, .ref d4, .ref d5, .int (nI fc), .int fE, .int fV, .int cE, .int cC, .ref d6, .ref d7, .int (nI pn), .ref d8])), (d3, .inl (cQ, 18, .inr (.inr (.inr (.inr (fun i9 => if i9 < 18 then some (r i9) else none)))))), (d4, .inl (cI, 18, .inl (fun i9 => nI (WL i9)))), (d5, .inl (cI, 18, .inl WS))] ++ wkR r cI M) sz) := by
  refine rw_met (by decide) ⟨rfl, rfl⟩ (Nat.le_of_ble_eq_true rfl) ?_
  intro p e s m args below meth c Q A ls Sx hP hK hD hA hl hret
  have hx := Sx.1
  have hb := Sx.2.1
  have hl : lv_has ls 3 [(0, .ref hd), (1, .int (nI f0)), (2, .int (nI v0))] := hl
  have hS : va_S A s.heap s.heap [] := va_S.rf
  have hW0 := hWL f0
  obtain ⟨H, hH⟩ : ∃ H, H = s.heap := ⟨_, rfl⟩
  obtain ⟨locs, hlo⟩ : ∃ locs : List Loc, locs = [] := ⟨_, rfl⟩
  rw [← hlo]
  rw [← hlo] at hS
  have hP : va_P (dC, dI) pcl ([(hd, .inr (0, [.ref hg, .ref d1, .ref d2, .int dE, .int dV, .ref d3, .ref d4, .ref d5, .int (nI fc), .int fE, .int fV, .int cE, .int cC, .ref d6, .ref d7, .int (nI pn), .ref d8])), (d3, .inl (cQ, 18, .inr (.inr (.inr (.inr (fun i9 => if i9 < 18 then some (r i9) else none)))))), (d4, .inl (cI, 18, .inl (fun i9 => nI (WL i9)))), (d5, .inl (cI, 18, .inl WS))] ++ wkR r cI M) H := by rw [hH]; exact hP
  have hS : va_S A s.heap H locs := by rw [hH]; exact hS
  suffices hgo : W p l e rm_D_walkTo s m args below meth c H locs 0 0 Q (F0 m 0 ls []) by rw [hH] at hgo; exact hgo
  refine lv_aload_n hx hb d_D_walkTo_0 rfl (lv_at hl 0 rfl) ?_
  refine g_get Sx gf_D hK hP 0 rfl rfl 6 (by decide) gm_137 rfl d_D_walkTo_1 ?_
  refine lv_iload_n hx hb d_D_walkTo_4 rfl (lv_at hl 1 rfl) ?_
  refine g_ild (j := f0) Sx hK hP 2 0 rfl rfl (by omega) (by decide) d_D_walkTo_5 ?_
  refine lv_bipush (v := nI 10) hx hb d_D_walkTo_6 (by decide) ?_
  refine lv_icmp_ge hx hb d_D_walkTo_8 (tgt := 47) rfl (fun q1 => ?_) (fun q1 => ?_)
  · have q1 : 10 ≤ (WL f0) := nq_le (by omega) (by omega) q1
    have q1n := Nat.not_lt.mpr q1
    rw [show dr_to f0 v0 (M, WL, WS) = (M, WL, WS) from by simp [dr_to, q1, q1n]] at hret
    exact hret _ H locs _ d_D_walkTo_47 hP hD hS
  · have q1 : (WL f0) < 10 := nq_nle (by omega) (by omega) q1
    have q1n := Nat.not_le.mpr q1
    refine lv_aload_n hx hb d_D_walkTo_11 rfl (lv_at hl 0 rfl) ?_
    refine g_get Sx gf_D hK hP 0 rfl rfl 5 (by decide) gm_136 rfl d_D_walkTo_12 ?_
    refine lv_iload_n hx hb d_D_walkTo_15 rfl (lv_at hl 1 rfl) ?_
    refine g_ald (j := f0) Sx hK hP 1 1 rfl rfl (by omega) d_D_walkTo_16 ?_
    refine lv_aload_n hx hb d_D_walkTo_17 rfl (lv_at hl 0 rfl) ?_
    refine g_get Sx gf_D hK hP 0 rfl rfl 6 (by decide) gm_137 rfl d_D_walkTo_18 ?_
    refine lv_iload_n hx hb d_D_walkTo_21 rfl (lv_at hl 1 rfl) ?_
    refine g_ild (j := f0) Sx hK hP 2 0 rfl rfl (by omega) (by decide) d_D_walkTo_22 ?_
    refine lv_iload_n hx hb d_D_walkTo_23 rfl (lv_at hl 2 rfl) ?_
    refine g_rst (f := f0) (j := (WL f0)) (x := v0) Sx hK hP hD hS 0 rfl (by omega) (by omega) d_D_walkTo_24 (fun H locs hP hD hS => ?_)
    have hP : va_P (dC, dI) pcl ([(hd, .inr (0, [.ref hg, .ref d1, .ref d2, .int dE, .int dV, .ref d3, .ref d4, .ref d5, .int (nI fc), .int fE, .int fV, .int cE, .int cC, .ref d6, .ref d7, .int (nI pn), .ref d8])), (d3, .inl (cQ, 18, .inr (.inr (.inr (.inr (fun i9 => if i9 < 18 then some (r i9) else none)))))), (d4, .inl (cI, 18, .inl (fun i9 => nI (WL i9)))), (d5, .inl (cI, 18, .inl WS))] ++ wkR r cI (va_up M f0 (va_up (M f0) (WL f0) v0))) H := hP
    have hD : va_D A ([(hd, .inr (0, [.ref hg, .ref d1, .ref d2, .int dE, .int dV, .ref d3, .ref d4, .ref d5, .int (nI fc), .int fE, .int fV, .int cE, .int cC, .ref d6, .ref d7, .int (nI pn), .ref d8])), (d3, .inl (cQ, 18, .inr (.inr (.inr (.inr (fun i9 => if i9 < 18 then some (r i9) else none)))))), (d4, .inl (cI, 18, .inl (fun i9 => nI (WL i9)))), (d5, .inl (cI, 18, .inl WS))] ++ wkR r cI (va_up M f0 (va_up (M f0) (WL f0) v0))) := hD
    refine lv_aload_n hx hb d_D_walkTo_25 rfl (lv_at hl 0 rfl) ?_
    refine g_get Sx gf_D hK hP 0 rfl rfl 6 (by decide) gm_137 rfl d_D_walkTo_26 ?_
    refine lv_iload_n hx hb d_D_walkTo_29 rfl (lv_at hl 1 rfl) ?_
    refine lv_dup2_11 hx hb d_D_walkTo_30 rfl rfl ?_
    refine g_ild (j := f0) Sx hK hP 2 0 rfl rfl (by omega) (by decide) d_D_walkTo_31 ?_
    refine lv_iconst (v := nI 1) hx hb d_D_walkTo_32 (by decide) ?_
    refine lv_iadd hx hb d_D_walkTo_33 ?_
    rw [show (((nI (WL f0)) + (nI 1)) : Int32) = nI ((WL f0) + 1) from nI_add _ _]
    refine g_istN (j := f0) Sx hK hP hD hS 2 0 rfl rfl (by omega) (by decide) d_D_walkTo_34 (fun H locs hP hD hS => ?_)
    have hP : va_P (dC, dI) pcl ([(hd, .inr (0, [.ref hg, .ref d1, .ref d2, .int dE, .int dV, .ref d3, .ref d4, .ref d5, .int (nI fc), .int fE, .int fV, .int cE, .int cC, .ref d6, .ref d7, .int (nI pn), .ref d8])), (d3, .inl (cQ, 18, .inr (.inr (.inr (.inr (fun i9 => if i9 < 18 then some (r i9) else none)))))), (d4, .inl (cI, 18, .inl (fun i9 => nI ((va_up WL f0 ((WL f0) + 1)) i9)))), (d5, .inl (cI, 18, .inl WS))] ++ wkR r cI (va_up M f0 (va_up (M f0) (WL f0) v0))) H := hP
    have hD : va_D A ([(hd, .inr (0, [.ref hg, .ref d1, .ref d2, .int dE, .int dV, .ref d3, .ref d4, .ref d5, .int (nI fc), .int fE, .int fV, .int cE, .int cC, .ref d6, .ref d7, .int (nI pn), .ref d8])), (d3, .inl (cQ, 18, .inr (.inr (.inr (.inr (fun i9 => if i9 < 18 then some (r i9) else none)))))), (d4, .inl (cI, 18, .inl (fun i9 => nI ((va_up WL f0 ((WL f0) + 1)) i9)))), (d5, .inl (cI, 18, .inl WS))] ++ wkR r cI (va_up M f0 (va_up (M f0) (WL f0) v0))) := hD
    refine lv_aload_n hx hb d_D_walkTo_35 rfl (lv_at hl 0 rfl) ?_
    refine g_get Sx gf_D hK hP 0 rfl rfl 7 (by decide) gm_138 rfl d_D_walkTo_36 ?_
    refine lv_iload_n hx hb d_D_walkTo_39 rfl (lv_at hl 1 rfl) ?_
    refine lv_dup2_11 hx hb d_D_walkTo_40 rfl rfl ?_
    refine g_ild (j := f0) Sx hK hP 3 0 rfl rfl (by omega) (by decide) d_D_walkTo_41 ?_
    refine lv_iconst (v := 1) hx hb d_D_walkTo_42 (by decide) ?_
    refine lv_iload_n hx hb d_D_walkTo_43 rfl (lv_at hl 2 rfl) ?_
    refine lv_ishl hx hb d_D_walkTo_44 ?_
    refine lv_ior hx hb d_D_walkTo_45 ?_
    refine g_ist (j := f0) Sx hK hP hD hS 3 0 rfl rfl (by omega) (by decide) d_D_walkTo_46 (fun H locs hP hD hS => ?_)
    have hP : va_P (dC, dI) pcl ([(hd, .inr (0, [.ref hg, .ref d1, .ref d2, .int dE, .int dV, .ref d3, .ref d4, .ref d5, .int (nI fc), .int fE, .int fV, .int cE, .int cC, .ref d6, .ref d7, .int (nI pn), .ref d8])), (d3, .inl (cQ, 18, .inr (.inr (.inr (.inr (fun i9 => if i9 < 18 then some (r i9) else none)))))), (d4, .inl (cI, 18, .inl (fun i9 => nI ((va_up WL f0 ((WL f0) + 1)) i9)))), (d5, .inl (cI, 18, .inl (upd WS f0 ((WS f0) ||| (1 <<< ((nI v0) &&& 31))))))] ++ wkR r cI (va_up M f0 (va_up (M f0) (WL f0) v0))) H := hP
    have hD : va_D A ([(hd, .inr (0, [.ref hg, .ref d1, .ref d2, .int dE, .int dV, .ref d3, .ref d4, .ref d5, .int (nI fc), .int fE, .int fV, .int cE, .int cC, .ref d6, .ref d7, .int (nI pn), .ref d8])), (d3, .inl (cQ, 18, .inr (.inr (.inr (.inr (fun i9 => if i9 < 18 then some (r i9) else none)))))), (d4, .inl (cI, 18, .inl (fun i9 => nI ((va_up WL f0 ((WL f0) + 1)) i9)))), (d5, .inl (cI, 18, .inl (upd WS f0 ((WS f0) ||| (1 <<< ((nI v0) &&& 31))))))] ++ wkR r cI (va_up M f0 (va_up (M f0) (WL f0) v0))) := hD
    rw [show dr_to f0 v0 (M, WL, WS) = (va_up M f0 (va_up (M f0) (WL f0) v0), va_up WL f0 ((WL f0) + 1), upd WS f0 ((WS f0) ||| (1 <<< ((nI v0) &&& 31)))) from by simp [dr_to, q1, q1n]] at hret
    exact hret _ H locs _ d_D_walkTo_47 hP hD hS
theorem d_D_placeOf_0 : decode k_D_placeOf 0 = .ok (.iconst 0, 1) := by decide +kernel
theorem d_D_placeOf_1 : decode k_D_placeOf 1 = .ok (.istore_n 3, 1) := by decide +kernel
theorem d_D_placeOf_2 : decode k_D_placeOf 2 = .ok (.iload_n 3, 1) := by decide +kernel
theorem d_D_placeOf_3 : decode k_D_placeOf 3 = .ok (.iload_n 2, 1) := by decide +kernel
theorem d_D_placeOf_4 : decode k_D_placeOf 4 = .ok (.iconst 1, 1) := by decide +kernel
theorem d_D_placeOf_5 : decode k_D_placeOf 5 = .ok (.isub, 1) := by decide +kernel
theorem d_D_placeOf_6 : decode k_D_placeOf 6 = .ok (.if_icmp .ge 19, 3) := by decide +kernel
theorem d_D_placeOf_9 : decode k_D_placeOf 9 = .ok (.aload_n 0, 1) := by decide +kernel
theorem d_D_placeOf_10 : decode k_D_placeOf 10 = .ok (.getfield 35, 3) := by decide +kernel
theorem d_D_placeOf_13 : decode k_D_placeOf 13 = .ok (.iload_n 3, 1) := by decide +kernel
theorem d_D_placeOf_14 : decode k_D_placeOf 14 = .ok (.iaload, 1) := by decide +kernel
theorem d_D_placeOf_15 : decode k_D_placeOf 15 = .ok (.iload_n 1, 1) := by decide +kernel
theorem d_D_placeOf_16 : decode k_D_placeOf 16 = .ok (.if_icmp .eq 9, 3) := by decide +kernel
theorem d_D_placeOf_19 : decode k_D_placeOf 19 = .ok (.iinc 3 1, 3) := by decide +kernel
theorem d_D_placeOf_22 : decode k_D_placeOf 22 = .ok (.goto (-20), 3) := by decide +kernel
theorem d_D_placeOf_25 : decode k_D_placeOf 25 = .ok (.iload_n 3, 1) := by decide +kernel
theorem d_D_placeOf_26 : decode k_D_placeOf 26 = .ok (.ireturn, 1) := by decide +kernel
abbrev rm_D_placeOf : Room := { frames := 0, cells := 0, slots := 0, locals := 0 }
theorem hd_D_placeOf : y_D_placeOf.cls = n_D ∧ y_D_placeOf.cls ≠ "java/lang/invoke/MethodHandle" ∧ y_D_placeOf.cls ≠ "java/lang/invoke/VarHandle" ∧ (parseMethodDescriptor y_D_placeOf.desc).map (fun d => d.parameters.length) = some 2 := by decide +kernel
set_option maxHeartbeats 4000000 in
set_option maxRecDepth 100000 in
theorem c_D_placeOf (l : Launch) (dC : Nat → ClassId) (dI : Nat → Nat → Nat) (hd : Nat) (hg : Nat) (dE : Int32) (dV : Int32) (fc : Nat) (fE : Int32) (fV : Int32) (cE : Int32) (cC : Int32) (pn : Nat) (d1 : Nat) (d2 : Nat) (d3 : Nat) (d4 : Nat) (d5 : Nat) (d6 : Nat) (d7 : Nat) (d8 : Nat) (cI : ClassId) (cQ : ClassId) (ow : Nat → Nat) (v0 : Nat) (len : Nat) (hl1 : 1 ≤ len) (hl2 : len ≤ 10) : Met l y_D_placeOf (.code y_D_placeOf k_D_placeOf 4 (.some FieldType.int) :: gw) rm_D_placeOf (roP [.ref hd, .int (nI v0), .int (nI len)] (dC, dI) [(hd, .inr (0, [.ref hg, .ref d1, .ref d2, .int dE, .int dV, .ref d3, .ref d4, .ref d5, .int (nI fc), .int fE, .int fV, .int cE, .int cC, .ref d6, .ref d7, .int (nI pn), .ref d8])), (d8, .inl (cI, 10, .inl (fun i9 => nI (ow i9))))] [(cI, .int)]) (vp_Si (fun r => r = nI (dr_pl ow v0 len))) 0 0 (fun _ => False) := by
  refine ro_met (by decide) ⟨rfl, rfl⟩ rfl (Nat.le_of_ble_eq_true rfl) ?_
  intro p e s m args below meth c Q ls Sx hP hK hl hret
  have hx := Sx.1
  have hb := Sx.2.1
  have hl : lv_has ls 4 [(0, .ref hd), (1, .int (nI v0)), (2, .int (nI len))] := hl
  refine lv_iconst (v := nI 0) hx hb d_D_placeOf_0 (by decide) ?_
  refine lv_istore_n hx hb d_D_placeOf_1 rfl hl (Nat.le_of_ble_eq_true rfl) rfl (fun ls hl => ?_)
  have hl : lv_has ls 4 [(3, .int (nI 0)), (0, .ref hd), (1, .int (nI v0)), (2, .int (nI len))] := hl
  have hL2 : ∀ (fu2 : Nat) (j : Nat) (ls : Array Slot), wl (dr_plD ow v0 len) pm_leS fu2 j = (dr_pl ow v0 len) → j ≤ 10 → lv_has ls 4 [(3, .int (nI j)), (0, .ref hd), (1, .int (nI v0)), (2, .int (nI len))] → W p l e rm_D_placeOf s m args below meth c s.heap [] 0 0 Q (F0 m 2 ls []) := by
    intro fu2
    induction fu2 with
    | zero =>
      intro j ls ht2 hj hl
      refine lv_iload_n hx hb d_D_placeOf_2 rfl (lv_at hl 0 rfl) ?_
      refine lv_iload_n hx hb d_D_placeOf_3 rfl (lv_at hl 3 rfl) ?_
      refine lv_iconst (v := nI 1) hx hb d_D_placeOf_4 (by decide) ?_
      refine lv_isub hx hb d_D_placeOf_5 ?_
      rw [show (((nI len) - (nI 1)) : Int32) = nI (len - 1) from pk_sub (by omega)]
      refine lv_icmp_ge hx hb d_D_placeOf_6 (tgt := 25) rfl (fun q1 => ?_) (fun q1 => ?_)
      · have q1 : (len - 1) ≤ j := nq_le (by omega) (by omega) q1
        have q1n := Nat.not_lt.mpr q1
        have hd9 : (dr_plD ow v0 len) j = true := by simp [dr_plD, pm_leS, q1, q1n]
        have e9 : j = (dr_pl ow v0 len) := by rw [← ht2]; exact (wl_dn hd9 _).symm
        have e_j : j = (dr_pl ow v0 len) := by rw [← e9]
        subst e_j
        have hl : lv_has ls 4 [(3, .int (nI (dr_pl ow v0 len))), (0, .ref hd), (1, .int (nI v0)), (2, .int (nI len))] := hl
        refine lv_iload_n hx hb d_D_placeOf_25 rfl (lv_at hl 0 rfl) ?_
        exact hret _ _ d_D_placeOf_26
      · have q1 : j < (len - 1) := nq_nle (by omega) (by omega) q1
        have q1n := Nat.not_le.mpr q1
        refine lv_aload_n hx hb d_D_placeOf_9 rfl (lv_at hl 1 rfl) ?_
        refine g_get Sx gf_D hK hP 0 rfl rfl 16 (by decide) gm_147 rfl d_D_placeOf_10 ?_
        refine lv_iload_n hx hb d_D_placeOf_13 rfl (lv_at hl 0 rfl) ?_
        refine g_ild (j := j) Sx hK hP 1 0 rfl rfl (by omega) (by decide) d_D_placeOf_14 ?_
        refine lv_iload_n hx hb d_D_placeOf_15 rfl (lv_at hl 2 rfl) ?_
        refine lv_icmp_eq hx hb d_D_placeOf_16 (tgt := 25) rfl (fun q2 => ?_) (fun q2 => ?_)
        · skip
          have hd9 : (dr_plD ow v0 len) j = true := by simp [dr_plD, pm_leS, q1, q1n, q2]
          have e9 : j = (dr_pl ow v0 len) := by rw [← ht2]; exact (wl_dn hd9 _).symm
          have e_j : j = (dr_pl ow v0 len) := by rw [← e9]
          subst e_j
          have hl : lv_has ls 4 [(3, .int (nI (dr_pl ow v0 len))), (0, .ref hd), (1, .int (nI v0)), (2, .int (nI len))] := hl
          refine lv_iload_n hx hb d_D_placeOf_25 rfl (lv_at hl 0 rfl) ?_
          exact hret _ _ d_D_placeOf_26
        · skip
          have hd9 : (dr_plD ow v0 len) j = false := by simp [dr_plD, pm_leS, q1, q1n, q2]
          have ht9 : j = (dr_pl ow v0 len) := ht2
          rw [ht9, (dr_pl_dn ow v0 len hl2)] at hd9
          cases hd9
    | succ fu2 ih2 =>
      intro j ls ht2 hj hl
      refine lv_iload_n hx hb d_D_placeOf_2 rfl (lv_at hl 0 rfl) ?_
      refine lv_iload_n hx hb d_D_placeOf_3 rfl (lv_at hl 3 rfl) ?_
      refine lv_iconst (v := nI 1) hx hb d_D_placeOf_4 (by decide) ?_
      refine lv_isub hx hb d_D_placeOf_5 ?_
      rw [show (((nI len) - (nI 1)) : Int32) = nI (len - 1) from pk_sub (by omega)]
      refine lv_icmp_ge hx hb d_D_placeOf_6 (tgt := 25) rfl (fun q3 => ?_) (fun q3 => ?_)
      · have q3 : (len - 1) ≤ j := nq_le (by omega) (by omega) q3
        have q3n := Nat.not_lt.mpr q3
        have hd9 : (dr_plD ow v0 len) j = true := by simp [dr_plD, pm_leS, q3, q3n]
        have e9 : j = (dr_pl ow v0 len) := by rw [← ht2]; exact (wl_dn hd9 _).symm
        have e_j : j = (dr_pl ow v0 len) := by rw [← e9]
        subst e_j
        have hl : lv_has ls 4 [(3, .int (nI (dr_pl ow v0 len))), (0, .ref hd), (1, .int (nI v0)), (2, .int (nI len))] := hl
        refine lv_iload_n hx hb d_D_placeOf_25 rfl (lv_at hl 0 rfl) ?_
        exact hret _ _ d_D_placeOf_26
      · have q3 : j < (len - 1) := nq_nle (by omega) (by omega) q3
        have q3n := Nat.not_le.mpr q3
        refine lv_aload_n hx hb d_D_placeOf_9 rfl (lv_at hl 1 rfl) ?_
        refine g_get Sx gf_D hK hP 0 rfl rfl 16 (by decide) gm_147 rfl d_D_placeOf_10 ?_
        refine lv_iload_n hx hb d_D_placeOf_13 rfl (lv_at hl 0 rfl) ?_
        refine g_ild (j := j) Sx hK hP 1 0 rfl rfl (by omega) (by decide) d_D_placeOf_14 ?_
        refine lv_iload_n hx hb d_D_placeOf_15 rfl (lv_at hl 2 rfl) ?_
        refine lv_icmp_eq hx hb d_D_placeOf_16 (tgt := 25) rfl (fun q4 => ?_) (fun q4 => ?_)
        · skip
          have hd9 : (dr_plD ow v0 len) j = true := by simp [dr_plD, pm_leS, q3, q3n, q4]
          have e9 : j = (dr_pl ow v0 len) := by rw [← ht2]; exact (wl_dn hd9 _).symm
          have e_j : j = (dr_pl ow v0 len) := by rw [← e9]
          subst e_j
          have hl : lv_has ls 4 [(3, .int (nI (dr_pl ow v0 len))), (0, .ref hd), (1, .int (nI v0)), (2, .int (nI len))] := hl
          refine lv_iload_n hx hb d_D_placeOf_25 rfl (lv_at hl 0 rfl) ?_
          exact hret _ _ d_D_placeOf_26
        · skip
          refine lv_iinc (k := 0) (v := nI (j + 1)) hx hb d_D_placeOf_19 hl rfl (inc_nI _) (Nat.le_of_ble_eq_true rfl) rfl (fun ls hl => ?_)
          have hl : lv_has ls 4 [(3, .int (nI (j + 1))), (0, .ref hd), (1, .int (nI v0)), (2, .int (nI len))] := hl
          refine lv_goto hx hb d_D_placeOf_22 (tgt := 2) rfl ?_
          have hd9 : (dr_plD ow v0 len) j = false := by simp [dr_plD, pm_leS, q3, q3n, q4]
          have hs9 : pm_leS j = (j + 1) := by simp [dr_plD, pm_leS, q3, q3n, q4]
          have ht9 : wl (dr_plD ow v0 len) pm_leS fu2 (j + 1) = (dr_pl ow v0 len) := by rw [← ht2, wl_st hd9, hs9]
          exact ih2 (j + 1)  ls ht9 (by omega)  (lv_sub hl [0, 1, 2, 3] rfl)
  exact hL2 10 0  ls rfl (by omega)  (lv_sub hl [0, 1, 2, 3] rfl)
theorem d_D_walkArc_0 : decode k_D_walkArc 0 = .ok (.iload_n 3, 1) := by decide +kernel
theorem d_D_walkArc_1 : decode k_D_walkArc 1 = .ok (.iload_n 2, 1) := by decide +kernel
theorem d_D_walkArc_2 : decode k_D_walkArc 2 = .ok (.if_icmp .ge 10, 3) := by decide +kernel
theorem d_D_walkArc_5 : decode k_D_walkArc 5 = .ok (.iload_n 3, 1) := by decide +kernel
theorem d_D_walkArc_6 : decode k_D_walkArc 6 = .ok (.iload 4, 2) := by decide +kernel
theorem d_D_walkArc_8 : decode k_D_walkArc 8 = .ok (.iadd, 1) := by decide +kernel
theorem d_D_walkArc_9 : decode k_D_walkArc 9 = .ok (.goto 4, 3) := by decide +kernel
theorem d_D_walkArc_12 : decode k_D_walkArc 12 = .ok (.iload_n 3, 1) := by decide +kernel
theorem d_D_walkArc_13 : decode k_D_walkArc 13 = .ok (.istore 5, 2) := by decide +kernel
theorem d_D_walkArc_15 : decode k_D_walkArc 15 = .ok (.iload_n 2, 1) := by decide +kernel
theorem d_D_walkArc_16 : decode k_D_walkArc 16 = .ok (.istore 6, 2) := by decide +kernel
theorem d_D_walkArc_18 : decode k_D_walkArc 18 = .ok (.iload 6, 2) := by decide +kernel
theorem d_D_walkArc_20 : decode k_D_walkArc 20 = .ok (.iload 5, 2) := by decide +kernel
theorem d_D_walkArc_22 : decode k_D_walkArc 22 = .ok (.if_icmp .gt 36, 3) := by decide +kernel
theorem d_D_walkArc_25 : decode k_D_walkArc 25 = .ok (.aload_n 0, 1) := by decide +kernel
theorem d_D_walkArc_26 : decode k_D_walkArc 26 = .ok (.iload_n 1, 1) := by decide +kernel
theorem d_D_walkArc_27 : decode k_D_walkArc 27 = .ok (.aload_n 0, 1) := by decide +kernel
theorem d_D_walkArc_28 : decode k_D_walkArc 28 = .ok (.getfield 35, 3) := by decide +kernel
theorem d_D_walkArc_31 : decode k_D_walkArc 31 = .ok (.iload 6, 2) := by decide +kernel
theorem d_D_walkArc_33 : decode k_D_walkArc 33 = .ok (.iload 4, 2) := by decide +kernel
theorem d_D_walkArc_35 : decode k_D_walkArc 35 = .ok (.if_icmp .ge 8, 3) := by decide +kernel
theorem d_D_walkArc_38 : decode k_D_walkArc 38 = .ok (.iload 6, 2) := by decide +kernel
theorem d_D_walkArc_40 : decode k_D_walkArc 40 = .ok (.goto 8, 3) := by decide +kernel
theorem d_D_walkArc_43 : decode k_D_walkArc 43 = .ok (.iload 6, 2) := by decide +kernel
theorem d_D_walkArc_45 : decode k_D_walkArc 45 = .ok (.iload 4, 2) := by decide +kernel
theorem d_D_walkArc_47 : decode k_D_walkArc 47 = .ok (.isub, 1) := by decide +kernel
theorem d_D_walkArc_48 : decode k_D_walkArc 48 = .ok (.iaload, 1) := by decide +kernel
theorem d_D_walkArc_49 : decode k_D_walkArc 49 = .ok (.invokevirtual 162, 3) := by decide +kernel
theorem d_D_walkArc_52 : decode k_D_walkArc 52 = .ok (.iinc 6 1, 3) := by decide +kernel
theorem d_D_walkArc_55 : decode k_D_walkArc 55 = .ok (.goto (-37), 3) := by decide +kernel
theorem d_D_walkArc_58 : decode k_D_walkArc 58 = .ok (.return_, 1) := by decide +kernel
abbrev rm_D_walkArc : Room := { frames := 1, cells := 0, slots := 0, locals := 22 }
theorem hd_D_walkArc : y_D_walkArc.cls = n_D ∧ y_D_walkArc.cls ≠ "java/lang/invoke/MethodHandle" ∧ y_D_walkArc.cls ≠ "java/lang/invoke/VarHandle" ∧ (parseMethodDescriptor y_D_walkArc.desc).map (fun d => d.parameters.length) = some 4 := by decide +kernel
set_option maxHeartbeats 4000000 in
set_option maxRecDepth 100000 in
theorem c_D_walkArc (l : Launch) (dC : Nat → ClassId) (dI : Nat → Nat → Nat) (hd : Nat) (hg : Nat) (dE : Int32) (dV : Int32) (fc : Nat) (fE : Int32) (fV : Int32) (cE : Int32) (cC : Int32) (pn : Nat) (d1 : Nat) (d2 : Nat) (d3 : Nat) (d4 : Nat) (d5 : Nat) (d6 : Nat) (d7 : Nat) (d8 : Nat) (cI : ClassId) (cQ : ClassId) (WL : Nat → Nat) (WS : Nat → Int32) (ow : Nat → Nat) (r : Nat → Nat) (M : Nat → Nat → Nat) (f0 : Nat) (a0 : Nat) (b0 : Nat) (len : Nat) (sz : Nat) (hf : f0 < 18) (hWL : ∀ j, WL j ≤ 10) (ha : a0 < len) (hb : b0 < len) (hle : len ≤ 10) : Met l y_D_walkArc (.code y_D_walkArc k_D_walkArc 7 none :: gw) rm_D_walkArc (rwP [.ref hd, .int (nI f0), .int (nI a0), .int (nI b0), .int (nI len)] (dC, dI) ([(hd, .inr (0, [.ref hg, .ref d1, .ref d2, .int dE, .int dV, .ref d3, .ref d4, .ref d5, .int (nI fc), .int fE, .int fV, .int cE, .int cC, .ref d6, .ref d7, .int (nI pn), .ref d8])), (d3, .inl (cQ, 18, .inr (.inr (.inr (.inr (fun i9 => if i9 < 18 then some (r i9) else none)))))), (d4, .inl (cI, 18, .inl (fun i9 => nI (WL i9)))), (d5, .inl (cI, 18, .inl WS)), (d8, .inl (cI, 10, .inl (fun i9 => nI (ow i9))))] ++ wkR r cI M) [(cI, .int), (cQ, .array .int)] sz) (va_Qv (fun _ : Unit => True) (rwB (dC, dI) ([(hd, .inr (0, [.ref hg, .ref d1, .ref d2, .int dE, .int dV, .ref d3, .ref d4, .ref d5, .int (nI fc), .int fE, .int fV, .int cE, .int cC, .ref d6, .ref d7, .int (nI pn), .ref d8])), (d3, .inl (cQ, 18, .inr (.inr (.inr (.inr (fun i9 => if i9 < 18 then some (r i9) else none)))))), (d4, .inl (cI, 18, .inl (fun i9 => nI (((dr_arc ow f0 a0 b0 len (M, WL, WS)).2.1) i9)))), (d5, .inl (cI, 18, .inl ((dr_arc ow f0 a0 b0 len (M, WL, WS)).2.2))), (d8, .inl (cI, 10, .inl (fun i9 => nI (ow i9))))] ++ wkR r cI ((dr_arc ow f0 a0 b0 len (M, WL, WS)).1)) [(cI, .int), (cQ, .array .int)] (va_A ([(hd, .inr (0, [.ref hg, .ref d1, .ref d2, .int dE, .int dV, .ref d3, .ref d4, .ref d5, .int (nI fc), .int fE, .int fV, .int cE, .int cC, .ref d6, .ref d7, .int (nI pn), .ref d8])), (d3, .inl (cQ, 18, .inr (.inr (.inr (.inr (fun i9 => if i9 < 18 then some (r i9) else none)))))), (d4, .inl (cI, 18, .inl (fun i9 => nI (WL i9)))), (d5, .inl (cI, 18, .inl WS)), (d8, .inl (cI, 10, .inl (fun i9 => nI (ow i9))))] ++ wkR r cI M) sz)) (va_A ([(hd, .inr (0, [.ref hg, .ref d1, .ref d2, .int dE, .int dV, .ref d3, .ref d4, .ref d5, .int (nI fc), .int fE, .int fV, .int cE, .int cC, .ref d6, .ref d7, .int (nI pn), .ref d8])), (d3, .inl (cQ, 18, .inr (.inr (.inr (.inr (fun i9 => if i9 < 18 then some (r i9) else none)))))), (d4, .inl (cI, 18, .inl (fun i9 => nI (WL i9)))), (d5, .inl (cI, 18, .inl WS)), (d8, .inl (cI, 10, .inl (fun i9 => nI (ow i9))))] ++ wkR r cI M) sz)) 0 0 (va_A ([(hd, .inr (0, [.ref hg, .ref d1, .ref d2, .int dE, .int dV, .ref d3, .ref d4, .ref d5, .int (nI fc), .int fE, .int fV, .int cE, .int cC, .ref d6, .ref d7, .int (nI pn), .ref d8])), (d3, .inl (cQ, 18, .inr (.inr (.inr (.inr (fun i9 => if i9 < 18 then some (r i9) else none)))))), (d4, .inl (cI, 18, .inl (fun i9 => nI (WL i9)))), (d5, .inl (cI, 18, .inl WS)), (d8, .inl (cI, 10, .inl (fun i9 => nI (ow i9))))] ++ wkR r cI M) sz) := by
  refine rw_met (by decide) ⟨rfl, rfl⟩ (Nat.le_of_ble_eq_true rfl) ?_
  intro p e s m args below meth c Q A ls Sx hP hK hD hA hl hret
  have hx := Sx.1
  have hb := Sx.2.1
  have hl : lv_has ls 7 [(0, .ref hd), (1, .int (nI f0)), (2, .int (nI a0)), (3, .int (nI b0)), (4, .int (nI len))] := hl
  have hS : va_S A s.heap s.heap [] := va_S.rf
  obtain ⟨H, hH⟩ : ∃ H, H = s.heap := ⟨_, rfl⟩
  obtain ⟨locs, hlo⟩ : ∃ locs : List Loc, locs = [] := ⟨_, rfl⟩
  rw [← hlo]
  rw [← hlo] at hS
  have hP : va_P (dC, dI) pcl ([(hd, .inr (0, [.ref hg, .ref d1, .ref d2, .int dE, .int dV, .ref d3, .ref d4, .ref d5, .int (nI fc), .int fE, .int fV, .int cE, .int cC, .ref d6, .ref d7, .int (nI pn), .ref d8])), (d3, .inl (cQ, 18, .inr (.inr (.inr (.inr (fun i9 => if i9 < 18 then some (r i9) else none)))))), (d4, .inl (cI, 18, .inl (fun i9 => nI (WL i9)))), (d5, .inl (cI, 18, .inl WS)), (d8, .inl (cI, 10, .inl (fun i9 => nI (ow i9))))] ++ wkR r cI M) H := by rw [hH]; exact hP
  have hS : va_S A s.heap H locs := by rw [hH]; exact hS
  suffices hgo : W p l e rm_D_walkArc s m args below meth c H locs 0 0 Q (F0 m 0 ls []) by rw [hH] at hgo; exact hgo
  refine lv_iload_n hx hb d_D_walkArc_0 rfl (lv_at hl 3 rfl) ?_
  refine lv_iload_n hx hb d_D_walkArc_1 rfl (lv_at hl 2 rfl) ?_
  refine lv_icmp_ge hx hb d_D_walkArc_2 (tgt := 12) rfl (fun q1 => ?_) (fun q1 => ?_)
  · have q1 : a0 ≤ b0 := nq_le (by omega) (by omega) q1
    have q1n := Nat.not_lt.mpr q1
    refine lv_iload_n hx hb d_D_walkArc_12 rfl (lv_at hl 3 rfl) ?_
    refine lv_istore hx hb d_D_walkArc_13 hl (Nat.le_of_ble_eq_true rfl) rfl (fun ls hl => ?_)
    obtain ⟨la, hla, hl⟩ : ∃ la, la = b0 ∧ lv_has ls 7 [(5, .int (nI la)), (0, .ref hd), (1, .int (nI f0)), (2, .int (nI a0)), (3, .int (nI b0)), (4, .int (nI len))] := ⟨_, rfl, hl⟩
    have hl : lv_has ls 7 [(5, .int (nI la)), (0, .ref hd), (1, .int (nI f0)), (2, .int (nI a0)), (3, .int (nI b0)), (4, .int (nI len))] := hl
    refine lv_iload_n hx hb d_D_walkArc_15 rfl (lv_at hl 3 rfl) ?_
    refine lv_istore hx hb d_D_walkArc_16 hl (Nat.le_of_ble_eq_true rfl) rfl (fun ls hl => ?_)
    have hl : lv_has ls 7 [(6, .int (nI a0)), (5, .int (nI la)), (0, .ref hd), (1, .int (nI f0)), (2, .int (nI a0)), (3, .int (nI b0)), (4, .int (nI len))] := hl
    have hL18 : ∀ (kk i : Nat), i + kk = (la + 1 - a0) → ∀ (M1 : Nat → Nat → Nat) (WL1 : Nat → Nat) (WS1 : Nat → Int32) (H : Heap) (locs : List Loc) (ls : Array Slot), (M1, WL1, WS1) = fo (dr_arc1 ow f0 a0 len) i (M, WL, WS) → va_P (dC, dI) pcl ([(hd, .inr (0, [.ref hg, .ref d1, .ref d2, .int dE, .int dV, .ref d3, .ref d4, .ref d5, .int (nI fc), .int fE, .int fV, .int cE, .int cC, .ref d6, .ref d7, .int (nI pn), .ref d8])), (d3, .inl (cQ, 18, .inr (.inr (.inr (.inr (fun i9 => if i9 < 18 then some (r i9) else none)))))), (d4, .inl (cI, 18, .inl (fun i9 => nI (WL1 i9)))), (d5, .inl (cI, 18, .inl WS1)), (d8, .inl (cI, 10, .inl (fun i9 => nI (ow i9))))] ++ wkR r cI M1) H → va_D A ([(hd, .inr (0, [.ref hg, .ref d1, .ref d2, .int dE, .int dV, .ref d3, .ref d4, .ref d5, .int (nI fc), .int fE, .int fV, .int cE, .int cC, .ref d6, .ref d7, .int (nI pn), .ref d8])), (d3, .inl (cQ, 18, .inr (.inr (.inr (.inr (fun i9 => if i9 < 18 then some (r i9) else none)))))), (d4, .inl (cI, 18, .inl (fun i9 => nI (WL1 i9)))), (d5, .inl (cI, 18, .inl WS1)), (d8, .inl (cI, 10, .inl (fun i9 => nI (ow i9))))] ++ wkR r cI M1) → va_S A s.heap H locs → lv_has ls 7 [(6, .int (nI (a0 + i))), (5, .int (nI la)), (0, .ref hd), (1, .int (nI f0)), (2, .int (nI a0)), (3, .int (nI b0)), (4, .int (nI len))] → W p l e rm_D_walkArc s m args below meth c H locs 0 0 Q (F0 m 18 ls []) := by
      intro kk
      induction kk with
      | zero =>
        intro i hi18 M1 WL1 WS1 H locs ls he18 hP hD hS hl
        have hj18 : i = la + 1 - a0 := by omega
        rw [hj18] at hl he18
        have e_M1 : M1 = (fo (dr_arc1 ow f0 a0 len) (la + 1 - a0) (M, WL, WS)).1 := by rw [← he18]
        subst e_M1
        have e_WL1 : WL1 = (fo (dr_arc1 ow f0 a0 len) (la + 1 - a0) (M, WL, WS)).2.1 := by rw [← he18]
        subst e_WL1
        have e_WS1 : WS1 = (fo (dr_arc1 ow f0 a0 len) (la + 1 - a0) (M, WL, WS)).2.2 := by rw [← he18]
        subst e_WS1
        have hl : lv_has ls 7 [(6, .int (nI (a0 + (la + 1 - a0)))), (5, .int (nI la)), (0, .ref hd), (1, .int (nI f0)), (2, .int (nI a0)), (3, .int (nI b0)), (4, .int (nI len))] := hl
        have hP : va_P (dC, dI) pcl ([(hd, .inr (0, [.ref hg, .ref d1, .ref d2, .int dE, .int dV, .ref d3, .ref d4, .ref d5, .int (nI fc), .int fE, .int fV, .int cE, .int cC, .ref d6, .ref d7, .int (nI pn), .ref d8])), (d3, .inl (cQ, 18, .inr (.inr (.inr (.inr (fun i9 => if i9 < 18 then some (r i9) else none)))))), (d4, .inl (cI, 18, .inl (fun i9 => nI (((fo (dr_arc1 ow f0 a0 len) (la + 1 - a0) (M, WL, WS)).2.1) i9)))), (d5, .inl (cI, 18, .inl ((fo (dr_arc1 ow f0 a0 len) (la + 1 - a0) (M, WL, WS)).2.2))), (d8, .inl (cI, 10, .inl (fun i9 => nI (ow i9))))] ++ wkR r cI ((fo (dr_arc1 ow f0 a0 len) (la + 1 - a0) (M, WL, WS)).1)) H := hP
        have hD : va_D A ([(hd, .inr (0, [.ref hg, .ref d1, .ref d2, .int dE, .int dV, .ref d3, .ref d4, .ref d5, .int (nI fc), .int fE, .int fV, .int cE, .int cC, .ref d6, .ref d7, .int (nI pn), .ref d8])), (d3, .inl (cQ, 18, .inr (.inr (.inr (.inr (fun i9 => if i9 < 18 then some (r i9) else none)))))), (d4, .inl (cI, 18, .inl (fun i9 => nI (((fo (dr_arc1 ow f0 a0 len) (la + 1 - a0) (M, WL, WS)).2.1) i9)))), (d5, .inl (cI, 18, .inl ((fo (dr_arc1 ow f0 a0 len) (la + 1 - a0) (M, WL, WS)).2.2))), (d8, .inl (cI, 10, .inl (fun i9 => nI (ow i9))))] ++ wkR r cI ((fo (dr_arc1 ow f0 a0 len) (la + 1 - a0) (M, WL, WS)).1)) := hD
        refine lv_iload hx hb d_D_walkArc_18 (lv_at hl 0 rfl) ?_
        refine lv_iload hx hb d_D_walkArc_20 (lv_at hl 1 rfl) ?_
        refine lv_icmp_gt hx hb d_D_walkArc_22 (tgt := 58) rfl (fun q2 => ?_) (fun q2 => ?_)
        · have q2 : la < (a0 + (la + 1 - a0)) := nq_lt (by omega) (by omega) q2
          have hl9 : dr_last a0 b0 len = la := by simp [dr_last, hla, q1, q1n]
          unfold dr_arc at hret
          rw [hl9] at hret
          exact hret _ H locs _ d_D_walkArc_58 hP hD hS
        · have q2 : (a0 + (la + 1 - a0)) ≤ la := nq_nlt (by omega) (by omega) q2
          exact absurd q2 (by omega)
      | succ kk ih18 =>
        intro i hi18 M1 WL1 WS1 H locs ls he18 hP hD hS hl
        refine lv_iload hx hb d_D_walkArc_18 (lv_at hl 0 rfl) ?_
        refine lv_iload hx hb d_D_walkArc_20 (lv_at hl 1 rfl) ?_
        refine lv_icmp_gt hx hb d_D_walkArc_22 (tgt := 58) rfl (fun q3 => ?_) (fun q3 => ?_)
        · have q3 : la < (a0 + i) := nq_lt (by omega) (by omega) q3
          exact absurd q3 (by omega)
        · have q3 : (a0 + i) ≤ la := nq_nlt (by omega) (by omega) q3
          refine lv_aload_n hx hb d_D_walkArc_25 rfl (lv_at hl 2 rfl) ?_
          refine lv_iload_n hx hb d_D_walkArc_26 rfl (lv_at hl 3 rfl) ?_
          refine lv_aload_n hx hb d_D_walkArc_27 rfl (lv_at hl 2 rfl) ?_
          refine g_get Sx gf_D hK hP 0 rfl rfl 16 (by decide) gm_147 rfl d_D_walkArc_28 ?_
          refine lv_iload hx hb d_D_walkArc_31 (lv_at hl 0 rfl) ?_
          refine lv_iload hx hb d_D_walkArc_33 (lv_at hl 6 rfl) ?_
          refine lv_icmp_ge hx hb d_D_walkArc_35 (tgt := 43) rfl (fun q4 => ?_) (fun q4 => ?_)
          · have q4 : len ≤ (a0 + i) := nq_le (by omega) (by omega) q4
            have q4n := Nat.not_lt.mpr q4
            refine lv_iload hx hb d_D_walkArc_43 (lv_at hl 0 rfl) ?_
            refine lv_iload hx hb d_D_walkArc_45 (lv_at hl 6 rfl) ?_
            refine lv_isub hx hb d_D_walkArc_47 ?_
            rw [show (((nI (a0 + i)) - (nI len)) : Int32) = nI ((a0 + i) - len) from pk_sub (by omega)]
            refine g_ild (j := ((a0 + i) - len)) Sx hK hP 4 0 rfl rfl (by omega) (by decide) d_D_walkArc_48 ?_
            refine rw_VP (As := [.int (nI f0), .int (nI (ow ((a0 + i) - len)))]) (rest := []) (wr := [(d8, .inl (cI, 10, .inl (fun i9 => nI (ow i9))))]) Sx (c_D_walkTo l dC dI hd hg dE dV fc fE fV cE cC pn d1 d2 d3 d4 d5 d6 d7 d8 cI cQ WL1 WS1 r M1 f0 (ow ((a0 + i) - len)) H.size (by omega) (by have h9 := dr_arc1_rng (ow := ow) (f := f0) (a := a0) (len := len) (s := (M, WL, WS)) hWL i; rw [← he18] at h9; exact h9)) (gw_callV gm_353 gm_354 gm_19 gm_54 gm_355) hd_D_walkTo ⟨rfl, rfl⟩ ⟨Nat.le_of_ble_eq_true rfl, Nat.le_of_ble_eq_true rfl⟩ hP hD hS hA (hK.sub (tys' := [(cI, .int), (cQ, .array .int)]) [0, 1] rfl) [0, 1, 2, 3] [4] rfl rfl (by decide) (by decide) (by decide) rfl 0 rfl rfl hl.1 rfl (Nat.le_of_ble_eq_true rfl) d_D_walkArc_49 ⟨Nat.zero_le _, Nat.zero_le _⟩ (fun H locs hP hD hS => ?_)
            have hP : va_P (dC, dI) pcl ([(d8, .inl (cI, 10, .inl (fun i9 => nI (ow i9)))), (hd, .inr (0, [.ref hg, .ref d1, .ref d2, .int dE, .int dV, .ref d3, .ref d4, .ref d5, .int (nI fc), .int fE, .int fV, .int cE, .int cC, .ref d6, .ref d7, .int (nI pn), .ref d8])), (d3, .inl (cQ, 18, .inr (.inr (.inr (.inr (fun i9 => if i9 < 18 then some (r i9) else none)))))), (d4, .inl (cI, 18, .inl (fun i9 => nI (((dr_to f0 (ow ((a0 + i) - len)) (M1, WL1, WS1)).2.1) i9)))), (d5, .inl (cI, 18, .inl ((dr_to f0 (ow ((a0 + i) - len)) (M1, WL1, WS1)).2.2)))] ++ wkR r cI ((dr_to f0 (ow ((a0 + i) - len)) (M1, WL1, WS1)).1)) H := hP
            have hD : va_D A ([(d8, .inl (cI, 10, .inl (fun i9 => nI (ow i9)))), (hd, .inr (0, [.ref hg, .ref d1, .ref d2, .int dE, .int dV, .ref d3, .ref d4, .ref d5, .int (nI fc), .int fE, .int fV, .int cE, .int cC, .ref d6, .ref d7, .int (nI pn), .ref d8])), (d3, .inl (cQ, 18, .inr (.inr (.inr (.inr (fun i9 => if i9 < 18 then some (r i9) else none)))))), (d4, .inl (cI, 18, .inl (fun i9 => nI (((dr_to f0 (ow ((a0 + i) - len)) (M1, WL1, WS1)).2.1) i9)))), (d5, .inl (cI, 18, .inl ((dr_to f0 (ow ((a0 + i) - len)) (M1, WL1, WS1)).2.2)))] ++ wkR r cI ((dr_to f0 (ow ((a0 + i) - len)) (M1, WL1, WS1)).1)) := hD
            refine lv_iinc (k := 0) (v := nI (a0 + i + 1)) hx hb d_D_walkArc_52 hl rfl (inc_nI _) (Nat.le_of_ble_eq_true rfl) rfl (fun ls hl => ?_)
            have hl : lv_has ls 7 [(6, .int (nI (a0 + i + 1))), (5, .int (nI la)), (0, .ref hd), (1, .int (nI f0)), (2, .int (nI a0)), (3, .int (nI b0)), (4, .int (nI len))] := hl
            refine lv_goto hx hb d_D_walkArc_55 (tgt := 18) rfl ?_
            have he2 : ((dr_to f0 (ow ((a0 + i) - len)) (M1, WL1, WS1)).1, (dr_to f0 (ow ((a0 + i) - len)) (M1, WL1, WS1)).2.1, (dr_to f0 (ow ((a0 + i) - len)) (M1, WL1, WS1)).2.2) = fo (dr_arc1 ow f0 a0 len) (i + 1) (M, WL, WS) := by
              rw [fo_s, ← he18]
              simp [dr_arc1, dr_wrap, q1, q1n, q3, q4, q4n]
            exact ih18 (i + 1) (by omega) ((dr_to f0 (ow ((a0 + i) - len)) (M1, WL1, WS1)).1) ((dr_to f0 (ow ((a0 + i) - len)) (M1, WL1, WS1)).2.1) ((dr_to f0 (ow ((a0 + i) - len)) (M1, WL1, WS1)).2.2) H locs ls he2 (va_P.part hP [1, 2, 3, 4, 0] rfl) (va_D.part hD [1, 2, 3, 4, 0] (by decide) rfl) hS (lv_sub hl [0, 1, 2, 3, 4, 5, 6] rfl)
          · have q4 : (a0 + i) < len := nq_nle (by omega) (by omega) q4
            have q4n := Nat.not_le.mpr q4
            refine lv_iload hx hb d_D_walkArc_38 (lv_at hl 0 rfl) ?_
            refine lv_goto hx hb d_D_walkArc_40 (tgt := 48) rfl ?_
            refine g_ild (j := (a0 + i)) Sx hK hP 4 0 rfl rfl (by omega) (by decide) d_D_walkArc_48 ?_
            refine rw_VP (As := [.int (nI f0), .int (nI (ow (a0 + i)))]) (rest := []) (wr := [(d8, .inl (cI, 10, .inl (fun i9 => nI (ow i9))))]) Sx (c_D_walkTo l dC dI hd hg dE dV fc fE fV cE cC pn d1 d2 d3 d4 d5 d6 d7 d8 cI cQ WL1 WS1 r M1 f0 (ow (a0 + i)) H.size (by omega) (by have h9 := dr_arc1_rng (ow := ow) (f := f0) (a := a0) (len := len) (s := (M, WL, WS)) hWL i; rw [← he18] at h9; exact h9)) (gw_callV gm_353 gm_354 gm_19 gm_54 gm_355) hd_D_walkTo ⟨rfl, rfl⟩ ⟨Nat.le_of_ble_eq_true rfl, Nat.le_of_ble_eq_true rfl⟩ hP hD hS hA (hK.sub (tys' := [(cI, .int), (cQ, .array .int)]) [0, 1] rfl) [0, 1, 2, 3] [4] rfl rfl (by decide) (by decide) (by decide) rfl 0 rfl rfl hl.1 rfl (Nat.le_of_ble_eq_true rfl) d_D_walkArc_49 ⟨Nat.zero_le _, Nat.zero_le _⟩ (fun H locs hP hD hS => ?_)
            have hP : va_P (dC, dI) pcl ([(d8, .inl (cI, 10, .inl (fun i9 => nI (ow i9)))), (hd, .inr (0, [.ref hg, .ref d1, .ref d2, .int dE, .int dV, .ref d3, .ref d4, .ref d5, .int (nI fc), .int fE, .int fV, .int cE, .int cC, .ref d6, .ref d7, .int (nI pn), .ref d8])), (d3, .inl (cQ, 18, .inr (.inr (.inr (.inr (fun i9 => if i9 < 18 then some (r i9) else none)))))), (d4, .inl (cI, 18, .inl (fun i9 => nI (((dr_to f0 (ow (a0 + i)) (M1, WL1, WS1)).2.1) i9)))), (d5, .inl (cI, 18, .inl ((dr_to f0 (ow (a0 + i)) (M1, WL1, WS1)).2.2)))] ++ wkR r cI ((dr_to f0 (ow (a0 + i)) (M1, WL1, WS1)).1)) H := hP
            have hD : va_D A ([(d8, .inl (cI, 10, .inl (fun i9 => nI (ow i9)))), (hd, .inr (0, [.ref hg, .ref d1, .ref d2, .int dE, .int dV, .ref d3, .ref d4, .ref d5, .int (nI fc), .int fE, .int fV, .int cE, .int cC, .ref d6, .ref d7, .int (nI pn), .ref d8])), (d3, .inl (cQ, 18, .inr (.inr (.inr (.inr (fun i9 => if i9 < 18 then some (r i9) else none)))))), (d4, .inl (cI, 18, .inl (fun i9 => nI (((dr_to f0 (ow (a0 + i)) (M1, WL1, WS1)).2.1) i9)))), (d5, .inl (cI, 18, .inl ((dr_to f0 (ow (a0 + i)) (M1, WL1, WS1)).2.2)))] ++ wkR r cI ((dr_to f0 (ow (a0 + i)) (M1, WL1, WS1)).1)) := hD
            refine lv_iinc (k := 0) (v := nI (a0 + i + 1)) hx hb d_D_walkArc_52 hl rfl (inc_nI _) (Nat.le_of_ble_eq_true rfl) rfl (fun ls hl => ?_)
            have hl : lv_has ls 7 [(6, .int (nI (a0 + i + 1))), (5, .int (nI la)), (0, .ref hd), (1, .int (nI f0)), (2, .int (nI a0)), (3, .int (nI b0)), (4, .int (nI len))] := hl
            refine lv_goto hx hb d_D_walkArc_55 (tgt := 18) rfl ?_
            have he2 : ((dr_to f0 (ow (a0 + i)) (M1, WL1, WS1)).1, (dr_to f0 (ow (a0 + i)) (M1, WL1, WS1)).2.1, (dr_to f0 (ow (a0 + i)) (M1, WL1, WS1)).2.2) = fo (dr_arc1 ow f0 a0 len) (i + 1) (M, WL, WS) := by
              rw [fo_s, ← he18]
              simp [dr_arc1, dr_wrap, q1, q1n, q3, q4, q4n]
            exact ih18 (i + 1) (by omega) ((dr_to f0 (ow (a0 + i)) (M1, WL1, WS1)).1) ((dr_to f0 (ow (a0 + i)) (M1, WL1, WS1)).2.1) ((dr_to f0 (ow (a0 + i)) (M1, WL1, WS1)).2.2) H locs ls he2 (va_P.part hP [1, 2, 3, 4, 0] rfl) (va_D.part hD [1, 2, 3, 4, 0] (by decide) rfl) hS (lv_sub hl [0, 1, 2, 3, 4, 5, 6] rfl)
    exact hL18 (la + 1 - a0) 0 (by omega) M WL WS H locs ls rfl hP hD hS (lv_sub hl [0, 1, 2, 3, 4, 5, 6] rfl)
  · have q1 : b0 < a0 := nq_nle (by omega) (by omega) q1
    have q1n := Nat.not_le.mpr q1
    refine lv_iload_n hx hb d_D_walkArc_5 rfl (lv_at hl 3 rfl) ?_
    refine lv_iload hx hb d_D_walkArc_6 (lv_at hl 4 rfl) ?_
    refine lv_iadd hx hb d_D_walkArc_8 ?_
    rw [show (((nI b0) + (nI len)) : Int32) = nI (b0 + len) from nI_add _ _]
    refine lv_goto hx hb d_D_walkArc_9 (tgt := 13) rfl ?_
    refine lv_istore hx hb d_D_walkArc_13 hl (Nat.le_of_ble_eq_true rfl) rfl (fun ls hl => ?_)
    obtain ⟨la, hla, hl⟩ : ∃ la, la = b0 + len ∧ lv_has ls 7 [(5, .int (nI la)), (0, .ref hd), (1, .int (nI f0)), (2, .int (nI a0)), (3, .int (nI b0)), (4, .int (nI len))] := ⟨_, rfl, hl⟩
    have hl : lv_has ls 7 [(5, .int (nI la)), (0, .ref hd), (1, .int (nI f0)), (2, .int (nI a0)), (3, .int (nI b0)), (4, .int (nI len))] := hl
    refine lv_iload_n hx hb d_D_walkArc_15 rfl (lv_at hl 3 rfl) ?_
    refine lv_istore hx hb d_D_walkArc_16 hl (Nat.le_of_ble_eq_true rfl) rfl (fun ls hl => ?_)
    have hl : lv_has ls 7 [(6, .int (nI a0)), (5, .int (nI la)), (0, .ref hd), (1, .int (nI f0)), (2, .int (nI a0)), (3, .int (nI b0)), (4, .int (nI len))] := hl
    have hL18 : ∀ (kk i : Nat), i + kk = (la + 1 - a0) → ∀ (M1 : Nat → Nat → Nat) (WL1 : Nat → Nat) (WS1 : Nat → Int32) (H : Heap) (locs : List Loc) (ls : Array Slot), (M1, WL1, WS1) = fo (dr_arc1 ow f0 a0 len) i (M, WL, WS) → va_P (dC, dI) pcl ([(hd, .inr (0, [.ref hg, .ref d1, .ref d2, .int dE, .int dV, .ref d3, .ref d4, .ref d5, .int (nI fc), .int fE, .int fV, .int cE, .int cC, .ref d6, .ref d7, .int (nI pn), .ref d8])), (d3, .inl (cQ, 18, .inr (.inr (.inr (.inr (fun i9 => if i9 < 18 then some (r i9) else none)))))), (d4, .inl (cI, 18, .inl (fun i9 => nI (WL1 i9)))), (d5, .inl (cI, 18, .inl WS1)), (d8, .inl (cI, 10, .inl (fun i9 => nI (ow i9))))] ++ wkR r cI M1) H → va_D A ([(hd, .inr (0, [.ref hg, .ref d1, .ref d2, .int dE, .int dV, .ref d3, .ref d4, .ref d5, .int (nI fc), .int fE, .int fV, .int cE, .int cC, .ref d6, .ref d7, .int (nI pn), .ref d8])), (d3, .inl (cQ, 18, .inr (.inr (.inr (.inr (fun i9 => if i9 < 18 then some (r i9) else none)))))), (d4, .inl (cI, 18, .inl (fun i9 => nI (WL1 i9)))), (d5, .inl (cI, 18, .inl WS1)), (d8, .inl (cI, 10, .inl (fun i9 => nI (ow i9))))] ++ wkR r cI M1) → va_S A s.heap H locs → lv_has ls 7 [(6, .int (nI (a0 + i))), (5, .int (nI la)), (0, .ref hd), (1, .int (nI f0)), (2, .int (nI a0)), (3, .int (nI b0)), (4, .int (nI len))] → W p l e rm_D_walkArc s m args below meth c H locs 0 0 Q (F0 m 18 ls []) := by
      intro kk
      induction kk with
      | zero =>
        intro i hi18 M1 WL1 WS1 H locs ls he18 hP hD hS hl
        have hj18 : i = la + 1 - a0 := by omega
        rw [hj18] at hl he18
        have e_M1 : M1 = (fo (dr_arc1 ow f0 a0 len) (la + 1 - a0) (M, WL, WS)).1 := by rw [← he18]
        subst e_M1
        have e_WL1 : WL1 = (fo (dr_arc1 ow f0 a0 len) (la + 1 - a0) (M, WL, WS)).2.1 := by rw [← he18]
        subst e_WL1
        have e_WS1 : WS1 = (fo (dr_arc1 ow f0 a0 len) (la + 1 - a0) (M, WL, WS)).2.2 := by rw [← he18]
        subst e_WS1
        have hl : lv_has ls 7 [(6, .int (nI (a0 + (la + 1 - a0)))), (5, .int (nI la)), (0, .ref hd), (1, .int (nI f0)), (2, .int (nI a0)), (3, .int (nI b0)), (4, .int (nI len))] := hl
        have hP : va_P (dC, dI) pcl ([(hd, .inr (0, [.ref hg, .ref d1, .ref d2, .int dE, .int dV, .ref d3, .ref d4, .ref d5, .int (nI fc), .int fE, .int fV, .int cE, .int cC, .ref d6, .ref d7, .int (nI pn), .ref d8])), (d3, .inl (cQ, 18, .inr (.inr (.inr (.inr (fun i9 => if i9 < 18 then some (r i9) else none)))))), (d4, .inl (cI, 18, .inl (fun i9 => nI (((fo (dr_arc1 ow f0 a0 len) (la + 1 - a0) (M, WL, WS)).2.1) i9)))), (d5, .inl (cI, 18, .inl ((fo (dr_arc1 ow f0 a0 len) (la + 1 - a0) (M, WL, WS)).2.2))), (d8, .inl (cI, 10, .inl (fun i9 => nI (ow i9))))] ++ wkR r cI ((fo (dr_arc1 ow f0 a0 len) (la + 1 - a0) (M, WL, WS)).1)) H := hP
        have hD : va_D A ([(hd, .inr (0, [.ref hg, .ref d1, .ref d2, .int dE, .int dV, .ref d3, .ref d4, .ref d5, .int (nI fc), .int fE, .int fV, .int cE, .int cC, .ref d6, .ref d7, .int (nI pn), .ref d8])), (d3, .inl (cQ, 18, .inr (.inr (.inr (.inr (fun i9 => if i9 < 18 then some (r i9) else none)))))), (d4, .inl (cI, 18, .inl (fun i9 => nI (((fo (dr_arc1 ow f0 a0 len) (la + 1 - a0) (M, WL, WS)).2.1) i9)))), (d5, .inl (cI, 18, .inl ((fo (dr_arc1 ow f0 a0 len) (la + 1 - a0) (M, WL, WS)).2.2))), (d8, .inl (cI, 10, .inl (fun i9 => nI (ow i9))))] ++ wkR r cI ((fo (dr_arc1 ow f0 a0 len) (la + 1 - a0) (M, WL, WS)).1)) := hD
        refine lv_iload hx hb d_D_walkArc_18 (lv_at hl 0 rfl) ?_
        refine lv_iload hx hb d_D_walkArc_20 (lv_at hl 1 rfl) ?_
        refine lv_icmp_gt hx hb d_D_walkArc_22 (tgt := 58) rfl (fun q5 => ?_) (fun q5 => ?_)
        · have q5 : la < (a0 + (la + 1 - a0)) := nq_lt (by omega) (by omega) q5
          have hl9 : dr_last a0 b0 len = la := by simp [dr_last, hla, q1, q1n]
          unfold dr_arc at hret
          rw [hl9] at hret
          exact hret _ H locs _ d_D_walkArc_58 hP hD hS
        · have q5 : (a0 + (la + 1 - a0)) ≤ la := nq_nlt (by omega) (by omega) q5
          exact absurd q5 (by omega)
      | succ kk ih18 =>
        intro i hi18 M1 WL1 WS1 H locs ls he18 hP hD hS hl
        refine lv_iload hx hb d_D_walkArc_18 (lv_at hl 0 rfl) ?_
        refine lv_iload hx hb d_D_walkArc_20 (lv_at hl 1 rfl) ?_
        refine lv_icmp_gt hx hb d_D_walkArc_22 (tgt := 58) rfl (fun q6 => ?_) (fun q6 => ?_)
        · have q6 : la < (a0 + i) := nq_lt (by omega) (by omega) q6
          exact absurd q6 (by omega)
        · have q6 : (a0 + i) ≤ la := nq_nlt (by omega) (by omega) q6
          refine lv_aload_n hx hb d_D_walkArc_25 rfl (lv_at hl 2 rfl) ?_
          refine lv_iload_n hx hb d_D_walkArc_26 rfl (lv_at hl 3 rfl) ?_
          refine lv_aload_n hx hb d_D_walkArc_27 rfl (lv_at hl 2 rfl) ?_
          refine g_get Sx gf_D hK hP 0 rfl rfl 16 (by decide) gm_147 rfl d_D_walkArc_28 ?_
          refine lv_iload hx hb d_D_walkArc_31 (lv_at hl 0 rfl) ?_
          refine lv_iload hx hb d_D_walkArc_33 (lv_at hl 6 rfl) ?_
          refine lv_icmp_ge hx hb d_D_walkArc_35 (tgt := 43) rfl (fun q7 => ?_) (fun q7 => ?_)
          · have q7 : len ≤ (a0 + i) := nq_le (by omega) (by omega) q7
            have q7n := Nat.not_lt.mpr q7
            refine lv_iload hx hb d_D_walkArc_43 (lv_at hl 0 rfl) ?_
            refine lv_iload hx hb d_D_walkArc_45 (lv_at hl 6 rfl) ?_
            refine lv_isub hx hb d_D_walkArc_47 ?_
            rw [show (((nI (a0 + i)) - (nI len)) : Int32) = nI ((a0 + i) - len) from pk_sub (by omega)]
            refine g_ild (j := ((a0 + i) - len)) Sx hK hP 4 0 rfl rfl (by omega) (by decide) d_D_walkArc_48 ?_
            refine rw_VP (As := [.int (nI f0), .int (nI (ow ((a0 + i) - len)))]) (rest := []) (wr := [(d8, .inl (cI, 10, .inl (fun i9 => nI (ow i9))))]) Sx (c_D_walkTo l dC dI hd hg dE dV fc fE fV cE cC pn d1 d2 d3 d4 d5 d6 d7 d8 cI cQ WL1 WS1 r M1 f0 (ow ((a0 + i) - len)) H.size (by omega) (by have h9 := dr_arc1_rng (ow := ow) (f := f0) (a := a0) (len := len) (s := (M, WL, WS)) hWL i; rw [← he18] at h9; exact h9)) (gw_callV gm_353 gm_354 gm_19 gm_54 gm_355) hd_D_walkTo ⟨rfl, rfl⟩ ⟨Nat.le_of_ble_eq_true rfl, Nat.le_of_ble_eq_true rfl⟩ hP hD hS hA (hK.sub (tys' := [(cI, .int), (cQ, .array .int)]) [0, 1] rfl) [0, 1, 2, 3] [4] rfl rfl (by decide) (by decide) (by decide) rfl 0 rfl rfl hl.1 rfl (Nat.le_of_ble_eq_true rfl) d_D_walkArc_49 ⟨Nat.zero_le _, Nat.zero_le _⟩ (fun H locs hP hD hS => ?_)
            have hP : va_P (dC, dI) pcl ([(d8, .inl (cI, 10, .inl (fun i9 => nI (ow i9)))), (hd, .inr (0, [.ref hg, .ref d1, .ref d2, .int dE, .int dV, .ref d3, .ref d4, .ref d5, .int (nI fc), .int fE, .int fV, .int cE, .int cC, .ref d6, .ref d7, .int (nI pn), .ref d8])), (d3, .inl (cQ, 18, .inr (.inr (.inr (.inr (fun i9 => if i9 < 18 then some (r i9) else none)))))), (d4, .inl (cI, 18, .inl (fun i9 => nI (((dr_to f0 (ow ((a0 + i) - len)) (M1, WL1, WS1)).2.1) i9)))), (d5, .inl (cI, 18, .inl ((dr_to f0 (ow ((a0 + i) - len)) (M1, WL1, WS1)).2.2)))] ++ wkR r cI ((dr_to f0 (ow ((a0 + i) - len)) (M1, WL1, WS1)).1)) H := hP
            have hD : va_D A ([(d8, .inl (cI, 10, .inl (fun i9 => nI (ow i9)))), (hd, .inr (0, [.ref hg, .ref d1, .ref d2, .int dE, .int dV, .ref d3, .ref d4, .ref d5, .int (nI fc), .int fE, .int fV, .int cE, .int cC, .ref d6, .ref d7, .int (nI pn), .ref d8])), (d3, .inl (cQ, 18, .inr (.inr (.inr (.inr (fun i9 => if i9 < 18 then some (r i9) else none)))))), (d4, .inl (cI, 18, .inl (fun i9 => nI (((dr_to f0 (ow ((a0 + i) - len)) (M1, WL1, WS1)).2.1) i9)))), (d5, .inl (cI, 18, .inl ((dr_to f0 (ow ((a0 + i) - len)) (M1, WL1, WS1)).2.2)))] ++ wkR r cI ((dr_to f0 (ow ((a0 + i) - len)) (M1, WL1, WS1)).1)) := hD
            refine lv_iinc (k := 0) (v := nI (a0 + i + 1)) hx hb d_D_walkArc_52 hl rfl (inc_nI _) (Nat.le_of_ble_eq_true rfl) rfl (fun ls hl => ?_)
            have hl : lv_has ls 7 [(6, .int (nI (a0 + i + 1))), (5, .int (nI la)), (0, .ref hd), (1, .int (nI f0)), (2, .int (nI a0)), (3, .int (nI b0)), (4, .int (nI len))] := hl
            refine lv_goto hx hb d_D_walkArc_55 (tgt := 18) rfl ?_
            have he2 : ((dr_to f0 (ow ((a0 + i) - len)) (M1, WL1, WS1)).1, (dr_to f0 (ow ((a0 + i) - len)) (M1, WL1, WS1)).2.1, (dr_to f0 (ow ((a0 + i) - len)) (M1, WL1, WS1)).2.2) = fo (dr_arc1 ow f0 a0 len) (i + 1) (M, WL, WS) := by
              rw [fo_s, ← he18]
              simp [dr_arc1, dr_wrap, q1, q1n, q6, q7, q7n]
            exact ih18 (i + 1) (by omega) ((dr_to f0 (ow ((a0 + i) - len)) (M1, WL1, WS1)).1) ((dr_to f0 (ow ((a0 + i) - len)) (M1, WL1, WS1)).2.1) ((dr_to f0 (ow ((a0 + i) - len)) (M1, WL1, WS1)).2.2) H locs ls he2 (va_P.part hP [1, 2, 3, 4, 0] rfl) (va_D.part hD [1, 2, 3, 4, 0] (by decide) rfl) hS (lv_sub hl [0, 1, 2, 3, 4, 5, 6] rfl)
          · have q7 : (a0 + i) < len := nq_nle (by omega) (by omega) q7
            have q7n := Nat.not_le.mpr q7
            refine lv_iload hx hb d_D_walkArc_38 (lv_at hl 0 rfl) ?_
            refine lv_goto hx hb d_D_walkArc_40 (tgt := 48) rfl ?_
            refine g_ild (j := (a0 + i)) Sx hK hP 4 0 rfl rfl (by omega) (by decide) d_D_walkArc_48 ?_
            refine rw_VP (As := [.int (nI f0), .int (nI (ow (a0 + i)))]) (rest := []) (wr := [(d8, .inl (cI, 10, .inl (fun i9 => nI (ow i9))))]) Sx (c_D_walkTo l dC dI hd hg dE dV fc fE fV cE cC pn d1 d2 d3 d4 d5 d6 d7 d8 cI cQ WL1 WS1 r M1 f0 (ow (a0 + i)) H.size (by omega) (by have h9 := dr_arc1_rng (ow := ow) (f := f0) (a := a0) (len := len) (s := (M, WL, WS)) hWL i; rw [← he18] at h9; exact h9)) (gw_callV gm_353 gm_354 gm_19 gm_54 gm_355) hd_D_walkTo ⟨rfl, rfl⟩ ⟨Nat.le_of_ble_eq_true rfl, Nat.le_of_ble_eq_true rfl⟩ hP hD hS hA (hK.sub (tys' := [(cI, .int), (cQ, .array .int)]) [0, 1] rfl) [0, 1, 2, 3] [4] rfl rfl (by decide) (by decide) (by decide) rfl 0 rfl rfl hl.1 rfl (Nat.le_of_ble_eq_true rfl) d_D_walkArc_49 ⟨Nat.zero_le _, Nat.zero_le _⟩ (fun H locs hP hD hS => ?_)
            have hP : va_P (dC, dI) pcl ([(d8, .inl (cI, 10, .inl (fun i9 => nI (ow i9)))), (hd, .inr (0, [.ref hg, .ref d1, .ref d2, .int dE, .int dV, .ref d3, .ref d4, .ref d5, .int (nI fc), .int fE, .int fV, .int cE, .int cC, .ref d6, .ref d7, .int (nI pn), .ref d8])), (d3, .inl (cQ, 18, .inr (.inr (.inr (.inr (fun i9 => if i9 < 18 then some (r i9) else none)))))), (d4, .inl (cI, 18, .inl (fun i9 => nI (((dr_to f0 (ow (a0 + i)) (M1, WL1, WS1)).2.1) i9)))), (d5, .inl (cI, 18, .inl ((dr_to f0 (ow (a0 + i)) (M1, WL1, WS1)).2.2)))] ++ wkR r cI ((dr_to f0 (ow (a0 + i)) (M1, WL1, WS1)).1)) H := hP
            have hD : va_D A ([(d8, .inl (cI, 10, .inl (fun i9 => nI (ow i9)))), (hd, .inr (0, [.ref hg, .ref d1, .ref d2, .int dE, .int dV, .ref d3, .ref d4, .ref d5, .int (nI fc), .int fE, .int fV, .int cE, .int cC, .ref d6, .ref d7, .int (nI pn), .ref d8])), (d3, .inl (cQ, 18, .inr (.inr (.inr (.inr (fun i9 => if i9 < 18 then some (r i9) else none)))))), (d4, .inl (cI, 18, .inl (fun i9 => nI (((dr_to f0 (ow (a0 + i)) (M1, WL1, WS1)).2.1) i9)))), (d5, .inl (cI, 18, .inl ((dr_to f0 (ow (a0 + i)) (M1, WL1, WS1)).2.2)))] ++ wkR r cI ((dr_to f0 (ow (a0 + i)) (M1, WL1, WS1)).1)) := hD
            refine lv_iinc (k := 0) (v := nI (a0 + i + 1)) hx hb d_D_walkArc_52 hl rfl (inc_nI _) (Nat.le_of_ble_eq_true rfl) rfl (fun ls hl => ?_)
            have hl : lv_has ls 7 [(6, .int (nI (a0 + i + 1))), (5, .int (nI la)), (0, .ref hd), (1, .int (nI f0)), (2, .int (nI a0)), (3, .int (nI b0)), (4, .int (nI len))] := hl
            refine lv_goto hx hb d_D_walkArc_55 (tgt := 18) rfl ?_
            have he2 : ((dr_to f0 (ow (a0 + i)) (M1, WL1, WS1)).1, (dr_to f0 (ow (a0 + i)) (M1, WL1, WS1)).2.1, (dr_to f0 (ow (a0 + i)) (M1, WL1, WS1)).2.2) = fo (dr_arc1 ow f0 a0 len) (i + 1) (M, WL, WS) := by
              rw [fo_s, ← he18]
              simp [dr_arc1, dr_wrap, q1, q1n, q6, q7, q7n]
            exact ih18 (i + 1) (by omega) ((dr_to f0 (ow (a0 + i)) (M1, WL1, WS1)).1) ((dr_to f0 (ow (a0 + i)) (M1, WL1, WS1)).2.1) ((dr_to f0 (ow (a0 + i)) (M1, WL1, WS1)).2.2) H locs ls he2 (va_P.part hP [1, 2, 3, 4, 0] rfl) (va_D.part hD [1, 2, 3, 4, 0] (by decide) rfl) hS (lv_sub hl [0, 1, 2, 3, 4, 5, 6] rfl)
    exact hL18 (la + 1 - a0) 0 (by omega) M WL WS H locs ls rfl hP hD hS (lv_sub hl [0, 1, 2, 3, 4, 5, 6] rfl)
