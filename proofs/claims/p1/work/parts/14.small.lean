/-! the reference's small methods -/
def pm_has (x j : Int32) : Bool := decide ((x >>> (j &&& 31)) &&& 1 = 1)
def pm_tch (E : Nat → Nat) (e v : Nat) : Bool := decide (nI (E (2 * e)) = nI v ∨ nI (E (2 * e + 1)) = nI v)
def pm_oth (E : Nat → Nat) (e v : Nat) : Nat := if nI (E (2 * e)) = nI v then E (2 * e + 1) else E (2 * e)
def pm_int (E Yb : Nat → Nat) (e : Nat) : Bool := decide (oI (Yb (E (2 * e))) = nI e ∨ oI (Yb (E (2 * e + 1))) = nI e)
def pm_bk (x : Int32) (E Yb : Nat → Nat) (e : Nat) : Bool := pm_has x (nI e) && !pm_int E Yb e
def pm_lo1 (Dp : Nat → Int32) (sh : Nat → Nat) (x : Int32) : Nat → Int32 → Int32 := fun f d => if pm_has x (nI f) = true ∧ ¬ d ≤ Dp (sh f) then Dp (sh f) else d
def pm_de1 (Dp : Nat → Int32) (sh : Nat → Nat) (x lo : Int32) : Nat → Int32 → Int32 := fun f d => if pm_has x (nI f) = true ∧ ¬ Dp (sh f) ≤ lo then d ||| (1 <<< (nI f &&& 31)) else d
def pm_t1 (f : Nat) (old tu : Int32) : Nat → (Nat → Int32) × (Nat → Int32) → (Nat → Int32) × (Nat → Int32) := fun j s => if s.1 j = old then (upd s.1 j (s.1 f), upd s.2 j (s.2 j ^^^ tu)) else s
def pm_tell (k f g : Nat) (z : Int32) (gp hd : Nat → Int32) (cf : Bool) : (Nat → Int32) × (Nat → Int32) × Bool := if gp f = gp g then (gp, hd, cf || !decide (hd f ^^^ hd g = z)) else ((fo (pm_t1 f (gp g) ((hd f ^^^ hd g) ^^^ z)) k (gp, hd)).1, (fo (pm_t1 f (gp g) ((hd f ^^^ hd g) ^^^ z)) k (gp, hd)).2, cf)
def pm_jn (e : Nat) (old : Int32) : Nat → (Nat → Int32) → (Nat → Int32) := fun j B => if B j = old then upd B j (B e) else upd B j (B j)
def pm_cb (E : Nat → Nat) (x : Int32) : Nat → Int32 → Int32 := fun e d => if bI (pm_has x (nI (E (2 * e)))) = bI (pm_has x (nI (E (2 * e + 1)))) then d else d ||| (1 <<< (nI e &&& 31))
def pm_wo (w : Nat → Int32) (x : Int32) : Nat → Int64 → Int64 := fun e d => if pm_has x (nI e) = true then d + (w e).toInt64 else d
theorem d_M_isVertex_0 : decode k_M_isVertex 0 = .ok (.iload_n 1, 1) := by decide +kernel
theorem d_M_isVertex_1 : decode k_M_isVertex 1 = .ok (.ifCond .lt 15, 3) := by decide +kernel
theorem d_M_isVertex_4 : decode k_M_isVertex 4 = .ok (.iload_n 1, 1) := by decide +kernel
theorem d_M_isVertex_5 : decode k_M_isVertex 5 = .ok (.aload_n 0, 1) := by decide +kernel
theorem d_M_isVertex_6 : decode k_M_isVertex 6 = .ok (.getfield 52, 3) := by decide +kernel
theorem d_M_isVertex_9 : decode k_M_isVertex 9 = .ok (.if_icmp .ge 7, 3) := by decide +kernel
theorem d_M_isVertex_12 : decode k_M_isVertex 12 = .ok (.iconst 1, 1) := by decide +kernel
theorem d_M_isVertex_13 : decode k_M_isVertex 13 = .ok (.goto 4, 3) := by decide +kernel
theorem d_M_isVertex_16 : decode k_M_isVertex 16 = .ok (.iconst 0, 1) := by decide +kernel
theorem d_M_isVertex_17 : decode k_M_isVertex 17 = .ok (.ireturn, 1) := by decide +kernel
abbrev rm_M_isVertex : Room := { frames := 0, cells := 0, slots := 0, locals := 0 }
theorem hd_M_isVertex : y_M_isVertex.cls = n_M ∧ y_M_isVertex.cls ≠ "java/lang/invoke/MethodHandle" ∧ y_M_isVertex.cls ≠ "java/lang/invoke/VarHandle" ∧ (parseMethodDescriptor y_M_isVertex.desc).map (fun d => d.parameters.length) = some 1 := by decide +kernel
set_option maxHeartbeats 4000000 in
set_option maxRecDepth 100000 in
theorem c_M_isVertex (l : Launch) (dC : Nat → ClassId) (dI : Nat → Nat → Nat) (n : Nat) (k : Nat) (wk : Bool) (fl : Bool) (cm : Nat) (bl : Int32) (sd : Int32) (sm : Int64) (co : Int32) (cf : Bool) (hm : Nat) (a1 : Nat) (a2 : Nat) (a3 : Nat) (a4 : Nat) (a5 : Nat) (a6 : Nat) (a7 : Nat) (a8 : Nat) (a9 : Nat) (a10 : Nat) (a11 : Nat) (a12 : Nat) (a13 : Nat) (a14 : Nat) (cI : ClassId) (v : Int32) : Met l y_M_isVertex (.code y_M_isVertex k_M_isVertex 2 (.some FieldType.boolean) :: gw) rm_M_isVertex (roP [.ref hm, .int v] (dC, dI) [(hm, .inr (5, [.int (nI n), .int (nI k), .ref a1, .ref a2, .int (bI wk), .int (bI fl), .int (nI cm), .ref a3, .ref a4, .int bl, .int sd, .long sm, .int co, .ref a5, .ref a6, .ref a7, .ref a8, .ref a9, .ref a10, .ref a11, .ref a12, .ref a13, .int (bI cf), .ref a14]))] []) (vp_Si (fun r => r = bI (ps_in v (nI n)))) 0 0 (fun _ => False) := by
  refine ro_met (by decide) ⟨rfl, rfl⟩ (bI_nar _) (Nat.le_of_ble_eq_true rfl) ?_
  intro p e s m args below meth c Q ls Sx hP hK hl hret
  have hx := Sx.1
  have hb := Sx.2.1
  have hl : lv_has ls 2 [(0, .ref hm), (1, .int v)] := hl
  refine lv_iload_n hx hb d_M_isVertex_0 rfl (lv_at hl 1 rfl) ?_
  refine lv_if_lt hx hb d_M_isVertex_1 (tgt := 16) rfl (fun q1 => ?_) (fun q1 => ?_)
  · skip
    refine lv_iconst (v := 0) hx hb d_M_isVertex_16 (by decide) ?_
    rw [show (0 : Int32) = (bI (ps_in v (nI n))) from by simp [ps_in, bI, *]]
    exact hret _ _ d_M_isVertex_17
  · skip
    refine lv_iload_n hx hb d_M_isVertex_4 rfl (lv_at hl 1 rfl) ?_
    refine lv_aload_n hx hb d_M_isVertex_5 rfl (lv_at hl 0 rfl) ?_
    refine g_get Sx gf_M hK hP 0 rfl rfl 0 (by decide) gm_419 rfl d_M_isVertex_6 ?_
    refine lv_icmp_ge hx hb d_M_isVertex_9 (tgt := 16) rfl (fun q2 => ?_) (fun q2 => ?_)
    · skip
      refine lv_iconst (v := 0) hx hb d_M_isVertex_16 (by decide) ?_
      rw [show (0 : Int32) = (bI (ps_in v (nI n))) from by simp [ps_in, bI, *]]
      exact hret _ _ d_M_isVertex_17
    · skip
      refine lv_iconst (v := 1) hx hb d_M_isVertex_12 (by decide) ?_
      refine lv_goto hx hb d_M_isVertex_13 (tgt := 17) rfl ?_
      rw [show (1 : Int32) = (bI (ps_in v (nI n))) from by simp [ps_in, bI, *]]
      exact hret _ _ d_M_isVertex_17
theorem d_M_isEdge_0 : decode k_M_isEdge 0 = .ok (.iload_n 1, 1) := by decide +kernel
theorem d_M_isEdge_1 : decode k_M_isEdge 1 = .ok (.ifCond .lt 15, 3) := by decide +kernel
theorem d_M_isEdge_4 : decode k_M_isEdge 4 = .ok (.iload_n 1, 1) := by decide +kernel
theorem d_M_isEdge_5 : decode k_M_isEdge 5 = .ok (.aload_n 0, 1) := by decide +kernel
theorem d_M_isEdge_6 : decode k_M_isEdge 6 = .ok (.getfield 56, 3) := by decide +kernel
theorem d_M_isEdge_9 : decode k_M_isEdge 9 = .ok (.if_icmp .ge 7, 3) := by decide +kernel
theorem d_M_isEdge_12 : decode k_M_isEdge 12 = .ok (.iconst 1, 1) := by decide +kernel
theorem d_M_isEdge_13 : decode k_M_isEdge 13 = .ok (.goto 4, 3) := by decide +kernel
theorem d_M_isEdge_16 : decode k_M_isEdge 16 = .ok (.iconst 0, 1) := by decide +kernel
theorem d_M_isEdge_17 : decode k_M_isEdge 17 = .ok (.ireturn, 1) := by decide +kernel
abbrev rm_M_isEdge : Room := { frames := 0, cells := 0, slots := 0, locals := 0 }
theorem hd_M_isEdge : y_M_isEdge.cls = n_M ∧ y_M_isEdge.cls ≠ "java/lang/invoke/MethodHandle" ∧ y_M_isEdge.cls ≠ "java/lang/invoke/VarHandle" ∧ (parseMethodDescriptor y_M_isEdge.desc).map (fun d => d.parameters.length) = some 1 := by decide +kernel
set_option maxHeartbeats 4000000 in
set_option maxRecDepth 100000 in
theorem c_M_isEdge (l : Launch) (dC : Nat → ClassId) (dI : Nat → Nat → Nat) (n : Nat) (k : Nat) (wk : Bool) (fl : Bool) (cm : Nat) (bl : Int32) (sd : Int32) (sm : Int64) (co : Int32) (cf : Bool) (hm : Nat) (a1 : Nat) (a2 : Nat) (a3 : Nat) (a4 : Nat) (a5 : Nat) (a6 : Nat) (a7 : Nat) (a8 : Nat) (a9 : Nat) (a10 : Nat) (a11 : Nat) (a12 : Nat) (a13 : Nat) (a14 : Nat) (cI : ClassId) (v : Int32) : Met l y_M_isEdge (.code y_M_isEdge k_M_isEdge 2 (.some FieldType.boolean) :: gw) rm_M_isEdge (roP [.ref hm, .int v] (dC, dI) [(hm, .inr (5, [.int (nI n), .int (nI k), .ref a1, .ref a2, .int (bI wk), .int (bI fl), .int (nI cm), .ref a3, .ref a4, .int bl, .int sd, .long sm, .int co, .ref a5, .ref a6, .ref a7, .ref a8, .ref a9, .ref a10, .ref a11, .ref a12, .ref a13, .int (bI cf), .ref a14]))] []) (vp_Si (fun r => r = bI (ps_in v (nI k)))) 0 0 (fun _ => False) := by
  refine ro_met (by decide) ⟨rfl, rfl⟩ (bI_nar _) (Nat.le_of_ble_eq_true rfl) ?_
  intro p e s m args below meth c Q ls Sx hP hK hl hret
  have hx := Sx.1
  have hb := Sx.2.1
  have hl : lv_has ls 2 [(0, .ref hm), (1, .int v)] := hl
  refine lv_iload_n hx hb d_M_isEdge_0 rfl (lv_at hl 1 rfl) ?_
  refine lv_if_lt hx hb d_M_isEdge_1 (tgt := 16) rfl (fun q1 => ?_) (fun q1 => ?_)
  · skip
    refine lv_iconst (v := 0) hx hb d_M_isEdge_16 (by decide) ?_
    rw [show (0 : Int32) = (bI (ps_in v (nI k))) from by simp [ps_in, bI, *]]
    exact hret _ _ d_M_isEdge_17
  · skip
    refine lv_iload_n hx hb d_M_isEdge_4 rfl (lv_at hl 1 rfl) ?_
    refine lv_aload_n hx hb d_M_isEdge_5 rfl (lv_at hl 0 rfl) ?_
    refine g_get Sx gf_M hK hP 0 rfl rfl 1 (by decide) gm_420 rfl d_M_isEdge_6 ?_
    refine lv_icmp_ge hx hb d_M_isEdge_9 (tgt := 16) rfl (fun q2 => ?_) (fun q2 => ?_)
    · skip
      refine lv_iconst (v := 0) hx hb d_M_isEdge_16 (by decide) ?_
      rw [show (0 : Int32) = (bI (ps_in v (nI k))) from by simp [ps_in, bI, *]]
      exact hret _ _ d_M_isEdge_17
    · skip
      refine lv_iconst (v := 1) hx hb d_M_isEdge_12 (by decide) ?_
      refine lv_goto hx hb d_M_isEdge_13 (tgt := 17) rfl ?_
      rw [show (1 : Int32) = (bI (ps_in v (nI k))) from by simp [ps_in, bI, *]]
      exact hret _ _ d_M_isEdge_17
theorem d_M_has_0 : decode k_M_has 0 = .ok (.iload_n 0, 1) := by decide +kernel
theorem d_M_has_1 : decode k_M_has 1 = .ok (.iload_n 1, 1) := by decide +kernel
theorem d_M_has_2 : decode k_M_has 2 = .ok (.ishr, 1) := by decide +kernel
theorem d_M_has_3 : decode k_M_has 3 = .ok (.iconst 1, 1) := by decide +kernel
theorem d_M_has_4 : decode k_M_has 4 = .ok (.iand, 1) := by decide +kernel
theorem d_M_has_5 : decode k_M_has 5 = .ok (.iconst 1, 1) := by decide +kernel
theorem d_M_has_6 : decode k_M_has 6 = .ok (.if_icmp .ne 7, 3) := by decide +kernel
theorem d_M_has_9 : decode k_M_has 9 = .ok (.iconst 1, 1) := by decide +kernel
theorem d_M_has_10 : decode k_M_has 10 = .ok (.goto 4, 3) := by decide +kernel
theorem d_M_has_13 : decode k_M_has 13 = .ok (.iconst 0, 1) := by decide +kernel
theorem d_M_has_14 : decode k_M_has 14 = .ok (.ireturn, 1) := by decide +kernel
abbrev rm_M_has : Room := { frames := 0, cells := 0, slots := 0, locals := 0 }
theorem hd_M_has : y_M_has.cls ≠ "java/lang/invoke/MethodHandle" ∧ y_M_has.cls ≠ "java/lang/invoke/VarHandle" ∧ (parseMethodDescriptor y_M_has.desc).map (fun d => d.parameters.length) = some 2 := by decide +kernel
set_option maxHeartbeats 4000000 in
set_option maxRecDepth 100000 in
theorem c_M_has (l : Launch) (dC : Nat → ClassId) (dI : Nat → Nat → Nat) (x : Int32) (j : Int32) : Met l y_M_has (.code y_M_has k_M_has 2 (.some FieldType.boolean) :: gw) rm_M_has (roP [.int x, .int j] (dC, dI) [] []) (vp_Si (fun r => r = bI (pm_has x j))) 0 0 (fun _ => False) := by
  refine ro_met (by decide) ⟨rfl, rfl⟩ (bI_nar _) (Nat.le_of_ble_eq_true rfl) ?_
  intro p e s m args below meth c Q ls Sx hP hK hl hret
  have hx := Sx.1
  have hb := Sx.2.1
  have hl : lv_has ls 2 [(0, .int x), (1, .int j)] := hl
  refine lv_iload_n hx hb d_M_has_0 rfl (lv_at hl 0 rfl) ?_
  refine lv_iload_n hx hb d_M_has_1 rfl (lv_at hl 1 rfl) ?_
  refine lv_ishr hx hb d_M_has_2 ?_
  refine lv_iconst (v := 1) hx hb d_M_has_3 (by decide) ?_
  refine lv_iand hx hb d_M_has_4 ?_
  refine lv_iconst (v := 1) hx hb d_M_has_5 (by decide) ?_
  refine lv_icmp_ne hx hb d_M_has_6 (tgt := 13) rfl (fun q1 => ?_) (fun q1 => ?_)
  · skip
    refine lv_iconst (v := 0) hx hb d_M_has_13 (by decide) ?_
    rw [show (0 : Int32) = (bI (pm_has x j)) from by simp [pm_has, bI, *]]
    exact hret _ _ d_M_has_14
  · skip
    refine lv_iconst (v := 1) hx hb d_M_has_9 (by decide) ?_
    refine lv_goto hx hb d_M_has_10 (tgt := 14) rfl ?_
    rw [show (1 : Int32) = (bI (pm_has x j)) from by simp [pm_has, bI, *]]
    exact hret _ _ d_M_has_14
theorem d_M_touches_0 : decode k_M_touches 0 = .ok (.aload_n 0, 1) := by decide +kernel
theorem d_M_touches_1 : decode k_M_touches 1 = .ok (.getfield 7, 3) := by decide +kernel
theorem d_M_touches_4 : decode k_M_touches 4 = .ok (.iconst 2, 1) := by decide +kernel
theorem d_M_touches_5 : decode k_M_touches 5 = .ok (.iload_n 1, 1) := by decide +kernel
theorem d_M_touches_6 : decode k_M_touches 6 = .ok (.imul, 1) := by decide +kernel
theorem d_M_touches_7 : decode k_M_touches 7 = .ok (.iaload, 1) := by decide +kernel
theorem d_M_touches_8 : decode k_M_touches 8 = .ok (.iload_n 2, 1) := by decide +kernel
theorem d_M_touches_9 : decode k_M_touches 9 = .ok (.if_icmp .eq 17, 3) := by decide +kernel
theorem d_M_touches_12 : decode k_M_touches 12 = .ok (.aload_n 0, 1) := by decide +kernel
theorem d_M_touches_13 : decode k_M_touches 13 = .ok (.getfield 7, 3) := by decide +kernel
theorem d_M_touches_16 : decode k_M_touches 16 = .ok (.iconst 2, 1) := by decide +kernel
theorem d_M_touches_17 : decode k_M_touches 17 = .ok (.iload_n 1, 1) := by decide +kernel
theorem d_M_touches_18 : decode k_M_touches 18 = .ok (.imul, 1) := by decide +kernel
theorem d_M_touches_19 : decode k_M_touches 19 = .ok (.iconst 1, 1) := by decide +kernel
theorem d_M_touches_20 : decode k_M_touches 20 = .ok (.iadd, 1) := by decide +kernel
theorem d_M_touches_21 : decode k_M_touches 21 = .ok (.iaload, 1) := by decide +kernel
theorem d_M_touches_22 : decode k_M_touches 22 = .ok (.iload_n 2, 1) := by decide +kernel
theorem d_M_touches_23 : decode k_M_touches 23 = .ok (.if_icmp .ne 7, 3) := by decide +kernel
theorem d_M_touches_26 : decode k_M_touches 26 = .ok (.iconst 1, 1) := by decide +kernel
theorem d_M_touches_27 : decode k_M_touches 27 = .ok (.goto 4, 3) := by decide +kernel
theorem d_M_touches_30 : decode k_M_touches 30 = .ok (.iconst 0, 1) := by decide +kernel
theorem d_M_touches_31 : decode k_M_touches 31 = .ok (.ireturn, 1) := by decide +kernel
abbrev rm_M_touches : Room := { frames := 0, cells := 0, slots := 0, locals := 0 }
theorem hd_M_touches : y_M_touches.cls = n_M ∧ y_M_touches.cls ≠ "java/lang/invoke/MethodHandle" ∧ y_M_touches.cls ≠ "java/lang/invoke/VarHandle" ∧ (parseMethodDescriptor y_M_touches.desc).map (fun d => d.parameters.length) = some 2 := by decide +kernel
set_option maxHeartbeats 4000000 in
set_option maxRecDepth 100000 in
theorem c_M_touches (l : Launch) (dC : Nat → ClassId) (dI : Nat → Nat → Nat) (n : Nat) (k : Nat) (wk : Bool) (fl : Bool) (cm : Nat) (bl : Int32) (sd : Int32) (sm : Int64) (co : Int32) (cf : Bool) (hm : Nat) (a1 : Nat) (a2 : Nat) (a3 : Nat) (a4 : Nat) (a5 : Nat) (a6 : Nat) (a7 : Nat) (a8 : Nat) (a9 : Nat) (a10 : Nat) (a11 : Nat) (a12 : Nat) (a13 : Nat) (a14 : Nat) (cI : ClassId) (E : Nat → Nat) (f0 : Nat) (v : Nat) (hf : f0 < 18) : Met l y_M_touches (.code y_M_touches k_M_touches 3 (.some FieldType.boolean) :: gw) rm_M_touches (roP [.ref hm, .int (nI f0), .int (nI v)] (dC, dI) [(hm, .inr (5, [.int (nI n), .int (nI k), .ref a1, .ref a2, .int (bI wk), .int (bI fl), .int (nI cm), .ref a3, .ref a4, .int bl, .int sd, .long sm, .int co, .ref a5, .ref a6, .ref a7, .ref a8, .ref a9, .ref a10, .ref a11, .ref a12, .ref a13, .int (bI cf), .ref a14])), (a1, .inl (cI, 36, .inl (fun i9 => nI (E i9))))] [(cI, .int)]) (vp_Si (fun r => r = bI (pm_tch E f0 v))) 0 0 (fun _ => False) := by
  refine ro_met (by decide) ⟨rfl, rfl⟩ (bI_nar _) (Nat.le_of_ble_eq_true rfl) ?_
  intro p e s m args below meth c Q ls Sx hP hK hl hret
  have hx := Sx.1
  have hb := Sx.2.1
  have hl : lv_has ls 3 [(0, .ref hm), (1, .int (nI f0)), (2, .int (nI v))] := hl
  refine lv_aload_n hx hb d_M_touches_0 rfl (lv_at hl 0 rfl) ?_
  refine g_get Sx gf_M hK hP 0 rfl rfl 2 (by decide) gm_421 rfl d_M_touches_1 ?_
  refine lv_iconst (v := nI 2) hx hb d_M_touches_4 (by decide) ?_
  refine lv_iload_n hx hb d_M_touches_5 rfl (lv_at hl 1 rfl) ?_
  refine lv_imul hx hb d_M_touches_6 ?_
  rw [show (((nI 2) * (nI f0)) : Int32) = nI (2 * f0) from pk_mul _ _]
  refine g_ild (j := (2 * f0)) Sx hK hP 1 0 rfl rfl (by omega) (by decide) d_M_touches_7 ?_
  refine lv_iload_n hx hb d_M_touches_8 rfl (lv_at hl 2 rfl) ?_
  refine lv_icmp_eq hx hb d_M_touches_9 (tgt := 26) rfl (fun q1 => ?_) (fun q1 => ?_)
  · skip
    refine lv_iconst (v := 1) hx hb d_M_touches_26 (by decide) ?_
    refine lv_goto hx hb d_M_touches_27 (tgt := 31) rfl ?_
    rw [show (1 : Int32) = (bI (pm_tch E f0 v)) from by simp [pm_tch, bI, *]]
    exact hret _ _ d_M_touches_31
  · skip
    refine lv_aload_n hx hb d_M_touches_12 rfl (lv_at hl 0 rfl) ?_
    refine g_get Sx gf_M hK hP 0 rfl rfl 2 (by decide) gm_421 rfl d_M_touches_13 ?_
    refine lv_iconst (v := nI 2) hx hb d_M_touches_16 (by decide) ?_
    refine lv_iload_n hx hb d_M_touches_17 rfl (lv_at hl 1 rfl) ?_
    refine lv_imul hx hb d_M_touches_18 ?_
    rw [show (((nI 2) * (nI f0)) : Int32) = nI (2 * f0) from pk_mul _ _]
    refine lv_iconst (v := nI 1) hx hb d_M_touches_19 (by decide) ?_
    refine lv_iadd hx hb d_M_touches_20 ?_
    rw [show (((nI (2 * f0)) + (nI 1)) : Int32) = nI ((2 * f0) + 1) from nI_add _ _]
    refine g_ild (j := ((2 * f0) + 1)) Sx hK hP 1 0 rfl rfl (by omega) (by decide) d_M_touches_21 ?_
    refine lv_iload_n hx hb d_M_touches_22 rfl (lv_at hl 2 rfl) ?_
    refine lv_icmp_ne hx hb d_M_touches_23 (tgt := 30) rfl (fun q2 => ?_) (fun q2 => ?_)
    · skip
      refine lv_iconst (v := 0) hx hb d_M_touches_30 (by decide) ?_
      rw [show (0 : Int32) = (bI (pm_tch E f0 v)) from by simp [pm_tch, bI, *]]
      exact hret _ _ d_M_touches_31
    · skip
      refine lv_iconst (v := 1) hx hb d_M_touches_26 (by decide) ?_
      refine lv_goto hx hb d_M_touches_27 (tgt := 31) rfl ?_
      rw [show (1 : Int32) = (bI (pm_tch E f0 v)) from by simp [pm_tch, bI, *]]
      exact hret _ _ d_M_touches_31
theorem d_M_other_0 : decode k_M_other 0 = .ok (.aload_n 0, 1) := by decide +kernel
theorem d_M_other_1 : decode k_M_other 1 = .ok (.getfield 7, 3) := by decide +kernel
theorem d_M_other_4 : decode k_M_other 4 = .ok (.iconst 2, 1) := by decide +kernel
theorem d_M_other_5 : decode k_M_other 5 = .ok (.iload_n 1, 1) := by decide +kernel
theorem d_M_other_6 : decode k_M_other 6 = .ok (.imul, 1) := by decide +kernel
theorem d_M_other_7 : decode k_M_other 7 = .ok (.iaload, 1) := by decide +kernel
theorem d_M_other_8 : decode k_M_other 8 = .ok (.iload_n 2, 1) := by decide +kernel
theorem d_M_other_9 : decode k_M_other 9 = .ok (.if_icmp .ne 16, 3) := by decide +kernel
theorem d_M_other_12 : decode k_M_other 12 = .ok (.aload_n 0, 1) := by decide +kernel
theorem d_M_other_13 : decode k_M_other 13 = .ok (.getfield 7, 3) := by decide +kernel
theorem d_M_other_16 : decode k_M_other 16 = .ok (.iconst 2, 1) := by decide +kernel
theorem d_M_other_17 : decode k_M_other 17 = .ok (.iload_n 1, 1) := by decide +kernel
theorem d_M_other_18 : decode k_M_other 18 = .ok (.imul, 1) := by decide +kernel
theorem d_M_other_19 : decode k_M_other 19 = .ok (.iconst 1, 1) := by decide +kernel
theorem d_M_other_20 : decode k_M_other 20 = .ok (.iadd, 1) := by decide +kernel
theorem d_M_other_21 : decode k_M_other 21 = .ok (.iaload, 1) := by decide +kernel
theorem d_M_other_22 : decode k_M_other 22 = .ok (.goto 11, 3) := by decide +kernel
theorem d_M_other_25 : decode k_M_other 25 = .ok (.aload_n 0, 1) := by decide +kernel
theorem d_M_other_26 : decode k_M_other 26 = .ok (.getfield 7, 3) := by decide +kernel
theorem d_M_other_29 : decode k_M_other 29 = .ok (.iconst 2, 1) := by decide +kernel
theorem d_M_other_30 : decode k_M_other 30 = .ok (.iload_n 1, 1) := by decide +kernel
theorem d_M_other_31 : decode k_M_other 31 = .ok (.imul, 1) := by decide +kernel
theorem d_M_other_32 : decode k_M_other 32 = .ok (.iaload, 1) := by decide +kernel
theorem d_M_other_33 : decode k_M_other 33 = .ok (.ireturn, 1) := by decide +kernel
abbrev rm_M_other : Room := { frames := 0, cells := 0, slots := 0, locals := 0 }
theorem hd_M_other : y_M_other.cls = n_M ∧ y_M_other.cls ≠ "java/lang/invoke/MethodHandle" ∧ y_M_other.cls ≠ "java/lang/invoke/VarHandle" ∧ (parseMethodDescriptor y_M_other.desc).map (fun d => d.parameters.length) = some 2 := by decide +kernel
set_option maxHeartbeats 4000000 in
set_option maxRecDepth 100000 in
theorem c_M_other (l : Launch) (dC : Nat → ClassId) (dI : Nat → Nat → Nat) (n : Nat) (k : Nat) (wk : Bool) (fl : Bool) (cm : Nat) (bl : Int32) (sd : Int32) (sm : Int64) (co : Int32) (cf : Bool) (hm : Nat) (a1 : Nat) (a2 : Nat) (a3 : Nat) (a4 : Nat) (a5 : Nat) (a6 : Nat) (a7 : Nat) (a8 : Nat) (a9 : Nat) (a10 : Nat) (a11 : Nat) (a12 : Nat) (a13 : Nat) (a14 : Nat) (cI : ClassId) (E : Nat → Nat) (f0 : Nat) (v : Nat) (hf : f0 < 18) : Met l y_M_other (.code y_M_other k_M_other 3 (.some FieldType.int) :: gw) rm_M_other (roP [.ref hm, .int (nI f0), .int (nI v)] (dC, dI) [(hm, .inr (5, [.int (nI n), .int (nI k), .ref a1, .ref a2, .int (bI wk), .int (bI fl), .int (nI cm), .ref a3, .ref a4, .int bl, .int sd, .long sm, .int co, .ref a5, .ref a6, .ref a7, .ref a8, .ref a9, .ref a10, .ref a11, .ref a12, .ref a13, .int (bI cf), .ref a14])), (a1, .inl (cI, 36, .inl (fun i9 => nI (E i9))))] [(cI, .int)]) (vp_Si (fun r => r = nI (pm_oth E f0 v))) 0 0 (fun _ => False) := by
  refine ro_met (by decide) ⟨rfl, rfl⟩ rfl (Nat.le_of_ble_eq_true rfl) ?_
  intro p e s m args below meth c Q ls Sx hP hK hl hret
  have hx := Sx.1
  have hb := Sx.2.1
  have hl : lv_has ls 3 [(0, .ref hm), (1, .int (nI f0)), (2, .int (nI v))] := hl
  refine lv_aload_n hx hb d_M_other_0 rfl (lv_at hl 0 rfl) ?_
  refine g_get Sx gf_M hK hP 0 rfl rfl 2 (by decide) gm_421 rfl d_M_other_1 ?_
  refine lv_iconst (v := nI 2) hx hb d_M_other_4 (by decide) ?_
  refine lv_iload_n hx hb d_M_other_5 rfl (lv_at hl 1 rfl) ?_
  refine lv_imul hx hb d_M_other_6 ?_
  rw [show (((nI 2) * (nI f0)) : Int32) = nI (2 * f0) from pk_mul _ _]
  refine g_ild (j := (2 * f0)) Sx hK hP 1 0 rfl rfl (by omega) (by decide) d_M_other_7 ?_
  refine lv_iload_n hx hb d_M_other_8 rfl (lv_at hl 2 rfl) ?_
  refine lv_icmp_ne hx hb d_M_other_9 (tgt := 25) rfl (fun q1 => ?_) (fun q1 => ?_)
  · skip
    refine lv_aload_n hx hb d_M_other_25 rfl (lv_at hl 0 rfl) ?_
    refine g_get Sx gf_M hK hP 0 rfl rfl 2 (by decide) gm_421 rfl d_M_other_26 ?_
    refine lv_iconst (v := nI 2) hx hb d_M_other_29 (by decide) ?_
    refine lv_iload_n hx hb d_M_other_30 rfl (lv_at hl 1 rfl) ?_
    refine lv_imul hx hb d_M_other_31 ?_
    rw [show (((nI 2) * (nI f0)) : Int32) = nI (2 * f0) from pk_mul _ _]
    refine g_ild (j := (2 * f0)) Sx hK hP 1 0 rfl rfl (by omega) (by decide) d_M_other_32 ?_
    rw [show (nI (E (2 * f0)) : Int32) = (nI (pm_oth E f0 v)) from by simp [pm_oth, *]]
    exact hret _ _ d_M_other_33
  · skip
    refine lv_aload_n hx hb d_M_other_12 rfl (lv_at hl 0 rfl) ?_
    refine g_get Sx gf_M hK hP 0 rfl rfl 2 (by decide) gm_421 rfl d_M_other_13 ?_
    refine lv_iconst (v := nI 2) hx hb d_M_other_16 (by decide) ?_
    refine lv_iload_n hx hb d_M_other_17 rfl (lv_at hl 1 rfl) ?_
    refine lv_imul hx hb d_M_other_18 ?_
    rw [show (((nI 2) * (nI f0)) : Int32) = nI (2 * f0) from pk_mul _ _]
    refine lv_iconst (v := nI 1) hx hb d_M_other_19 (by decide) ?_
    refine lv_iadd hx hb d_M_other_20 ?_
    rw [show (((nI (2 * f0)) + (nI 1)) : Int32) = nI ((2 * f0) + 1) from nI_add _ _]
    refine g_ild (j := ((2 * f0) + 1)) Sx hK hP 1 0 rfl rfl (by omega) (by decide) d_M_other_21 ?_
    refine lv_goto hx hb d_M_other_22 (tgt := 33) rfl ?_
    rw [show (nI (E ((2 * f0) + 1)) : Int32) = (nI (pm_oth E f0 v)) from by simp [pm_oth, *]]
    exact hret _ _ d_M_other_33
theorem d_M_inTree_0 : decode k_M_inTree 0 = .ok (.aload_n 0, 1) := by decide +kernel
theorem d_M_inTree_1 : decode k_M_inTree 1 = .ok (.getfield 28, 3) := by decide +kernel
theorem d_M_inTree_4 : decode k_M_inTree 4 = .ok (.aload_n 0, 1) := by decide +kernel
theorem d_M_inTree_5 : decode k_M_inTree 5 = .ok (.getfield 7, 3) := by decide +kernel
theorem d_M_inTree_8 : decode k_M_inTree 8 = .ok (.iconst 2, 1) := by decide +kernel
theorem d_M_inTree_9 : decode k_M_inTree 9 = .ok (.iload_n 1, 1) := by decide +kernel
theorem d_M_inTree_10 : decode k_M_inTree 10 = .ok (.imul, 1) := by decide +kernel
theorem d_M_inTree_11 : decode k_M_inTree 11 = .ok (.iaload, 1) := by decide +kernel
theorem d_M_inTree_12 : decode k_M_inTree 12 = .ok (.iaload, 1) := by decide +kernel
theorem d_M_inTree_13 : decode k_M_inTree 13 = .ok (.iload_n 1, 1) := by decide +kernel
theorem d_M_inTree_14 : decode k_M_inTree 14 = .ok (.if_icmp .eq 22, 3) := by decide +kernel
theorem d_M_inTree_17 : decode k_M_inTree 17 = .ok (.aload_n 0, 1) := by decide +kernel
theorem d_M_inTree_18 : decode k_M_inTree 18 = .ok (.getfield 28, 3) := by decide +kernel
theorem d_M_inTree_21 : decode k_M_inTree 21 = .ok (.aload_n 0, 1) := by decide +kernel
theorem d_M_inTree_22 : decode k_M_inTree 22 = .ok (.getfield 7, 3) := by decide +kernel
theorem d_M_inTree_25 : decode k_M_inTree 25 = .ok (.iconst 2, 1) := by decide +kernel
theorem d_M_inTree_26 : decode k_M_inTree 26 = .ok (.iload_n 1, 1) := by decide +kernel
theorem d_M_inTree_27 : decode k_M_inTree 27 = .ok (.imul, 1) := by decide +kernel
theorem d_M_inTree_28 : decode k_M_inTree 28 = .ok (.iconst 1, 1) := by decide +kernel
theorem d_M_inTree_29 : decode k_M_inTree 29 = .ok (.iadd, 1) := by decide +kernel
theorem d_M_inTree_30 : decode k_M_inTree 30 = .ok (.iaload, 1) := by decide +kernel
theorem d_M_inTree_31 : decode k_M_inTree 31 = .ok (.iaload, 1) := by decide +kernel
theorem d_M_inTree_32 : decode k_M_inTree 32 = .ok (.iload_n 1, 1) := by decide +kernel
theorem d_M_inTree_33 : decode k_M_inTree 33 = .ok (.if_icmp .ne 7, 3) := by decide +kernel
theorem d_M_inTree_36 : decode k_M_inTree 36 = .ok (.iconst 1, 1) := by decide +kernel
theorem d_M_inTree_37 : decode k_M_inTree 37 = .ok (.goto 4, 3) := by decide +kernel
theorem d_M_inTree_40 : decode k_M_inTree 40 = .ok (.iconst 0, 1) := by decide +kernel
theorem d_M_inTree_41 : decode k_M_inTree 41 = .ok (.ireturn, 1) := by decide +kernel
abbrev rm_M_inTree : Room := { frames := 0, cells := 0, slots := 0, locals := 0 }
theorem hd_M_inTree : y_M_inTree.cls = n_M ∧ y_M_inTree.cls ≠ "java/lang/invoke/MethodHandle" ∧ y_M_inTree.cls ≠ "java/lang/invoke/VarHandle" ∧ (parseMethodDescriptor y_M_inTree.desc).map (fun d => d.parameters.length) = some 1 := by decide +kernel
set_option maxHeartbeats 4000000 in
set_option maxRecDepth 100000 in
theorem c_M_inTree (l : Launch) (dC : Nat → ClassId) (dI : Nat → Nat → Nat) (n : Nat) (k : Nat) (wk : Bool) (fl : Bool) (cm : Nat) (bl : Int32) (sd : Int32) (sm : Int64) (co : Int32) (cf : Bool) (hm : Nat) (a1 : Nat) (a2 : Nat) (a3 : Nat) (a4 : Nat) (a5 : Nat) (a6 : Nat) (a7 : Nat) (a8 : Nat) (a9 : Nat) (a10 : Nat) (a11 : Nat) (a12 : Nat) (a13 : Nat) (a14 : Nat) (cI : ClassId) (E : Nat → Nat) (Yb : Nat → Nat) (f0 : Nat) (hf : f0 < 18) (hE : ∀ j, E j < 10) : Met l y_M_inTree (.code y_M_inTree k_M_inTree 2 (.some FieldType.boolean) :: gw) rm_M_inTree (roP [.ref hm, .int (nI f0)] (dC, dI) [(hm, .inr (5, [.int (nI n), .int (nI k), .ref a1, .ref a2, .int (bI wk), .int (bI fl), .int (nI cm), .ref a3, .ref a4, .int bl, .int sd, .long sm, .int co, .ref a5, .ref a6, .ref a7, .ref a8, .ref a9, .ref a10, .ref a11, .ref a12, .ref a13, .int (bI cf), .ref a14])), (a1, .inl (cI, 36, .inl (fun i9 => nI (E i9)))), (a7, .inl (cI, 10, .inl (fun i9 => oI (Yb i9))))] [(cI, .int)]) (vp_Si (fun r => r = bI (pm_int E Yb f0))) 0 0 (fun _ => False) := by
  refine ro_met (by decide) ⟨rfl, rfl⟩ (bI_nar _) (Nat.le_of_ble_eq_true rfl) ?_
  intro p e s m args below meth c Q ls Sx hP hK hl hret
  have hx := Sx.1
  have hb := Sx.2.1
  have hl : lv_has ls 2 [(0, .ref hm), (1, .int (nI f0))] := hl
  refine lv_aload_n hx hb d_M_inTree_0 rfl (lv_at hl 0 rfl) ?_
  refine g_get Sx gf_M hK hP 0 rfl rfl 15 (by decide) gm_434 rfl d_M_inTree_1 ?_
  refine lv_aload_n hx hb d_M_inTree_4 rfl (lv_at hl 0 rfl) ?_
  refine g_get Sx gf_M hK hP 0 rfl rfl 2 (by decide) gm_421 rfl d_M_inTree_5 ?_
  refine lv_iconst (v := nI 2) hx hb d_M_inTree_8 (by decide) ?_
  refine lv_iload_n hx hb d_M_inTree_9 rfl (lv_at hl 1 rfl) ?_
  refine lv_imul hx hb d_M_inTree_10 ?_
  rw [show (((nI 2) * (nI f0)) : Int32) = nI (2 * f0) from pk_mul _ _]
  refine g_ild (j := (2 * f0)) Sx hK hP 1 0 rfl rfl (by omega) (by decide) d_M_inTree_11 ?_
  refine g_ild (j := (E (2 * f0))) Sx hK hP 2 0 rfl rfl (hE _) (by decide) d_M_inTree_12 ?_
  refine lv_iload_n hx hb d_M_inTree_13 rfl (lv_at hl 1 rfl) ?_
  refine lv_icmp_eq hx hb d_M_inTree_14 (tgt := 36) rfl (fun q1 => ?_) (fun q1 => ?_)
  · skip
    refine lv_iconst (v := 1) hx hb d_M_inTree_36 (by decide) ?_
    refine lv_goto hx hb d_M_inTree_37 (tgt := 41) rfl ?_
    rw [show (1 : Int32) = (bI (pm_int E Yb f0)) from by simp [pm_int, bI, *]]
    exact hret _ _ d_M_inTree_41
  · skip
    refine lv_aload_n hx hb d_M_inTree_17 rfl (lv_at hl 0 rfl) ?_
    refine g_get Sx gf_M hK hP 0 rfl rfl 15 (by decide) gm_434 rfl d_M_inTree_18 ?_
    refine lv_aload_n hx hb d_M_inTree_21 rfl (lv_at hl 0 rfl) ?_
    refine g_get Sx gf_M hK hP 0 rfl rfl 2 (by decide) gm_421 rfl d_M_inTree_22 ?_
    refine lv_iconst (v := nI 2) hx hb d_M_inTree_25 (by decide) ?_
    refine lv_iload_n hx hb d_M_inTree_26 rfl (lv_at hl 1 rfl) ?_
    refine lv_imul hx hb d_M_inTree_27 ?_
    rw [show (((nI 2) * (nI f0)) : Int32) = nI (2 * f0) from pk_mul _ _]
    refine lv_iconst (v := nI 1) hx hb d_M_inTree_28 (by decide) ?_
    refine lv_iadd hx hb d_M_inTree_29 ?_
    rw [show (((nI (2 * f0)) + (nI 1)) : Int32) = nI ((2 * f0) + 1) from nI_add _ _]
    refine g_ild (j := ((2 * f0) + 1)) Sx hK hP 1 0 rfl rfl (by omega) (by decide) d_M_inTree_30 ?_
    refine g_ild (j := (E ((2 * f0) + 1))) Sx hK hP 2 0 rfl rfl (hE _) (by decide) d_M_inTree_31 ?_
    refine lv_iload_n hx hb d_M_inTree_32 rfl (lv_at hl 1 rfl) ?_
    refine lv_icmp_ne hx hb d_M_inTree_33 (tgt := 40) rfl (fun q2 => ?_) (fun q2 => ?_)
    · skip
      refine lv_iconst (v := 0) hx hb d_M_inTree_40 (by decide) ?_
      rw [show (0 : Int32) = (bI (pm_int E Yb f0)) from by simp [pm_int, bI, *]]
      exact hret _ _ d_M_inTree_41
    · skip
      refine lv_iconst (v := 1) hx hb d_M_inTree_36 (by decide) ?_
      refine lv_goto hx hb d_M_inTree_37 (tgt := 41) rfl ?_
      rw [show (1 : Int32) = (bI (pm_int E Yb f0)) from by simp [pm_int, bI, *]]
      exact hret _ _ d_M_inTree_41
theorem d_M_isBack_0 : decode k_M_isBack 0 = .ok (.iload_n 1, 1) := by decide +kernel
theorem d_M_isBack_1 : decode k_M_isBack 1 = .ok (.iload_n 2, 1) := by decide +kernel
theorem d_M_isBack_2 : decode k_M_isBack 2 = .ok (.invokestatic 70, 3) := by decide +kernel
theorem d_M_isBack_5 : decode k_M_isBack 5 = .ok (.ifCond .eq 15, 3) := by decide +kernel
theorem d_M_isBack_8 : decode k_M_isBack 8 = .ok (.aload_n 0, 1) := by decide +kernel
theorem d_M_isBack_9 : decode k_M_isBack 9 = .ok (.iload_n 2, 1) := by decide +kernel
theorem d_M_isBack_10 : decode k_M_isBack 10 = .ok (.invokevirtual 85, 3) := by decide +kernel
theorem d_M_isBack_13 : decode k_M_isBack 13 = .ok (.ifCond .ne 7, 3) := by decide +kernel
theorem d_M_isBack_16 : decode k_M_isBack 16 = .ok (.iconst 1, 1) := by decide +kernel
theorem d_M_isBack_17 : decode k_M_isBack 17 = .ok (.goto 4, 3) := by decide +kernel
theorem d_M_isBack_20 : decode k_M_isBack 20 = .ok (.iconst 0, 1) := by decide +kernel
theorem d_M_isBack_21 : decode k_M_isBack 21 = .ok (.ireturn, 1) := by decide +kernel
abbrev rm_M_isBack : Room := { frames := 1, cells := 0, slots := 0, locals := 21 }
theorem hd_M_isBack : y_M_isBack.cls = n_M ∧ y_M_isBack.cls ≠ "java/lang/invoke/MethodHandle" ∧ y_M_isBack.cls ≠ "java/lang/invoke/VarHandle" ∧ (parseMethodDescriptor y_M_isBack.desc).map (fun d => d.parameters.length) = some 2 := by decide +kernel
set_option maxHeartbeats 4000000 in
set_option maxRecDepth 100000 in
theorem c_M_isBack (l : Launch) (dC : Nat → ClassId) (dI : Nat → Nat → Nat) (n : Nat) (k : Nat) (wk : Bool) (fl : Bool) (cm : Nat) (bl : Int32) (sd : Int32) (sm : Int64) (co : Int32) (cf : Bool) (hm : Nat) (a1 : Nat) (a2 : Nat) (a3 : Nat) (a4 : Nat) (a5 : Nat) (a6 : Nat) (a7 : Nat) (a8 : Nat) (a9 : Nat) (a10 : Nat) (a11 : Nat) (a12 : Nat) (a13 : Nat) (a14 : Nat) (cI : ClassId) (E : Nat → Nat) (Yb : Nat → Nat) (x : Int32) (f0 : Nat) (hf : f0 < 18) (hE : ∀ j, E j < 10) : Met l y_M_isBack (.code y_M_isBack k_M_isBack 3 (.some FieldType.boolean) :: gw) rm_M_isBack (roP [.ref hm, .int x, .int (nI f0)] (dC, dI) [(hm, .inr (5, [.int (nI n), .int (nI k), .ref a1, .ref a2, .int (bI wk), .int (bI fl), .int (nI cm), .ref a3, .ref a4, .int bl, .int sd, .long sm, .int co, .ref a5, .ref a6, .ref a7, .ref a8, .ref a9, .ref a10, .ref a11, .ref a12, .ref a13, .int (bI cf), .ref a14])), (a1, .inl (cI, 36, .inl (fun i9 => nI (E i9)))), (a7, .inl (cI, 10, .inl (fun i9 => oI (Yb i9))))] [(cI, .int)]) (vp_Si (fun r => r = bI (pm_bk x E Yb f0))) 0 0 (fun _ => False) := by
  refine ro_met (by decide) ⟨rfl, rfl⟩ (bI_nar _) (Nat.le_of_ble_eq_true rfl) ?_
  intro p e s m args below meth c Q ls Sx hP hK hl hret
  have hx := Sx.1
  have hb := Sx.2.1
  have hl : lv_has ls 3 [(0, .ref hm), (1, .int x), (2, .int (nI f0))] := hl
  refine lv_iload_n hx hb d_M_isBack_0 rfl (lv_at hl 1 rfl) ?_
  refine lv_iload_n hx hb d_M_isBack_1 rfl (lv_at hl 2 rfl) ?_
  refine ro_S (As := [.int x, .int (nI f0)]) (rest := []) Sx (c_M_has l dC dI x (nI f0)) (gw_callS gm_509 gm_510 gm_56 gm_511) hd_M_has ⟨rfl, rfl⟩ ⟨Nat.le_of_ble_eq_true rfl, Nat.le_of_ble_eq_true rfl⟩ (va_P_map hP [] rfl) (hK.sub (tys' := []) [] rfl) rfl hl.1 rfl (Nat.le_of_ble_eq_true rfl) d_M_isBack_2 ⟨Nat.zero_le _, Nat.zero_le _⟩ ?_
  refine lv_if_eq hx hb d_M_isBack_5 (tgt := 20) rfl (fun q1 => ?_) (fun q1 => ?_)
  · have q1 : (pm_has x (nI f0)) = false := bI_0.mp q1
    refine lv_iconst (v := 0) hx hb d_M_isBack_20 (by decide) ?_
    rw [show (0 : Int32) = (bI (pm_bk x E Yb f0)) from by simp [pm_bk, bI, *]]
    exact hret _ _ d_M_isBack_21
  · have q1 : (pm_has x (nI f0)) = true := bI_1.mp q1
    refine lv_aload_n hx hb d_M_isBack_8 rfl (lv_at hl 0 rfl) ?_
    refine lv_iload_n hx hb d_M_isBack_9 rfl (lv_at hl 2 rfl) ?_
    refine ro_V (As := [.int (nI f0)]) (rest := []) Sx (c_M_inTree l dC dI n k wk fl cm bl sd sm co cf hm a1 a2 a3 a4 a5 a6 a7 a8 a9 a10 a11 a12 a13 a14 cI E Yb f0 (by omega) hE) (gw_callV gm_521 gm_522 gm_34 gm_56 gm_523) hd_M_inTree ⟨rfl, rfl⟩ ⟨Nat.le_of_ble_eq_true rfl, Nat.le_of_ble_eq_true rfl⟩ hP (hK.sub (tys' := [(cI, .int)]) [0] rfl) rfl 0 rfl rfl hl.1 rfl (Nat.le_of_ble_eq_true rfl) d_M_isBack_10 ⟨Nat.zero_le _, Nat.zero_le _⟩ ?_
    refine lv_if_ne hx hb d_M_isBack_13 (tgt := 20) rfl (fun q2 => ?_) (fun q2 => ?_)
    · have q2 : (pm_int E Yb f0) = true := bI_1.mp q2
      refine lv_iconst (v := 0) hx hb d_M_isBack_20 (by decide) ?_
      rw [show (0 : Int32) = (bI (pm_bk x E Yb f0)) from by simp [pm_bk, bI, *]]
      exact hret _ _ d_M_isBack_21
    · have q2 : (pm_int E Yb f0) = false := bI_0.mp q2
      refine lv_iconst (v := 1) hx hb d_M_isBack_16 (by decide) ?_
      refine lv_goto hx hb d_M_isBack_17 (tgt := 21) rfl ?_
      rw [show (1 : Int32) = (bI (pm_bk x E Yb f0)) from by simp [pm_bk, bI, *]]
      exact hret _ _ d_M_isBack_21
theorem d_M_lowest_0 : decode k_M_lowest 0 = .ok (.aload_n 0, 1) := by decide +kernel
theorem d_M_lowest_1 : decode k_M_lowest 1 = .ok (.getfield 22, 3) := by decide +kernel
theorem d_M_lowest_4 : decode k_M_lowest 4 = .ok (.iload_n 2, 1) := by decide +kernel
theorem d_M_lowest_5 : decode k_M_lowest 5 = .ok (.iaload, 1) := by decide +kernel
theorem d_M_lowest_6 : decode k_M_lowest 6 = .ok (.istore_n 3, 1) := by decide +kernel
theorem d_M_lowest_7 : decode k_M_lowest 7 = .ok (.iconst 0, 1) := by decide +kernel
theorem d_M_lowest_8 : decode k_M_lowest 8 = .ok (.istore 4, 2) := by decide +kernel
theorem d_M_lowest_10 : decode k_M_lowest 10 = .ok (.iload 4, 2) := by decide +kernel
theorem d_M_lowest_12 : decode k_M_lowest 12 = .ok (.aload_n 0, 1) := by decide +kernel
theorem d_M_lowest_13 : decode k_M_lowest 13 = .ok (.getfield 56, 3) := by decide +kernel
theorem d_M_lowest_16 : decode k_M_lowest 16 = .ok (.if_icmp .ge 51, 3) := by decide +kernel
theorem d_M_lowest_19 : decode k_M_lowest 19 = .ok (.iload_n 1, 1) := by decide +kernel
theorem d_M_lowest_20 : decode k_M_lowest 20 = .ok (.iload 4, 2) := by decide +kernel
theorem d_M_lowest_22 : decode k_M_lowest 22 = .ok (.invokestatic 70, 3) := by decide +kernel
theorem d_M_lowest_25 : decode k_M_lowest 25 = .ok (.ifCond .eq 34, 3) := by decide +kernel
theorem d_M_lowest_28 : decode k_M_lowest 28 = .ok (.aload_n 0, 1) := by decide +kernel
theorem d_M_lowest_29 : decode k_M_lowest 29 = .ok (.getfield 22, 3) := by decide +kernel
theorem d_M_lowest_32 : decode k_M_lowest 32 = .ok (.aload_n 0, 1) := by decide +kernel
theorem d_M_lowest_33 : decode k_M_lowest 33 = .ok (.getfield 40, 3) := by decide +kernel
theorem d_M_lowest_36 : decode k_M_lowest 36 = .ok (.iload 4, 2) := by decide +kernel
theorem d_M_lowest_38 : decode k_M_lowest 38 = .ok (.iaload, 1) := by decide +kernel
theorem d_M_lowest_39 : decode k_M_lowest 39 = .ok (.iaload, 1) := by decide +kernel
theorem d_M_lowest_40 : decode k_M_lowest 40 = .ok (.iload_n 3, 1) := by decide +kernel
theorem d_M_lowest_41 : decode k_M_lowest 41 = .ok (.if_icmp .ge 18, 3) := by decide +kernel
theorem d_M_lowest_44 : decode k_M_lowest 44 = .ok (.aload_n 0, 1) := by decide +kernel
theorem d_M_lowest_45 : decode k_M_lowest 45 = .ok (.getfield 22, 3) := by decide +kernel
theorem d_M_lowest_48 : decode k_M_lowest 48 = .ok (.aload_n 0, 1) := by decide +kernel
theorem d_M_lowest_49 : decode k_M_lowest 49 = .ok (.getfield 40, 3) := by decide +kernel
theorem d_M_lowest_52 : decode k_M_lowest 52 = .ok (.iload 4, 2) := by decide +kernel
theorem d_M_lowest_54 : decode k_M_lowest 54 = .ok (.iaload, 1) := by decide +kernel
theorem d_M_lowest_55 : decode k_M_lowest 55 = .ok (.iaload, 1) := by decide +kernel
theorem d_M_lowest_56 : decode k_M_lowest 56 = .ok (.goto 4, 3) := by decide +kernel
theorem d_M_lowest_59 : decode k_M_lowest 59 = .ok (.iload_n 3, 1) := by decide +kernel
theorem d_M_lowest_60 : decode k_M_lowest 60 = .ok (.istore_n 3, 1) := by decide +kernel
theorem d_M_lowest_61 : decode k_M_lowest 61 = .ok (.iinc 4 1, 3) := by decide +kernel
theorem d_M_lowest_64 : decode k_M_lowest 64 = .ok (.goto (-54), 3) := by decide +kernel
theorem d_M_lowest_67 : decode k_M_lowest 67 = .ok (.iload_n 3, 1) := by decide +kernel
theorem d_M_lowest_68 : decode k_M_lowest 68 = .ok (.ireturn, 1) := by decide +kernel
abbrev rm_M_lowest : Room := { frames := 1, cells := 0, slots := 0, locals := 21 }
theorem hd_M_lowest : y_M_lowest.cls = n_M ∧ y_M_lowest.cls ≠ "java/lang/invoke/MethodHandle" ∧ y_M_lowest.cls ≠ "java/lang/invoke/VarHandle" ∧ (parseMethodDescriptor y_M_lowest.desc).map (fun d => d.parameters.length) = some 2 := by decide +kernel
set_option maxHeartbeats 4000000 in
set_option maxRecDepth 100000 in
theorem c_M_lowest (l : Launch) (dC : Nat → ClassId) (dI : Nat → Nat → Nat) (n : Nat) (k : Nat) (wk : Bool) (fl : Bool) (cm : Nat) (bl : Int32) (sd : Int32) (sm : Int64) (co : Int32) (cf : Bool) (hm : Nat) (a1 : Nat) (a2 : Nat) (a3 : Nat) (a4 : Nat) (a5 : Nat) (a6 : Nat) (a7 : Nat) (a8 : Nat) (a9 : Nat) (a10 : Nat) (a11 : Nat) (a12 : Nat) (a13 : Nat) (a14 : Nat) (cI : ClassId) (Dp : Nat → Int32) (sh : Nat → Nat) (x : Int32) (v : Nat) (hk : k ≤ 18) (hv : v < 10) (hsh : ∀ j, sh j < 10) : Met l y_M_lowest (.code y_M_lowest k_M_lowest 5 (.some FieldType.int) :: gw) rm_M_lowest (roP [.ref hm, .int x, .int (nI v)] (dC, dI) [(hm, .inr (5, [.int (nI n), .int (nI k), .ref a1, .ref a2, .int (bI wk), .int (bI fl), .int (nI cm), .ref a3, .ref a4, .int bl, .int sd, .long sm, .int co, .ref a5, .ref a6, .ref a7, .ref a8, .ref a9, .ref a10, .ref a11, .ref a12, .ref a13, .int (bI cf), .ref a14])), (a5, .inl (cI, 10, .inl Dp)), (a11, .inl (cI, 18, .inl (fun i9 => nI (sh i9))))] [(cI, .int)]) (vp_Si (fun r => r = fo (pm_lo1 Dp sh x) k (Dp v))) 0 0 (fun _ => False) := by
  refine ro_met (by decide) ⟨rfl, rfl⟩ rfl (Nat.le_of_ble_eq_true rfl) ?_
  intro p e s m args below meth c Q ls Sx hP hK hl hret
  have hx := Sx.1
  have hb := Sx.2.1
  have hl : lv_has ls 5 [(0, .ref hm), (1, .int x), (2, .int (nI v))] := hl
  refine lv_aload_n hx hb d_M_lowest_0 rfl (lv_at hl 0 rfl) ?_
  refine g_get Sx gf_M hK hP 0 rfl rfl 13 (by decide) gm_432 rfl d_M_lowest_1 ?_
  refine lv_iload_n hx hb d_M_lowest_4 rfl (lv_at hl 2 rfl) ?_
  refine g_ild (j := v) Sx hK hP 1 0 rfl rfl (by omega) (by decide) d_M_lowest_5 ?_
  refine lv_istore_n hx hb d_M_lowest_6 rfl hl (Nat.le_of_ble_eq_true rfl) rfl (fun ls hl => ?_)
  have hl : lv_has ls 5 [(3, .int (Dp v)), (0, .ref hm), (1, .int x), (2, .int (nI v))] := hl
  refine lv_iconst (v := nI 0) hx hb d_M_lowest_7 (by decide) ?_
  refine lv_istore hx hb d_M_lowest_8 hl (Nat.le_of_ble_eq_true rfl) rfl (fun ls hl => ?_)
  have hl : lv_has ls 5 [(4, .int (nI 0)), (3, .int (Dp v)), (0, .ref hm), (1, .int x), (2, .int (nI v))] := hl
  have hL10 : ∀ (kk i : Nat), i + kk = k → ∀ (d : Int32) (ls : Array Slot), d = fo (pm_lo1 Dp sh x) i (Dp v) → lv_has ls 5 [(4, .int (nI i)), (3, .int d), (0, .ref hm), (1, .int x), (2, .int (nI v))] → W p l e rm_M_lowest s m args below meth c s.heap [] 0 0 Q (F0 m 10 ls []) := by
    intro kk
    induction kk with
    | zero =>
      intro i hi10 d ls he10 hl
      have hj10 : i = k := by omega
      rw [hj10] at hl he10
      have e_d : d = (fo (pm_lo1 Dp sh x) k (Dp v)) := by rw [← he10]
      subst e_d
      have hl : lv_has ls 5 [(4, .int (nI k)), (3, .int (fo (pm_lo1 Dp sh x) k (Dp v))), (0, .ref hm), (1, .int x), (2, .int (nI v))] := hl
      refine lv_iload hx hb d_M_lowest_10 (lv_at hl 0 rfl) ?_
      refine lv_aload_n hx hb d_M_lowest_12 rfl (lv_at hl 2 rfl) ?_
      refine g_get Sx gf_M hK hP 0 rfl rfl 1 (by decide) gm_420 rfl d_M_lowest_13 ?_
      refine lv_icmp_ge hx hb d_M_lowest_16 (tgt := 67) rfl (fun q1 => ?_) (fun q1 => ?_)
      · have q1 : k ≤ k := nq_le (by omega) (by omega) q1
        refine lv_iload_n hx hb d_M_lowest_67 rfl (lv_at hl 1 rfl) ?_
        exact hret _ _ d_M_lowest_68
      · have q1 : k < k := nq_nle (by omega) (by omega) q1
        exact absurd q1 (by omega)
    | succ kk ih10 =>
      intro i hi10 d ls he10 hl
      refine lv_iload hx hb d_M_lowest_10 (lv_at hl 0 rfl) ?_
      refine lv_aload_n hx hb d_M_lowest_12 rfl (lv_at hl 2 rfl) ?_
      refine g_get Sx gf_M hK hP 0 rfl rfl 1 (by decide) gm_420 rfl d_M_lowest_13 ?_
      refine lv_icmp_ge hx hb d_M_lowest_16 (tgt := 67) rfl (fun q2 => ?_) (fun q2 => ?_)
      · have q2 : k ≤ i := nq_le (by omega) (by omega) q2
        exact absurd q2 (by omega)
      · have q2 : i < k := nq_nle (by omega) (by omega) q2
        refine lv_iload_n hx hb d_M_lowest_19 rfl (lv_at hl 3 rfl) ?_
        refine lv_iload hx hb d_M_lowest_20 (lv_at hl 0 rfl) ?_
        refine ro_S (As := [.int x, .int (nI i)]) (rest := []) Sx (c_M_has l dC dI x (nI i)) (gw_callS gm_509 gm_510 gm_56 gm_511) hd_M_has ⟨rfl, rfl⟩ ⟨Nat.le_of_ble_eq_true rfl, Nat.le_of_ble_eq_true rfl⟩ (va_P_map hP [] rfl) (hK.sub (tys' := []) [] rfl) rfl hl.1 rfl (Nat.le_of_ble_eq_true rfl) d_M_lowest_22 ⟨Nat.zero_le _, Nat.zero_le _⟩ ?_
        refine lv_if_eq hx hb d_M_lowest_25 (tgt := 59) rfl (fun q3 => ?_) (fun q3 => ?_)
        · have q3 : (pm_has x (nI i)) = false := bI_0.mp q3
          refine lv_iload_n hx hb d_M_lowest_59 rfl (lv_at hl 1 rfl) ?_
          refine lv_istore_n hx hb d_M_lowest_60 rfl hl (Nat.le_of_ble_eq_true rfl) rfl (fun ls hl => ?_)
          have hl : lv_has ls 5 [(3, .int d), (4, .int (nI i)), (0, .ref hm), (1, .int x), (2, .int (nI v))] := hl
          refine lv_iinc (k := 1) (v := nI (i + 1)) hx hb d_M_lowest_61 hl rfl (inc_nI _) (Nat.le_of_ble_eq_true rfl) rfl (fun ls hl => ?_)
          have hl : lv_has ls 5 [(4, .int (nI (i + 1))), (3, .int d), (0, .ref hm), (1, .int x), (2, .int (nI v))] := hl
          refine lv_goto hx hb d_M_lowest_64 (tgt := 10) rfl ?_
          have he2 : d = fo (pm_lo1 Dp sh x) (i + 1) (Dp v) := by
            rw [fo_s, ← he10]
            simp [pm_lo1, q2, q3]
          exact ih10 (i + 1) (by omega) d  ls he2  (lv_sub hl [0, 1, 2, 3, 4] rfl)
        · have q3 : (pm_has x (nI i)) = true := bI_1.mp q3
          refine lv_aload_n hx hb d_M_lowest_28 rfl (lv_at hl 2 rfl) ?_
          refine g_get Sx gf_M hK hP 0 rfl rfl 13 (by decide) gm_432 rfl d_M_lowest_29 ?_
          refine lv_aload_n hx hb d_M_lowest_32 rfl (lv_at hl 2 rfl) ?_
          refine g_get Sx gf_M hK hP 0 rfl rfl 19 (by decide) gm_438 rfl d_M_lowest_33 ?_
          refine lv_iload hx hb d_M_lowest_36 (lv_at hl 0 rfl) ?_
          refine g_ild (j := i) Sx hK hP 2 0 rfl rfl (by omega) (by decide) d_M_lowest_38 ?_
          refine g_ild (j := (sh i)) Sx hK hP 1 0 rfl rfl (hsh _) (by decide) d_M_lowest_39 ?_
          refine lv_iload_n hx hb d_M_lowest_40 rfl (lv_at hl 1 rfl) ?_
          refine lv_icmp_ge hx hb d_M_lowest_41 (tgt := 59) rfl (fun q4 => ?_) (fun q4 => ?_)
          · skip
            refine lv_iload_n hx hb d_M_lowest_59 rfl (lv_at hl 1 rfl) ?_
            refine lv_istore_n hx hb d_M_lowest_60 rfl hl (Nat.le_of_ble_eq_true rfl) rfl (fun ls hl => ?_)
            have hl : lv_has ls 5 [(3, .int d), (4, .int (nI i)), (0, .ref hm), (1, .int x), (2, .int (nI v))] := hl
            refine lv_iinc (k := 1) (v := nI (i + 1)) hx hb d_M_lowest_61 hl rfl (inc_nI _) (Nat.le_of_ble_eq_true rfl) rfl (fun ls hl => ?_)
            have hl : lv_has ls 5 [(4, .int (nI (i + 1))), (3, .int d), (0, .ref hm), (1, .int x), (2, .int (nI v))] := hl
            refine lv_goto hx hb d_M_lowest_64 (tgt := 10) rfl ?_
            have he2 : d = fo (pm_lo1 Dp sh x) (i + 1) (Dp v) := by
              rw [fo_s, ← he10]
              simp [pm_lo1, q2, q3, q4]
            exact ih10 (i + 1) (by omega) d  ls he2  (lv_sub hl [0, 1, 2, 3, 4] rfl)
          · skip
            refine lv_aload_n hx hb d_M_lowest_44 rfl (lv_at hl 2 rfl) ?_
            refine g_get Sx gf_M hK hP 0 rfl rfl 13 (by decide) gm_432 rfl d_M_lowest_45 ?_
            refine lv_aload_n hx hb d_M_lowest_48 rfl (lv_at hl 2 rfl) ?_
            refine g_get Sx gf_M hK hP 0 rfl rfl 19 (by decide) gm_438 rfl d_M_lowest_49 ?_
            refine lv_iload hx hb d_M_lowest_52 (lv_at hl 0 rfl) ?_
            refine g_ild (j := i) Sx hK hP 2 0 rfl rfl (by omega) (by decide) d_M_lowest_54 ?_
            refine g_ild (j := (sh i)) Sx hK hP 1 0 rfl rfl (hsh _) (by decide) d_M_lowest_55 ?_
            refine lv_goto hx hb d_M_lowest_56 (tgt := 60) rfl ?_
            refine lv_istore_n hx hb d_M_lowest_60 rfl hl (Nat.le_of_ble_eq_true rfl) rfl (fun ls hl => ?_)
            have hl : lv_has ls 5 [(3, .int (Dp (sh i))), (4, .int (nI i)), (0, .ref hm), (1, .int x), (2, .int (nI v))] := hl
            refine lv_iinc (k := 1) (v := nI (i + 1)) hx hb d_M_lowest_61 hl rfl (inc_nI _) (Nat.le_of_ble_eq_true rfl) rfl (fun ls hl => ?_)
            have hl : lv_has ls 5 [(4, .int (nI (i + 1))), (3, .int (Dp (sh i))), (0, .ref hm), (1, .int x), (2, .int (nI v))] := hl
            refine lv_goto hx hb d_M_lowest_64 (tgt := 10) rfl ?_
            have he2 : (Dp (sh i)) = fo (pm_lo1 Dp sh x) (i + 1) (Dp v) := by
              rw [fo_s, ← he10]
              simp [pm_lo1, q2, q3, q4]
            exact ih10 (i + 1) (by omega) (Dp (sh i))  ls he2  (lv_sub hl [0, 1, 2, 3, 4] rfl)
  exact hL10 k 0 (by omega) (Dp v)  ls rfl  (lv_sub hl [0, 1, 2, 3, 4] rfl)
theorem d_M_deeper_0 : decode k_M_deeper 0 = .ok (.iconst 0, 1) := by decide +kernel
theorem d_M_deeper_1 : decode k_M_deeper 1 = .ok (.istore_n 3, 1) := by decide +kernel
theorem d_M_deeper_2 : decode k_M_deeper 2 = .ok (.iconst 0, 1) := by decide +kernel
theorem d_M_deeper_3 : decode k_M_deeper 3 = .ok (.istore 4, 2) := by decide +kernel
theorem d_M_deeper_5 : decode k_M_deeper 5 = .ok (.iload 4, 2) := by decide +kernel
theorem d_M_deeper_7 : decode k_M_deeper 7 = .ok (.aload_n 0, 1) := by decide +kernel
theorem d_M_deeper_8 : decode k_M_deeper 8 = .ok (.getfield 56, 3) := by decide +kernel
theorem d_M_deeper_11 : decode k_M_deeper 11 = .ok (.if_icmp .ge 45, 3) := by decide +kernel
theorem d_M_deeper_14 : decode k_M_deeper 14 = .ok (.iload_n 1, 1) := by decide +kernel
theorem d_M_deeper_15 : decode k_M_deeper 15 = .ok (.iload 4, 2) := by decide +kernel
theorem d_M_deeper_17 : decode k_M_deeper 17 = .ok (.invokestatic 70, 3) := by decide +kernel
theorem d_M_deeper_20 : decode k_M_deeper 20 = .ok (.ifCond .eq 28, 3) := by decide +kernel
theorem d_M_deeper_23 : decode k_M_deeper 23 = .ok (.aload_n 0, 1) := by decide +kernel
theorem d_M_deeper_24 : decode k_M_deeper 24 = .ok (.getfield 22, 3) := by decide +kernel
theorem d_M_deeper_27 : decode k_M_deeper 27 = .ok (.aload_n 0, 1) := by decide +kernel
theorem d_M_deeper_28 : decode k_M_deeper 28 = .ok (.getfield 40, 3) := by decide +kernel
theorem d_M_deeper_31 : decode k_M_deeper 31 = .ok (.iload 4, 2) := by decide +kernel
theorem d_M_deeper_33 : decode k_M_deeper 33 = .ok (.iaload, 1) := by decide +kernel
theorem d_M_deeper_34 : decode k_M_deeper 34 = .ok (.iaload, 1) := by decide +kernel
theorem d_M_deeper_35 : decode k_M_deeper 35 = .ok (.iload_n 2, 1) := by decide +kernel
theorem d_M_deeper_36 : decode k_M_deeper 36 = .ok (.if_icmp .le 12, 3) := by decide +kernel
theorem d_M_deeper_39 : decode k_M_deeper 39 = .ok (.iload_n 3, 1) := by decide +kernel
theorem d_M_deeper_40 : decode k_M_deeper 40 = .ok (.iconst 1, 1) := by decide +kernel
theorem d_M_deeper_41 : decode k_M_deeper 41 = .ok (.iload 4, 2) := by decide +kernel
theorem d_M_deeper_43 : decode k_M_deeper 43 = .ok (.ishl, 1) := by decide +kernel
theorem d_M_deeper_44 : decode k_M_deeper 44 = .ok (.ior, 1) := by decide +kernel
theorem d_M_deeper_45 : decode k_M_deeper 45 = .ok (.goto 4, 3) := by decide +kernel
theorem d_M_deeper_48 : decode k_M_deeper 48 = .ok (.iload_n 3, 1) := by decide +kernel
theorem d_M_deeper_49 : decode k_M_deeper 49 = .ok (.istore_n 3, 1) := by decide +kernel
theorem d_M_deeper_50 : decode k_M_deeper 50 = .ok (.iinc 4 1, 3) := by decide +kernel
theorem d_M_deeper_53 : decode k_M_deeper 53 = .ok (.goto (-48), 3) := by decide +kernel
theorem d_M_deeper_56 : decode k_M_deeper 56 = .ok (.iload_n 3, 1) := by decide +kernel
theorem d_M_deeper_57 : decode k_M_deeper 57 = .ok (.ireturn, 1) := by decide +kernel
abbrev rm_M_deeper : Room := { frames := 1, cells := 0, slots := 0, locals := 21 }
theorem hd_M_deeper : y_M_deeper.cls = n_M ∧ y_M_deeper.cls ≠ "java/lang/invoke/MethodHandle" ∧ y_M_deeper.cls ≠ "java/lang/invoke/VarHandle" ∧ (parseMethodDescriptor y_M_deeper.desc).map (fun d => d.parameters.length) = some 2 := by decide +kernel
set_option maxHeartbeats 4000000 in
set_option maxRecDepth 100000 in
theorem c_M_deeper (l : Launch) (dC : Nat → ClassId) (dI : Nat → Nat → Nat) (n : Nat) (k : Nat) (wk : Bool) (fl : Bool) (cm : Nat) (bl : Int32) (sd : Int32) (sm : Int64) (co : Int32) (cf : Bool) (hm : Nat) (a1 : Nat) (a2 : Nat) (a3 : Nat) (a4 : Nat) (a5 : Nat) (a6 : Nat) (a7 : Nat) (a8 : Nat) (a9 : Nat) (a10 : Nat) (a11 : Nat) (a12 : Nat) (a13 : Nat) (a14 : Nat) (cI : ClassId) (Dp : Nat → Int32) (sh : Nat → Nat) (x : Int32) (lo : Int32) (hk : k ≤ 18) (hsh : ∀ j, sh j < 10) : Met l y_M_deeper (.code y_M_deeper k_M_deeper 5 (.some FieldType.int) :: gw) rm_M_deeper (roP [.ref hm, .int x, .int lo] (dC, dI) [(hm, .inr (5, [.int (nI n), .int (nI k), .ref a1, .ref a2, .int (bI wk), .int (bI fl), .int (nI cm), .ref a3, .ref a4, .int bl, .int sd, .long sm, .int co, .ref a5, .ref a6, .ref a7, .ref a8, .ref a9, .ref a10, .ref a11, .ref a12, .ref a13, .int (bI cf), .ref a14])), (a5, .inl (cI, 10, .inl Dp)), (a11, .inl (cI, 18, .inl (fun i9 => nI (sh i9))))] [(cI, .int)]) (vp_Si (fun r => r = fo (pm_de1 Dp sh x lo) k 0)) 0 0 (fun _ => False) := by
  refine ro_met (by decide) ⟨rfl, rfl⟩ rfl (Nat.le_of_ble_eq_true rfl) ?_
  intro p e s m args below meth c Q ls Sx hP hK hl hret
  have hx := Sx.1
  have hb := Sx.2.1
  have hl : lv_has ls 5 [(0, .ref hm), (1, .int x), (2, .int lo)] := hl
  refine lv_iconst (v := 0) hx hb d_M_deeper_0 (by decide) ?_
  refine lv_istore_n hx hb d_M_deeper_1 rfl hl (Nat.le_of_ble_eq_true rfl) rfl (fun ls hl => ?_)
  have hl : lv_has ls 5 [(3, .int 0), (0, .ref hm), (1, .int x), (2, .int lo)] := hl
  refine lv_iconst (v := nI 0) hx hb d_M_deeper_2 (by decide) ?_
  refine lv_istore hx hb d_M_deeper_3 hl (Nat.le_of_ble_eq_true rfl) rfl (fun ls hl => ?_)
  have hl : lv_has ls 5 [(4, .int (nI 0)), (3, .int 0), (0, .ref hm), (1, .int x), (2, .int lo)] := hl
  have hL5 : ∀ (kk i : Nat), i + kk = k → ∀ (d : Int32) (ls : Array Slot), d = fo (pm_de1 Dp sh x lo) i 0 → lv_has ls 5 [(4, .int (nI i)), (3, .int d), (0, .ref hm), (1, .int x), (2, .int lo)] → W p l e rm_M_deeper s m args below meth c s.heap [] 0 0 Q (F0 m 5 ls []) := by
    intro kk
    induction kk with
    | zero =>
      intro i hi5 d ls he5 hl
      have hj5 : i = k := by omega
      rw [hj5] at hl he5
      have e_d : d = (fo (pm_de1 Dp sh x lo) k 0) := by rw [← he5]
      subst e_d
      have hl : lv_has ls 5 [(4, .int (nI k)), (3, .int (fo (pm_de1 Dp sh x lo) k 0)), (0, .ref hm), (1, .int x), (2, .int lo)] := hl
      refine lv_iload hx hb d_M_deeper_5 (lv_at hl 0 rfl) ?_
      refine lv_aload_n hx hb d_M_deeper_7 rfl (lv_at hl 2 rfl) ?_
      refine g_get Sx gf_M hK hP 0 rfl rfl 1 (by decide) gm_420 rfl d_M_deeper_8 ?_
      refine lv_icmp_ge hx hb d_M_deeper_11 (tgt := 56) rfl (fun q1 => ?_) (fun q1 => ?_)
      · have q1 : k ≤ k := nq_le (by omega) (by omega) q1
        refine lv_iload_n hx hb d_M_deeper_56 rfl (lv_at hl 1 rfl) ?_
        exact hret _ _ d_M_deeper_57
      · have q1 : k < k := nq_nle (by omega) (by omega) q1
        exact absurd q1 (by omega)
    | succ kk ih5 =>
      intro i hi5 d ls he5 hl
      refine lv_iload hx hb d_M_deeper_5 (lv_at hl 0 rfl) ?_
      refine lv_aload_n hx hb d_M_deeper_7 rfl (lv_at hl 2 rfl) ?_
      refine g_get Sx gf_M hK hP 0 rfl rfl 1 (by decide) gm_420 rfl d_M_deeper_8 ?_
      refine lv_icmp_ge hx hb d_M_deeper_11 (tgt := 56) rfl (fun q2 => ?_) (fun q2 => ?_)
      · have q2 : k ≤ i := nq_le (by omega) (by omega) q2
        exact absurd q2 (by omega)
      · have q2 : i < k := nq_nle (by omega) (by omega) q2
        refine lv_iload_n hx hb d_M_deeper_14 rfl (lv_at hl 3 rfl) ?_
        refine lv_iload hx hb d_M_deeper_15 (lv_at hl 0 rfl) ?_
        refine ro_S (As := [.int x, .int (nI i)]) (rest := []) Sx (c_M_has l dC dI x (nI i)) (gw_callS gm_509 gm_510 gm_56 gm_511) hd_M_has ⟨rfl, rfl⟩ ⟨Nat.le_of_ble_eq_true rfl, Nat.le_of_ble_eq_true rfl⟩ (va_P_map hP [] rfl) (hK.sub (tys' := []) [] rfl) rfl hl.1 rfl (Nat.le_of_ble_eq_true rfl) d_M_deeper_17 ⟨Nat.zero_le _, Nat.zero_le _⟩ ?_
        refine lv_if_eq hx hb d_M_deeper_20 (tgt := 48) rfl (fun q3 => ?_) (fun q3 => ?_)
        · have q3 : (pm_has x (nI i)) = false := bI_0.mp q3
          refine lv_iload_n hx hb d_M_deeper_48 rfl (lv_at hl 1 rfl) ?_
          refine lv_istore_n hx hb d_M_deeper_49 rfl hl (Nat.le_of_ble_eq_true rfl) rfl (fun ls hl => ?_)
          have hl : lv_has ls 5 [(3, .int d), (4, .int (nI i)), (0, .ref hm), (1, .int x), (2, .int lo)] := hl
          refine lv_iinc (k := 1) (v := nI (i + 1)) hx hb d_M_deeper_50 hl rfl (inc_nI _) (Nat.le_of_ble_eq_true rfl) rfl (fun ls hl => ?_)
          have hl : lv_has ls 5 [(4, .int (nI (i + 1))), (3, .int d), (0, .ref hm), (1, .int x), (2, .int lo)] := hl
          refine lv_goto hx hb d_M_deeper_53 (tgt := 5) rfl ?_
          have he2 : d = fo (pm_de1 Dp sh x lo) (i + 1) 0 := by
            rw [fo_s, ← he5]
            simp [pm_de1, q2, q3]
          exact ih5 (i + 1) (by omega) d  ls he2  (lv_sub hl [0, 1, 2, 3, 4] rfl)
        · have q3 : (pm_has x (nI i)) = true := bI_1.mp q3
          refine lv_aload_n hx hb d_M_deeper_23 rfl (lv_at hl 2 rfl) ?_
          refine g_get Sx gf_M hK hP 0 rfl rfl 13 (by decide) gm_432 rfl d_M_deeper_24 ?_
          refine lv_aload_n hx hb d_M_deeper_27 rfl (lv_at hl 2 rfl) ?_
          refine g_get Sx gf_M hK hP 0 rfl rfl 19 (by decide) gm_438 rfl d_M_deeper_28 ?_
          refine lv_iload hx hb d_M_deeper_31 (lv_at hl 0 rfl) ?_
          refine g_ild (j := i) Sx hK hP 2 0 rfl rfl (by omega) (by decide) d_M_deeper_33 ?_
          refine g_ild (j := (sh i)) Sx hK hP 1 0 rfl rfl (hsh _) (by decide) d_M_deeper_34 ?_
          refine lv_iload_n hx hb d_M_deeper_35 rfl (lv_at hl 4 rfl) ?_
          refine lv_icmp_le hx hb d_M_deeper_36 (tgt := 48) rfl (fun q4 => ?_) (fun q4 => ?_)
          · skip
            refine lv_iload_n hx hb d_M_deeper_48 rfl (lv_at hl 1 rfl) ?_
            refine lv_istore_n hx hb d_M_deeper_49 rfl hl (Nat.le_of_ble_eq_true rfl) rfl (fun ls hl => ?_)
            have hl : lv_has ls 5 [(3, .int d), (4, .int (nI i)), (0, .ref hm), (1, .int x), (2, .int lo)] := hl
            refine lv_iinc (k := 1) (v := nI (i + 1)) hx hb d_M_deeper_50 hl rfl (inc_nI _) (Nat.le_of_ble_eq_true rfl) rfl (fun ls hl => ?_)
            have hl : lv_has ls 5 [(4, .int (nI (i + 1))), (3, .int d), (0, .ref hm), (1, .int x), (2, .int lo)] := hl
            refine lv_goto hx hb d_M_deeper_53 (tgt := 5) rfl ?_
            have he2 : d = fo (pm_de1 Dp sh x lo) (i + 1) 0 := by
              rw [fo_s, ← he5]
              simp [pm_de1, q2, q3, q4]
            exact ih5 (i + 1) (by omega) d  ls he2  (lv_sub hl [0, 1, 2, 3, 4] rfl)
          · skip
            refine lv_iload_n hx hb d_M_deeper_39 rfl (lv_at hl 1 rfl) ?_
            refine lv_iconst (v := 1) hx hb d_M_deeper_40 (by decide) ?_
            refine lv_iload hx hb d_M_deeper_41 (lv_at hl 0 rfl) ?_
            refine lv_ishl hx hb d_M_deeper_43 ?_
            refine lv_ior hx hb d_M_deeper_44 ?_
            refine lv_goto hx hb d_M_deeper_45 (tgt := 49) rfl ?_
            refine lv_istore_n hx hb d_M_deeper_49 rfl hl (Nat.le_of_ble_eq_true rfl) rfl (fun ls hl => ?_)
            have hl : lv_has ls 5 [(3, .int (d ||| (1 <<< ((nI i) &&& 31)))), (4, .int (nI i)), (0, .ref hm), (1, .int x), (2, .int lo)] := hl
            refine lv_iinc (k := 1) (v := nI (i + 1)) hx hb d_M_deeper_50 hl rfl (inc_nI _) (Nat.le_of_ble_eq_true rfl) rfl (fun ls hl => ?_)
            have hl : lv_has ls 5 [(4, .int (nI (i + 1))), (3, .int (d ||| (1 <<< ((nI i) &&& 31)))), (0, .ref hm), (1, .int x), (2, .int lo)] := hl
            refine lv_goto hx hb d_M_deeper_53 (tgt := 5) rfl ?_
            have he2 : (d ||| (1 <<< ((nI i) &&& 31))) = fo (pm_de1 Dp sh x lo) (i + 1) 0 := by
              rw [fo_s, ← he5]
              simp [pm_de1, q2, q3, q4]
            exact ih5 (i + 1) (by omega) (d ||| (1 <<< ((nI i) &&& 31)))  ls he2  (lv_sub hl [0, 1, 2, 3, 4] rfl)
  exact hL5 k 0 (by omega) 0  ls rfl  (lv_sub hl [0, 1, 2, 3, 4] rfl)
theorem d_M_tell_0 : decode k_M_tell 0 = .ok (.aload_n 0, 1) := by decide +kernel
theorem d_M_tell_1 : decode k_M_tell 1 = .ok (.getfield 43, 3) := by decide +kernel
theorem d_M_tell_4 : decode k_M_tell 4 = .ok (.iload_n 1, 1) := by decide +kernel
theorem d_M_tell_5 : decode k_M_tell 5 = .ok (.iaload, 1) := by decide +kernel
theorem d_M_tell_6 : decode k_M_tell 6 = .ok (.aload_n 0, 1) := by decide +kernel
theorem d_M_tell_7 : decode k_M_tell 7 = .ok (.getfield 43, 3) := by decide +kernel
theorem d_M_tell_10 : decode k_M_tell 10 = .ok (.iload_n 2, 1) := by decide +kernel
theorem d_M_tell_11 : decode k_M_tell 11 = .ok (.iaload, 1) := by decide +kernel
theorem d_M_tell_12 : decode k_M_tell 12 = .ok (.if_icmp .ne 37, 3) := by decide +kernel
theorem d_M_tell_15 : decode k_M_tell 15 = .ok (.aload_n 0, 1) := by decide +kernel
theorem d_M_tell_16 : decode k_M_tell 16 = .ok (.aload_n 0, 1) := by decide +kernel
theorem d_M_tell_17 : decode k_M_tell 17 = .ok (.getfield 94, 3) := by decide +kernel
theorem d_M_tell_20 : decode k_M_tell 20 = .ok (.ifCond .ne 20, 3) := by decide +kernel
theorem d_M_tell_23 : decode k_M_tell 23 = .ok (.aload_n 0, 1) := by decide +kernel
theorem d_M_tell_24 : decode k_M_tell 24 = .ok (.getfield 46, 3) := by decide +kernel
theorem d_M_tell_27 : decode k_M_tell 27 = .ok (.iload_n 1, 1) := by decide +kernel
theorem d_M_tell_28 : decode k_M_tell 28 = .ok (.iaload, 1) := by decide +kernel
theorem d_M_tell_29 : decode k_M_tell 29 = .ok (.aload_n 0, 1) := by decide +kernel
theorem d_M_tell_30 : decode k_M_tell 30 = .ok (.getfield 46, 3) := by decide +kernel
theorem d_M_tell_33 : decode k_M_tell 33 = .ok (.iload_n 2, 1) := by decide +kernel
theorem d_M_tell_34 : decode k_M_tell 34 = .ok (.iaload, 1) := by decide +kernel
theorem d_M_tell_35 : decode k_M_tell 35 = .ok (.ixor, 1) := by decide +kernel
theorem d_M_tell_36 : decode k_M_tell 36 = .ok (.iload_n 3, 1) := by decide +kernel
theorem d_M_tell_37 : decode k_M_tell 37 = .ok (.if_icmp .eq 7, 3) := by decide +kernel
theorem d_M_tell_40 : decode k_M_tell 40 = .ok (.iconst 1, 1) := by decide +kernel
theorem d_M_tell_41 : decode k_M_tell 41 = .ok (.goto 4, 3) := by decide +kernel
theorem d_M_tell_44 : decode k_M_tell 44 = .ok (.iconst 0, 1) := by decide +kernel
theorem d_M_tell_45 : decode k_M_tell 45 = .ok (.putfield 94, 3) := by decide +kernel
theorem d_M_tell_48 : decode k_M_tell 48 = .ok (.return_, 1) := by decide +kernel
theorem d_M_tell_49 : decode k_M_tell 49 = .ok (.aload_n 0, 1) := by decide +kernel
theorem d_M_tell_50 : decode k_M_tell 50 = .ok (.getfield 43, 3) := by decide +kernel
theorem d_M_tell_53 : decode k_M_tell 53 = .ok (.iload_n 2, 1) := by decide +kernel
theorem d_M_tell_54 : decode k_M_tell 54 = .ok (.iaload, 1) := by decide +kernel
theorem d_M_tell_55 : decode k_M_tell 55 = .ok (.istore 4, 2) := by decide +kernel
theorem d_M_tell_57 : decode k_M_tell 57 = .ok (.aload_n 0, 1) := by decide +kernel
theorem d_M_tell_58 : decode k_M_tell 58 = .ok (.getfield 46, 3) := by decide +kernel
theorem d_M_tell_61 : decode k_M_tell 61 = .ok (.iload_n 1, 1) := by decide +kernel
theorem d_M_tell_62 : decode k_M_tell 62 = .ok (.iaload, 1) := by decide +kernel
theorem d_M_tell_63 : decode k_M_tell 63 = .ok (.aload_n 0, 1) := by decide +kernel
theorem d_M_tell_64 : decode k_M_tell 64 = .ok (.getfield 46, 3) := by decide +kernel
theorem d_M_tell_67 : decode k_M_tell 67 = .ok (.iload_n 2, 1) := by decide +kernel
theorem d_M_tell_68 : decode k_M_tell 68 = .ok (.iaload, 1) := by decide +kernel
theorem d_M_tell_69 : decode k_M_tell 69 = .ok (.ixor, 1) := by decide +kernel
theorem d_M_tell_70 : decode k_M_tell 70 = .ok (.iload_n 3, 1) := by decide +kernel
theorem d_M_tell_71 : decode k_M_tell 71 = .ok (.ixor, 1) := by decide +kernel
theorem d_M_tell_72 : decode k_M_tell 72 = .ok (.istore 5, 2) := by decide +kernel
theorem d_M_tell_74 : decode k_M_tell 74 = .ok (.iconst 0, 1) := by decide +kernel
theorem d_M_tell_75 : decode k_M_tell 75 = .ok (.istore 6, 2) := by decide +kernel
theorem d_M_tell_77 : decode k_M_tell 77 = .ok (.iload 6, 2) := by decide +kernel
theorem d_M_tell_79 : decode k_M_tell 79 = .ok (.aload_n 0, 1) := by decide +kernel
theorem d_M_tell_80 : decode k_M_tell 80 = .ok (.getfield 56, 3) := by decide +kernel
theorem d_M_tell_83 : decode k_M_tell 83 = .ok (.if_icmp .ge 51, 3) := by decide +kernel
theorem d_M_tell_86 : decode k_M_tell 86 = .ok (.aload_n 0, 1) := by decide +kernel
theorem d_M_tell_87 : decode k_M_tell 87 = .ok (.getfield 43, 3) := by decide +kernel
theorem d_M_tell_90 : decode k_M_tell 90 = .ok (.iload 6, 2) := by decide +kernel
theorem d_M_tell_92 : decode k_M_tell 92 = .ok (.iaload, 1) := by decide +kernel
theorem d_M_tell_93 : decode k_M_tell 93 = .ok (.iload 4, 2) := by decide +kernel
theorem d_M_tell_95 : decode k_M_tell 95 = .ok (.if_icmp .ne 33, 3) := by decide +kernel
theorem d_M_tell_98 : decode k_M_tell 98 = .ok (.aload_n 0, 1) := by decide +kernel
theorem d_M_tell_99 : decode k_M_tell 99 = .ok (.getfield 43, 3) := by decide +kernel
theorem d_M_tell_102 : decode k_M_tell 102 = .ok (.iload 6, 2) := by decide +kernel
theorem d_M_tell_104 : decode k_M_tell 104 = .ok (.aload_n 0, 1) := by decide +kernel
theorem d_M_tell_105 : decode k_M_tell 105 = .ok (.getfield 43, 3) := by decide +kernel
theorem d_M_tell_108 : decode k_M_tell 108 = .ok (.iload_n 1, 1) := by decide +kernel
theorem d_M_tell_109 : decode k_M_tell 109 = .ok (.iaload, 1) := by decide +kernel
theorem d_M_tell_110 : decode k_M_tell 110 = .ok (.iastore, 1) := by decide +kernel
theorem d_M_tell_111 : decode k_M_tell 111 = .ok (.aload_n 0, 1) := by decide +kernel
theorem d_M_tell_112 : decode k_M_tell 112 = .ok (.getfield 46, 3) := by decide +kernel
theorem d_M_tell_115 : decode k_M_tell 115 = .ok (.iload 6, 2) := by decide +kernel
theorem d_M_tell_117 : decode k_M_tell 117 = .ok (.aload_n 0, 1) := by decide +kernel
theorem d_M_tell_118 : decode k_M_tell 118 = .ok (.getfield 46, 3) := by decide +kernel
theorem d_M_tell_121 : decode k_M_tell 121 = .ok (.iload 6, 2) := by decide +kernel
theorem d_M_tell_123 : decode k_M_tell 123 = .ok (.iaload, 1) := by decide +kernel
theorem d_M_tell_124 : decode k_M_tell 124 = .ok (.iload 5, 2) := by decide +kernel
theorem d_M_tell_126 : decode k_M_tell 126 = .ok (.ixor, 1) := by decide +kernel
theorem d_M_tell_127 : decode k_M_tell 127 = .ok (.iastore, 1) := by decide +kernel
theorem d_M_tell_128 : decode k_M_tell 128 = .ok (.iinc 6 1, 3) := by decide +kernel
theorem d_M_tell_131 : decode k_M_tell 131 = .ok (.goto (-54), 3) := by decide +kernel
theorem d_M_tell_134 : decode k_M_tell 134 = .ok (.return_, 1) := by decide +kernel
abbrev rm_M_tell : Room := { frames := 0, cells := 0, slots := 0, locals := 0 }
theorem hd_M_tell : y_M_tell.cls = n_M ∧ y_M_tell.cls ≠ "java/lang/invoke/MethodHandle" ∧ y_M_tell.cls ≠ "java/lang/invoke/VarHandle" ∧ (parseMethodDescriptor y_M_tell.desc).map (fun d => d.parameters.length) = some 3 := by decide +kernel
set_option maxHeartbeats 4000000 in
set_option maxRecDepth 100000 in
theorem c_M_tell (l : Launch) (dC : Nat → ClassId) (dI : Nat → Nat → Nat) (n : Nat) (k : Nat) (wk : Bool) (fl : Bool) (cm : Nat) (bl : Int32) (sd : Int32) (sm : Int64) (co : Int32) (cf : Bool) (hm : Nat) (a1 : Nat) (a2 : Nat) (a3 : Nat) (a4 : Nat) (a5 : Nat) (a6 : Nat) (a7 : Nat) (a8 : Nat) (a9 : Nat) (a10 : Nat) (a11 : Nat) (a12 : Nat) (a13 : Nat) (a14 : Nat) (cI : ClassId) (gp : Nat → Int32) (hd : Nat → Int32) (f0 : Nat) (g0 : Nat) (z : Int32) (sz : Nat) (hk : k ≤ 18) (hf : f0 < 18) (hg : g0 < 18) : Met l y_M_tell (.code y_M_tell k_M_tell 7 none :: gw) rm_M_tell (rwP [.ref hm, .int (nI f0), .int (nI g0), .int z] (dC, dI) [(hm, .inr (5, [.int (nI n), .int (nI k), .ref a1, .ref a2, .int (bI wk), .int (bI fl), .int (nI cm), .ref a3, .ref a4, .int bl, .int sd, .long sm, .int co, .ref a5, .ref a6, .ref a7, .ref a8, .ref a9, .ref a10, .ref a11, .ref a12, .ref a13, .int (bI cf), .ref a14])), (a12, .inl (cI, 18, .inl gp)), (a13, .inl (cI, 18, .inl hd))] [(cI, .int)] sz) (va_Qv (fun _ : Unit => True) (rwB (dC, dI) [(hm, .inr (5, [.int (nI n), .int (nI k), .ref a1, .ref a2, .int (bI wk), .int (bI fl), .int (nI cm), .ref a3, .ref a4, .int bl, .int sd, .long sm, .int co, .ref a5, .ref a6, .ref a7, .ref a8, .ref a9, .ref a10, .ref a11, .ref a12, .ref a13, .int (bI ((pm_tell k f0 g0 z gp hd cf).2.2)), .ref a14])), (a12, .inl (cI, 18, .inl ((pm_tell k f0 g0 z gp hd cf).1))), (a13, .inl (cI, 18, .inl ((pm_tell k f0 g0 z gp hd cf).2.1)))] [(cI, .int)] (va_A [(hm, .inr (5, [.int (nI n), .int (nI k), .ref a1, .ref a2, .int (bI wk), .int (bI fl), .int (nI cm), .ref a3, .ref a4, .int bl, .int sd, .long sm, .int co, .ref a5, .ref a6, .ref a7, .ref a8, .ref a9, .ref a10, .ref a11, .ref a12, .ref a13, .int (bI cf), .ref a14])), (a12, .inl (cI, 18, .inl gp)), (a13, .inl (cI, 18, .inl hd))] sz)) (va_A [(hm, .inr (5, [.int (nI n), .int (nI k), .ref a1, .ref a2, .int (bI wk), .int (bI fl), .int (nI cm), .ref a3, .ref a4, .int bl, .int sd, .long sm, .int co, .ref a5, .ref a6, .ref a7, .ref a8, .ref a9, .ref a10, .ref a11, .ref a12, .ref a13, .int (bI cf), .ref a14])), (a12, .inl (cI, 18, .inl gp)), (a13, .inl (cI, 18, .inl hd))] sz)) 0 0 (va_A [(hm, .inr (5, [.int (nI n), .int (nI k), .ref a1, .ref a2, .int (bI wk), .int (bI fl), .int (nI cm), .ref a3, .ref a4, .int bl, .int sd, .long sm, .int co, .ref a5, .ref a6, .ref a7, .ref a8, .ref a9, .ref a10, .ref a11, .ref a12, .ref a13, .int (bI cf), .ref a14])), (a12, .inl (cI, 18, .inl gp)), (a13, .inl (cI, 18, .inl hd))] sz) := by
  refine rw_met (by decide) ⟨rfl, rfl⟩ (Nat.le_of_ble_eq_true rfl) ?_
  intro p e s m args below meth c Q A ls Sx hP hK hD hA hl hret
  have hx := Sx.1
  have hb := Sx.2.1
  have hl : lv_has ls 7 [(0, .ref hm), (1, .int (nI f0)), (2, .int (nI g0)), (3, .int z)] := hl
  have hS : va_S A s.heap s.heap [] := va_S.rf
  obtain ⟨H, hH⟩ : ∃ H, H = s.heap := ⟨_, rfl⟩
  obtain ⟨locs, hlo⟩ : ∃ locs : List Loc, locs = [] := ⟨_, rfl⟩
  rw [← hlo]
  rw [← hlo] at hS
  have hP : va_P (dC, dI) pcl [(hm, .inr (5, [.int (nI n), .int (nI k), .ref a1, .ref a2, .int (bI wk), .int (bI fl), .int (nI cm), .ref a3, .ref a4, .int bl, .int sd, .long sm, .int co, .ref a5, .ref a6, .ref a7, .ref a8, .ref a9, .ref a10, .ref a11, .ref a12, .ref a13, .int (bI cf), .ref a14])), (a12, .inl (cI, 18, .inl gp)), (a13, .inl (cI, 18, .inl hd))] H := by rw [hH]; exact hP
  have hS : va_S A s.heap H locs := by rw [hH]; exact hS
  suffices hgo : W p l e rm_M_tell s m args below meth c H locs 0 0 Q (F0 m 0 ls []) by rw [hH] at hgo; exact hgo
  refine lv_aload_n hx hb d_M_tell_0 rfl (lv_at hl 0 rfl) ?_
  refine g_get Sx gf_M hK hP 0 rfl rfl 20 (by decide) gm_439 rfl d_M_tell_1 ?_
  refine lv_iload_n hx hb d_M_tell_4 rfl (lv_at hl 1 rfl) ?_
  refine g_ild (j := f0) Sx hK hP 1 0 rfl rfl (by omega) (by decide) d_M_tell_5 ?_
  refine lv_aload_n hx hb d_M_tell_6 rfl (lv_at hl 0 rfl) ?_
  refine g_get Sx gf_M hK hP 0 rfl rfl 20 (by decide) gm_439 rfl d_M_tell_7 ?_
  refine lv_iload_n hx hb d_M_tell_10 rfl (lv_at hl 2 rfl) ?_
  refine g_ild (j := g0) Sx hK hP 1 0 rfl rfl (by omega) (by decide) d_M_tell_11 ?_
  refine lv_icmp_ne hx hb d_M_tell_12 (tgt := 49) rfl (fun q1 => ?_) (fun q1 => ?_)
  · skip
    refine lv_aload_n hx hb d_M_tell_49 rfl (lv_at hl 0 rfl) ?_
    refine g_get Sx gf_M hK hP 0 rfl rfl 20 (by decide) gm_439 rfl d_M_tell_50 ?_
    refine lv_iload_n hx hb d_M_tell_53 rfl (lv_at hl 2 rfl) ?_
    refine g_ild (j := g0) Sx hK hP 1 0 rfl rfl (by omega) (by decide) d_M_tell_54 ?_
    refine lv_istore hx hb d_M_tell_55 hl (Nat.le_of_ble_eq_true rfl) rfl (fun ls hl => ?_)
    have hl : lv_has ls 7 [(4, .int (gp g0)), (0, .ref hm), (1, .int (nI f0)), (2, .int (nI g0)), (3, .int z)] := hl
    refine lv_aload_n hx hb d_M_tell_57 rfl (lv_at hl 1 rfl) ?_
    refine g_get Sx gf_M hK hP 0 rfl rfl 21 (by decide) gm_440 rfl d_M_tell_58 ?_
    refine lv_iload_n hx hb d_M_tell_61 rfl (lv_at hl 2 rfl) ?_
    refine g_ild (j := f0) Sx hK hP 2 0 rfl rfl (by omega) (by decide) d_M_tell_62 ?_
    refine lv_aload_n hx hb d_M_tell_63 rfl (lv_at hl 1 rfl) ?_
    refine g_get Sx gf_M hK hP 0 rfl rfl 21 (by decide) gm_440 rfl d_M_tell_64 ?_
    refine lv_iload_n hx hb d_M_tell_67 rfl (lv_at hl 3 rfl) ?_
    refine g_ild (j := g0) Sx hK hP 2 0 rfl rfl (by omega) (by decide) d_M_tell_68 ?_
    refine lv_ixor hx hb d_M_tell_69 ?_
    refine lv_iload_n hx hb d_M_tell_70 rfl (lv_at hl 4 rfl) ?_
    refine lv_ixor hx hb d_M_tell_71 ?_
    refine lv_istore hx hb d_M_tell_72 hl (Nat.le_of_ble_eq_true rfl) rfl (fun ls hl => ?_)
    have hl : lv_has ls 7 [(5, .int (((hd f0) ^^^ (hd g0)) ^^^ z)), (4, .int (gp g0)), (0, .ref hm), (1, .int (nI f0)), (2, .int (nI g0)), (3, .int z)] := hl
    refine lv_iconst (v := nI 0) hx hb d_M_tell_74 (by decide) ?_
    refine lv_istore hx hb d_M_tell_75 hl (Nat.le_of_ble_eq_true rfl) rfl (fun ls hl => ?_)
    have hl : lv_has ls 7 [(6, .int (nI 0)), (5, .int (((hd f0) ^^^ (hd g0)) ^^^ z)), (4, .int (gp g0)), (0, .ref hm), (1, .int (nI f0)), (2, .int (nI g0)), (3, .int z)] := hl
    have hL77 : ∀ (kk i : Nat), i + kk = k → ∀ (gp1 : Nat → Int32) (hd1 : Nat → Int32) (H : Heap) (locs : List Loc) (ls : Array Slot), (gp1, hd1) = fo (pm_t1 f0 (gp g0) ((hd f0 ^^^ hd g0) ^^^ z)) i (gp, hd) → va_P (dC, dI) pcl [(hm, .inr (5, [.int (nI n), .int (nI k), .ref a1, .ref a2, .int (bI wk), .int (bI fl), .int (nI cm), .ref a3, .ref a4, .int bl, .int sd, .long sm, .int co, .ref a5, .ref a6, .ref a7, .ref a8, .ref a9, .ref a10, .ref a11, .ref a12, .ref a13, .int (bI cf), .ref a14])), (a12, .inl (cI, 18, .inl gp1)), (a13, .inl (cI, 18, .inl hd1))] H → va_D A [(hm, .inr (5, [.int (nI n), .int (nI k), .ref a1, .ref a2, .int (bI wk), .int (bI fl), .int (nI cm), .ref a3, .ref a4, .int bl, .int sd, .long sm, .int co, .ref a5, .ref a6, .ref a7, .ref a8, .ref a9, .ref a10, .ref a11, .ref a12, .ref a13, .int (bI cf), .ref a14])), (a12, .inl (cI, 18, .inl gp1)), (a13, .inl (cI, 18, .inl hd1))] → va_S A s.heap H locs → lv_has ls 7 [(6, .int (nI i)), (5, .int ((hd f0 ^^^ hd g0) ^^^ z)), (4, .int (gp g0)), (0, .ref hm), (1, .int (nI f0)), (2, .int (nI g0)), (3, .int z)] → W p l e rm_M_tell s m args below meth c H locs 0 0 Q (F0 m 77 ls []) := by
      intro kk
      induction kk with
      | zero =>
        intro i hi77 gp1 hd1 H locs ls he77 hP hD hS hl
        have hj77 : i = k := by omega
        rw [hj77] at hl he77
        have e_gp1 : gp1 = (fo (pm_t1 f0 (gp g0) ((hd f0 ^^^ hd g0) ^^^ z)) k (gp, hd)).1 := by rw [← he77]
        subst e_gp1
        have e_hd1 : hd1 = (fo (pm_t1 f0 (gp g0) ((hd f0 ^^^ hd g0) ^^^ z)) k (gp, hd)).2 := by rw [← he77]
        subst e_hd1
        have hl : lv_has ls 7 [(6, .int (nI k)), (5, .int ((hd f0 ^^^ hd g0) ^^^ z)), (4, .int (gp g0)), (0, .ref hm), (1, .int (nI f0)), (2, .int (nI g0)), (3, .int z)] := hl
        have hP : va_P (dC, dI) pcl [(hm, .inr (5, [.int (nI n), .int (nI k), .ref a1, .ref a2, .int (bI wk), .int (bI fl), .int (nI cm), .ref a3, .ref a4, .int bl, .int sd, .long sm, .int co, .ref a5, .ref a6, .ref a7, .ref a8, .ref a9, .ref a10, .ref a11, .ref a12, .ref a13, .int (bI cf), .ref a14])), (a12, .inl (cI, 18, .inl ((fo (pm_t1 f0 (gp g0) ((hd f0 ^^^ hd g0) ^^^ z)) k (gp, hd)).1))), (a13, .inl (cI, 18, .inl ((fo (pm_t1 f0 (gp g0) ((hd f0 ^^^ hd g0) ^^^ z)) k (gp, hd)).2)))] H := hP
        have hD : va_D A [(hm, .inr (5, [.int (nI n), .int (nI k), .ref a1, .ref a2, .int (bI wk), .int (bI fl), .int (nI cm), .ref a3, .ref a4, .int bl, .int sd, .long sm, .int co, .ref a5, .ref a6, .ref a7, .ref a8, .ref a9, .ref a10, .ref a11, .ref a12, .ref a13, .int (bI cf), .ref a14])), (a12, .inl (cI, 18, .inl ((fo (pm_t1 f0 (gp g0) ((hd f0 ^^^ hd g0) ^^^ z)) k (gp, hd)).1))), (a13, .inl (cI, 18, .inl ((fo (pm_t1 f0 (gp g0) ((hd f0 ^^^ hd g0) ^^^ z)) k (gp, hd)).2)))] := hD
        refine lv_iload hx hb d_M_tell_77 (lv_at hl 0 rfl) ?_
        refine lv_aload_n hx hb d_M_tell_79 rfl (lv_at hl 3 rfl) ?_
        refine g_get Sx gf_M hK hP 0 rfl rfl 1 (by decide) gm_420 rfl d_M_tell_80 ?_
        refine lv_icmp_ge hx hb d_M_tell_83 (tgt := 134) rfl (fun q2 => ?_) (fun q2 => ?_)
        · have q2 : k ≤ k := nq_le (by omega) (by omega) q2
          rw [show pm_tell k f0 g0 z gp hd cf = (((fo (pm_t1 f0 (gp g0) ((hd f0 ^^^ hd g0) ^^^ z)) k (gp, hd)).1), ((fo (pm_t1 f0 (gp g0) ((hd f0 ^^^ hd g0) ^^^ z)) k (gp, hd)).2), cf) from by simp [pm_tell, q1, q2]] at hret
          exact hret _ H locs _ d_M_tell_134 hP hD hS
        · have q2 : k < k := nq_nle (by omega) (by omega) q2
          exact absurd q2 (by omega)
      | succ kk ih77 =>
        intro i hi77 gp1 hd1 H locs ls he77 hP hD hS hl
        refine lv_iload hx hb d_M_tell_77 (lv_at hl 0 rfl) ?_
        refine lv_aload_n hx hb d_M_tell_79 rfl (lv_at hl 3 rfl) ?_
        refine g_get Sx gf_M hK hP 0 rfl rfl 1 (by decide) gm_420 rfl d_M_tell_80 ?_
        refine lv_icmp_ge hx hb d_M_tell_83 (tgt := 134) rfl (fun q3 => ?_) (fun q3 => ?_)
        · have q3 : k ≤ i := nq_le (by omega) (by omega) q3
          exact absurd q3 (by omega)
        · have q3 : i < k := nq_nle (by omega) (by omega) q3
          refine lv_aload_n hx hb d_M_tell_86 rfl (lv_at hl 3 rfl) ?_
          refine g_get Sx gf_M hK hP 0 rfl rfl 20 (by decide) gm_439 rfl d_M_tell_87 ?_
          refine lv_iload hx hb d_M_tell_90 (lv_at hl 0 rfl) ?_
          refine g_ild (j := i) Sx hK hP 1 0 rfl rfl (by omega) (by decide) d_M_tell_92 ?_
          refine lv_iload hx hb d_M_tell_93 (lv_at hl 2 rfl) ?_
          refine lv_icmp_ne hx hb d_M_tell_95 (tgt := 128) rfl (fun q4 => ?_) (fun q4 => ?_)
          · skip
            refine lv_iinc (k := 0) (v := nI (i + 1)) hx hb d_M_tell_128 hl rfl (inc_nI _) (Nat.le_of_ble_eq_true rfl) rfl (fun ls hl => ?_)
            have hl : lv_has ls 7 [(6, .int (nI (i + 1))), (5, .int ((hd f0 ^^^ hd g0) ^^^ z)), (4, .int (gp g0)), (0, .ref hm), (1, .int (nI f0)), (2, .int (nI g0)), (3, .int z)] := hl
            refine lv_goto hx hb d_M_tell_131 (tgt := 77) rfl ?_
            have he2 : (gp1, hd1) = fo (pm_t1 f0 (gp g0) ((hd f0 ^^^ hd g0) ^^^ z)) (i + 1) (gp, hd) := by
              rw [fo_s, ← he77]
              simp [pm_t1, q1, q3, q4]
            exact ih77 (i + 1) (by omega) gp1 hd1 H locs ls he2 hP hD hS (lv_sub hl [0, 1, 2, 3, 4, 5, 6] rfl)
          · skip
            refine lv_aload_n hx hb d_M_tell_98 rfl (lv_at hl 3 rfl) ?_
            refine g_get Sx gf_M hK hP 0 rfl rfl 20 (by decide) gm_439 rfl d_M_tell_99 ?_
            refine lv_iload hx hb d_M_tell_102 (lv_at hl 0 rfl) ?_
            refine lv_aload_n hx hb d_M_tell_104 rfl (lv_at hl 3 rfl) ?_
            refine g_get Sx gf_M hK hP 0 rfl rfl 20 (by decide) gm_439 rfl d_M_tell_105 ?_
            refine lv_iload_n hx hb d_M_tell_108 rfl (lv_at hl 4 rfl) ?_
            refine g_ild (j := f0) Sx hK hP 1 0 rfl rfl (by omega) (by decide) d_M_tell_109 ?_
            refine g_ist (j := i) Sx hK hP hD hS 1 0 rfl rfl (by omega) (by decide) d_M_tell_110 (fun H locs hP hD hS => ?_)
            have hP : va_P (dC, dI) pcl [(hm, .inr (5, [.int (nI n), .int (nI k), .ref a1, .ref a2, .int (bI wk), .int (bI fl), .int (nI cm), .ref a3, .ref a4, .int bl, .int sd, .long sm, .int co, .ref a5, .ref a6, .ref a7, .ref a8, .ref a9, .ref a10, .ref a11, .ref a12, .ref a13, .int (bI cf), .ref a14])), (a12, .inl (cI, 18, .inl (upd gp1 i (gp1 f0)))), (a13, .inl (cI, 18, .inl hd1))] H := hP
            have hD : va_D A [(hm, .inr (5, [.int (nI n), .int (nI k), .ref a1, .ref a2, .int (bI wk), .int (bI fl), .int (nI cm), .ref a3, .ref a4, .int bl, .int sd, .long sm, .int co, .ref a5, .ref a6, .ref a7, .ref a8, .ref a9, .ref a10, .ref a11, .ref a12, .ref a13, .int (bI cf), .ref a14])), (a12, .inl (cI, 18, .inl (upd gp1 i (gp1 f0)))), (a13, .inl (cI, 18, .inl hd1))] := hD
            refine lv_aload_n hx hb d_M_tell_111 rfl (lv_at hl 3 rfl) ?_
            refine g_get Sx gf_M hK hP 0 rfl rfl 21 (by decide) gm_440 rfl d_M_tell_112 ?_
            refine lv_iload hx hb d_M_tell_115 (lv_at hl 0 rfl) ?_
            refine lv_aload_n hx hb d_M_tell_117 rfl (lv_at hl 3 rfl) ?_
            refine g_get Sx gf_M hK hP 0 rfl rfl 21 (by decide) gm_440 rfl d_M_tell_118 ?_
            refine lv_iload hx hb d_M_tell_121 (lv_at hl 0 rfl) ?_
            refine g_ild (j := i) Sx hK hP 2 0 rfl rfl (by omega) (by decide) d_M_tell_123 ?_
            refine lv_iload hx hb d_M_tell_124 (lv_at hl 1 rfl) ?_
            refine lv_ixor hx hb d_M_tell_126 ?_
            refine g_ist (j := i) Sx hK hP hD hS 2 0 rfl rfl (by omega) (by decide) d_M_tell_127 (fun H locs hP hD hS => ?_)
            have hP : va_P (dC, dI) pcl [(hm, .inr (5, [.int (nI n), .int (nI k), .ref a1, .ref a2, .int (bI wk), .int (bI fl), .int (nI cm), .ref a3, .ref a4, .int bl, .int sd, .long sm, .int co, .ref a5, .ref a6, .ref a7, .ref a8, .ref a9, .ref a10, .ref a11, .ref a12, .ref a13, .int (bI cf), .ref a14])), (a12, .inl (cI, 18, .inl (upd gp1 i (gp1 f0)))), (a13, .inl (cI, 18, .inl (upd hd1 i ((hd1 i) ^^^ ((hd f0 ^^^ hd g0) ^^^ z)))))] H := hP
            have hD : va_D A [(hm, .inr (5, [.int (nI n), .int (nI k), .ref a1, .ref a2, .int (bI wk), .int (bI fl), .int (nI cm), .ref a3, .ref a4, .int bl, .int sd, .long sm, .int co, .ref a5, .ref a6, .ref a7, .ref a8, .ref a9, .ref a10, .ref a11, .ref a12, .ref a13, .int (bI cf), .ref a14])), (a12, .inl (cI, 18, .inl (upd gp1 i (gp1 f0)))), (a13, .inl (cI, 18, .inl (upd hd1 i ((hd1 i) ^^^ ((hd f0 ^^^ hd g0) ^^^ z)))))] := hD
            refine lv_iinc (k := 0) (v := nI (i + 1)) hx hb d_M_tell_128 hl rfl (inc_nI _) (Nat.le_of_ble_eq_true rfl) rfl (fun ls hl => ?_)
            have hl : lv_has ls 7 [(6, .int (nI (i + 1))), (5, .int ((hd f0 ^^^ hd g0) ^^^ z)), (4, .int (gp g0)), (0, .ref hm), (1, .int (nI f0)), (2, .int (nI g0)), (3, .int z)] := hl
            refine lv_goto hx hb d_M_tell_131 (tgt := 77) rfl ?_
            have he2 : (upd gp1 i (gp1 f0), upd hd1 i ((hd1 i) ^^^ ((hd f0 ^^^ hd g0) ^^^ z))) = fo (pm_t1 f0 (gp g0) ((hd f0 ^^^ hd g0) ^^^ z)) (i + 1) (gp, hd) := by
              rw [fo_s, ← he77]
              simp [pm_t1, q1, q3, q4]
            exact ih77 (i + 1) (by omega) (upd gp1 i (gp1 f0)) (upd hd1 i ((hd1 i) ^^^ ((hd f0 ^^^ hd g0) ^^^ z))) H locs ls he2 hP hD hS (lv_sub hl [0, 1, 2, 3, 4, 5, 6] rfl)
    exact hL77 k 0 (by omega) gp hd H locs ls rfl hP hD hS (lv_sub hl [0, 1, 2, 3, 4, 5, 6] rfl)
  · skip
    refine lv_aload_n hx hb d_M_tell_15 rfl (lv_at hl 0 rfl) ?_
    refine lv_aload_n hx hb d_M_tell_16 rfl (lv_at hl 0 rfl) ?_
    refine g_get Sx gf_M hK hP 0 rfl rfl 22 (by decide) gm_441 rfl d_M_tell_17 ?_
    refine lv_if_ne hx hb d_M_tell_20 (tgt := 40) rfl (fun q5 => ?_) (fun q5 => ?_)
    · have q5 : cf = true := bI_1.mp q5
      refine lv_iconst (v := 1) hx hb d_M_tell_40 (by decide) ?_
      refine lv_goto hx hb d_M_tell_41 (tgt := 45) rfl ?_
      refine g_put Sx gf_M fk_M fn_M hK hP hD hS 0 rfl rfl 22 (by decide) gm_441 rfl rfl rfl (Nat.le_of_ble_eq_true rfl) d_M_tell_45 (fun H locs hP hD hS => ?_)
      have hP : va_P (dC, dI) pcl [(hm, .inr (5, [.int (nI n), .int (nI k), .ref a1, .ref a2, .int (bI wk), .int (bI fl), .int (nI cm), .ref a3, .ref a4, .int bl, .int sd, .long sm, .int co, .ref a5, .ref a6, .ref a7, .ref a8, .ref a9, .ref a10, .ref a11, .ref a12, .ref a13, .int 1, .ref a14])), (a12, .inl (cI, 18, .inl gp)), (a13, .inl (cI, 18, .inl hd))] H := hP
      have hD : va_D A [(hm, .inr (5, [.int (nI n), .int (nI k), .ref a1, .ref a2, .int (bI wk), .int (bI fl), .int (nI cm), .ref a3, .ref a4, .int bl, .int sd, .long sm, .int co, .ref a5, .ref a6, .ref a7, .ref a8, .ref a9, .ref a10, .ref a11, .ref a12, .ref a13, .int 1, .ref a14])), (a12, .inl (cI, 18, .inl gp)), (a13, .inl (cI, 18, .inl hd))] := hD
      rw [show pm_tell k f0 g0 z gp hd cf = (gp, hd, true) from by simp [pm_tell, q1, q5]] at hret
      exact hret _ H locs _ d_M_tell_48 hP hD hS
    · have q5 : cf = false := bI_0.mp q5
      refine lv_aload_n hx hb d_M_tell_23 rfl (lv_at hl 0 rfl) ?_
      refine g_get Sx gf_M hK hP 0 rfl rfl 21 (by decide) gm_440 rfl d_M_tell_24 ?_
      refine lv_iload_n hx hb d_M_tell_27 rfl (lv_at hl 1 rfl) ?_
      refine g_ild (j := f0) Sx hK hP 2 0 rfl rfl (by omega) (by decide) d_M_tell_28 ?_
      refine lv_aload_n hx hb d_M_tell_29 rfl (lv_at hl 0 rfl) ?_
      refine g_get Sx gf_M hK hP 0 rfl rfl 21 (by decide) gm_440 rfl d_M_tell_30 ?_
      refine lv_iload_n hx hb d_M_tell_33 rfl (lv_at hl 2 rfl) ?_
      refine g_ild (j := g0) Sx hK hP 2 0 rfl rfl (by omega) (by decide) d_M_tell_34 ?_
      refine lv_ixor hx hb d_M_tell_35 ?_
      refine lv_iload_n hx hb d_M_tell_36 rfl (lv_at hl 3 rfl) ?_
      refine lv_icmp_eq hx hb d_M_tell_37 (tgt := 44) rfl (fun q6 => ?_) (fun q6 => ?_)
      · skip
        refine lv_iconst (v := 0) hx hb d_M_tell_44 (by decide) ?_
        refine g_put Sx gf_M fk_M fn_M hK hP hD hS 0 rfl rfl 22 (by decide) gm_441 rfl rfl rfl (Nat.le_of_ble_eq_true rfl) d_M_tell_45 (fun H locs hP hD hS => ?_)
        have hP : va_P (dC, dI) pcl [(hm, .inr (5, [.int (nI n), .int (nI k), .ref a1, .ref a2, .int (bI wk), .int (bI fl), .int (nI cm), .ref a3, .ref a4, .int bl, .int sd, .long sm, .int co, .ref a5, .ref a6, .ref a7, .ref a8, .ref a9, .ref a10, .ref a11, .ref a12, .ref a13, .int 0, .ref a14])), (a12, .inl (cI, 18, .inl gp)), (a13, .inl (cI, 18, .inl hd))] H := hP
        have hD : va_D A [(hm, .inr (5, [.int (nI n), .int (nI k), .ref a1, .ref a2, .int (bI wk), .int (bI fl), .int (nI cm), .ref a3, .ref a4, .int bl, .int sd, .long sm, .int co, .ref a5, .ref a6, .ref a7, .ref a8, .ref a9, .ref a10, .ref a11, .ref a12, .ref a13, .int 0, .ref a14])), (a12, .inl (cI, 18, .inl gp)), (a13, .inl (cI, 18, .inl hd))] := hD
        rw [show pm_tell k f0 g0 z gp hd cf = (gp, hd, false) from by simp [pm_tell, q1, q5, q6]] at hret
        exact hret _ H locs _ d_M_tell_48 hP hD hS
      · skip
        refine lv_iconst (v := 1) hx hb d_M_tell_40 (by decide) ?_
        refine lv_goto hx hb d_M_tell_41 (tgt := 45) rfl ?_
        refine g_put Sx gf_M fk_M fn_M hK hP hD hS 0 rfl rfl 22 (by decide) gm_441 rfl rfl rfl (Nat.le_of_ble_eq_true rfl) d_M_tell_45 (fun H locs hP hD hS => ?_)
        have hP : va_P (dC, dI) pcl [(hm, .inr (5, [.int (nI n), .int (nI k), .ref a1, .ref a2, .int (bI wk), .int (bI fl), .int (nI cm), .ref a3, .ref a4, .int bl, .int sd, .long sm, .int co, .ref a5, .ref a6, .ref a7, .ref a8, .ref a9, .ref a10, .ref a11, .ref a12, .ref a13, .int 1, .ref a14])), (a12, .inl (cI, 18, .inl gp)), (a13, .inl (cI, 18, .inl hd))] H := hP
        have hD : va_D A [(hm, .inr (5, [.int (nI n), .int (nI k), .ref a1, .ref a2, .int (bI wk), .int (bI fl), .int (nI cm), .ref a3, .ref a4, .int bl, .int sd, .long sm, .int co, .ref a5, .ref a6, .ref a7, .ref a8, .ref a9, .ref a10, .ref a11, .ref a12, .ref a13, .int 1, .ref a14])), (a12, .inl (cI, 18, .inl gp)), (a13, .inl (cI, 18, .inl hd))] := hD
        rw [show pm_tell k f0 g0 z gp hd cf = (gp, hd, true) from by simp [pm_tell, q1, q5, q6]] at hret
        exact hret _ H locs _ d_M_tell_48 hP hD hS
theorem d_M_join_0 : decode k_M_join 0 = .ok (.aload_n 0, 1) := by decide +kernel
theorem d_M_join_1 : decode k_M_join 1 = .ok (.getfield 19, 3) := by decide +kernel
theorem d_M_join_4 : decode k_M_join 4 = .ok (.iload_n 2, 1) := by decide +kernel
theorem d_M_join_5 : decode k_M_join 5 = .ok (.iaload, 1) := by decide +kernel
theorem d_M_join_6 : decode k_M_join 6 = .ok (.istore_n 3, 1) := by decide +kernel
theorem d_M_join_7 : decode k_M_join 7 = .ok (.iconst 0, 1) := by decide +kernel
theorem d_M_join_8 : decode k_M_join 8 = .ok (.istore 4, 2) := by decide +kernel
theorem d_M_join_10 : decode k_M_join 10 = .ok (.iload 4, 2) := by decide +kernel
theorem d_M_join_12 : decode k_M_join 12 = .ok (.aload_n 0, 1) := by decide +kernel
theorem d_M_join_13 : decode k_M_join 13 = .ok (.getfield 56, 3) := by decide +kernel
theorem d_M_join_16 : decode k_M_join 16 = .ok (.if_icmp .ge 43, 3) := by decide +kernel
theorem d_M_join_19 : decode k_M_join 19 = .ok (.aload_n 0, 1) := by decide +kernel
theorem d_M_join_20 : decode k_M_join 20 = .ok (.getfield 19, 3) := by decide +kernel
theorem d_M_join_23 : decode k_M_join 23 = .ok (.iload 4, 2) := by decide +kernel
theorem d_M_join_25 : decode k_M_join 25 = .ok (.aload_n 0, 1) := by decide +kernel
theorem d_M_join_26 : decode k_M_join 26 = .ok (.getfield 19, 3) := by decide +kernel
theorem d_M_join_29 : decode k_M_join 29 = .ok (.iload 4, 2) := by decide +kernel
theorem d_M_join_31 : decode k_M_join 31 = .ok (.iaload, 1) := by decide +kernel
theorem d_M_join_32 : decode k_M_join 32 = .ok (.iload_n 3, 1) := by decide +kernel
theorem d_M_join_33 : decode k_M_join 33 = .ok (.if_icmp .ne 12, 3) := by decide +kernel
theorem d_M_join_36 : decode k_M_join 36 = .ok (.aload_n 0, 1) := by decide +kernel
theorem d_M_join_37 : decode k_M_join 37 = .ok (.getfield 19, 3) := by decide +kernel
theorem d_M_join_40 : decode k_M_join 40 = .ok (.iload_n 1, 1) := by decide +kernel
theorem d_M_join_41 : decode k_M_join 41 = .ok (.iaload, 1) := by decide +kernel
theorem d_M_join_42 : decode k_M_join 42 = .ok (.goto 10, 3) := by decide +kernel
theorem d_M_join_45 : decode k_M_join 45 = .ok (.aload_n 0, 1) := by decide +kernel
theorem d_M_join_46 : decode k_M_join 46 = .ok (.getfield 19, 3) := by decide +kernel
theorem d_M_join_49 : decode k_M_join 49 = .ok (.iload 4, 2) := by decide +kernel
theorem d_M_join_51 : decode k_M_join 51 = .ok (.iaload, 1) := by decide +kernel
theorem d_M_join_52 : decode k_M_join 52 = .ok (.iastore, 1) := by decide +kernel
theorem d_M_join_53 : decode k_M_join 53 = .ok (.iinc 4 1, 3) := by decide +kernel
theorem d_M_join_56 : decode k_M_join 56 = .ok (.goto (-46), 3) := by decide +kernel
theorem d_M_join_59 : decode k_M_join 59 = .ok (.return_, 1) := by decide +kernel
abbrev rm_M_join : Room := { frames := 0, cells := 0, slots := 0, locals := 0 }
theorem hd_M_join : y_M_join.cls = n_M ∧ y_M_join.cls ≠ "java/lang/invoke/MethodHandle" ∧ y_M_join.cls ≠ "java/lang/invoke/VarHandle" ∧ (parseMethodDescriptor y_M_join.desc).map (fun d => d.parameters.length) = some 2 := by decide +kernel
set_option maxHeartbeats 4000000 in
set_option maxRecDepth 100000 in
theorem c_M_join (l : Launch) (dC : Nat → ClassId) (dI : Nat → Nat → Nat) (n : Nat) (k : Nat) (wk : Bool) (fl : Bool) (cm : Nat) (bl : Int32) (sd : Int32) (sm : Int64) (co : Int32) (cf : Bool) (hm : Nat) (a1 : Nat) (a2 : Nat) (a3 : Nat) (a4 : Nat) (a5 : Nat) (a6 : Nat) (a7 : Nat) (a8 : Nat) (a9 : Nat) (a10 : Nat) (a11 : Nat) (a12 : Nat) (a13 : Nat) (a14 : Nat) (cI : ClassId) (Bk : Nat → Int32) (f0 : Nat) (g0 : Nat) (sz : Nat) (hk : k ≤ 18) (hf : f0 < 18) (hg : g0 < 18) : Met l y_M_join (.code y_M_join k_M_join 5 none :: gw) rm_M_join (rwP [.ref hm, .int (nI f0), .int (nI g0)] (dC, dI) [(hm, .inr (5, [.int (nI n), .int (nI k), .ref a1, .ref a2, .int (bI wk), .int (bI fl), .int (nI cm), .ref a3, .ref a4, .int bl, .int sd, .long sm, .int co, .ref a5, .ref a6, .ref a7, .ref a8, .ref a9, .ref a10, .ref a11, .ref a12, .ref a13, .int (bI cf), .ref a14])), (a4, .inl (cI, 18, .inl Bk))] [(cI, .int)] sz) (va_Qv (fun _ : Unit => True) (rwB (dC, dI) [(hm, .inr (5, [.int (nI n), .int (nI k), .ref a1, .ref a2, .int (bI wk), .int (bI fl), .int (nI cm), .ref a3, .ref a4, .int bl, .int sd, .long sm, .int co, .ref a5, .ref a6, .ref a7, .ref a8, .ref a9, .ref a10, .ref a11, .ref a12, .ref a13, .int (bI cf), .ref a14])), (a4, .inl (cI, 18, .inl (fo (pm_jn f0 (Bk g0)) k Bk)))] [(cI, .int)] (va_A [(hm, .inr (5, [.int (nI n), .int (nI k), .ref a1, .ref a2, .int (bI wk), .int (bI fl), .int (nI cm), .ref a3, .ref a4, .int bl, .int sd, .long sm, .int co, .ref a5, .ref a6, .ref a7, .ref a8, .ref a9, .ref a10, .ref a11, .ref a12, .ref a13, .int (bI cf), .ref a14])), (a4, .inl (cI, 18, .inl Bk))] sz)) (va_A [(hm, .inr (5, [.int (nI n), .int (nI k), .ref a1, .ref a2, .int (bI wk), .int (bI fl), .int (nI cm), .ref a3, .ref a4, .int bl, .int sd, .long sm, .int co, .ref a5, .ref a6, .ref a7, .ref a8, .ref a9, .ref a10, .ref a11, .ref a12, .ref a13, .int (bI cf), .ref a14])), (a4, .inl (cI, 18, .inl Bk))] sz)) 0 0 (va_A [(hm, .inr (5, [.int (nI n), .int (nI k), .ref a1, .ref a2, .int (bI wk), .int (bI fl), .int (nI cm), .ref a3, .ref a4, .int bl, .int sd, .long sm, .int co, .ref a5, .ref a6, .ref a7, .ref a8, .ref a9, .ref a10, .ref a11, .ref a12, .ref a13, .int (bI cf), .ref a14])), (a4, .inl (cI, 18, .inl Bk))] sz) := by
  refine rw_met (by decide) ⟨rfl, rfl⟩ (Nat.le_of_ble_eq_true rfl) ?_
  intro p e s m args below meth c Q A ls Sx hP hK hD hA hl hret
  have hx := Sx.1
  have hb := Sx.2.1
  have hl : lv_has ls 5 [(0, .ref hm), (1, .int (nI f0)), (2, .int (nI g0))] := hl
  have hS : va_S A s.heap s.heap [] := va_S.rf
  obtain ⟨H, hH⟩ : ∃ H, H = s.heap := ⟨_, rfl⟩
  obtain ⟨locs, hlo⟩ : ∃ locs : List Loc, locs = [] := ⟨_, rfl⟩
  rw [← hlo]
  rw [← hlo] at hS
  have hP : va_P (dC, dI) pcl [(hm, .inr (5, [.int (nI n), .int (nI k), .ref a1, .ref a2, .int (bI wk), .int (bI fl), .int (nI cm), .ref a3, .ref a4, .int bl, .int sd, .long sm, .int co, .ref a5, .ref a6, .ref a7, .ref a8, .ref a9, .ref a10, .ref a11, .ref a12, .ref a13, .int (bI cf), .ref a14])), (a4, .inl (cI, 18, .inl Bk))] H := by rw [hH]; exact hP
  have hS : va_S A s.heap H locs := by rw [hH]; exact hS
  suffices hgo : W p l e rm_M_join s m args below meth c H locs 0 0 Q (F0 m 0 ls []) by rw [hH] at hgo; exact hgo
  refine lv_aload_n hx hb d_M_join_0 rfl (lv_at hl 0 rfl) ?_
  refine g_get Sx gf_M hK hP 0 rfl rfl 8 (by decide) gm_427 rfl d_M_join_1 ?_
  refine lv_iload_n hx hb d_M_join_4 rfl (lv_at hl 2 rfl) ?_
  refine g_ild (j := g0) Sx hK hP 1 0 rfl rfl (by omega) (by decide) d_M_join_5 ?_
  refine lv_istore_n hx hb d_M_join_6 rfl hl (Nat.le_of_ble_eq_true rfl) rfl (fun ls hl => ?_)
  have hl : lv_has ls 5 [(3, .int (Bk g0)), (0, .ref hm), (1, .int (nI f0)), (2, .int (nI g0))] := hl
  refine lv_iconst (v := nI 0) hx hb d_M_join_7 (by decide) ?_
  refine lv_istore hx hb d_M_join_8 hl (Nat.le_of_ble_eq_true rfl) rfl (fun ls hl => ?_)
  have hl : lv_has ls 5 [(4, .int (nI 0)), (3, .int (Bk g0)), (0, .ref hm), (1, .int (nI f0)), (2, .int (nI g0))] := hl
  have hL10 : ∀ (kk i : Nat), i + kk = k → ∀ (Bk1 : Nat → Int32) (H : Heap) (locs : List Loc) (ls : Array Slot), Bk1 = fo (pm_jn f0 (Bk g0)) i Bk → va_P (dC, dI) pcl [(hm, .inr (5, [.int (nI n), .int (nI k), .ref a1, .ref a2, .int (bI wk), .int (bI fl), .int (nI cm), .ref a3, .ref a4, .int bl, .int sd, .long sm, .int co, .ref a5, .ref a6, .ref a7, .ref a8, .ref a9, .ref a10, .ref a11, .ref a12, .ref a13, .int (bI cf), .ref a14])), (a4, .inl (cI, 18, .inl Bk1))] H → va_D A [(hm, .inr (5, [.int (nI n), .int (nI k), .ref a1, .ref a2, .int (bI wk), .int (bI fl), .int (nI cm), .ref a3, .ref a4, .int bl, .int sd, .long sm, .int co, .ref a5, .ref a6, .ref a7, .ref a8, .ref a9, .ref a10, .ref a11, .ref a12, .ref a13, .int (bI cf), .ref a14])), (a4, .inl (cI, 18, .inl Bk1))] → va_S A s.heap H locs → lv_has ls 5 [(4, .int (nI i)), (3, .int (Bk g0)), (0, .ref hm), (1, .int (nI f0)), (2, .int (nI g0))] → W p l e rm_M_join s m args below meth c H locs 0 0 Q (F0 m 10 ls []) := by
    intro kk
    induction kk with
    | zero =>
      intro i hi10 Bk1 H locs ls he10 hP hD hS hl
      have hj10 : i = k := by omega
      rw [hj10] at hl he10
      have e_Bk1 : Bk1 = (fo (pm_jn f0 (Bk g0)) k Bk) := by rw [← he10]
      subst e_Bk1
      have hl : lv_has ls 5 [(4, .int (nI k)), (3, .int (Bk g0)), (0, .ref hm), (1, .int (nI f0)), (2, .int (nI g0))] := hl
      have hP : va_P (dC, dI) pcl [(hm, .inr (5, [.int (nI n), .int (nI k), .ref a1, .ref a2, .int (bI wk), .int (bI fl), .int (nI cm), .ref a3, .ref a4, .int bl, .int sd, .long sm, .int co, .ref a5, .ref a6, .ref a7, .ref a8, .ref a9, .ref a10, .ref a11, .ref a12, .ref a13, .int (bI cf), .ref a14])), (a4, .inl (cI, 18, .inl (fo (pm_jn f0 (Bk g0)) k Bk)))] H := hP
      have hD : va_D A [(hm, .inr (5, [.int (nI n), .int (nI k), .ref a1, .ref a2, .int (bI wk), .int (bI fl), .int (nI cm), .ref a3, .ref a4, .int bl, .int sd, .long sm, .int co, .ref a5, .ref a6, .ref a7, .ref a8, .ref a9, .ref a10, .ref a11, .ref a12, .ref a13, .int (bI cf), .ref a14])), (a4, .inl (cI, 18, .inl (fo (pm_jn f0 (Bk g0)) k Bk)))] := hD
      refine lv_iload hx hb d_M_join_10 (lv_at hl 0 rfl) ?_
      refine lv_aload_n hx hb d_M_join_12 rfl (lv_at hl 2 rfl) ?_
      refine g_get Sx gf_M hK hP 0 rfl rfl 1 (by decide) gm_420 rfl d_M_join_13 ?_
      refine lv_icmp_ge hx hb d_M_join_16 (tgt := 59) rfl (fun q1 => ?_) (fun q1 => ?_)
      · have q1 : k ≤ k := nq_le (by omega) (by omega) q1
        exact hret _ H locs _ d_M_join_59 hP hD hS
      · have q1 : k < k := nq_nle (by omega) (by omega) q1
        exact absurd q1 (by omega)
    | succ kk ih10 =>
      intro i hi10 Bk1 H locs ls he10 hP hD hS hl
      refine lv_iload hx hb d_M_join_10 (lv_at hl 0 rfl) ?_
      refine lv_aload_n hx hb d_M_join_12 rfl (lv_at hl 2 rfl) ?_
      refine g_get Sx gf_M hK hP 0 rfl rfl 1 (by decide) gm_420 rfl d_M_join_13 ?_
      refine lv_icmp_ge hx hb d_M_join_16 (tgt := 59) rfl (fun q2 => ?_) (fun q2 => ?_)
      · have q2 : k ≤ i := nq_le (by omega) (by omega) q2
        exact absurd q2 (by omega)
      · have q2 : i < k := nq_nle (by omega) (by omega) q2
        refine lv_aload_n hx hb d_M_join_19 rfl (lv_at hl 2 rfl) ?_
        refine g_get Sx gf_M hK hP 0 rfl rfl 8 (by decide) gm_427 rfl d_M_join_20 ?_
        refine lv_iload hx hb d_M_join_23 (lv_at hl 0 rfl) ?_
        refine lv_aload_n hx hb d_M_join_25 rfl (lv_at hl 2 rfl) ?_
        refine g_get Sx gf_M hK hP 0 rfl rfl 8 (by decide) gm_427 rfl d_M_join_26 ?_
        refine lv_iload hx hb d_M_join_29 (lv_at hl 0 rfl) ?_
        refine g_ild (j := i) Sx hK hP 1 0 rfl rfl (by omega) (by decide) d_M_join_31 ?_
        refine lv_iload_n hx hb d_M_join_32 rfl (lv_at hl 1 rfl) ?_
        refine lv_icmp_ne hx hb d_M_join_33 (tgt := 45) rfl (fun q3 => ?_) (fun q3 => ?_)
        · skip
          refine lv_aload_n hx hb d_M_join_45 rfl (lv_at hl 2 rfl) ?_
          refine g_get Sx gf_M hK hP 0 rfl rfl 8 (by decide) gm_427 rfl d_M_join_46 ?_
          refine lv_iload hx hb d_M_join_49 (lv_at hl 0 rfl) ?_
          refine g_ild (j := i) Sx hK hP 1 0 rfl rfl (by omega) (by decide) d_M_join_51 ?_
          refine g_ist (j := i) Sx hK hP hD hS 1 0 rfl rfl (by omega) (by decide) d_M_join_52 (fun H locs hP hD hS => ?_)
          have hP : va_P (dC, dI) pcl [(hm, .inr (5, [.int (nI n), .int (nI k), .ref a1, .ref a2, .int (bI wk), .int (bI fl), .int (nI cm), .ref a3, .ref a4, .int bl, .int sd, .long sm, .int co, .ref a5, .ref a6, .ref a7, .ref a8, .ref a9, .ref a10, .ref a11, .ref a12, .ref a13, .int (bI cf), .ref a14])), (a4, .inl (cI, 18, .inl (upd Bk1 i (Bk1 i))))] H := hP
          have hD : va_D A [(hm, .inr (5, [.int (nI n), .int (nI k), .ref a1, .ref a2, .int (bI wk), .int (bI fl), .int (nI cm), .ref a3, .ref a4, .int bl, .int sd, .long sm, .int co, .ref a5, .ref a6, .ref a7, .ref a8, .ref a9, .ref a10, .ref a11, .ref a12, .ref a13, .int (bI cf), .ref a14])), (a4, .inl (cI, 18, .inl (upd Bk1 i (Bk1 i))))] := hD
          refine lv_iinc (k := 0) (v := nI (i + 1)) hx hb d_M_join_53 hl rfl (inc_nI _) (Nat.le_of_ble_eq_true rfl) rfl (fun ls hl => ?_)
          have hl : lv_has ls 5 [(4, .int (nI (i + 1))), (3, .int (Bk g0)), (0, .ref hm), (1, .int (nI f0)), (2, .int (nI g0))] := hl
          refine lv_goto hx hb d_M_join_56 (tgt := 10) rfl ?_
          have he2 : (upd Bk1 i (Bk1 i)) = fo (pm_jn f0 (Bk g0)) (i + 1) Bk := by
            rw [fo_s, ← he10]
            simp [pm_jn, q2, q3]
          exact ih10 (i + 1) (by omega) (upd Bk1 i (Bk1 i)) H locs ls he2 hP hD hS (lv_sub hl [0, 1, 2, 3, 4] rfl)
        · skip
          refine lv_aload_n hx hb d_M_join_36 rfl (lv_at hl 2 rfl) ?_
          refine g_get Sx gf_M hK hP 0 rfl rfl 8 (by decide) gm_427 rfl d_M_join_37 ?_
          refine lv_iload_n hx hb d_M_join_40 rfl (lv_at hl 3 rfl) ?_
          refine g_ild (j := f0) Sx hK hP 1 0 rfl rfl (by omega) (by decide) d_M_join_41 ?_
          refine lv_goto hx hb d_M_join_42 (tgt := 52) rfl ?_
          refine g_ist (j := i) Sx hK hP hD hS 1 0 rfl rfl (by omega) (by decide) d_M_join_52 (fun H locs hP hD hS => ?_)
          have hP : va_P (dC, dI) pcl [(hm, .inr (5, [.int (nI n), .int (nI k), .ref a1, .ref a2, .int (bI wk), .int (bI fl), .int (nI cm), .ref a3, .ref a4, .int bl, .int sd, .long sm, .int co, .ref a5, .ref a6, .ref a7, .ref a8, .ref a9, .ref a10, .ref a11, .ref a12, .ref a13, .int (bI cf), .ref a14])), (a4, .inl (cI, 18, .inl (upd Bk1 i (Bk1 f0))))] H := hP
          have hD : va_D A [(hm, .inr (5, [.int (nI n), .int (nI k), .ref a1, .ref a2, .int (bI wk), .int (bI fl), .int (nI cm), .ref a3, .ref a4, .int bl, .int sd, .long sm, .int co, .ref a5, .ref a6, .ref a7, .ref a8, .ref a9, .ref a10, .ref a11, .ref a12, .ref a13, .int (bI cf), .ref a14])), (a4, .inl (cI, 18, .inl (upd Bk1 i (Bk1 f0))))] := hD
          refine lv_iinc (k := 0) (v := nI (i + 1)) hx hb d_M_join_53 hl rfl (inc_nI _) (Nat.le_of_ble_eq_true rfl) rfl (fun ls hl => ?_)
          have hl : lv_has ls 5 [(4, .int (nI (i + 1))), (3, .int (Bk g0)), (0, .ref hm), (1, .int (nI f0)), (2, .int (nI g0))] := hl
          refine lv_goto hx hb d_M_join_56 (tgt := 10) rfl ?_
          have he2 : (upd Bk1 i (Bk1 f0)) = fo (pm_jn f0 (Bk g0)) (i + 1) Bk := by
            rw [fo_s, ← he10]
            simp [pm_jn, q2, q3]
          exact ih10 (i + 1) (by omega) (upd Bk1 i (Bk1 f0)) H locs ls he2 hP hD hS (lv_sub hl [0, 1, 2, 3, 4] rfl)
  exact hL10 k 0 (by omega) Bk H locs ls rfl hP hD hS (lv_sub hl [0, 1, 2, 3, 4] rfl)
theorem d_M_crossingBy_0 : decode k_M_crossingBy 0 = .ok (.iconst 0, 1) := by decide +kernel
theorem d_M_crossingBy_1 : decode k_M_crossingBy 1 = .ok (.istore_n 2, 1) := by decide +kernel
theorem d_M_crossingBy_2 : decode k_M_crossingBy 2 = .ok (.iconst 0, 1) := by decide +kernel
theorem d_M_crossingBy_3 : decode k_M_crossingBy 3 = .ok (.istore_n 3, 1) := by decide +kernel
theorem d_M_crossingBy_4 : decode k_M_crossingBy 4 = .ok (.iload_n 3, 1) := by decide +kernel
theorem d_M_crossingBy_5 : decode k_M_crossingBy 5 = .ok (.aload_n 0, 1) := by decide +kernel
theorem d_M_crossingBy_6 : decode k_M_crossingBy 6 = .ok (.getfield 56, 3) := by decide +kernel
theorem d_M_crossingBy_9 : decode k_M_crossingBy 9 = .ok (.if_icmp .ge 60, 3) := by decide +kernel
theorem d_M_crossingBy_12 : decode k_M_crossingBy 12 = .ok (.iload_n 1, 1) := by decide +kernel
theorem d_M_crossingBy_13 : decode k_M_crossingBy 13 = .ok (.aload_n 0, 1) := by decide +kernel
theorem d_M_crossingBy_14 : decode k_M_crossingBy 14 = .ok (.getfield 7, 3) := by decide +kernel
theorem d_M_crossingBy_17 : decode k_M_crossingBy 17 = .ok (.iconst 2, 1) := by decide +kernel
theorem d_M_crossingBy_18 : decode k_M_crossingBy 18 = .ok (.iload_n 3, 1) := by decide +kernel
theorem d_M_crossingBy_19 : decode k_M_crossingBy 19 = .ok (.imul, 1) := by decide +kernel
theorem d_M_crossingBy_20 : decode k_M_crossingBy 20 = .ok (.iaload, 1) := by decide +kernel
theorem d_M_crossingBy_21 : decode k_M_crossingBy 21 = .ok (.invokestatic 70, 3) := by decide +kernel
theorem d_M_crossingBy_24 : decode k_M_crossingBy 24 = .ok (.iload_n 1, 1) := by decide +kernel
theorem d_M_crossingBy_25 : decode k_M_crossingBy 25 = .ok (.aload_n 0, 1) := by decide +kernel
theorem d_M_crossingBy_26 : decode k_M_crossingBy 26 = .ok (.getfield 7, 3) := by decide +kernel
theorem d_M_crossingBy_29 : decode k_M_crossingBy 29 = .ok (.iconst 2, 1) := by decide +kernel
theorem d_M_crossingBy_30 : decode k_M_crossingBy 30 = .ok (.iload_n 3, 1) := by decide +kernel
theorem d_M_crossingBy_31 : decode k_M_crossingBy 31 = .ok (.imul, 1) := by decide +kernel
theorem d_M_crossingBy_32 : decode k_M_crossingBy 32 = .ok (.iconst 1, 1) := by decide +kernel
theorem d_M_crossingBy_33 : decode k_M_crossingBy 33 = .ok (.iadd, 1) := by decide +kernel
theorem d_M_crossingBy_34 : decode k_M_crossingBy 34 = .ok (.iaload, 1) := by decide +kernel
theorem d_M_crossingBy_35 : decode k_M_crossingBy 35 = .ok (.invokestatic 70, 3) := by decide +kernel
theorem d_M_crossingBy_38 : decode k_M_crossingBy 38 = .ok (.if_icmp .eq 7, 3) := by decide +kernel
theorem d_M_crossingBy_41 : decode k_M_crossingBy 41 = .ok (.iconst 1, 1) := by decide +kernel
theorem d_M_crossingBy_42 : decode k_M_crossingBy 42 = .ok (.goto 4, 3) := by decide +kernel
theorem d_M_crossingBy_45 : decode k_M_crossingBy 45 = .ok (.iconst 0, 1) := by decide +kernel
theorem d_M_crossingBy_46 : decode k_M_crossingBy 46 = .ok (.istore 4, 2) := by decide +kernel
theorem d_M_crossingBy_48 : decode k_M_crossingBy 48 = .ok (.iload 4, 2) := by decide +kernel
theorem d_M_crossingBy_50 : decode k_M_crossingBy 50 = .ok (.ifCond .eq 11, 3) := by decide +kernel
theorem d_M_crossingBy_53 : decode k_M_crossingBy 53 = .ok (.iload_n 2, 1) := by decide +kernel
theorem d_M_crossingBy_54 : decode k_M_crossingBy 54 = .ok (.iconst 1, 1) := by decide +kernel
theorem d_M_crossingBy_55 : decode k_M_crossingBy 55 = .ok (.iload_n 3, 1) := by decide +kernel
theorem d_M_crossingBy_56 : decode k_M_crossingBy 56 = .ok (.ishl, 1) := by decide +kernel
theorem d_M_crossingBy_57 : decode k_M_crossingBy 57 = .ok (.ior, 1) := by decide +kernel
theorem d_M_crossingBy_58 : decode k_M_crossingBy 58 = .ok (.goto 4, 3) := by decide +kernel
theorem d_M_crossingBy_61 : decode k_M_crossingBy 61 = .ok (.iload_n 2, 1) := by decide +kernel
theorem d_M_crossingBy_62 : decode k_M_crossingBy 62 = .ok (.istore_n 2, 1) := by decide +kernel
theorem d_M_crossingBy_63 : decode k_M_crossingBy 63 = .ok (.iinc 3 1, 3) := by decide +kernel
theorem d_M_crossingBy_66 : decode k_M_crossingBy 66 = .ok (.goto (-62), 3) := by decide +kernel
theorem d_M_crossingBy_69 : decode k_M_crossingBy 69 = .ok (.iload_n 2, 1) := by decide +kernel
theorem d_M_crossingBy_70 : decode k_M_crossingBy 70 = .ok (.ireturn, 1) := by decide +kernel
abbrev rm_M_crossingBy : Room := { frames := 1, cells := 0, slots := 0, locals := 21 }
theorem hd_M_crossingBy : y_M_crossingBy.cls = n_M ∧ y_M_crossingBy.cls ≠ "java/lang/invoke/MethodHandle" ∧ y_M_crossingBy.cls ≠ "java/lang/invoke/VarHandle" ∧ (parseMethodDescriptor y_M_crossingBy.desc).map (fun d => d.parameters.length) = some 1 := by decide +kernel
set_option maxHeartbeats 4000000 in
set_option maxRecDepth 100000 in
theorem c_M_crossingBy (l : Launch) (dC : Nat → ClassId) (dI : Nat → Nat → Nat) (n : Nat) (k : Nat) (wk : Bool) (fl : Bool) (cm : Nat) (bl : Int32) (sd : Int32) (sm : Int64) (co : Int32) (cf : Bool) (hm : Nat) (a1 : Nat) (a2 : Nat) (a3 : Nat) (a4 : Nat) (a5 : Nat) (a6 : Nat) (a7 : Nat) (a8 : Nat) (a9 : Nat) (a10 : Nat) (a11 : Nat) (a12 : Nat) (a13 : Nat) (a14 : Nat) (cI : ClassId) (E : Nat → Nat) (x : Int32) (hk : k ≤ 18) : Met l y_M_crossingBy (.code y_M_crossingBy k_M_crossingBy 5 (.some FieldType.int) :: gw) rm_M_crossingBy (roP [.ref hm, .int x] (dC, dI) [(hm, .inr (5, [.int (nI n), .int (nI k), .ref a1, .ref a2, .int (bI wk), .int (bI fl), .int (nI cm), .ref a3, .ref a4, .int bl, .int sd, .long sm, .int co, .ref a5, .ref a6, .ref a7, .ref a8, .ref a9, .ref a10, .ref a11, .ref a12, .ref a13, .int (bI cf), .ref a14])), (a1, .inl (cI, 36, .inl (fun i9 => nI (E i9))))] [(cI, .int)]) (vp_Si (fun r => r = fo (pm_cb E x) k 0)) 0 0 (fun _ => False) := by
  refine ro_met (by decide) ⟨rfl, rfl⟩ rfl (Nat.le_of_ble_eq_true rfl) ?_
  intro p e s m args below meth c Q ls Sx hP hK hl hret
  have hx := Sx.1
  have hb := Sx.2.1
  have hl : lv_has ls 5 [(0, .ref hm), (1, .int x)] := hl
  refine lv_iconst (v := 0) hx hb d_M_crossingBy_0 (by decide) ?_
  refine lv_istore_n hx hb d_M_crossingBy_1 rfl hl (Nat.le_of_ble_eq_true rfl) rfl (fun ls hl => ?_)
  have hl : lv_has ls 5 [(2, .int 0), (0, .ref hm), (1, .int x)] := hl
  refine lv_iconst (v := nI 0) hx hb d_M_crossingBy_2 (by decide) ?_
  refine lv_istore_n hx hb d_M_crossingBy_3 rfl hl (Nat.le_of_ble_eq_true rfl) rfl (fun ls hl => ?_)
  have hl : lv_has ls 5 [(3, .int (nI 0)), (2, .int 0), (0, .ref hm), (1, .int x)] := hl
  have hL4 : ∀ (kk i : Nat), i + kk = k → ∀ (d : Int32) (ls : Array Slot), d = fo (pm_cb E x) i 0 → lv_has ls 5 [(3, .int (nI i)), (2, .int d), (0, .ref hm), (1, .int x)] → W p l e rm_M_crossingBy s m args below meth c s.heap [] 0 0 Q (F0 m 4 ls []) := by
    intro kk
    induction kk with
    | zero =>
      intro i hi4 d ls he4 hl
      have hj4 : i = k := by omega
      rw [hj4] at hl he4
      have e_d : d = (fo (pm_cb E x) k 0) := by rw [← he4]
      subst e_d
      have hl : lv_has ls 5 [(3, .int (nI k)), (2, .int (fo (pm_cb E x) k 0)), (0, .ref hm), (1, .int x)] := hl
      refine lv_iload_n hx hb d_M_crossingBy_4 rfl (lv_at hl 0 rfl) ?_
      refine lv_aload_n hx hb d_M_crossingBy_5 rfl (lv_at hl 2 rfl) ?_
      refine g_get Sx gf_M hK hP 0 rfl rfl 1 (by decide) gm_420 rfl d_M_crossingBy_6 ?_
      refine lv_icmp_ge hx hb d_M_crossingBy_9 (tgt := 69) rfl (fun q1 => ?_) (fun q1 => ?_)
      · have q1 : k ≤ k := nq_le (by omega) (by omega) q1
        refine lv_iload_n hx hb d_M_crossingBy_69 rfl (lv_at hl 1 rfl) ?_
        exact hret _ _ d_M_crossingBy_70
      · have q1 : k < k := nq_nle (by omega) (by omega) q1
        exact absurd q1 (by omega)
    | succ kk ih4 =>
      intro i hi4 d ls he4 hl
      refine lv_iload_n hx hb d_M_crossingBy_4 rfl (lv_at hl 0 rfl) ?_
      refine lv_aload_n hx hb d_M_crossingBy_5 rfl (lv_at hl 2 rfl) ?_
      refine g_get Sx gf_M hK hP 0 rfl rfl 1 (by decide) gm_420 rfl d_M_crossingBy_6 ?_
      refine lv_icmp_ge hx hb d_M_crossingBy_9 (tgt := 69) rfl (fun q2 => ?_) (fun q2 => ?_)
      · have q2 : k ≤ i := nq_le (by omega) (by omega) q2
        exact absurd q2 (by omega)
      · have q2 : i < k := nq_nle (by omega) (by omega) q2
        refine lv_iload_n hx hb d_M_crossingBy_12 rfl (lv_at hl 3 rfl) ?_
        refine lv_aload_n hx hb d_M_crossingBy_13 rfl (lv_at hl 2 rfl) ?_
        refine g_get Sx gf_M hK hP 0 rfl rfl 2 (by decide) gm_421 rfl d_M_crossingBy_14 ?_
        refine lv_iconst (v := nI 2) hx hb d_M_crossingBy_17 (by decide) ?_
        refine lv_iload_n hx hb d_M_crossingBy_18 rfl (lv_at hl 0 rfl) ?_
        refine lv_imul hx hb d_M_crossingBy_19 ?_
        rw [show (((nI 2) * (nI i)) : Int32) = nI (2 * i) from pk_mul _ _]
        refine g_ild (j := (2 * i)) Sx hK hP 1 0 rfl rfl (by omega) (by decide) d_M_crossingBy_20 ?_
        refine ro_S (As := [.int x, .int (nI (E (2 * i)))]) (rest := []) Sx (c_M_has l dC dI x (nI (E (2 * i)))) (gw_callS gm_509 gm_510 gm_56 gm_511) hd_M_has ⟨rfl, rfl⟩ ⟨Nat.le_of_ble_eq_true rfl, Nat.le_of_ble_eq_true rfl⟩ (va_P_map hP [] rfl) (hK.sub (tys' := []) [] rfl) rfl hl.1 rfl (Nat.le_of_ble_eq_true rfl) d_M_crossingBy_21 ⟨Nat.zero_le _, Nat.zero_le _⟩ ?_
        refine lv_iload_n hx hb d_M_crossingBy_24 rfl (lv_at hl 3 rfl) ?_
        refine lv_aload_n hx hb d_M_crossingBy_25 rfl (lv_at hl 2 rfl) ?_
        refine g_get Sx gf_M hK hP 0 rfl rfl 2 (by decide) gm_421 rfl d_M_crossingBy_26 ?_
        refine lv_iconst (v := nI 2) hx hb d_M_crossingBy_29 (by decide) ?_
        refine lv_iload_n hx hb d_M_crossingBy_30 rfl (lv_at hl 0 rfl) ?_
        refine lv_imul hx hb d_M_crossingBy_31 ?_
        rw [show (((nI 2) * (nI i)) : Int32) = nI (2 * i) from pk_mul _ _]
        refine lv_iconst (v := nI 1) hx hb d_M_crossingBy_32 (by decide) ?_
        refine lv_iadd hx hb d_M_crossingBy_33 ?_
        rw [show (((nI (2 * i)) + (nI 1)) : Int32) = nI ((2 * i) + 1) from nI_add _ _]
        refine g_ild (j := ((2 * i) + 1)) Sx hK hP 1 0 rfl rfl (by omega) (by decide) d_M_crossingBy_34 ?_
        refine ro_S (As := [.int x, .int (nI (E ((2 * i) + 1)))]) (rest := [.int (bI (pm_has x (nI (E (2 * i)))))]) Sx (c_M_has l dC dI x (nI (E ((2 * i) + 1)))) (gw_callS gm_509 gm_510 gm_56 gm_511) hd_M_has ⟨rfl, rfl⟩ ⟨Nat.le_of_ble_eq_true rfl, Nat.le_of_ble_eq_true rfl⟩ (va_P_map hP [] rfl) (hK.sub (tys' := []) [] rfl) rfl hl.1 rfl (Nat.le_of_ble_eq_true rfl) d_M_crossingBy_35 ⟨Nat.zero_le _, Nat.zero_le _⟩ ?_
        refine lv_icmp_eq hx hb d_M_crossingBy_38 (tgt := 45) rfl (fun q3 => ?_) (fun q3 => ?_)
        · skip
          refine lv_iconst (v := 0) hx hb d_M_crossingBy_45 (by decide) ?_
          refine lv_istore hx hb d_M_crossingBy_46 hl (Nat.le_of_ble_eq_true rfl) rfl (fun ls hl => ?_)
          have hl : lv_has ls 5 [(4, .int 0), (3, .int (nI i)), (2, .int d), (0, .ref hm), (1, .int x)] := hl
          refine lv_iload hx hb d_M_crossingBy_48 (lv_at hl 0 rfl) ?_
          refine lv_if_eq hx hb d_M_crossingBy_50 (tgt := 61) rfl (fun q4 => ?_) (fun q4 => ?_)
          · skip
            refine lv_iload_n hx hb d_M_crossingBy_61 rfl (lv_at hl 2 rfl) ?_
            refine lv_istore_n hx hb d_M_crossingBy_62 rfl hl (Nat.le_of_ble_eq_true rfl) rfl (fun ls hl => ?_)
            have hl : lv_has ls 5 [(2, .int d), (4, .int 0), (3, .int (nI i)), (0, .ref hm), (1, .int x)] := hl
            refine lv_iinc (k := 2) (v := nI (i + 1)) hx hb d_M_crossingBy_63 hl rfl (inc_nI _) (Nat.le_of_ble_eq_true rfl) rfl (fun ls hl => ?_)
            have hl : lv_has ls 5 [(3, .int (nI (i + 1))), (2, .int d), (4, .int 0), (0, .ref hm), (1, .int x)] := hl
            refine lv_goto hx hb d_M_crossingBy_66 (tgt := 4) rfl ?_
            have he2 : d = fo (pm_cb E x) (i + 1) 0 := by
              rw [fo_s, ← he4]
              simp [pm_cb, q2, q3, q4]
            exact ih4 (i + 1) (by omega) d  ls he2  (lv_sub hl [0, 1, 3, 4] rfl)
          · skip
            exact absurd rfl q4
        · skip
          refine lv_iconst (v := 1) hx hb d_M_crossingBy_41 (by decide) ?_
          refine lv_goto hx hb d_M_crossingBy_42 (tgt := 46) rfl ?_
          refine lv_istore hx hb d_M_crossingBy_46 hl (Nat.le_of_ble_eq_true rfl) rfl (fun ls hl => ?_)
          have hl : lv_has ls 5 [(4, .int 1), (3, .int (nI i)), (2, .int d), (0, .ref hm), (1, .int x)] := hl
          refine lv_iload hx hb d_M_crossingBy_48 (lv_at hl 0 rfl) ?_
          refine lv_if_eq hx hb d_M_crossingBy_50 (tgt := 61) rfl (fun q5 => ?_) (fun q5 => ?_)
          · skip
            exact absurd q5 (by decide)
          · skip
            refine lv_iload_n hx hb d_M_crossingBy_53 rfl (lv_at hl 2 rfl) ?_
            refine lv_iconst (v := 1) hx hb d_M_crossingBy_54 (by decide) ?_
            refine lv_iload_n hx hb d_M_crossingBy_55 rfl (lv_at hl 1 rfl) ?_
            refine lv_ishl hx hb d_M_crossingBy_56 ?_
            refine lv_ior hx hb d_M_crossingBy_57 ?_
            refine lv_goto hx hb d_M_crossingBy_58 (tgt := 62) rfl ?_
            refine lv_istore_n hx hb d_M_crossingBy_62 rfl hl (Nat.le_of_ble_eq_true rfl) rfl (fun ls hl => ?_)
            have hl : lv_has ls 5 [(2, .int (d ||| (1 <<< ((nI i) &&& 31)))), (4, .int 1), (3, .int (nI i)), (0, .ref hm), (1, .int x)] := hl
            refine lv_iinc (k := 2) (v := nI (i + 1)) hx hb d_M_crossingBy_63 hl rfl (inc_nI _) (Nat.le_of_ble_eq_true rfl) rfl (fun ls hl => ?_)
            have hl : lv_has ls 5 [(3, .int (nI (i + 1))), (2, .int (d ||| (1 <<< ((nI i) &&& 31)))), (4, .int 1), (0, .ref hm), (1, .int x)] := hl
            refine lv_goto hx hb d_M_crossingBy_66 (tgt := 4) rfl ?_
            have he2 : (d ||| (1 <<< ((nI i) &&& 31))) = fo (pm_cb E x) (i + 1) 0 := by
              rw [fo_s, ← he4]
              simp [pm_cb, q2, q3, q5]
            exact ih4 (i + 1) (by omega) (d ||| (1 <<< ((nI i) &&& 31)))  ls he2  (lv_sub hl [0, 1, 3, 4] rfl)
  exact hL4 k 0 (by omega) 0  ls rfl  (lv_sub hl [0, 1, 2, 3] rfl)
theorem d_M_weightOf_0 : decode k_M_weightOf 0 = .ok (.lconst 0, 1) := by decide +kernel
theorem d_M_weightOf_1 : decode k_M_weightOf 1 = .ok (.lstore_n 2, 1) := by decide +kernel
theorem d_M_weightOf_2 : decode k_M_weightOf 2 = .ok (.iconst 0, 1) := by decide +kernel
theorem d_M_weightOf_3 : decode k_M_weightOf 3 = .ok (.istore 4, 2) := by decide +kernel
theorem d_M_weightOf_5 : decode k_M_weightOf 5 = .ok (.iload 4, 2) := by decide +kernel
theorem d_M_weightOf_7 : decode k_M_weightOf 7 = .ok (.aload_n 0, 1) := by decide +kernel
theorem d_M_weightOf_8 : decode k_M_weightOf 8 = .ok (.getfield 56, 3) := by decide +kernel
theorem d_M_weightOf_11 : decode k_M_weightOf 11 = .ok (.if_icmp .ge 33, 3) := by decide +kernel
theorem d_M_weightOf_14 : decode k_M_weightOf 14 = .ok (.iload_n 1, 1) := by decide +kernel
theorem d_M_weightOf_15 : decode k_M_weightOf 15 = .ok (.iload 4, 2) := by decide +kernel
theorem d_M_weightOf_17 : decode k_M_weightOf 17 = .ok (.invokestatic 70, 3) := by decide +kernel
theorem d_M_weightOf_20 : decode k_M_weightOf 20 = .ok (.ifCond .eq 16, 3) := by decide +kernel
theorem d_M_weightOf_23 : decode k_M_weightOf 23 = .ok (.lload_n 2, 1) := by decide +kernel
theorem d_M_weightOf_24 : decode k_M_weightOf 24 = .ok (.aload_n 0, 1) := by decide +kernel
theorem d_M_weightOf_25 : decode k_M_weightOf 25 = .ok (.getfield 13, 3) := by decide +kernel
theorem d_M_weightOf_28 : decode k_M_weightOf 28 = .ok (.iload 4, 2) := by decide +kernel
theorem d_M_weightOf_30 : decode k_M_weightOf 30 = .ok (.iaload, 1) := by decide +kernel
theorem d_M_weightOf_31 : decode k_M_weightOf 31 = .ok (.i2l, 1) := by decide +kernel
theorem d_M_weightOf_32 : decode k_M_weightOf 32 = .ok (.ladd, 1) := by decide +kernel
theorem d_M_weightOf_33 : decode k_M_weightOf 33 = .ok (.goto 4, 3) := by decide +kernel
theorem d_M_weightOf_36 : decode k_M_weightOf 36 = .ok (.lload_n 2, 1) := by decide +kernel
theorem d_M_weightOf_37 : decode k_M_weightOf 37 = .ok (.lstore_n 2, 1) := by decide +kernel
theorem d_M_weightOf_38 : decode k_M_weightOf 38 = .ok (.iinc 4 1, 3) := by decide +kernel
theorem d_M_weightOf_41 : decode k_M_weightOf 41 = .ok (.goto (-36), 3) := by decide +kernel
theorem d_M_weightOf_44 : decode k_M_weightOf 44 = .ok (.lload_n 2, 1) := by decide +kernel
theorem d_M_weightOf_45 : decode k_M_weightOf 45 = .ok (.lreturn, 1) := by decide +kernel
abbrev rm_M_weightOf : Room := { frames := 1, cells := 0, slots := 0, locals := 21 }
theorem hd_M_weightOf : y_M_weightOf.cls = n_M ∧ y_M_weightOf.cls ≠ "java/lang/invoke/MethodHandle" ∧ y_M_weightOf.cls ≠ "java/lang/invoke/VarHandle" ∧ (parseMethodDescriptor y_M_weightOf.desc).map (fun d => d.parameters.length) = some 1 := by decide +kernel
set_option maxHeartbeats 4000000 in
set_option maxRecDepth 100000 in
theorem c_M_weightOf (l : Launch) (dC : Nat → ClassId) (dI : Nat → Nat → Nat) (n : Nat) (k : Nat) (wk : Bool) (fl : Bool) (cm : Nat) (bl : Int32) (sd : Int32) (sm : Int64) (co : Int32) (cf : Bool) (hm : Nat) (a1 : Nat) (a2 : Nat) (a3 : Nat) (a4 : Nat) (a5 : Nat) (a6 : Nat) (a7 : Nat) (a8 : Nat) (a9 : Nat) (a10 : Nat) (a11 : Nat) (a12 : Nat) (a13 : Nat) (a14 : Nat) (cI : ClassId) (w : Nat → Int32) (x : Int32) (hk : k ≤ 18) : Met l y_M_weightOf (.code y_M_weightOf k_M_weightOf 5 (.some FieldType.long) :: gw) rm_M_weightOf (roP [.ref hm, .int x] (dC, dI) [(hm, .inr (5, [.int (nI n), .int (nI k), .ref a1, .ref a2, .int (bI wk), .int (bI fl), .int (nI cm), .ref a3, .ref a4, .int bl, .int sd, .long sm, .int co, .ref a5, .ref a6, .ref a7, .ref a8, .ref a9, .ref a10, .ref a11, .ref a12, .ref a13, .int (bI cf), .ref a14])), (a2, .inl (cI, 18, .inl w))] [(cI, .int)]) (vp_Sl (fun r => r = fo (pm_wo w x) k 0)) 0 0 (fun _ => False) := by
  refine ro_metL (by decide) ⟨rfl, rfl⟩ (Nat.le_of_ble_eq_true rfl) ?_
  intro p e s m args below meth c Q ls Sx hP hK hl hret
  have hx := Sx.1
  have hb := Sx.2.1
  have hl : lv_has ls 5 [(0, .ref hm), (1, .int x)] := hl
  refine lv_lconst (v := 0) hx hb d_M_weightOf_0 (by decide) ?_
  refine lv_lstore_n hx hb d_M_weightOf_1 rfl hl (Nat.le_of_ble_eq_true rfl) rfl (fun ls hl => ?_)
  have hl : lv_has ls 5 [(2, .long (0 : Int64)), (0, .ref hm), (1, .int x)] := hl
  refine lv_iconst (v := nI 0) hx hb d_M_weightOf_2 (by decide) ?_
  refine lv_istore hx hb d_M_weightOf_3 hl (Nat.le_of_ble_eq_true rfl) rfl (fun ls hl => ?_)
  have hl : lv_has ls 5 [(4, .int (nI 0)), (2, .long (0 : Int64)), (0, .ref hm), (1, .int x)] := hl
  have hL5 : ∀ (kk i : Nat), i + kk = k → ∀ (d : Int64) (ls : Array Slot), d = fo (pm_wo w x) i 0 → lv_has ls 5 [(4, .int (nI i)), (2, .long d), (0, .ref hm), (1, .int x)] → W p l e rm_M_weightOf s m args below meth c s.heap [] 0 0 Q (F0 m 5 ls []) := by
    intro kk
    induction kk with
    | zero =>
      intro i hi5 d ls he5 hl
      have hj5 : i = k := by omega
      rw [hj5] at hl he5
      have e_d : d = (fo (pm_wo w x) k 0) := by rw [← he5]
      subst e_d
      have hl : lv_has ls 5 [(4, .int (nI k)), (2, .long (fo (pm_wo w x) k 0)), (0, .ref hm), (1, .int x)] := hl
      refine lv_iload hx hb d_M_weightOf_5 (lv_at hl 0 rfl) ?_
      refine lv_aload_n hx hb d_M_weightOf_7 rfl (lv_at hl 2 rfl) ?_
      refine g_get Sx gf_M hK hP 0 rfl rfl 1 (by decide) gm_420 rfl d_M_weightOf_8 ?_
      refine lv_icmp_ge hx hb d_M_weightOf_11 (tgt := 44) rfl (fun q1 => ?_) (fun q1 => ?_)
      · have q1 : k ≤ k := nq_le (by omega) (by omega) q1
        refine lv_lload_n hx hb d_M_weightOf_44 rfl (lv_at hl 1 rfl) ?_
        exact hret _ _ d_M_weightOf_45
      · have q1 : k < k := nq_nle (by omega) (by omega) q1
        exact absurd q1 (by omega)
    | succ kk ih5 =>
      intro i hi5 d ls he5 hl
      refine lv_iload hx hb d_M_weightOf_5 (lv_at hl 0 rfl) ?_
      refine lv_aload_n hx hb d_M_weightOf_7 rfl (lv_at hl 2 rfl) ?_
      refine g_get Sx gf_M hK hP 0 rfl rfl 1 (by decide) gm_420 rfl d_M_weightOf_8 ?_
      refine lv_icmp_ge hx hb d_M_weightOf_11 (tgt := 44) rfl (fun q2 => ?_) (fun q2 => ?_)
      · have q2 : k ≤ i := nq_le (by omega) (by omega) q2
        exact absurd q2 (by omega)
      · have q2 : i < k := nq_nle (by omega) (by omega) q2
        refine lv_iload_n hx hb d_M_weightOf_14 rfl (lv_at hl 3 rfl) ?_
        refine lv_iload hx hb d_M_weightOf_15 (lv_at hl 0 rfl) ?_
        refine ro_S (As := [.int x, .int (nI i)]) (rest := []) Sx (c_M_has l dC dI x (nI i)) (gw_callS gm_509 gm_510 gm_56 gm_511) hd_M_has ⟨rfl, rfl⟩ ⟨Nat.le_of_ble_eq_true rfl, Nat.le_of_ble_eq_true rfl⟩ (va_P_map hP [] rfl) (hK.sub (tys' := []) [] rfl) rfl hl.1 rfl (Nat.le_of_ble_eq_true rfl) d_M_weightOf_17 ⟨Nat.zero_le _, Nat.zero_le _⟩ ?_
        refine lv_if_eq hx hb d_M_weightOf_20 (tgt := 36) rfl (fun q3 => ?_) (fun q3 => ?_)
        · have q3 : (pm_has x (nI i)) = false := bI_0.mp q3
          refine lv_lload_n hx hb d_M_weightOf_36 rfl (lv_at hl 1 rfl) ?_
          refine lv_lstore_n hx hb d_M_weightOf_37 rfl hl (Nat.le_of_ble_eq_true rfl) rfl (fun ls hl => ?_)
          have hl : lv_has ls 5 [(2, .long d), (4, .int (nI i)), (0, .ref hm), (1, .int x)] := hl
          refine lv_iinc (k := 1) (v := nI (i + 1)) hx hb d_M_weightOf_38 hl rfl (inc_nI _) (Nat.le_of_ble_eq_true rfl) rfl (fun ls hl => ?_)
          have hl : lv_has ls 5 [(4, .int (nI (i + 1))), (2, .long d), (0, .ref hm), (1, .int x)] := hl
          refine lv_goto hx hb d_M_weightOf_41 (tgt := 5) rfl ?_
          have he2 : d = fo (pm_wo w x) (i + 1) 0 := by
            rw [fo_s, ← he5]
            simp [pm_wo, q2, q3]
          exact ih5 (i + 1) (by omega) d  ls he2  (lv_sub hl [0, 1, 2, 3] rfl)
        · have q3 : (pm_has x (nI i)) = true := bI_1.mp q3
          refine lv_lload_n hx hb d_M_weightOf_23 rfl (lv_at hl 1 rfl) ?_
          refine lv_aload_n hx hb d_M_weightOf_24 rfl (lv_at hl 2 rfl) ?_
          refine g_get Sx gf_M hK hP 0 rfl rfl 3 (by decide) gm_422 rfl d_M_weightOf_25 ?_
          refine lv_iload hx hb d_M_weightOf_28 (lv_at hl 0 rfl) ?_
          refine g_ild (j := i) Sx hK hP 1 0 rfl rfl (by omega) (by decide) d_M_weightOf_30 ?_
          refine lv_i2l hx hb d_M_weightOf_31 rfl ?_
          refine lv_ladd hx hb d_M_weightOf_32 ?_
          refine lv_goto hx hb d_M_weightOf_33 (tgt := 37) rfl ?_
          refine lv_lstore_n hx hb d_M_weightOf_37 rfl hl (Nat.le_of_ble_eq_true rfl) rfl (fun ls hl => ?_)
          have hl : lv_has ls 5 [(2, .long (d + (((w i) : Int32).toInt64))), (4, .int (nI i)), (0, .ref hm), (1, .int x)] := hl
          refine lv_iinc (k := 1) (v := nI (i + 1)) hx hb d_M_weightOf_38 hl rfl (inc_nI _) (Nat.le_of_ble_eq_true rfl) rfl (fun ls hl => ?_)
          have hl : lv_has ls 5 [(4, .int (nI (i + 1))), (2, .long (d + (((w i) : Int32).toInt64))), (0, .ref hm), (1, .int x)] := hl
          refine lv_goto hx hb d_M_weightOf_41 (tgt := 5) rfl ?_
          have he2 : (d + (((w i) : Int32).toInt64)) = fo (pm_wo w x) (i + 1) 0 := by
            rw [fo_s, ← he5]
            simp [pm_wo, q2, q3]
          exact ih5 (i + 1) (by omega) (d + (((w i) : Int32).toInt64))  ls he2  (lv_sub hl [0, 1, 2, 3] rfl)
  exact hL5 k 0 (by omega) 0  ls rfl  (lv_sub hl [0, 1, 2, 3] rfl)
