theorem d_G_hasVertex_0 : decode k_G_hasVertex 0 = .ok (.iload_n 1, 1) := by decide +kernel
theorem d_G_hasVertex_1 : decode k_G_hasVertex 1 = .ok (.ifCond .lt 15, 3) := by decide +kernel
theorem d_G_hasVertex_4 : decode k_G_hasVertex 4 = .ok (.iload_n 1, 1) := by decide +kernel
theorem d_G_hasVertex_5 : decode k_G_hasVertex 5 = .ok (.aload_n 0, 1) := by decide +kernel
theorem d_G_hasVertex_6 : decode k_G_hasVertex 6 = .ok (.getfield 21, 3) := by decide +kernel
theorem d_G_hasVertex_9 : decode k_G_hasVertex 9 = .ok (.if_icmp .ge 7, 3) := by decide +kernel
theorem d_G_hasVertex_12 : decode k_G_hasVertex 12 = .ok (.iconst 1, 1) := by decide +kernel
theorem d_G_hasVertex_13 : decode k_G_hasVertex 13 = .ok (.goto 4, 3) := by decide +kernel
theorem d_G_hasVertex_16 : decode k_G_hasVertex 16 = .ok (.iconst 0, 1) := by decide +kernel
theorem d_G_hasVertex_17 : decode k_G_hasVertex 17 = .ok (.ireturn, 1) := by decide +kernel
abbrev rm_G_hasVertex : Room := { frames := 0, cells := 0, slots := 0, locals := 0 }
theorem hd_G_hasVertex : y_G_hasVertex.cls = n_G ∧ y_G_hasVertex.cls ≠ "java/lang/invoke/MethodHandle" ∧ y_G_hasVertex.cls ≠ "java/lang/invoke/VarHandle" ∧ (parseMethodDescriptor y_G_hasVertex.desc).map (fun d => d.parameters.length) = some 1 := by decide +kernel
set_option maxHeartbeats 4000000 in
set_option maxRecDepth 100000 in
theorem c_G_hasVertex (l : Launch) (dC : Nat → ClassId) (dI : Nat → Nat → Nat) (n : Nat) (k : Nat) (F : Nat → Nat) (S : Nat → Nat) (w : Nat → Int32) (hg : Nat) (g1 : Nat) (g2 : Nat) (g3 : Nat) (cI : ClassId) (v : Int32) : Met l y_G_hasVertex (.code y_G_hasVertex k_G_hasVertex 2 (.some FieldType.boolean) :: gw) rm_G_hasVertex (roP [.ref hg, .int v] (dC, dI) [(hg, .inr (1, [.int (nI n), .int (nI k), .ref g1, .ref g2, .ref g3])), (g1, .inl (cI, 18, .inl (fun i9 => nI (F i9)))), (g2, .inl (cI, 18, .inl (fun i9 => nI (S i9)))), (g3, .inl (cI, 18, .inl w))] [(cI, .int)]) (vp_Si (fun r => r = bI (ps_in v (nI n)))) 0 0 (fun _ => False) := by
  refine ro_met (by decide) ⟨rfl, rfl⟩ (bI_nar _) (Nat.le_of_ble_eq_true rfl) ?_
  intro p e s m args below meth c Q ls Sx hP hK hl hret
  have hx := Sx.1
  have hb := Sx.2.1
  have hl : lv_has ls 2 [(0, .ref hg), (1, .int v)] := hl
  refine lv_iload_n hx hb d_G_hasVertex_0 rfl (lv_at hl 1 rfl) ?_
  refine lv_if_lt hx hb d_G_hasVertex_1 (tgt := 16) rfl (fun q1 => ?_) (fun q1 => ?_)
  · skip
    refine lv_iconst (v := 0) hx hb d_G_hasVertex_16 (by decide) ?_
    rw [show (0 : Int32) = (bI (ps_in v (nI n))) from by simp [ps_in, bI, *]]
    exact hret _ _ d_G_hasVertex_17
  · skip
    refine lv_iload_n hx hb d_G_hasVertex_4 rfl (lv_at hl 1 rfl) ?_
    refine lv_aload_n hx hb d_G_hasVertex_5 rfl (lv_at hl 0 rfl) ?_
    refine g_get Sx gf_G hK hP 0 rfl rfl 0 (by decide) gm_73 rfl d_G_hasVertex_6 ?_
    refine lv_icmp_ge hx hb d_G_hasVertex_9 (tgt := 16) rfl (fun q2 => ?_) (fun q2 => ?_)
    · skip
      refine lv_iconst (v := 0) hx hb d_G_hasVertex_16 (by decide) ?_
      rw [show (0 : Int32) = (bI (ps_in v (nI n))) from by simp [ps_in, bI, *]]
      exact hret _ _ d_G_hasVertex_17
    · skip
      refine lv_iconst (v := 1) hx hb d_G_hasVertex_12 (by decide) ?_
      refine lv_goto hx hb d_G_hasVertex_13 (tgt := 17) rfl ?_
      rw [show (1 : Int32) = (bI (ps_in v (nI n))) from by simp [ps_in, bI, *]]
      exact hret _ _ d_G_hasVertex_17
theorem d_G_hasEdge_0 : decode k_G_hasEdge 0 = .ok (.iload_n 1, 1) := by decide +kernel
theorem d_G_hasEdge_1 : decode k_G_hasEdge 1 = .ok (.ifCond .lt 15, 3) := by decide +kernel
theorem d_G_hasEdge_4 : decode k_G_hasEdge 4 = .ok (.iload_n 1, 1) := by decide +kernel
theorem d_G_hasEdge_5 : decode k_G_hasEdge 5 = .ok (.aload_n 0, 1) := by decide +kernel
theorem d_G_hasEdge_6 : decode k_G_hasEdge 6 = .ok (.getfield 25, 3) := by decide +kernel
theorem d_G_hasEdge_9 : decode k_G_hasEdge 9 = .ok (.if_icmp .ge 7, 3) := by decide +kernel
theorem d_G_hasEdge_12 : decode k_G_hasEdge 12 = .ok (.iconst 1, 1) := by decide +kernel
theorem d_G_hasEdge_13 : decode k_G_hasEdge 13 = .ok (.goto 4, 3) := by decide +kernel
theorem d_G_hasEdge_16 : decode k_G_hasEdge 16 = .ok (.iconst 0, 1) := by decide +kernel
theorem d_G_hasEdge_17 : decode k_G_hasEdge 17 = .ok (.ireturn, 1) := by decide +kernel
abbrev rm_G_hasEdge : Room := { frames := 0, cells := 0, slots := 0, locals := 0 }
theorem hd_G_hasEdge : y_G_hasEdge.cls = n_G ∧ y_G_hasEdge.cls ≠ "java/lang/invoke/MethodHandle" ∧ y_G_hasEdge.cls ≠ "java/lang/invoke/VarHandle" ∧ (parseMethodDescriptor y_G_hasEdge.desc).map (fun d => d.parameters.length) = some 1 := by decide +kernel
set_option maxHeartbeats 4000000 in
set_option maxRecDepth 100000 in
theorem c_G_hasEdge (l : Launch) (dC : Nat → ClassId) (dI : Nat → Nat → Nat) (n : Nat) (k : Nat) (F : Nat → Nat) (S : Nat → Nat) (w : Nat → Int32) (hg : Nat) (g1 : Nat) (g2 : Nat) (g3 : Nat) (cI : ClassId) (v : Int32) : Met l y_G_hasEdge (.code y_G_hasEdge k_G_hasEdge 2 (.some FieldType.boolean) :: gw) rm_G_hasEdge (roP [.ref hg, .int v] (dC, dI) [(hg, .inr (1, [.int (nI n), .int (nI k), .ref g1, .ref g2, .ref g3])), (g1, .inl (cI, 18, .inl (fun i9 => nI (F i9)))), (g2, .inl (cI, 18, .inl (fun i9 => nI (S i9)))), (g3, .inl (cI, 18, .inl w))] [(cI, .int)]) (vp_Si (fun r => r = bI (ps_in v (nI k)))) 0 0 (fun _ => False) := by
  refine ro_met (by decide) ⟨rfl, rfl⟩ (bI_nar _) (Nat.le_of_ble_eq_true rfl) ?_
  intro p e s m args below meth c Q ls Sx hP hK hl hret
  have hx := Sx.1
  have hb := Sx.2.1
  have hl : lv_has ls 2 [(0, .ref hg), (1, .int v)] := hl
  refine lv_iload_n hx hb d_G_hasEdge_0 rfl (lv_at hl 1 rfl) ?_
  refine lv_if_lt hx hb d_G_hasEdge_1 (tgt := 16) rfl (fun q1 => ?_) (fun q1 => ?_)
  · skip
    refine lv_iconst (v := 0) hx hb d_G_hasEdge_16 (by decide) ?_
    rw [show (0 : Int32) = (bI (ps_in v (nI k))) from by simp [ps_in, bI, *]]
    exact hret _ _ d_G_hasEdge_17
  · skip
    refine lv_iload_n hx hb d_G_hasEdge_4 rfl (lv_at hl 1 rfl) ?_
    refine lv_aload_n hx hb d_G_hasEdge_5 rfl (lv_at hl 0 rfl) ?_
    refine g_get Sx gf_G hK hP 0 rfl rfl 1 (by decide) gm_81 rfl d_G_hasEdge_6 ?_
    refine lv_icmp_ge hx hb d_G_hasEdge_9 (tgt := 16) rfl (fun q2 => ?_) (fun q2 => ?_)
    · skip
      refine lv_iconst (v := 0) hx hb d_G_hasEdge_16 (by decide) ?_
      rw [show (0 : Int32) = (bI (ps_in v (nI k))) from by simp [ps_in, bI, *]]
      exact hret _ _ d_G_hasEdge_17
    · skip
      refine lv_iconst (v := 1) hx hb d_G_hasEdge_12 (by decide) ?_
      refine lv_goto hx hb d_G_hasEdge_13 (tgt := 17) rfl ?_
      rw [show (1 : Int32) = (bI (ps_in v (nI k))) from by simp [ps_in, bI, *]]
      exact hret _ _ d_G_hasEdge_17
theorem d_G_allEdges_0 : decode k_G_allEdges 0 = .ok (.iconst 1, 1) := by decide +kernel
theorem d_G_allEdges_1 : decode k_G_allEdges 1 = .ok (.aload_n 0, 1) := by decide +kernel
theorem d_G_allEdges_2 : decode k_G_allEdges 2 = .ok (.getfield 25, 3) := by decide +kernel
theorem d_G_allEdges_5 : decode k_G_allEdges 5 = .ok (.ishl, 1) := by decide +kernel
theorem d_G_allEdges_6 : decode k_G_allEdges 6 = .ok (.iconst 1, 1) := by decide +kernel
theorem d_G_allEdges_7 : decode k_G_allEdges 7 = .ok (.isub, 1) := by decide +kernel
theorem d_G_allEdges_8 : decode k_G_allEdges 8 = .ok (.ireturn, 1) := by decide +kernel
abbrev rm_G_allEdges : Room := { frames := 0, cells := 0, slots := 0, locals := 0 }
theorem hd_G_allEdges : y_G_allEdges.cls = n_G ∧ y_G_allEdges.cls ≠ "java/lang/invoke/MethodHandle" ∧ y_G_allEdges.cls ≠ "java/lang/invoke/VarHandle" ∧ (parseMethodDescriptor y_G_allEdges.desc).map (fun d => d.parameters.length) = some 0 := by decide +kernel
set_option maxHeartbeats 4000000 in
set_option maxRecDepth 100000 in
theorem c_G_allEdges (l : Launch) (dC : Nat → ClassId) (dI : Nat → Nat → Nat) (n : Nat) (k : Nat) (F : Nat → Nat) (S : Nat → Nat) (w : Nat → Int32) (hg : Nat) (g1 : Nat) (g2 : Nat) (g3 : Nat) (cI : ClassId) : Met l y_G_allEdges (.code y_G_allEdges k_G_allEdges 1 (.some FieldType.int) :: gw) rm_G_allEdges (roP [.ref hg] (dC, dI) [(hg, .inr (1, [.int (nI n), .int (nI k), .ref g1, .ref g2, .ref g3])), (g1, .inl (cI, 18, .inl (fun i9 => nI (F i9)))), (g2, .inl (cI, 18, .inl (fun i9 => nI (S i9)))), (g3, .inl (cI, 18, .inl w))] [(cI, .int)]) (vp_Si (fun r => r = ps_all k)) 0 0 (fun _ => False) := by
  refine ro_met (by decide) ⟨rfl, rfl⟩ rfl (Nat.le_of_ble_eq_true rfl) ?_
  intro p e s m args below meth c Q ls Sx hP hK hl hret
  have hx := Sx.1
  have hb := Sx.2.1
  have hl : lv_has ls 1 [(0, .ref hg)] := hl
  refine lv_iconst (v := 1) hx hb d_G_allEdges_0 (by decide) ?_
  refine lv_aload_n hx hb d_G_allEdges_1 rfl (lv_at hl 0 rfl) ?_
  refine g_get Sx gf_G hK hP 0 rfl rfl 1 (by decide) gm_81 rfl d_G_allEdges_2 ?_
  refine lv_ishl hx hb d_G_allEdges_5 ?_
  refine lv_iconst (v := 1) hx hb d_G_allEdges_6 (by decide) ?_
  refine lv_isub hx hb d_G_allEdges_7 ?_
  rw [show (((1 <<< ((nI k) &&& 31)) - 1) : Int32) = (ps_all k) from rfl]
  exact hret _ _ d_G_allEdges_8
theorem d_G_ends_0 : decode k_G_ends 0 = .ok (.iconst 1, 1) := by decide +kernel
theorem d_G_ends_1 : decode k_G_ends 1 = .ok (.aload_n 0, 1) := by decide +kernel
theorem d_G_ends_2 : decode k_G_ends 2 = .ok (.getfield 9, 3) := by decide +kernel
theorem d_G_ends_5 : decode k_G_ends 5 = .ok (.iload_n 1, 1) := by decide +kernel
theorem d_G_ends_6 : decode k_G_ends 6 = .ok (.iaload, 1) := by decide +kernel
theorem d_G_ends_7 : decode k_G_ends 7 = .ok (.ishl, 1) := by decide +kernel
theorem d_G_ends_8 : decode k_G_ends 8 = .ok (.iconst 1, 1) := by decide +kernel
theorem d_G_ends_9 : decode k_G_ends 9 = .ok (.aload_n 0, 1) := by decide +kernel
theorem d_G_ends_10 : decode k_G_ends 10 = .ok (.getfield 15, 3) := by decide +kernel
theorem d_G_ends_13 : decode k_G_ends 13 = .ok (.iload_n 1, 1) := by decide +kernel
theorem d_G_ends_14 : decode k_G_ends 14 = .ok (.iaload, 1) := by decide +kernel
theorem d_G_ends_15 : decode k_G_ends 15 = .ok (.ishl, 1) := by decide +kernel
theorem d_G_ends_16 : decode k_G_ends 16 = .ok (.ior, 1) := by decide +kernel
theorem d_G_ends_17 : decode k_G_ends 17 = .ok (.ireturn, 1) := by decide +kernel
abbrev rm_G_ends : Room := { frames := 0, cells := 0, slots := 0, locals := 0 }
theorem hd_G_ends : y_G_ends.cls = n_G ∧ y_G_ends.cls ≠ "java/lang/invoke/MethodHandle" ∧ y_G_ends.cls ≠ "java/lang/invoke/VarHandle" ∧ (parseMethodDescriptor y_G_ends.desc).map (fun d => d.parameters.length) = some 1 := by decide +kernel
set_option maxHeartbeats 4000000 in
set_option maxRecDepth 100000 in
theorem c_G_ends (l : Launch) (dC : Nat → ClassId) (dI : Nat → Nat → Nat) (n : Nat) (k : Nat) (F : Nat → Nat) (S : Nat → Nat) (w : Nat → Int32) (hg : Nat) (g1 : Nat) (g2 : Nat) (g3 : Nat) (cI : ClassId) (v : Nat) (hv : v < 18) : Met l y_G_ends (.code y_G_ends k_G_ends 2 (.some FieldType.int) :: gw) rm_G_ends (roP [.ref hg, .int (nI v)] (dC, dI) [(hg, .inr (1, [.int (nI n), .int (nI k), .ref g1, .ref g2, .ref g3])), (g1, .inl (cI, 18, .inl (fun i9 => nI (F i9)))), (g2, .inl (cI, 18, .inl (fun i9 => nI (S i9)))), (g3, .inl (cI, 18, .inl w))] [(cI, .int)]) (vp_Si (fun r => r = ps_ends F S v)) 0 0 (fun _ => False) := by
  refine ro_met (by decide) ⟨rfl, rfl⟩ rfl (Nat.le_of_ble_eq_true rfl) ?_
  intro p e s m args below meth c Q ls Sx hP hK hl hret
  have hx := Sx.1
  have hb := Sx.2.1
  have hl : lv_has ls 2 [(0, .ref hg), (1, .int (nI v))] := hl
  refine lv_iconst (v := 1) hx hb d_G_ends_0 (by decide) ?_
  refine lv_aload_n hx hb d_G_ends_1 rfl (lv_at hl 0 rfl) ?_
  refine g_get Sx gf_G hK hP 0 rfl rfl 2 (by decide) gm_83 rfl d_G_ends_2 ?_
  refine lv_iload_n hx hb d_G_ends_5 rfl (lv_at hl 1 rfl) ?_
  refine g_ild (j := v) Sx hK hP 1 0 rfl rfl (by omega) (by decide) d_G_ends_6 ?_
  refine lv_ishl hx hb d_G_ends_7 ?_
  refine lv_iconst (v := 1) hx hb d_G_ends_8 (by decide) ?_
  refine lv_aload_n hx hb d_G_ends_9 rfl (lv_at hl 0 rfl) ?_
  refine g_get Sx gf_G hK hP 0 rfl rfl 3 (by decide) gm_87 rfl d_G_ends_10 ?_
  refine lv_iload_n hx hb d_G_ends_13 rfl (lv_at hl 1 rfl) ?_
  refine g_ild (j := v) Sx hK hP 2 0 rfl rfl (by omega) (by decide) d_G_ends_14 ?_
  refine lv_ishl hx hb d_G_ends_15 ?_
  refine lv_ior hx hb d_G_ends_16 ?_
  rw [show (((1 <<< ((nI (F v)) &&& 31)) ||| (1 <<< ((nI (S v)) &&& 31))) : Int32) = (ps_ends F S v) from rfl]
  exact hret _ _ d_G_ends_17
theorem d_G_isBetween_0 : decode k_G_isBetween 0 = .ok (.iload_n 2, 1) := by decide +kernel
theorem d_G_isBetween_1 : decode k_G_isBetween 1 = .ok (.aload_n 0, 1) := by decide +kernel
theorem d_G_isBetween_2 : decode k_G_isBetween 2 = .ok (.getfield 9, 3) := by decide +kernel
theorem d_G_isBetween_5 : decode k_G_isBetween 5 = .ok (.iload_n 1, 1) := by decide +kernel
theorem d_G_isBetween_6 : decode k_G_isBetween 6 = .ok (.iaload, 1) := by decide +kernel
theorem d_G_isBetween_7 : decode k_G_isBetween 7 = .ok (.ishr, 1) := by decide +kernel
theorem d_G_isBetween_8 : decode k_G_isBetween 8 = .ok (.iload_n 2, 1) := by decide +kernel
theorem d_G_isBetween_9 : decode k_G_isBetween 9 = .ok (.aload_n 0, 1) := by decide +kernel
theorem d_G_isBetween_10 : decode k_G_isBetween 10 = .ok (.getfield 15, 3) := by decide +kernel
theorem d_G_isBetween_13 : decode k_G_isBetween 13 = .ok (.iload_n 1, 1) := by decide +kernel
theorem d_G_isBetween_14 : decode k_G_isBetween 14 = .ok (.iaload, 1) := by decide +kernel
theorem d_G_isBetween_15 : decode k_G_isBetween 15 = .ok (.ishr, 1) := by decide +kernel
theorem d_G_isBetween_16 : decode k_G_isBetween 16 = .ok (.ixor, 1) := by decide +kernel
theorem d_G_isBetween_17 : decode k_G_isBetween 17 = .ok (.iconst 1, 1) := by decide +kernel
theorem d_G_isBetween_18 : decode k_G_isBetween 18 = .ok (.iand, 1) := by decide +kernel
theorem d_G_isBetween_19 : decode k_G_isBetween 19 = .ok (.ifCond .eq 7, 3) := by decide +kernel
theorem d_G_isBetween_22 : decode k_G_isBetween 22 = .ok (.iconst 1, 1) := by decide +kernel
theorem d_G_isBetween_23 : decode k_G_isBetween 23 = .ok (.goto 4, 3) := by decide +kernel
theorem d_G_isBetween_26 : decode k_G_isBetween 26 = .ok (.iconst 0, 1) := by decide +kernel
theorem d_G_isBetween_27 : decode k_G_isBetween 27 = .ok (.ireturn, 1) := by decide +kernel
abbrev rm_G_isBetween : Room := { frames := 0, cells := 0, slots := 0, locals := 0 }
theorem hd_G_isBetween : y_G_isBetween.cls = n_G ∧ y_G_isBetween.cls ≠ "java/lang/invoke/MethodHandle" ∧ y_G_isBetween.cls ≠ "java/lang/invoke/VarHandle" ∧ (parseMethodDescriptor y_G_isBetween.desc).map (fun d => d.parameters.length) = some 2 := by decide +kernel
set_option maxHeartbeats 4000000 in
set_option maxRecDepth 100000 in
theorem c_G_isBetween (l : Launch) (dC : Nat → ClassId) (dI : Nat → Nat → Nat) (n : Nat) (k : Nat) (F : Nat → Nat) (S : Nat → Nat) (w : Nat → Int32) (hg : Nat) (g1 : Nat) (g2 : Nat) (g3 : Nat) (cI : ClassId) (v : Nat) (x : Int32) (hv : v < 18) : Met l y_G_isBetween (.code y_G_isBetween k_G_isBetween 3 (.some FieldType.boolean) :: gw) rm_G_isBetween (roP [.ref hg, .int (nI v), .int x] (dC, dI) [(hg, .inr (1, [.int (nI n), .int (nI k), .ref g1, .ref g2, .ref g3])), (g1, .inl (cI, 18, .inl (fun i9 => nI (F i9)))), (g2, .inl (cI, 18, .inl (fun i9 => nI (S i9)))), (g3, .inl (cI, 18, .inl w))] [(cI, .int)]) (vp_Si (fun r => r = bI (ps_betw F S v x))) 0 0 (fun _ => False) := by
  refine ro_met (by decide) ⟨rfl, rfl⟩ (bI_nar _) (Nat.le_of_ble_eq_true rfl) ?_
  intro p e s m args below meth c Q ls Sx hP hK hl hret
  have hx := Sx.1
  have hb := Sx.2.1
  have hl : lv_has ls 3 [(0, .ref hg), (1, .int (nI v)), (2, .int x)] := hl
  refine lv_iload_n hx hb d_G_isBetween_0 rfl (lv_at hl 2 rfl) ?_
  refine lv_aload_n hx hb d_G_isBetween_1 rfl (lv_at hl 0 rfl) ?_
  refine g_get Sx gf_G hK hP 0 rfl rfl 2 (by decide) gm_83 rfl d_G_isBetween_2 ?_
  refine lv_iload_n hx hb d_G_isBetween_5 rfl (lv_at hl 1 rfl) ?_
  refine g_ild (j := v) Sx hK hP 1 0 rfl rfl (by omega) (by decide) d_G_isBetween_6 ?_
  refine lv_ishr hx hb d_G_isBetween_7 ?_
  refine lv_iload_n hx hb d_G_isBetween_8 rfl (lv_at hl 2 rfl) ?_
  refine lv_aload_n hx hb d_G_isBetween_9 rfl (lv_at hl 0 rfl) ?_
  refine g_get Sx gf_G hK hP 0 rfl rfl 3 (by decide) gm_87 rfl d_G_isBetween_10 ?_
  refine lv_iload_n hx hb d_G_isBetween_13 rfl (lv_at hl 1 rfl) ?_
  refine g_ild (j := v) Sx hK hP 2 0 rfl rfl (by omega) (by decide) d_G_isBetween_14 ?_
  refine lv_ishr hx hb d_G_isBetween_15 ?_
  refine lv_ixor hx hb d_G_isBetween_16 ?_
  refine lv_iconst (v := 1) hx hb d_G_isBetween_17 (by decide) ?_
  refine lv_iand hx hb d_G_isBetween_18 ?_
  refine lv_if_eq hx hb d_G_isBetween_19 (tgt := 26) rfl (fun q1 => ?_) (fun q1 => ?_)
  · skip
    refine lv_iconst (v := 0) hx hb d_G_isBetween_26 (by decide) ?_
    rw [show (0 : Int32) = (bI (ps_betw F S v x)) from by simp [ps_betw, bI, *]]
    exact hret _ _ d_G_isBetween_27
  · skip
    refine lv_iconst (v := 1) hx hb d_G_isBetween_22 (by decide) ?_
    refine lv_goto hx hb d_G_isBetween_23 (tgt := 27) rfl ?_
    rw [show (1 : Int32) = (bI (ps_betw F S v x)) from by simp [ps_betw, bI, *]]
    exact hret _ _ d_G_isBetween_27
theorem d_G_degree_0 : decode k_G_degree 0 = .ok (.iconst 0, 1) := by decide +kernel
theorem d_G_degree_1 : decode k_G_degree 1 = .ok (.istore_n 3, 1) := by decide +kernel
theorem d_G_degree_2 : decode k_G_degree 2 = .ok (.iconst 0, 1) := by decide +kernel
theorem d_G_degree_3 : decode k_G_degree 3 = .ok (.istore 4, 2) := by decide +kernel
theorem d_G_degree_5 : decode k_G_degree 5 = .ok (.iload 4, 2) := by decide +kernel
theorem d_G_degree_7 : decode k_G_degree 7 = .ok (.aload_n 0, 1) := by decide +kernel
theorem d_G_degree_8 : decode k_G_degree 8 = .ok (.getfield 25, 3) := by decide +kernel
theorem d_G_degree_11 : decode k_G_degree 11 = .ok (.if_icmp .ge 43, 3) := by decide +kernel
theorem d_G_degree_14 : decode k_G_degree 14 = .ok (.iload_n 2, 1) := by decide +kernel
theorem d_G_degree_15 : decode k_G_degree 15 = .ok (.iload 4, 2) := by decide +kernel
theorem d_G_degree_17 : decode k_G_degree 17 = .ok (.invokestatic 28, 3) := by decide +kernel
theorem d_G_degree_20 : decode k_G_degree 20 = .ok (.ifCond .eq 28, 3) := by decide +kernel
theorem d_G_degree_23 : decode k_G_degree 23 = .ok (.aload_n 0, 1) := by decide +kernel
theorem d_G_degree_24 : decode k_G_degree 24 = .ok (.getfield 9, 3) := by decide +kernel
theorem d_G_degree_27 : decode k_G_degree 27 = .ok (.iload 4, 2) := by decide +kernel
theorem d_G_degree_29 : decode k_G_degree 29 = .ok (.iaload, 1) := by decide +kernel
theorem d_G_degree_30 : decode k_G_degree 30 = .ok (.iload_n 1, 1) := by decide +kernel
theorem d_G_degree_31 : decode k_G_degree 31 = .ok (.if_icmp .eq 14, 3) := by decide +kernel
theorem d_G_degree_34 : decode k_G_degree 34 = .ok (.aload_n 0, 1) := by decide +kernel
theorem d_G_degree_35 : decode k_G_degree 35 = .ok (.getfield 15, 3) := by decide +kernel
theorem d_G_degree_38 : decode k_G_degree 38 = .ok (.iload 4, 2) := by decide +kernel
theorem d_G_degree_40 : decode k_G_degree 40 = .ok (.iaload, 1) := by decide +kernel
theorem d_G_degree_41 : decode k_G_degree 41 = .ok (.iload_n 1, 1) := by decide +kernel
theorem d_G_degree_42 : decode k_G_degree 42 = .ok (.if_icmp .ne 6, 3) := by decide +kernel
theorem d_G_degree_45 : decode k_G_degree 45 = .ok (.iinc 3 1, 3) := by decide +kernel
theorem d_G_degree_48 : decode k_G_degree 48 = .ok (.iinc 4 1, 3) := by decide +kernel
theorem d_G_degree_51 : decode k_G_degree 51 = .ok (.goto (-46), 3) := by decide +kernel
theorem d_G_degree_54 : decode k_G_degree 54 = .ok (.iload_n 3, 1) := by decide +kernel
theorem d_G_degree_55 : decode k_G_degree 55 = .ok (.ireturn, 1) := by decide +kernel
abbrev rm_G_degree : Room := { frames := 1, cells := 0, slots := 0, locals := 21 }
theorem hd_G_degree : y_G_degree.cls = n_G ∧ y_G_degree.cls ≠ "java/lang/invoke/MethodHandle" ∧ y_G_degree.cls ≠ "java/lang/invoke/VarHandle" ∧ (parseMethodDescriptor y_G_degree.desc).map (fun d => d.parameters.length) = some 2 := by decide +kernel
set_option maxHeartbeats 4000000 in
set_option maxRecDepth 100000 in
theorem c_G_degree (l : Launch) (dC : Nat → ClassId) (dI : Nat → Nat → Nat) (n : Nat) (k : Nat) (F : Nat → Nat) (S : Nat → Nat) (w : Nat → Int32) (hg : Nat) (g1 : Nat) (g2 : Nat) (g3 : Nat) (cI : ClassId) (v : Int32) (x : Int32) (hk : k ≤ 18) : Met l y_G_degree (.code y_G_degree k_G_degree 5 (.some FieldType.int) :: gw) rm_G_degree (roP [.ref hg, .int v, .int x] (dC, dI) [(hg, .inr (1, [.int (nI n), .int (nI k), .ref g1, .ref g2, .ref g3])), (g1, .inl (cI, 18, .inl (fun i9 => nI (F i9)))), (g2, .inl (cI, 18, .inl (fun i9 => nI (S i9)))), (g3, .inl (cI, 18, .inl w))] [(cI, .int)]) (vp_Si (fun r => r = fo (ps_deg1 F S v x) k 0)) 0 0 (fun _ => False) := by
  refine ro_met (by decide) ⟨rfl, rfl⟩ rfl (Nat.le_of_ble_eq_true rfl) ?_
  intro p e s m args below meth c Q ls Sx hP hK hl hret
  have hx := Sx.1
  have hb := Sx.2.1
  have hl : lv_has ls 5 [(0, .ref hg), (1, .int v), (2, .int x)] := hl
  refine lv_iconst (v := 0) hx hb d_G_degree_0 (by decide) ?_
  refine lv_istore_n hx hb d_G_degree_1 rfl hl (Nat.le_of_ble_eq_true rfl) rfl (fun ls hl => ?_)
  have hl : lv_has ls 5 [(3, .int 0), (0, .ref hg), (1, .int v), (2, .int x)] := hl
  refine lv_iconst (v := nI 0) hx hb d_G_degree_2 (by decide) ?_
  refine lv_istore hx hb d_G_degree_3 hl (Nat.le_of_ble_eq_true rfl) rfl (fun ls hl => ?_)
  have hl : lv_has ls 5 [(4, .int (nI 0)), (3, .int 0), (0, .ref hg), (1, .int v), (2, .int x)] := hl
  have hL5 : ∀ (kk i : Nat), i + kk = k → ∀ (d : Int32) (ls : Array Slot), d = fo (ps_deg1 F S v x) i 0 → lv_has ls 5 [(4, .int (nI i)), (3, .int d), (0, .ref hg), (1, .int v), (2, .int x)] → W p l e rm_G_degree s m args below meth c s.heap [] 0 0 Q (F0 m 5 ls []) := by
    intro kk
    induction kk with
    | zero =>
      intro i hi5 d ls he5 hl
      have hj5 : i = k := by omega
      rw [hj5] at hl he5
      have e_d : d = (fo (ps_deg1 F S v x) k 0) := by rw [← he5]
      subst e_d
      have hl : lv_has ls 5 [(4, .int (nI k)), (3, .int (fo (ps_deg1 F S v x) k 0)), (0, .ref hg), (1, .int v), (2, .int x)] := hl
      refine lv_iload hx hb d_G_degree_5 (lv_at hl 0 rfl) ?_
      refine lv_aload_n hx hb d_G_degree_7 rfl (lv_at hl 2 rfl) ?_
      refine g_get Sx gf_G hK hP 0 rfl rfl 1 (by decide) gm_81 rfl d_G_degree_8 ?_
      refine lv_icmp_ge hx hb d_G_degree_11 (tgt := 54) rfl (fun q1 => ?_) (fun q1 => ?_)
      · have q1 : k ≤ k := nq_le (by omega) (by omega) q1
        refine lv_iload_n hx hb d_G_degree_54 rfl (lv_at hl 1 rfl) ?_
        exact hret _ _ d_G_degree_55
      · have q1 : k < k := nq_nle (by omega) (by omega) q1
        exact absurd q1 (by omega)
    | succ kk ih5 =>
      intro i hi5 d ls he5 hl
      refine lv_iload hx hb d_G_degree_5 (lv_at hl 0 rfl) ?_
      refine lv_aload_n hx hb d_G_degree_7 rfl (lv_at hl 2 rfl) ?_
      refine g_get Sx gf_G hK hP 0 rfl rfl 1 (by decide) gm_81 rfl d_G_degree_8 ?_
      refine lv_icmp_ge hx hb d_G_degree_11 (tgt := 54) rfl (fun q2 => ?_) (fun q2 => ?_)
      · have q2 : k ≤ i := nq_le (by omega) (by omega) q2
        exact absurd q2 (by omega)
      · have q2 : i < k := nq_nle (by omega) (by omega) q2
        refine lv_iload_n hx hb d_G_degree_14 rfl (lv_at hl 4 rfl) ?_
        refine lv_iload hx hb d_G_degree_15 (lv_at hl 0 rfl) ?_
        refine ro_S (As := [.int x, .int (nI i)]) (rest := []) Sx (c_B_has l dC dI x (nI i)) (gw_callS gm_412 gm_250 gm_57 gm_251) hd_B_has ⟨rfl, rfl⟩ ⟨Nat.le_of_ble_eq_true rfl, Nat.le_of_ble_eq_true rfl⟩ (va_P_map hP [] rfl) (hK.sub (tys' := []) [] rfl) rfl hl.1 rfl (Nat.le_of_ble_eq_true rfl) d_G_degree_17 ⟨Nat.zero_le _, Nat.zero_le _⟩ ?_
        refine lv_if_eq hx hb d_G_degree_20 (tgt := 48) rfl (fun q3 => ?_) (fun q3 => ?_)
        · have q3 : (ps_has x (nI i)) = false := bI_0.mp q3
          refine lv_iinc (k := 0) (v := nI (i + 1)) hx hb d_G_degree_48 hl rfl (inc_nI _) (Nat.le_of_ble_eq_true rfl) rfl (fun ls hl => ?_)
          have hl : lv_has ls 5 [(4, .int (nI (i + 1))), (3, .int d), (0, .ref hg), (1, .int v), (2, .int x)] := hl
          refine lv_goto hx hb d_G_degree_51 (tgt := 5) rfl ?_
          have he2 : d = fo (ps_deg1 F S v x) (i + 1) 0 := by
            rw [fo_s, ← he5]
            simp [ps_deg1, q2, q3]
          exact ih5 (i + 1) (by omega) d  ls he2  (lv_sub hl [0, 1, 2, 3, 4] rfl)
        · have q3 : (ps_has x (nI i)) = true := bI_1.mp q3
          refine lv_aload_n hx hb d_G_degree_23 rfl (lv_at hl 2 rfl) ?_
          refine g_get Sx gf_G hK hP 0 rfl rfl 2 (by decide) gm_83 rfl d_G_degree_24 ?_
          refine lv_iload hx hb d_G_degree_27 (lv_at hl 0 rfl) ?_
          refine g_ild (j := i) Sx hK hP 1 0 rfl rfl (by omega) (by decide) d_G_degree_29 ?_
          refine lv_iload_n hx hb d_G_degree_30 rfl (lv_at hl 3 rfl) ?_
          refine lv_icmp_eq hx hb d_G_degree_31 (tgt := 45) rfl (fun q4 => ?_) (fun q4 => ?_)
          · skip
            refine lv_iinc (k := 1) (v := (d + 1)) hx hb d_G_degree_45 hl rfl rfl (Nat.le_of_ble_eq_true rfl) rfl (fun ls hl => ?_)
            have hl : lv_has ls 5 [(3, .int (d + 1)), (4, .int (nI i)), (0, .ref hg), (1, .int v), (2, .int x)] := hl
            refine lv_iinc (k := 1) (v := nI (i + 1)) hx hb d_G_degree_48 hl rfl (inc_nI _) (Nat.le_of_ble_eq_true rfl) rfl (fun ls hl => ?_)
            have hl : lv_has ls 5 [(4, .int (nI (i + 1))), (3, .int (d + 1)), (0, .ref hg), (1, .int v), (2, .int x)] := hl
            refine lv_goto hx hb d_G_degree_51 (tgt := 5) rfl ?_
            have he2 : (d + 1) = fo (ps_deg1 F S v x) (i + 1) 0 := by
              rw [fo_s, ← he5]
              simp [ps_deg1, q2, q3, q4]
            exact ih5 (i + 1) (by omega) (d + 1)  ls he2  (lv_sub hl [0, 1, 2, 3, 4] rfl)
          · skip
            refine lv_aload_n hx hb d_G_degree_34 rfl (lv_at hl 2 rfl) ?_
            refine g_get Sx gf_G hK hP 0 rfl rfl 3 (by decide) gm_87 rfl d_G_degree_35 ?_
            refine lv_iload hx hb d_G_degree_38 (lv_at hl 0 rfl) ?_
            refine g_ild (j := i) Sx hK hP 2 0 rfl rfl (by omega) (by decide) d_G_degree_40 ?_
            refine lv_iload_n hx hb d_G_degree_41 rfl (lv_at hl 3 rfl) ?_
            refine lv_icmp_ne hx hb d_G_degree_42 (tgt := 48) rfl (fun q5 => ?_) (fun q5 => ?_)
            · skip
              refine lv_iinc (k := 0) (v := nI (i + 1)) hx hb d_G_degree_48 hl rfl (inc_nI _) (Nat.le_of_ble_eq_true rfl) rfl (fun ls hl => ?_)
              have hl : lv_has ls 5 [(4, .int (nI (i + 1))), (3, .int d), (0, .ref hg), (1, .int v), (2, .int x)] := hl
              refine lv_goto hx hb d_G_degree_51 (tgt := 5) rfl ?_
              have he2 : d = fo (ps_deg1 F S v x) (i + 1) 0 := by
                rw [fo_s, ← he5]
                simp [ps_deg1, q2, q3, q4, q5]
              exact ih5 (i + 1) (by omega) d  ls he2  (lv_sub hl [0, 1, 2, 3, 4] rfl)
            · skip
              refine lv_iinc (k := 1) (v := (d + 1)) hx hb d_G_degree_45 hl rfl rfl (Nat.le_of_ble_eq_true rfl) rfl (fun ls hl => ?_)
              have hl : lv_has ls 5 [(3, .int (d + 1)), (4, .int (nI i)), (0, .ref hg), (1, .int v), (2, .int x)] := hl
              refine lv_iinc (k := 1) (v := nI (i + 1)) hx hb d_G_degree_48 hl rfl (inc_nI _) (Nat.le_of_ble_eq_true rfl) rfl (fun ls hl => ?_)
              have hl : lv_has ls 5 [(4, .int (nI (i + 1))), (3, .int (d + 1)), (0, .ref hg), (1, .int v), (2, .int x)] := hl
              refine lv_goto hx hb d_G_degree_51 (tgt := 5) rfl ?_
              have he2 : (d + 1) = fo (ps_deg1 F S v x) (i + 1) 0 := by
                rw [fo_s, ← he5]
                simp [ps_deg1, q2, q3, q4, q5]
              exact ih5 (i + 1) (by omega) (d + 1)  ls he2  (lv_sub hl [0, 1, 2, 3, 4] rfl)
  exact hL5 k 0 (by omega) 0  ls rfl  (lv_sub hl [0, 1, 2, 3, 4] rfl)
