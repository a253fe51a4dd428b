theorem d_J_bitCount_0 : decode k_J_bitCount 0 = .ok (.iload_n 0, 1) := by decide +kernel
theorem d_J_bitCount_1 : decode k_J_bitCount 1 = .ok (.iload_n 0, 1) := by decide +kernel
theorem d_J_bitCount_2 : decode k_J_bitCount 2 = .ok (.iconst 1, 1) := by decide +kernel
theorem d_J_bitCount_3 : decode k_J_bitCount 3 = .ok (.iushr, 1) := by decide +kernel
theorem d_J_bitCount_4 : decode k_J_bitCount 4 = .ok (.ldc_w 265, 3) := by decide +kernel
theorem d_J_bitCount_7 : decode k_J_bitCount 7 = .ok (.iand, 1) := by decide +kernel
theorem d_J_bitCount_8 : decode k_J_bitCount 8 = .ok (.isub, 1) := by decide +kernel
theorem d_J_bitCount_9 : decode k_J_bitCount 9 = .ok (.istore_n 0, 1) := by decide +kernel
theorem d_J_bitCount_10 : decode k_J_bitCount 10 = .ok (.iload_n 0, 1) := by decide +kernel
theorem d_J_bitCount_11 : decode k_J_bitCount 11 = .ok (.ldc_w 266, 3) := by decide +kernel
theorem d_J_bitCount_14 : decode k_J_bitCount 14 = .ok (.iand, 1) := by decide +kernel
theorem d_J_bitCount_15 : decode k_J_bitCount 15 = .ok (.iload_n 0, 1) := by decide +kernel
theorem d_J_bitCount_16 : decode k_J_bitCount 16 = .ok (.iconst 2, 1) := by decide +kernel
theorem d_J_bitCount_17 : decode k_J_bitCount 17 = .ok (.iushr, 1) := by decide +kernel
theorem d_J_bitCount_18 : decode k_J_bitCount 18 = .ok (.ldc_w 266, 3) := by decide +kernel
theorem d_J_bitCount_21 : decode k_J_bitCount 21 = .ok (.iand, 1) := by decide +kernel
theorem d_J_bitCount_22 : decode k_J_bitCount 22 = .ok (.iadd, 1) := by decide +kernel
theorem d_J_bitCount_23 : decode k_J_bitCount 23 = .ok (.istore_n 0, 1) := by decide +kernel
theorem d_J_bitCount_24 : decode k_J_bitCount 24 = .ok (.iload_n 0, 1) := by decide +kernel
theorem d_J_bitCount_25 : decode k_J_bitCount 25 = .ok (.iload_n 0, 1) := by decide +kernel
theorem d_J_bitCount_26 : decode k_J_bitCount 26 = .ok (.iconst 4, 1) := by decide +kernel
theorem d_J_bitCount_27 : decode k_J_bitCount 27 = .ok (.iushr, 1) := by decide +kernel
theorem d_J_bitCount_28 : decode k_J_bitCount 28 = .ok (.iadd, 1) := by decide +kernel
theorem d_J_bitCount_29 : decode k_J_bitCount 29 = .ok (.ldc_w 267, 3) := by decide +kernel
theorem d_J_bitCount_32 : decode k_J_bitCount 32 = .ok (.iand, 1) := by decide +kernel
theorem d_J_bitCount_33 : decode k_J_bitCount 33 = .ok (.istore_n 0, 1) := by decide +kernel
theorem d_J_bitCount_34 : decode k_J_bitCount 34 = .ok (.iload_n 0, 1) := by decide +kernel
theorem d_J_bitCount_35 : decode k_J_bitCount 35 = .ok (.iload_n 0, 1) := by decide +kernel
theorem d_J_bitCount_36 : decode k_J_bitCount 36 = .ok (.bipush 8, 2) := by decide +kernel
theorem d_J_bitCount_38 : decode k_J_bitCount 38 = .ok (.iushr, 1) := by decide +kernel
theorem d_J_bitCount_39 : decode k_J_bitCount 39 = .ok (.iadd, 1) := by decide +kernel
theorem d_J_bitCount_40 : decode k_J_bitCount 40 = .ok (.istore_n 0, 1) := by decide +kernel
theorem d_J_bitCount_41 : decode k_J_bitCount 41 = .ok (.iload_n 0, 1) := by decide +kernel
theorem d_J_bitCount_42 : decode k_J_bitCount 42 = .ok (.iload_n 0, 1) := by decide +kernel
theorem d_J_bitCount_43 : decode k_J_bitCount 43 = .ok (.bipush 16, 2) := by decide +kernel
theorem d_J_bitCount_45 : decode k_J_bitCount 45 = .ok (.iushr, 1) := by decide +kernel
theorem d_J_bitCount_46 : decode k_J_bitCount 46 = .ok (.iadd, 1) := by decide +kernel
theorem d_J_bitCount_47 : decode k_J_bitCount 47 = .ok (.istore_n 0, 1) := by decide +kernel
theorem d_J_bitCount_48 : decode k_J_bitCount 48 = .ok (.iload_n 0, 1) := by decide +kernel
theorem d_J_bitCount_49 : decode k_J_bitCount 49 = .ok (.bipush 63, 2) := by decide +kernel
theorem d_J_bitCount_51 : decode k_J_bitCount 51 = .ok (.iand, 1) := by decide +kernel
theorem d_J_bitCount_52 : decode k_J_bitCount 52 = .ok (.ireturn, 1) := by decide +kernel
abbrev rm_J_bitCount : Room := { frames := 0, cells := 0, slots := 0, locals := 0 }
theorem hd_J_bitCount : y_J_bitCount.cls ≠ "java/lang/invoke/MethodHandle" ∧ y_J_bitCount.cls ≠ "java/lang/invoke/VarHandle" ∧ (parseMethodDescriptor y_J_bitCount.desc).map (fun d => d.parameters.length) = some 1 := by decide +kernel
set_option maxHeartbeats 4000000 in
set_option maxRecDepth 100000 in
theorem c_J_bitCount (l : Launch) (dC : Nat → ClassId) (dI : Nat → Nat → Nat) (x : Int32) : Met l y_J_bitCount (.code y_J_bitCount k_J_bitCount 1 (.some FieldType.int) :: gw) rm_J_bitCount (roP [.int x] (dC, dI) [] []) (vp_Si (fun r => r = nI (jbN x))) 0 0 (fun _ => False) := by
  refine ro_met (by decide) ⟨rfl, rfl⟩ rfl (Nat.le_of_ble_eq_true rfl) ?_
  intro p e s m args below meth c Q ls Sx hP hK hl hret
  have hx := Sx.1
  have hb := Sx.2.1
  have hl : lv_has ls 1 [(0, .int x)] := hl
  refine lv_iload_n hx hb d_J_bitCount_0 rfl (lv_at hl 0 rfl) ?_
  refine lv_iload_n hx hb d_J_bitCount_1 rfl (lv_at hl 0 rfl) ?_
  refine lv_iconst (v := 1) hx hb d_J_bitCount_2 (by decide) ?_
  refine lv_iushr hx hb d_J_bitCount_3 rfl ?_
  refine lv_ldcw hx hb Sx.2.2.2.1 (Sx.2.2.2.2 _ gm_267) d_J_bitCount_4 ?_
  refine lv_iand hx hb d_J_bitCount_7 ?_
  refine lv_isub hx hb d_J_bitCount_8 ?_
  refine lv_istore_n hx hb d_J_bitCount_9 rfl hl (Nat.le_of_ble_eq_true rfl) rfl (fun ls hl => ?_)
  have hl : lv_has ls 1 [(0, .int (x - ((ju x 1) &&& 1431655765)))] := hl
  refine lv_iload_n hx hb d_J_bitCount_10 rfl (lv_at hl 0 rfl) ?_
  refine lv_ldcw hx hb Sx.2.2.2.1 (Sx.2.2.2.2 _ gm_268) d_J_bitCount_11 ?_
  refine lv_iand hx hb d_J_bitCount_14 ?_
  refine lv_iload_n hx hb d_J_bitCount_15 rfl (lv_at hl 0 rfl) ?_
  refine lv_iconst (v := 2) hx hb d_J_bitCount_16 (by decide) ?_
  refine lv_iushr hx hb d_J_bitCount_17 rfl ?_
  refine lv_ldcw hx hb Sx.2.2.2.1 (Sx.2.2.2.2 _ gm_268) d_J_bitCount_18 ?_
  refine lv_iand hx hb d_J_bitCount_21 ?_
  refine lv_iadd hx hb d_J_bitCount_22 ?_
  refine lv_istore_n hx hb d_J_bitCount_23 rfl hl (Nat.le_of_ble_eq_true rfl) rfl (fun ls hl => ?_)
  have hl : lv_has ls 1 [(0, .int (((x - ((ju x 1) &&& 1431655765)) &&& 858993459) + ((ju (x - ((ju x 1) &&& 1431655765)) 2) &&& 858993459)))] := hl
  refine lv_iload_n hx hb d_J_bitCount_24 rfl (lv_at hl 0 rfl) ?_
  refine lv_iload_n hx hb d_J_bitCount_25 rfl (lv_at hl 0 rfl) ?_
  refine lv_iconst (v := 4) hx hb d_J_bitCount_26 (by decide) ?_
  refine lv_iushr hx hb d_J_bitCount_27 rfl ?_
  refine lv_iadd hx hb d_J_bitCount_28 ?_
  refine lv_ldcw hx hb Sx.2.2.2.1 (Sx.2.2.2.2 _ gm_269) d_J_bitCount_29 ?_
  refine lv_iand hx hb d_J_bitCount_32 ?_
  refine lv_istore_n hx hb d_J_bitCount_33 rfl hl (Nat.le_of_ble_eq_true rfl) rfl (fun ls hl => ?_)
  have hl : lv_has ls 1 [(0, .int (((((x - ((ju x 1) &&& 1431655765)) &&& 858993459) + ((ju (x - ((ju x 1) &&& 1431655765)) 2) &&& 858993459)) + (ju (((x - ((ju x 1) &&& 1431655765)) &&& 858993459) + ((ju (x - ((ju x 1) &&& 1431655765)) 2) &&& 858993459)) 4)) &&& 252645135))] := hl
  refine lv_iload_n hx hb d_J_bitCount_34 rfl (lv_at hl 0 rfl) ?_
  refine lv_iload_n hx hb d_J_bitCount_35 rfl (lv_at hl 0 rfl) ?_
  refine lv_bipush (v := 8) hx hb d_J_bitCount_36 (by decide) ?_
  refine lv_iushr hx hb d_J_bitCount_38 rfl ?_
  refine lv_iadd hx hb d_J_bitCount_39 ?_
  refine lv_istore_n hx hb d_J_bitCount_40 rfl hl (Nat.le_of_ble_eq_true rfl) rfl (fun ls hl => ?_)
  have hl : lv_has ls 1 [(0, .int ((((((x - ((ju x 1) &&& 1431655765)) &&& 858993459) + ((ju (x - ((ju x 1) &&& 1431655765)) 2) &&& 858993459)) + (ju (((x - ((ju x 1) &&& 1431655765)) &&& 858993459) + ((ju (x - ((ju x 1) &&& 1431655765)) 2) &&& 858993459)) 4)) &&& 252645135) + (ju (((((x - ((ju x 1) &&& 1431655765)) &&& 858993459) + ((ju (x - ((ju x 1) &&& 1431655765)) 2) &&& 858993459)) + (ju (((x - ((ju x 1) &&& 1431655765)) &&& 858993459) + ((ju (x - ((ju x 1) &&& 1431655765)) 2) &&& 858993459)) 4)) &&& 252645135) 8)))] := hl
  refine lv_iload_n hx hb d_J_bitCount_41 rfl (lv_at hl 0 rfl) ?_
  refine lv_iload_n hx hb d_J_bitCount_42 rfl (lv_at hl 0 rfl) ?_
  refine lv_bipush (v := 16) hx hb d_J_bitCount_43 (by decide) ?_
  refine lv_iushr hx hb d_J_bitCount_45 rfl ?_
  refine lv_iadd hx hb d_J_bitCount_46 ?_
  refine lv_istore_n hx hb d_J_bitCount_47 rfl hl (Nat.le_of_ble_eq_true rfl) rfl (fun ls hl => ?_)
  have hl : lv_has ls 1 [(0, .int (((((((x - ((ju x 1) &&& 1431655765)) &&& 858993459) + ((ju (x - ((ju x 1) &&& 1431655765)) 2) &&& 858993459)) + (ju (((x - ((ju x 1) &&& 1431655765)) &&& 858993459) + ((ju (x - ((ju x 1) &&& 1431655765)) 2) &&& 858993459)) 4)) &&& 252645135) + (ju (((((x - ((ju x 1) &&& 1431655765)) &&& 858993459) + ((ju (x - ((ju x 1) &&& 1431655765)) 2) &&& 858993459)) + (ju (((x - ((ju x 1) &&& 1431655765)) &&& 858993459) + ((ju (x - ((ju x 1) &&& 1431655765)) 2) &&& 858993459)) 4)) &&& 252645135) 8)) + (ju ((((((x - ((ju x 1) &&& 1431655765)) &&& 858993459) + ((ju (x - ((ju x 1) &&& 1431655765)) 2) &&& 858993459)) + (ju (((x - ((ju x 1) &&& 1431655765)) &&& 858993459) + ((ju (x - ((ju x 1) &&& 1431655765)) 2) &&& 858993459)) 4)) &&& 252645135) + (ju (((((x - ((ju x 1) &&& 1431655765)) &&& 858993459) + ((ju (x - ((ju x 1) &&& 1431655765)) 2) &&& 858993459)) + (ju (((x - ((ju x 1) &&& 1431655765)) &&& 858993459) + ((ju (x - ((ju x 1) &&& 1431655765)) 2) &&& 858993459)) 4)) &&& 252645135) 8)) 16)))] := hl
  refine lv_iload_n hx hb d_J_bitCount_48 rfl (lv_at hl 0 rfl) ?_
  refine lv_bipush (v := 63) hx hb d_J_bitCount_49 (by decide) ?_
  refine lv_iand hx hb d_J_bitCount_51 ?_
  rw [show (((((((((x - ((ju x 1) &&& 1431655765)) &&& 858993459) + ((ju (x - ((ju x 1) &&& 1431655765)) 2) &&& 858993459)) + (ju (((x - ((ju x 1) &&& 1431655765)) &&& 858993459) + ((ju (x - ((ju x 1) &&& 1431655765)) 2) &&& 858993459)) 4)) &&& 252645135) + (ju (((((x - ((ju x 1) &&& 1431655765)) &&& 858993459) + ((ju (x - ((ju x 1) &&& 1431655765)) 2) &&& 858993459)) + (ju (((x - ((ju x 1) &&& 1431655765)) &&& 858993459) + ((ju (x - ((ju x 1) &&& 1431655765)) 2) &&& 858993459)) 4)) &&& 252645135) 8)) + (ju ((((((x - ((ju x 1) &&& 1431655765)) &&& 858993459) + ((ju (x - ((ju x 1) &&& 1431655765)) 2) &&& 858993459)) + (ju (((x - ((ju x 1) &&& 1431655765)) &&& 858993459) + ((ju (x - ((ju x 1) &&& 1431655765)) 2) &&& 858993459)) 4)) &&& 252645135) + (ju (((((x - ((ju x 1) &&& 1431655765)) &&& 858993459) + ((ju (x - ((ju x 1) &&& 1431655765)) 2) &&& 858993459)) + (ju (((x - ((ju x 1) &&& 1431655765)) &&& 858993459) + ((ju (x - ((ju x 1) &&& 1431655765)) 2) &&& 858993459)) 4)) &&& 252645135) 8)) 16)) &&& 63) : Int32) = (nI (jbN x)) from jbN_eq x]
  exact hret _ _ d_J_bitCount_52
theorem d_B_has_0 : decode k_B_has 0 = .ok (.iload_n 0, 1) := by decide +kernel
theorem d_B_has_1 : decode k_B_has 1 = .ok (.iload_n 1, 1) := by decide +kernel
theorem d_B_has_2 : decode k_B_has 2 = .ok (.ishr, 1) := by decide +kernel
theorem d_B_has_3 : decode k_B_has 3 = .ok (.iconst 1, 1) := by decide +kernel
theorem d_B_has_4 : decode k_B_has 4 = .ok (.iand, 1) := by decide +kernel
theorem d_B_has_5 : decode k_B_has 5 = .ok (.ifCond .eq 7, 3) := by decide +kernel
theorem d_B_has_8 : decode k_B_has 8 = .ok (.iconst 1, 1) := by decide +kernel
theorem d_B_has_9 : decode k_B_has 9 = .ok (.goto 4, 3) := by decide +kernel
theorem d_B_has_12 : decode k_B_has 12 = .ok (.iconst 0, 1) := by decide +kernel
theorem d_B_has_13 : decode k_B_has 13 = .ok (.ireturn, 1) := by decide +kernel
abbrev rm_B_has : Room := { frames := 0, cells := 0, slots := 0, locals := 0 }
theorem hd_B_has : y_B_has.cls ≠ "java/lang/invoke/MethodHandle" ∧ y_B_has.cls ≠ "java/lang/invoke/VarHandle" ∧ (parseMethodDescriptor y_B_has.desc).map (fun d => d.parameters.length) = some 2 := by decide +kernel
set_option maxHeartbeats 4000000 in
set_option maxRecDepth 100000 in
theorem c_B_has (l : Launch) (dC : Nat → ClassId) (dI : Nat → Nat → Nat) (x : Int32) (j : Int32) : Met l y_B_has (.code y_B_has k_B_has 2 (.some FieldType.boolean) :: gw) rm_B_has (roP [.int x, .int j] (dC, dI) [] []) (vp_Si (fun r => r = bI (ps_has x j))) 0 0 (fun _ => False) := by
  refine ro_met (by decide) ⟨rfl, rfl⟩ (bI_nar _) (Nat.le_of_ble_eq_true rfl) ?_
  intro p e s m args below meth c Q ls Sx hP hK hl hret
  have hx := Sx.1
  have hb := Sx.2.1
  have hl : lv_has ls 2 [(0, .int x), (1, .int j)] := hl
  refine lv_iload_n hx hb d_B_has_0 rfl (lv_at hl 0 rfl) ?_
  refine lv_iload_n hx hb d_B_has_1 rfl (lv_at hl 1 rfl) ?_
  refine lv_ishr hx hb d_B_has_2 ?_
  refine lv_iconst (v := 1) hx hb d_B_has_3 (by decide) ?_
  refine lv_iand hx hb d_B_has_4 ?_
  refine lv_if_eq hx hb d_B_has_5 (tgt := 12) rfl (fun q1 => ?_) (fun q1 => ?_)
  · skip
    refine lv_iconst (v := 0) hx hb d_B_has_12 (by decide) ?_
    rw [show (0 : Int32) = (bI (ps_has x j)) from by simp [ps_has, bI, *]]
    exact hret _ _ d_B_has_13
  · skip
    refine lv_iconst (v := 1) hx hb d_B_has_8 (by decide) ?_
    refine lv_goto hx hb d_B_has_9 (tgt := 13) rfl ?_
    rw [show (1 : Int32) = (bI (ps_has x j)) from by simp [ps_has, bI, *]]
    exact hret _ _ d_B_has_13
theorem d_B_least_0 : decode k_B_least 0 = .ok (.iload_n 0, 1) := by decide +kernel
theorem d_B_least_1 : decode k_B_least 1 = .ok (.iload_n 0, 1) := by decide +kernel
theorem d_B_least_2 : decode k_B_least 2 = .ok (.ineg, 1) := by decide +kernel
theorem d_B_least_3 : decode k_B_least 3 = .ok (.iand, 1) := by decide +kernel
theorem d_B_least_4 : decode k_B_least 4 = .ok (.iconst 1, 1) := by decide +kernel
theorem d_B_least_5 : decode k_B_least 5 = .ok (.isub, 1) := by decide +kernel
theorem d_B_least_6 : decode k_B_least 6 = .ok (.invokestatic 7, 3) := by decide +kernel
theorem d_B_least_9 : decode k_B_least 9 = .ok (.ireturn, 1) := by decide +kernel
abbrev rm_B_least : Room := { frames := 1, cells := 0, slots := 0, locals := 20 }
theorem hd_B_least : y_B_least.cls ≠ "java/lang/invoke/MethodHandle" ∧ y_B_least.cls ≠ "java/lang/invoke/VarHandle" ∧ (parseMethodDescriptor y_B_least.desc).map (fun d => d.parameters.length) = some 1 := by decide +kernel
set_option maxHeartbeats 4000000 in
set_option maxRecDepth 100000 in
theorem c_B_least (l : Launch) (dC : Nat → ClassId) (dI : Nat → Nat → Nat) (x : Int32) : Met l y_B_least (.code y_B_least k_B_least 1 (.some FieldType.int) :: gw) rm_B_least (roP [.int x] (dC, dI) [] []) (vp_Si (fun r => r = nI (ps_least x))) 0 0 (fun _ => False) := by
  refine ro_met (by decide) ⟨rfl, rfl⟩ rfl (Nat.le_of_ble_eq_true rfl) ?_
  intro p e s m args below meth c Q ls Sx hP hK hl hret
  have hx := Sx.1
  have hb := Sx.2.1
  have hl : lv_has ls 1 [(0, .int x)] := hl
  refine lv_iload_n hx hb d_B_least_0 rfl (lv_at hl 0 rfl) ?_
  refine lv_iload_n hx hb d_B_least_1 rfl (lv_at hl 0 rfl) ?_
  refine lv_ineg hx hb d_B_least_2 ?_
  refine lv_iand hx hb d_B_least_3 ?_
  refine lv_iconst (v := 1) hx hb d_B_least_4 (by decide) ?_
  refine lv_isub hx hb d_B_least_5 ?_
  refine ro_S (As := [.int ((x &&& (-x)) - 1)]) (rest := []) Sx (c_J_bitCount l dC dI ((x &&& (-x)) - 1)) (gw_callS gm_277 gm_265 gm_58 gm_266) hd_J_bitCount ⟨rfl, rfl⟩ ⟨Nat.le_of_ble_eq_true rfl, Nat.le_of_ble_eq_true rfl⟩ hP (hK.sub (tys' := []) [] rfl) rfl hl.1 rfl (Nat.le_of_ble_eq_true rfl) d_B_least_6 ⟨Nat.zero_le _, Nat.zero_le _⟩ ?_
  rw [show (nI (jbN ((x &&& (-x)) - 1)) : Int32) = (nI (ps_least x)) from rfl]
  exact hret _ _ d_B_least_9
theorem d_B_countBelowLeast_0 : decode k_B_countBelowLeast 0 = .ok (.iload_n 0, 1) := by decide +kernel
theorem d_B_countBelowLeast_1 : decode k_B_countBelowLeast 1 = .ok (.iload_n 1, 1) := by decide +kernel
theorem d_B_countBelowLeast_2 : decode k_B_countBelowLeast 2 = .ok (.iload_n 1, 1) := by decide +kernel
theorem d_B_countBelowLeast_3 : decode k_B_countBelowLeast 3 = .ok (.ineg, 1) := by decide +kernel
theorem d_B_countBelowLeast_4 : decode k_B_countBelowLeast 4 = .ok (.iand, 1) := by decide +kernel
theorem d_B_countBelowLeast_5 : decode k_B_countBelowLeast 5 = .ok (.iconst 1, 1) := by decide +kernel
theorem d_B_countBelowLeast_6 : decode k_B_countBelowLeast 6 = .ok (.isub, 1) := by decide +kernel
theorem d_B_countBelowLeast_7 : decode k_B_countBelowLeast 7 = .ok (.iand, 1) := by decide +kernel
theorem d_B_countBelowLeast_8 : decode k_B_countBelowLeast 8 = .ok (.invokestatic 7, 3) := by decide +kernel
theorem d_B_countBelowLeast_11 : decode k_B_countBelowLeast 11 = .ok (.ireturn, 1) := by decide +kernel
abbrev rm_B_countBelowLeast : Room := { frames := 1, cells := 0, slots := 0, locals := 20 }
theorem hd_B_countBelowLeast : y_B_countBelowLeast.cls ≠ "java/lang/invoke/MethodHandle" ∧ y_B_countBelowLeast.cls ≠ "java/lang/invoke/VarHandle" ∧ (parseMethodDescriptor y_B_countBelowLeast.desc).map (fun d => d.parameters.length) = some 2 := by decide +kernel
set_option maxHeartbeats 4000000 in
set_option maxRecDepth 100000 in
theorem c_B_countBelowLeast (l : Launch) (dC : Nat → ClassId) (dI : Nat → Nat → Nat) (x : Int32) (z : Int32) : Met l y_B_countBelowLeast (.code y_B_countBelowLeast k_B_countBelowLeast 2 (.some FieldType.int) :: gw) rm_B_countBelowLeast (roP [.int x, .int z] (dC, dI) [] []) (vp_Si (fun r => r = nI (ps_below x z))) 0 0 (fun _ => False) := by
  refine ro_met (by decide) ⟨rfl, rfl⟩ rfl (Nat.le_of_ble_eq_true rfl) ?_
  intro p e s m args below meth c Q ls Sx hP hK hl hret
  have hx := Sx.1
  have hb := Sx.2.1
  have hl : lv_has ls 2 [(0, .int x), (1, .int z)] := hl
  refine lv_iload_n hx hb d_B_countBelowLeast_0 rfl (lv_at hl 0 rfl) ?_
  refine lv_iload_n hx hb d_B_countBelowLeast_1 rfl (lv_at hl 1 rfl) ?_
  refine lv_iload_n hx hb d_B_countBelowLeast_2 rfl (lv_at hl 1 rfl) ?_
  refine lv_ineg hx hb d_B_countBelowLeast_3 ?_
  refine lv_iand hx hb d_B_countBelowLeast_4 ?_
  refine lv_iconst (v := 1) hx hb d_B_countBelowLeast_5 (by decide) ?_
  refine lv_isub hx hb d_B_countBelowLeast_6 ?_
  refine lv_iand hx hb d_B_countBelowLeast_7 ?_
  refine ro_S (As := [.int (x &&& ((z &&& (-z)) - 1))]) (rest := []) Sx (c_J_bitCount l dC dI (x &&& ((z &&& (-z)) - 1))) (gw_callS gm_277 gm_265 gm_58 gm_266) hd_J_bitCount ⟨rfl, rfl⟩ ⟨Nat.le_of_ble_eq_true rfl, Nat.le_of_ble_eq_true rfl⟩ hP (hK.sub (tys' := []) [] rfl) rfl hl.1 rfl (Nat.le_of_ble_eq_true rfl) d_B_countBelowLeast_8 ⟨Nat.zero_le _, Nat.zero_le _⟩ ?_
  rw [show (nI (jbN (x &&& ((z &&& (-z)) - 1))) : Int32) = (nI (ps_below x z)) from rfl]
  exact hret _ _ d_B_countBelowLeast_11
