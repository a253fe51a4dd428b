theorem nf_D : ∀ j, j < 17 → defaultValue (ft_D j) = vp_V [.null, .null, .null, .int 0, .int 0, .null, .null, .null, .int 0, .int 0, .int 0, .int 0, .int 0, .null, .null, .int 0, .null] j := fun j hj => match j, hj with
  | 0, _ => rfl
  | 1, _ => rfl
  | 2, _ => rfl
  | 3, _ => rfl
  | 4, _ => rfl
  | 5, _ => rfl
  | 6, _ => rfl
  | 7, _ => rfl
  | 8, _ => rfl
  | 9, _ => rfl
  | 10, _ => rfl
  | 11, _ => rfl
  | 12, _ => rfl
  | 13, _ => rfl
  | 14, _ => rfl
  | 15, _ => rfl
  | 16, _ => rfl
  | _ + 17, h => absurd h (by omega)
theorem nf_G : ∀ j, j < 5 → defaultValue (ft_G j) = vp_V [.int 0, .int 0, .null, .null, .null] j := fun j hj => match j, hj with
  | 0, _ => rfl
  | 1, _ => rfl
  | 2, _ => rfl
  | 3, _ => rfl
  | 4, _ => rfl
  | _ + 5, h => absurd h (by omega)
theorem nf_P : ∀ j, j < 6 → defaultValue (ft_P j) = vp_V [.null, .null, .null, .int 0, .int 0, .null] j := fun j hj => match j, hj with
  | 0, _ => rfl
  | 1, _ => rfl
  | 2, _ => rfl
  | 3, _ => rfl
  | 4, _ => rfl
  | 5, _ => rfl
  | _ + 6, h => absurd h (by omega)
theorem nf_S : ∀ j, j < 4 → defaultValue (ft_S j) = vp_V [.null, .int 0, .long 0, .null] j := fun j hj => match j, hj with
  | 0, _ => rfl
  | 1, _ => rfl
  | 2, _ => rfl
  | 3, _ => rfl
  | _ + 4, h => absurd h (by omega)
theorem nf_X : ∀ j, j < 11 → defaultValue (ft_X j) = vp_V [.null, .null, .null, .null, .null, .int 0, .int 0, .int 0, .int 0, .int 0, .int 0] j := fun j hj => match j, hj with
  | 0, _ => rfl
  | 1, _ => rfl
  | 2, _ => rfl
  | 3, _ => rfl
  | 4, _ => rfl
  | 5, _ => rfl
  | 6, _ => rfl
  | 7, _ => rfl
  | 8, _ => rfl
  | 9, _ => rfl
  | 10, _ => rfl
  | _ + 11, h => absurd h (by omega)
theorem nf_M : ∀ j, j < 24 → defaultValue (ft_M j) = vp_V [.int 0, .int 0, .null, .null, .int 0, .int 0, .int 0, .null, .null, .int 0, .int 0, .long 0, .int 0, .null, .null, .null, .null, .null, .null, .null, .null, .null, .int 0, .null] j := fun j hj => match j, hj with
  | 0, _ => rfl
  | 1, _ => rfl
  | 2, _ => rfl
  | 3, _ => rfl
  | 4, _ => rfl
  | 5, _ => rfl
  | 6, _ => rfl
  | 7, _ => rfl
  | 8, _ => rfl
  | 9, _ => rfl
  | 10, _ => rfl
  | 11, _ => rfl
  | 12, _ => rfl
  | 13, _ => rfl
  | 14, _ => rfl
  | 15, _ => rfl
  | 16, _ => rfl
  | 17, _ => rfl
  | 18, _ => rfl
  | 19, _ => rfl
  | 20, _ => rfl
  | 21, _ => rfl
  | 22, _ => rfl
  | 23, _ => rfl
  | _ + 24, h => absurd h (by omega)
theorem d_G_init_0 : decode k_G_init 0 = .ok (.aload_n 0, 1) := by decide +kernel
theorem d_G_init_1 : decode k_G_init 1 = .ok (.invokespecial 3, 3) := by decide +kernel
theorem d_G_init_4 : decode k_G_init 4 = .ok (.aload_n 0, 1) := by decide +kernel
theorem d_G_init_5 : decode k_G_init 5 = .ok (.bipush 18, 2) := by decide +kernel
theorem d_G_init_7 : decode k_G_init 7 = .ok (.newarray .int, 2) := by decide +kernel
theorem d_G_init_9 : decode k_G_init 9 = .ok (.putfield 9, 3) := by decide +kernel
theorem d_G_init_12 : decode k_G_init 12 = .ok (.aload_n 0, 1) := by decide +kernel
theorem d_G_init_13 : decode k_G_init 13 = .ok (.bipush 18, 2) := by decide +kernel
theorem d_G_init_15 : decode k_G_init 15 = .ok (.newarray .int, 2) := by decide +kernel
theorem d_G_init_17 : decode k_G_init 17 = .ok (.putfield 15, 3) := by decide +kernel
theorem d_G_init_20 : decode k_G_init 20 = .ok (.aload_n 0, 1) := by decide +kernel
theorem d_G_init_21 : decode k_G_init 21 = .ok (.bipush 18, 2) := by decide +kernel
theorem d_G_init_23 : decode k_G_init 23 = .ok (.newarray .int, 2) := by decide +kernel
theorem d_G_init_25 : decode k_G_init 25 = .ok (.putfield 18, 3) := by decide +kernel
theorem d_G_init_28 : decode k_G_init 28 = .ok (.return_, 1) := by decide +kernel
abbrev rm_G_init : Room := { frames := 1, cells := 3, slots := 54, locals := 12 }
set_option maxHeartbeats 4000000 in
set_option maxRecDepth 100000 in
theorem c_G_init (l : Launch) (dC : Nat → ClassId) (dI : Nat → Nat → Nat) (cI cL cQ : ClassId) (hg : Nat) (sz : Nat) : Met l y_G_init (.code y_G_init k_G_init 1 none :: gw) rm_G_init (cnP [.ref hg] (dC, dI) [(hg, .inr (1, [.int 0, .int 0, .null, .null, .null]))] [(cI, .int), (cL, .long), (cQ, .array .int)] sz nZ) (va_Qv (fun _ : Nat × Nat × Nat => True) (cnB (dC, dI) (fun u9 => [(hg, .inr (1, [.int 0, .int 0, .ref u9.1, .ref u9.2.1, .ref u9.2.2])), (u9.1, .inl (cI, 18, .inl (fun _ => 0))), (u9.2.1, .inl (cI, 18, .inl (fun _ => 0))), (u9.2.2, .inl (cI, 18, .inl (fun _ => 0)))]) [(cI, .int), (cL, .long), (cQ, .array .int)] (va_A [(hg, .inr (1, [.int 0, .int 0, .null, .null, .null]))] sz)) (va_A [(hg, .inr (1, [.int 0, .int 0, .null, .null, .null]))] sz)) 3 54 (va_A [(hg, .inr (1, [.int 0, .int 0, .null, .null, .null]))] sz) := by
  refine cn_met (by decide) rfl (Nat.le_of_ble_eq_true rfl) ?_
  intro p e s m args below meth c Q A ls Sx hin hP hK hD hZ hA hl hret
  have hx := Sx.1
  have hb := Sx.2.1
  have hl : lv_has ls 1 [(0, .ref hg)] := hl
  have hS : va_S A s.heap s.heap [] := va_S.rf
  obtain ⟨H, hH⟩ : ∃ H, H = s.heap := ⟨_, rfl⟩
  obtain ⟨locs, hlo⟩ : ∃ locs : List Loc, locs = [] := ⟨_, rfl⟩
  rw [← hlo]
  rw [← hlo] at hS
  have hP : va_P (dC, dI) pcl [(hg, .inr (1, [.int 0, .int 0, .null, .null, .null]))] H := by rw [hH]; exact hP
  have hS : va_S A s.heap H locs := by rw [hH]; exact hS
  suffices hgo : W p l e rm_G_init s m args below meth c H locs 0 0 Q (F0 m 0 ls []) by rw [hH] at hgo; exact hgo
  refine lv_aload_n hx hb d_G_init_0 rfl (lv_at hl 0 rfl) ?_
  refine g_oinit Sx gm_72 gm_66 gm_67 hl.1 d_G_init_1 (Nat.le_of_ble_eq_true rfl) (Nat.le_of_ble_eq_true rfl) ?_
  refine lv_aload_n hx hb d_G_init_4 rfl (lv_at hl 0 rfl) ?_
  refine lv_bipush (v := 18) hx hb d_G_init_5 (by decide) ?_
  refine g_newi (N' := 18) Sx hK 0 rfl hP hD hS hA (by decide) rfl (by decide) (Nat.le_of_ble_eq_true rfl) (Nat.le_of_ble_eq_true rfl) d_G_init_7 (fun q7 H hP hD hS => ?_)
  have hP : va_P (dC, dI) pcl [(hg, .inr (1, [.int 0, .int 0, .null, .null, .null])), (q7, .inl (cI, 18, .inl (fun _ => 0)))] H := hP
  have hD : va_D A [(hg, .inr (1, [.int 0, .int 0, .null, .null, .null])), (q7, .inl (cI, 18, .inl (fun _ => 0)))] := hD
  refine g_putF Sx hin gf_G fk_G fn_G hK hP hD hS 0 rfl rfl 2 (by decide) gm_83 rfl rfl rfl rfl (Nat.le_of_ble_eq_true rfl) d_G_init_9 (fun H locs hP hD hS => ?_)
  have hP : va_P (dC, dI) pcl [(hg, .inr (1, [.int 0, .int 0, .ref q7, .null, .null])), (q7, .inl (cI, 18, .inl (fun _ => 0)))] H := hP
  have hD : va_D A [(hg, .inr (1, [.int 0, .int 0, .ref q7, .null, .null])), (q7, .inl (cI, 18, .inl (fun _ => 0)))] := hD
  refine lv_aload_n hx hb d_G_init_12 rfl (lv_at hl 0 rfl) ?_
  refine lv_bipush (v := 18) hx hb d_G_init_13 (by decide) ?_
  refine g_newi (N' := 18) Sx hK 0 rfl hP hD hS hA (by decide) rfl (by decide) (Nat.le_of_ble_eq_true rfl) (Nat.le_of_ble_eq_true rfl) d_G_init_15 (fun q15 H hP hD hS => ?_)
  have hP : va_P (dC, dI) pcl [(hg, .inr (1, [.int 0, .int 0, .ref q7, .null, .null])), (q7, .inl (cI, 18, .inl (fun _ => 0))), (q15, .inl (cI, 18, .inl (fun _ => 0)))] H := hP
  have hD : va_D A [(hg, .inr (1, [.int 0, .int 0, .ref q7, .null, .null])), (q7, .inl (cI, 18, .inl (fun _ => 0))), (q15, .inl (cI, 18, .inl (fun _ => 0)))] := hD
  refine g_putF Sx hin gf_G fk_G fn_G hK hP hD hS 0 rfl rfl 3 (by decide) gm_87 rfl rfl rfl rfl (Nat.le_of_ble_eq_true rfl) d_G_init_17 (fun H locs hP hD hS => ?_)
  have hP : va_P (dC, dI) pcl [(hg, .inr (1, [.int 0, .int 0, .ref q7, .ref q15, .null])), (q7, .inl (cI, 18, .inl (fun _ => 0))), (q15, .inl (cI, 18, .inl (fun _ => 0)))] H := hP
  have hD : va_D A [(hg, .inr (1, [.int 0, .int 0, .ref q7, .ref q15, .null])), (q7, .inl (cI, 18, .inl (fun _ => 0))), (q15, .inl (cI, 18, .inl (fun _ => 0)))] := hD
  refine lv_aload_n hx hb d_G_init_20 rfl (lv_at hl 0 rfl) ?_
  refine lv_bipush (v := 18) hx hb d_G_init_21 (by decide) ?_
  refine g_newi (N' := 18) Sx hK 0 rfl hP hD hS hA (by decide) rfl (by decide) (Nat.le_of_ble_eq_true rfl) (Nat.le_of_ble_eq_true rfl) d_G_init_23 (fun q23 H hP hD hS => ?_)
  have hP : va_P (dC, dI) pcl [(hg, .inr (1, [.int 0, .int 0, .ref q7, .ref q15, .null])), (q7, .inl (cI, 18, .inl (fun _ => 0))), (q15, .inl (cI, 18, .inl (fun _ => 0))), (q23, .inl (cI, 18, .inl (fun _ => 0)))] H := hP
  have hD : va_D A [(hg, .inr (1, [.int 0, .int 0, .ref q7, .ref q15, .null])), (q7, .inl (cI, 18, .inl (fun _ => 0))), (q15, .inl (cI, 18, .inl (fun _ => 0))), (q23, .inl (cI, 18, .inl (fun _ => 0)))] := hD
  refine g_putF Sx hin gf_G fk_G fn_G hK hP hD hS 0 rfl rfl 4 (by decide) gm_91 rfl rfl rfl rfl (Nat.le_of_ble_eq_true rfl) d_G_init_25 (fun H locs hP hD hS => ?_)
  have hP : va_P (dC, dI) pcl [(hg, .inr (1, [.int 0, .int 0, .ref q7, .ref q15, .ref q23])), (q7, .inl (cI, 18, .inl (fun _ => 0))), (q15, .inl (cI, 18, .inl (fun _ => 0))), (q23, .inl (cI, 18, .inl (fun _ => 0)))] H := hP
  have hD : va_D A [(hg, .inr (1, [.int 0, .int 0, .ref q7, .ref q15, .ref q23])), (q7, .inl (cI, 18, .inl (fun _ => 0))), (q15, .inl (cI, 18, .inl (fun _ => 0))), (q23, .inl (cI, 18, .inl (fun _ => 0)))] := hD
  refine W.widen (k := 3) (n := 54) (Nat.le_of_ble_eq_true rfl) (Nat.le_of_ble_eq_true rfl) ?_
  exact hret (q7, q15, q23) _ H locs _ d_G_init_28 hP hD hS
theorem d_P_init_0 : decode k_P_init 0 = .ok (.aload_n 0, 1) := by decide +kernel
theorem d_P_init_1 : decode k_P_init 1 = .ok (.invokespecial 3, 3) := by decide +kernel
theorem d_P_init_4 : decode k_P_init 4 = .ok (.aload_n 0, 1) := by decide +kernel
theorem d_P_init_5 : decode k_P_init 5 = .ok (.bipush 10, 2) := by decide +kernel
theorem d_P_init_7 : decode k_P_init 7 = .ok (.newarray .int, 2) := by decide +kernel
theorem d_P_init_9 : decode k_P_init 9 = .ok (.putfield 9, 3) := by decide +kernel
theorem d_P_init_12 : decode k_P_init 12 = .ok (.aload_n 0, 1) := by decide +kernel
theorem d_P_init_13 : decode k_P_init 13 = .ok (.bipush 18, 2) := by decide +kernel
theorem d_P_init_15 : decode k_P_init 15 = .ok (.newarray .int, 2) := by decide +kernel
theorem d_P_init_17 : decode k_P_init 17 = .ok (.putfield 15, 3) := by decide +kernel
theorem d_P_init_20 : decode k_P_init 20 = .ok (.aload_n 0, 1) := by decide +kernel
theorem d_P_init_21 : decode k_P_init 21 = .ok (.bipush 10, 2) := by decide +kernel
theorem d_P_init_23 : decode k_P_init 23 = .ok (.newarray .int, 2) := by decide +kernel
theorem d_P_init_25 : decode k_P_init 25 = .ok (.putfield 18, 3) := by decide +kernel
theorem d_P_init_28 : decode k_P_init 28 = .ok (.aload_n 0, 1) := by decide +kernel
theorem d_P_init_29 : decode k_P_init 29 = .ok (.aload_n 1, 1) := by decide +kernel
theorem d_P_init_30 : decode k_P_init 30 = .ok (.putfield 21, 3) := by decide +kernel
theorem d_P_init_33 : decode k_P_init 33 = .ok (.return_, 1) := by decide +kernel
abbrev rm_P_init : Room := { frames := 1, cells := 3, slots := 38, locals := 12 }
set_option maxHeartbeats 4000000 in
set_option maxRecDepth 100000 in
theorem c_P_init (l : Launch) (dC : Nat → ClassId) (dI : Nat → Nat → Nat) (cI cL cQ : ClassId) (hp ga : Nat) (sz : Nat) : Met l y_P_init (.code y_P_init k_P_init 2 none :: gw) rm_P_init (cnP [.ref hp, .ref ga] (dC, dI) [(hp, .inr (2, [.null, .null, .null, .int 0, .int 0, .null]))] [(cI, .int), (cL, .long), (cQ, .array .int)] sz nZ) (va_Qv (fun _ : Nat × Nat × Nat => True) (cnB (dC, dI) (fun u9 => [(hp, .inr (2, [.ref ga, .ref u9.1, .ref u9.2.1, .int 0, .int 0, .ref u9.2.2])), (u9.1, .inl (cI, 10, .inl (fun _ => 0))), (u9.2.1, .inl (cI, 18, .inl (fun _ => 0))), (u9.2.2, .inl (cI, 10, .inl (fun _ => 0)))]) [(cI, .int), (cL, .long), (cQ, .array .int)] (va_A [(hp, .inr (2, [.null, .null, .null, .int 0, .int 0, .null]))] sz)) (va_A [(hp, .inr (2, [.null, .null, .null, .int 0, .int 0, .null]))] sz)) 3 38 (va_A [(hp, .inr (2, [.null, .null, .null, .int 0, .int 0, .null]))] sz) := by
  refine cn_met (by decide) rfl (Nat.le_of_ble_eq_true rfl) ?_
  intro p e s m args below meth c Q A ls Sx hin hP hK hD hZ hA hl hret
  have hx := Sx.1
  have hb := Sx.2.1
  have hl : lv_has ls 2 [(0, .ref hp), (1, .ref ga)] := hl
  have hS : va_S A s.heap s.heap [] := va_S.rf
  obtain ⟨H, hH⟩ : ∃ H, H = s.heap := ⟨_, rfl⟩
  obtain ⟨locs, hlo⟩ : ∃ locs : List Loc, locs = [] := ⟨_, rfl⟩
  rw [← hlo]
  rw [← hlo] at hS
  have hP : va_P (dC, dI) pcl [(hp, .inr (2, [.null, .null, .null, .int 0, .int 0, .null]))] H := by rw [hH]; exact hP
  have hS : va_S A s.heap H locs := by rw [hH]; exact hS
  suffices hgo : W p l e rm_P_init s m args below meth c H locs 0 0 Q (F0 m 0 ls []) by rw [hH] at hgo; exact hgo
  refine lv_aload_n hx hb d_P_init_0 rfl (lv_at hl 0 rfl) ?_
  refine g_oinit Sx gm_105 gm_66 gm_67 hl.1 d_P_init_1 (Nat.le_of_ble_eq_true rfl) (Nat.le_of_ble_eq_true rfl) ?_
  refine lv_aload_n hx hb d_P_init_4 rfl (lv_at hl 0 rfl) ?_
  refine lv_bipush (v := 10) hx hb d_P_init_5 (by decide) ?_
  refine g_newi (N' := 10) Sx hK 0 rfl hP hD hS hA (by decide) rfl (by decide) (Nat.le_of_ble_eq_true rfl) (Nat.le_of_ble_eq_true rfl) d_P_init_7 (fun q7 H hP hD hS => ?_)
  have hP : va_P (dC, dI) pcl [(hp, .inr (2, [.null, .null, .null, .int 0, .int 0, .null])), (q7, .inl (cI, 10, .inl (fun _ => 0)))] H := hP
  have hD : va_D A [(hp, .inr (2, [.null, .null, .null, .int 0, .int 0, .null])), (q7, .inl (cI, 10, .inl (fun _ => 0)))] := hD
  refine g_putF Sx hin gf_P fk_P fn_P hK hP hD hS 0 rfl rfl 1 (by decide) gm_107 rfl rfl rfl rfl (Nat.le_of_ble_eq_true rfl) d_P_init_9 (fun H locs hP hD hS => ?_)
  have hP : va_P (dC, dI) pcl [(hp, .inr (2, [.null, .ref q7, .null, .int 0, .int 0, .null])), (q7, .inl (cI, 10, .inl (fun _ => 0)))] H := hP
  have hD : va_D A [(hp, .inr (2, [.null, .ref q7, .null, .int 0, .int 0, .null])), (q7, .inl (cI, 10, .inl (fun _ => 0)))] := hD
  refine lv_aload_n hx hb d_P_init_12 rfl (lv_at hl 0 rfl) ?_
  refine lv_bipush (v := 18) hx hb d_P_init_13 (by decide) ?_
  refine g_newi (N' := 18) Sx hK 0 rfl hP hD hS hA (by decide) rfl (by decide) (Nat.le_of_ble_eq_true rfl) (Nat.le_of_ble_eq_true rfl) d_P_init_15 (fun q15 H hP hD hS => ?_)
  have hP : va_P (dC, dI) pcl [(hp, .inr (2, [.null, .ref q7, .null, .int 0, .int 0, .null])), (q7, .inl (cI, 10, .inl (fun _ => 0))), (q15, .inl (cI, 18, .inl (fun _ => 0)))] H := hP
  have hD : va_D A [(hp, .inr (2, [.null, .ref q7, .null, .int 0, .int 0, .null])), (q7, .inl (cI, 10, .inl (fun _ => 0))), (q15, .inl (cI, 18, .inl (fun _ => 0)))] := hD
  refine g_putF Sx hin gf_P fk_P fn_P hK hP hD hS 0 rfl rfl 2 (by decide) gm_109 rfl rfl rfl rfl (Nat.le_of_ble_eq_true rfl) d_P_init_17 (fun H locs hP hD hS => ?_)
  have hP : va_P (dC, dI) pcl [(hp, .inr (2, [.null, .ref q7, .ref q15, .int 0, .int 0, .null])), (q7, .inl (cI, 10, .inl (fun _ => 0))), (q15, .inl (cI, 18, .inl (fun _ => 0)))] H := hP
  have hD : va_D A [(hp, .inr (2, [.null, .ref q7, .ref q15, .int 0, .int 0, .null])), (q7, .inl (cI, 10, .inl (fun _ => 0))), (q15, .inl (cI, 18, .inl (fun _ => 0)))] := hD
  refine lv_aload_n hx hb d_P_init_20 rfl (lv_at hl 0 rfl) ?_
  refine lv_bipush (v := 10) hx hb d_P_init_21 (by decide) ?_
  refine g_newi (N' := 10) Sx hK 0 rfl hP hD hS hA (by decide) rfl (by decide) (Nat.le_of_ble_eq_true rfl) (Nat.le_of_ble_eq_true rfl) d_P_init_23 (fun q23 H hP hD hS => ?_)
  have hP : va_P (dC, dI) pcl [(hp, .inr (2, [.null, .ref q7, .ref q15, .int 0, .int 0, .null])), (q7, .inl (cI, 10, .inl (fun _ => 0))), (q15, .inl (cI, 18, .inl (fun _ => 0))), (q23, .inl (cI, 10, .inl (fun _ => 0)))] H := hP
  have hD : va_D A [(hp, .inr (2, [.null, .ref q7, .ref q15, .int 0, .int 0, .null])), (q7, .inl (cI, 10, .inl (fun _ => 0))), (q15, .inl (cI, 18, .inl (fun _ => 0))), (q23, .inl (cI, 10, .inl (fun _ => 0)))] := hD
  refine g_putF Sx hin gf_P fk_P fn_P hK hP hD hS 0 rfl rfl 5 (by decide) gm_117 rfl rfl rfl rfl (Nat.le_of_ble_eq_true rfl) d_P_init_25 (fun H locs hP hD hS => ?_)
  have hP : va_P (dC, dI) pcl [(hp, .inr (2, [.null, .ref q7, .ref q15, .int 0, .int 0, .ref q23])), (q7, .inl (cI, 10, .inl (fun _ => 0))), (q15, .inl (cI, 18, .inl (fun _ => 0))), (q23, .inl (cI, 10, .inl (fun _ => 0)))] H := hP
  have hD : va_D A [(hp, .inr (2, [.null, .ref q7, .ref q15, .int 0, .int 0, .ref q23])), (q7, .inl (cI, 10, .inl (fun _ => 0))), (q15, .inl (cI, 18, .inl (fun _ => 0))), (q23, .inl (cI, 10, .inl (fun _ => 0)))] := hD
  refine lv_aload_n hx hb d_P_init_28 rfl (lv_at hl 0 rfl) ?_
  refine lv_aload_n hx hb d_P_init_29 rfl (lv_at hl 1 rfl) ?_
  refine g_putF Sx hin gf_P fk_P fn_P hK hP hD hS 0 rfl rfl 0 (by decide) gm_106 rfl rfl rfl rfl (Nat.le_of_ble_eq_true rfl) d_P_init_30 (fun H locs hP hD hS => ?_)
  have hP : va_P (dC, dI) pcl [(hp, .inr (2, [.ref ga, .ref q7, .ref q15, .int 0, .int 0, .ref q23])), (q7, .inl (cI, 10, .inl (fun _ => 0))), (q15, .inl (cI, 18, .inl (fun _ => 0))), (q23, .inl (cI, 10, .inl (fun _ => 0)))] H := hP
  have hD : va_D A [(hp, .inr (2, [.ref ga, .ref q7, .ref q15, .int 0, .int 0, .ref q23])), (q7, .inl (cI, 10, .inl (fun _ => 0))), (q15, .inl (cI, 18, .inl (fun _ => 0))), (q23, .inl (cI, 10, .inl (fun _ => 0)))] := hD
  refine W.widen (k := 3) (n := 38) (Nat.le_of_ble_eq_true rfl) (Nat.le_of_ble_eq_true rfl) ?_
  exact hret (q7, q15, q23) _ H locs _ d_P_init_33 hP hD hS
theorem d_S_init_0 : decode k_S_init 0 = .ok (.aload_n 0, 1) := by decide +kernel
theorem d_S_init_1 : decode k_S_init 1 = .ok (.invokespecial 3, 3) := by decide +kernel
theorem d_S_init_4 : decode k_S_init 4 = .ok (.aload_n 0, 1) := by decide +kernel
theorem d_S_init_5 : decode k_S_init 5 = .ok (.bipush 18, 2) := by decide +kernel
theorem d_S_init_7 : decode k_S_init 7 = .ok (.newarray .long, 2) := by decide +kernel
theorem d_S_init_9 : decode k_S_init 9 = .ok (.putfield 9, 3) := by decide +kernel
theorem d_S_init_12 : decode k_S_init 12 = .ok (.aload_n 0, 1) := by decide +kernel
theorem d_S_init_13 : decode k_S_init 13 = .ok (.aload_n 1, 1) := by decide +kernel
theorem d_S_init_14 : decode k_S_init 14 = .ok (.putfield 15, 3) := by decide +kernel
theorem d_S_init_17 : decode k_S_init 17 = .ok (.return_, 1) := by decide +kernel
abbrev rm_S_init : Room := { frames := 1, cells := 1, slots := 18, locals := 12 }
set_option maxHeartbeats 4000000 in
set_option maxRecDepth 100000 in
theorem c_S_init (l : Launch) (dC : Nat → ClassId) (dI : Nat → Nat → Nat) (cI cL cQ : ClassId) (hs ga : Nat) (sz : Nat) : Met l y_S_init (.code y_S_init k_S_init 2 none :: gw) rm_S_init (cnP [.ref hs, .ref ga] (dC, dI) [(hs, .inr (3, [.null, .int 0, .long 0, .null]))] [(cI, .int), (cL, .long), (cQ, .array .int)] sz nZ) (va_Qv (fun _ : Nat => True) (cnB (dC, dI) (fun u9 => [(hs, .inr (3, [.ref ga, .int 0, .long 0, .ref u9])), (u9, .inl (cL, 18, .inr (.inl (fun _ => 0))))]) [(cI, .int), (cL, .long), (cQ, .array .int)] (va_A [(hs, .inr (3, [.null, .int 0, .long 0, .null]))] sz)) (va_A [(hs, .inr (3, [.null, .int 0, .long 0, .null]))] sz)) 1 18 (va_A [(hs, .inr (3, [.null, .int 0, .long 0, .null]))] sz) := by
  refine cn_met (by decide) rfl (Nat.le_of_ble_eq_true rfl) ?_
  intro p e s m args below meth c Q A ls Sx hin hP hK hD hZ hA hl hret
  have hx := Sx.1
  have hb := Sx.2.1
  have hl : lv_has ls 2 [(0, .ref hs), (1, .ref ga)] := hl
  have hS : va_S A s.heap s.heap [] := va_S.rf
  obtain ⟨H, hH⟩ : ∃ H, H = s.heap := ⟨_, rfl⟩
  obtain ⟨locs, hlo⟩ : ∃ locs : List Loc, locs = [] := ⟨_, rfl⟩
  rw [← hlo]
  rw [← hlo] at hS
  have hP : va_P (dC, dI) pcl [(hs, .inr (3, [.null, .int 0, .long 0, .null]))] H := by rw [hH]; exact hP
  have hS : va_S A s.heap H locs := by rw [hH]; exact hS
  suffices hgo : W p l e rm_S_init s m args below meth c H locs 0 0 Q (F0 m 0 ls []) by rw [hH] at hgo; exact hgo
  refine lv_aload_n hx hb d_S_init_0 rfl (lv_at hl 0 rfl) ?_
  refine g_oinit Sx gm_170 gm_66 gm_67 hl.1 d_S_init_1 (Nat.le_of_ble_eq_true rfl) (Nat.le_of_ble_eq_true rfl) ?_
  refine lv_aload_n hx hb d_S_init_4 rfl (lv_at hl 0 rfl) ?_
  refine lv_bipush (v := 18) hx hb d_S_init_5 (by decide) ?_
  refine g_newl (N' := 18) Sx hK 1 rfl hP hD hS hA (by decide) rfl (by decide) (Nat.le_of_ble_eq_true rfl) (Nat.le_of_ble_eq_true rfl) d_S_init_7 (fun q7 H hP hD hS => ?_)
  have hP : va_P (dC, dI) pcl [(hs, .inr (3, [.null, .int 0, .long 0, .null])), (q7, .inl (cL, 18, .inr (.inl (fun _ => 0))))] H := hP
  have hD : va_D A [(hs, .inr (3, [.null, .int 0, .long 0, .null])), (q7, .inl (cL, 18, .inr (.inl (fun _ => 0))))] := hD
  refine g_putF Sx hin gf_S fk_S fn_S hK hP hD hS 0 rfl rfl 3 (by decide) gm_175 rfl rfl rfl rfl (Nat.le_of_ble_eq_true rfl) d_S_init_9 (fun H locs hP hD hS => ?_)
  have hP : va_P (dC, dI) pcl [(hs, .inr (3, [.null, .int 0, .long 0, .ref q7])), (q7, .inl (cL, 18, .inr (.inl (fun _ => 0))))] H := hP
  have hD : va_D A [(hs, .inr (3, [.null, .int 0, .long 0, .ref q7])), (q7, .inl (cL, 18, .inr (.inl (fun _ => 0))))] := hD
  refine lv_aload_n hx hb d_S_init_12 rfl (lv_at hl 0 rfl) ?_
  refine lv_aload_n hx hb d_S_init_13 rfl (lv_at hl 1 rfl) ?_
  refine g_putF Sx hin gf_S fk_S fn_S hK hP hD hS 0 rfl rfl 0 (by decide) gm_171 rfl rfl rfl rfl (Nat.le_of_ble_eq_true rfl) d_S_init_14 (fun H locs hP hD hS => ?_)
  have hP : va_P (dC, dI) pcl [(hs, .inr (3, [.ref ga, .int 0, .long 0, .ref q7])), (q7, .inl (cL, 18, .inr (.inl (fun _ => 0))))] H := hP
  have hD : va_D A [(hs, .inr (3, [.ref ga, .int 0, .long 0, .ref q7])), (q7, .inl (cL, 18, .inr (.inl (fun _ => 0))))] := hD
  refine W.widen (k := 1) (n := 18) (Nat.le_of_ble_eq_true rfl) (Nat.le_of_ble_eq_true rfl) ?_
  exact hret (q7) _ H locs _ d_S_init_17 hP hD hS
theorem d_M_init_0 : decode k_M_init 0 = .ok (.aload_n 0, 1) := by decide +kernel
theorem d_M_init_1 : decode k_M_init 1 = .ok (.invokespecial 1, 3) := by decide +kernel
theorem d_M_init_4 : decode k_M_init 4 = .ok (.aload_n 0, 1) := by decide +kernel
theorem d_M_init_5 : decode k_M_init 5 = .ok (.bipush 36, 2) := by decide +kernel
theorem d_M_init_7 : decode k_M_init 7 = .ok (.newarray .int, 2) := by decide +kernel
theorem d_M_init_9 : decode k_M_init 9 = .ok (.putfield 7, 3) := by decide +kernel
theorem d_M_init_12 : decode k_M_init 12 = .ok (.aload_n 0, 1) := by decide +kernel
theorem d_M_init_13 : decode k_M_init 13 = .ok (.bipush 18, 2) := by decide +kernel
theorem d_M_init_15 : decode k_M_init 15 = .ok (.newarray .int, 2) := by decide +kernel
theorem d_M_init_17 : decode k_M_init 17 = .ok (.putfield 13, 3) := by decide +kernel
theorem d_M_init_20 : decode k_M_init 20 = .ok (.aload_n 0, 1) := by decide +kernel
theorem d_M_init_21 : decode k_M_init 21 = .ok (.bipush 10, 2) := by decide +kernel
theorem d_M_init_23 : decode k_M_init 23 = .ok (.newarray .int, 2) := by decide +kernel
theorem d_M_init_25 : decode k_M_init 25 = .ok (.putfield 16, 3) := by decide +kernel
theorem d_M_init_28 : decode k_M_init 28 = .ok (.aload_n 0, 1) := by decide +kernel
theorem d_M_init_29 : decode k_M_init 29 = .ok (.bipush 18, 2) := by decide +kernel
theorem d_M_init_31 : decode k_M_init 31 = .ok (.newarray .int, 2) := by decide +kernel
theorem d_M_init_33 : decode k_M_init 33 = .ok (.putfield 19, 3) := by decide +kernel
theorem d_M_init_36 : decode k_M_init 36 = .ok (.aload_n 0, 1) := by decide +kernel
theorem d_M_init_37 : decode k_M_init 37 = .ok (.bipush 10, 2) := by decide +kernel
theorem d_M_init_39 : decode k_M_init 39 = .ok (.newarray .int, 2) := by decide +kernel
theorem d_M_init_41 : decode k_M_init 41 = .ok (.putfield 22, 3) := by decide +kernel
theorem d_M_init_44 : decode k_M_init 44 = .ok (.aload_n 0, 1) := by decide +kernel
theorem d_M_init_45 : decode k_M_init 45 = .ok (.bipush 10, 2) := by decide +kernel
theorem d_M_init_47 : decode k_M_init 47 = .ok (.newarray .int, 2) := by decide +kernel
theorem d_M_init_49 : decode k_M_init 49 = .ok (.putfield 25, 3) := by decide +kernel
theorem d_M_init_52 : decode k_M_init 52 = .ok (.aload_n 0, 1) := by decide +kernel
theorem d_M_init_53 : decode k_M_init 53 = .ok (.bipush 10, 2) := by decide +kernel
theorem d_M_init_55 : decode k_M_init 55 = .ok (.newarray .int, 2) := by decide +kernel
theorem d_M_init_57 : decode k_M_init 57 = .ok (.putfield 28, 3) := by decide +kernel
theorem d_M_init_60 : decode k_M_init 60 = .ok (.aload_n 0, 1) := by decide +kernel
theorem d_M_init_61 : decode k_M_init 61 = .ok (.bipush 10, 2) := by decide +kernel
theorem d_M_init_63 : decode k_M_init 63 = .ok (.newarray .int, 2) := by decide +kernel
theorem d_M_init_65 : decode k_M_init 65 = .ok (.putfield 31, 3) := by decide +kernel
theorem d_M_init_68 : decode k_M_init 68 = .ok (.aload_n 0, 1) := by decide +kernel
theorem d_M_init_69 : decode k_M_init 69 = .ok (.bipush 10, 2) := by decide +kernel
theorem d_M_init_71 : decode k_M_init 71 = .ok (.newarray .int, 2) := by decide +kernel
theorem d_M_init_73 : decode k_M_init 73 = .ok (.putfield 34, 3) := by decide +kernel
theorem d_M_init_76 : decode k_M_init 76 = .ok (.aload_n 0, 1) := by decide +kernel
theorem d_M_init_77 : decode k_M_init 77 = .ok (.bipush 18, 2) := by decide +kernel
theorem d_M_init_79 : decode k_M_init 79 = .ok (.newarray .int, 2) := by decide +kernel
theorem d_M_init_81 : decode k_M_init 81 = .ok (.putfield 37, 3) := by decide +kernel
theorem d_M_init_84 : decode k_M_init 84 = .ok (.aload_n 0, 1) := by decide +kernel
theorem d_M_init_85 : decode k_M_init 85 = .ok (.bipush 18, 2) := by decide +kernel
theorem d_M_init_87 : decode k_M_init 87 = .ok (.newarray .int, 2) := by decide +kernel
theorem d_M_init_89 : decode k_M_init 89 = .ok (.putfield 40, 3) := by decide +kernel
theorem d_M_init_92 : decode k_M_init 92 = .ok (.aload_n 0, 1) := by decide +kernel
theorem d_M_init_93 : decode k_M_init 93 = .ok (.bipush 18, 2) := by decide +kernel
theorem d_M_init_95 : decode k_M_init 95 = .ok (.newarray .int, 2) := by decide +kernel
theorem d_M_init_97 : decode k_M_init 97 = .ok (.putfield 43, 3) := by decide +kernel
theorem d_M_init_100 : decode k_M_init 100 = .ok (.aload_n 0, 1) := by decide +kernel
theorem d_M_init_101 : decode k_M_init 101 = .ok (.bipush 18, 2) := by decide +kernel
theorem d_M_init_103 : decode k_M_init 103 = .ok (.newarray .int, 2) := by decide +kernel
theorem d_M_init_105 : decode k_M_init 105 = .ok (.putfield 46, 3) := by decide +kernel
theorem d_M_init_108 : decode k_M_init 108 = .ok (.aload_n 0, 1) := by decide +kernel
theorem d_M_init_109 : decode k_M_init 109 = .ok (.bipush 18, 2) := by decide +kernel
theorem d_M_init_111 : decode k_M_init 111 = .ok (.newarray .int, 2) := by decide +kernel
theorem d_M_init_113 : decode k_M_init 113 = .ok (.putfield 49, 3) := by decide +kernel
theorem d_M_init_116 : decode k_M_init 116 = .ok (.return_, 1) := by decide +kernel
abbrev rm_M_init : Room := { frames := 1, cells := 14, slots := 222, locals := 12 }
set_option maxHeartbeats 4000000 in
set_option maxRecDepth 100000 in
theorem c_M_init (l : Launch) (dC : Nat → ClassId) (dI : Nat → Nat → Nat) (cI cL cQ : ClassId) (hm : Nat) (sz : Nat) : Met l y_M_init (.code y_M_init k_M_init 1 none :: gw) rm_M_init (cnP [.ref hm] (dC, dI) [(hm, .inr (5, [.int 0, .int 0, .null, .null, .int 0, .int 0, .int 0, .null, .null, .int 0, .int 0, .long 0, .int 0, .null, .null, .null, .null, .null, .null, .null, .null, .null, .int 0, .null]))] [(cI, .int), (cL, .long), (cQ, .array .int)] sz nZ) (va_Qv (fun _ : Nat × Nat × Nat × Nat × Nat × Nat × Nat × Nat × Nat × Nat × Nat × Nat × Nat × Nat => True) (cnB (dC, dI) (fun u9 => [(hm, .inr (5, [.int 0, .int 0, .ref u9.1, .ref u9.2.1, .int 0, .int 0, .int 0, .ref u9.2.2.1, .ref u9.2.2.2.1, .int 0, .int 0, .long 0, .int 0, .ref u9.2.2.2.2.1, .ref u9.2.2.2.2.2.1, .ref u9.2.2.2.2.2.2.1, .ref u9.2.2.2.2.2.2.2.1, .ref u9.2.2.2.2.2.2.2.2.1, .ref u9.2.2.2.2.2.2.2.2.2.1, .ref u9.2.2.2.2.2.2.2.2.2.2.1, .ref u9.2.2.2.2.2.2.2.2.2.2.2.1, .ref u9.2.2.2.2.2.2.2.2.2.2.2.2.1, .int 0, .ref u9.2.2.2.2.2.2.2.2.2.2.2.2.2])), (u9.1, .inl (cI, 36, .inl (fun _ => 0))), (u9.2.1, .inl (cI, 18, .inl (fun _ => 0))), (u9.2.2.1, .inl (cI, 10, .inl (fun _ => 0))), (u9.2.2.2.1, .inl (cI, 18, .inl (fun _ => 0))), (u9.2.2.2.2.1, .inl (cI, 10, .inl (fun _ => 0))), (u9.2.2.2.2.2.1, .inl (cI, 10, .inl (fun _ => 0))), (u9.2.2.2.2.2.2.1, .inl (cI, 10, .inl (fun _ => 0))), (u9.2.2.2.2.2.2.2.1, .inl (cI, 10, .inl (fun _ => 0))), (u9.2.2.2.2.2.2.2.2.1, .inl (cI, 10, .inl (fun _ => 0))), (u9.2.2.2.2.2.2.2.2.2.1, .inl (cI, 18, .inl (fun _ => 0))), (u9.2.2.2.2.2.2.2.2.2.2.1, .inl (cI, 18, .inl (fun _ => 0))), (u9.2.2.2.2.2.2.2.2.2.2.2.1, .inl (cI, 18, .inl (fun _ => 0))), (u9.2.2.2.2.2.2.2.2.2.2.2.2.1, .inl (cI, 18, .inl (fun _ => 0))), (u9.2.2.2.2.2.2.2.2.2.2.2.2.2, .inl (cI, 18, .inl (fun _ => 0)))]) [(cI, .int), (cL, .long), (cQ, .array .int)] (va_A [(hm, .inr (5, [.int 0, .int 0, .null, .null, .int 0, .int 0, .int 0, .null, .null, .int 0, .int 0, .long 0, .int 0, .null, .null, .null, .null, .null, .null, .null, .null, .null, .int 0, .null]))] sz)) (va_A [(hm, .inr (5, [.int 0, .int 0, .null, .null, .int 0, .int 0, .int 0, .null, .null, .int 0, .int 0, .long 0, .int 0, .null, .null, .null, .null, .null, .null, .null, .null, .null, .int 0, .null]))] sz)) 14 222 (va_A [(hm, .inr (5, [.int 0, .int 0, .null, .null, .int 0, .int 0, .int 0, .null, .null, .int 0, .int 0, .long 0, .int 0, .null, .null, .null, .null, .null, .null, .null, .null, .null, .int 0, .null]))] sz) := by
  refine cn_met (by decide) rfl (Nat.le_of_ble_eq_true rfl) ?_
  intro p e s m args below meth c Q A ls Sx hin hP hK hD hZ hA hl hret
  have hx := Sx.1
  have hb := Sx.2.1
  have hl : lv_has ls 1 [(0, .ref hm)] := hl
  have hS : va_S A s.heap s.heap [] := va_S.rf
  obtain ⟨H, hH⟩ : ∃ H, H = s.heap := ⟨_, rfl⟩
  obtain ⟨locs, hlo⟩ : ∃ locs : List Loc, locs = [] := ⟨_, rfl⟩
  rw [← hlo]
  rw [← hlo] at hS
  have hP : va_P (dC, dI) pcl [(hm, .inr (5, [.int 0, .int 0, .null, .null, .int 0, .int 0, .int 0, .null, .null, .int 0, .int 0, .long 0, .int 0, .null, .null, .null, .null, .null, .null, .null, .null, .null, .int 0, .null]))] H := by rw [hH]; exact hP
  have hS : va_S A s.heap H locs := by rw [hH]; exact hS
  suffices hgo : W p l e rm_M_init s m args below meth c H locs 0 0 Q (F0 m 0 ls []) by rw [hH] at hgo; exact hgo
  refine lv_aload_n hx hb d_M_init_0 rfl (lv_at hl 0 rfl) ?_
  refine g_oinit Sx gm_418 gm_66 gm_67 hl.1 d_M_init_1 (Nat.le_of_ble_eq_true rfl) (Nat.le_of_ble_eq_true rfl) ?_
  refine lv_aload_n hx hb d_M_init_4 rfl (lv_at hl 0 rfl) ?_
  refine lv_bipush (v := 36) hx hb d_M_init_5 (by decide) ?_
  refine g_newi (N' := 36) Sx hK 0 rfl hP hD hS hA (by decide) rfl (by decide) (Nat.le_of_ble_eq_true rfl) (Nat.le_of_ble_eq_true rfl) d_M_init_7 (fun q7 H hP hD hS => ?_)
  have hP : va_P (dC, dI) pcl [(hm, .inr (5, [.int 0, .int 0, .null, .null, .int 0, .int 0, .int 0, .null, .null, .int 0, .int 0, .long 0, .int 0, .null, .null, .null, .null, .null, .null, .null, .null, .null, .int 0, .null])), (q7, .inl (cI, 36, .inl (fun _ => 0)))] H := hP
  have hD : va_D A [(hm, .inr (5, [.int 0, .int 0, .null, .null, .int 0, .int 0, .int 0, .null, .null, .int 0, .int 0, .long 0, .int 0, .null, .null, .null, .null, .null, .null, .null, .null, .null, .int 0, .null])), (q7, .inl (cI, 36, .inl (fun _ => 0)))] := hD
  refine g_putF Sx hin gf_M fk_M fn_M hK hP hD hS 0 rfl rfl 2 (by decide) gm_421 rfl rfl rfl rfl (Nat.le_of_ble_eq_true rfl) d_M_init_9 (fun H locs hP hD hS => ?_)
  have hP : va_P (dC, dI) pcl [(hm, .inr (5, [.int 0, .int 0, .ref q7, .null, .int 0, .int 0, .int 0, .null, .null, .int 0, .int 0, .long 0, .int 0, .null, .null, .null, .null, .null, .null, .null, .null, .null, .int 0, .null])), (q7, .inl (cI, 36, .inl (fun _ => 0)))] H := hP
  have hD : va_D A [(hm, .inr (5, [.int 0, .int 0, .ref q7, .null, .int 0, .int 0, .int 0, .null, .null, .int 0, .int 0, .long 0, .int 0, .null, .null, .null, .null, .null, .null, .null, .null, .null, .int 0, .null])), (q7, .inl (cI, 36, .inl (fun _ => 0)))] := hD
  refine lv_aload_n hx hb d_M_init_12 rfl (lv_at hl 0 rfl) ?_
  refine lv_bipush (v := 18) hx hb d_M_init_13 (by decide) ?_
  refine g_newi (N' := 18) Sx hK 0 rfl hP hD hS hA (by decide) rfl (by decide) (Nat.le_of_ble_eq_true rfl) (Nat.le_of_ble_eq_true rfl) d_M_init_15 (fun q15 H hP hD hS => ?_)
  have hP : va_P (dC, dI) pcl [(hm, .inr (5, [.int 0, .int 0, .ref q7, .null, .int 0, .int 0, .int 0, .null, .null, .int 0, .int 0, .long 0, .int 0, .null, .null, .null, .null, .null, .null, .null, .null, .null, .int 0, .null])), (q7, .inl (cI, 36, .inl (fun _ => 0))), (q15, .inl (cI, 18, .inl (fun _ => 0)))] H := hP
  have hD : va_D A [(hm, .inr (5, [.int 0, .int 0, .ref q7, .null, .int 0, .int 0, .int 0, .null, .null, .int 0, .int 0, .long 0, .int 0, .null, .null, .null, .null, .null, .null, .null, .null, .null, .int 0, .null])), (q7, .inl (cI, 36, .inl (fun _ => 0))), (q15, .inl (cI, 18, .inl (fun _ => 0)))] := hD
  refine g_putF Sx hin gf_M fk_M fn_M hK hP hD hS 0 rfl rfl 3 (by decide) gm_422 rfl rfl rfl rfl (Nat.le_of_ble_eq_true rfl) d_M_init_17 (fun H locs hP hD hS => ?_)
  have hP : va_P (dC, dI) pcl [(hm, .inr (5, [.int 0, .int 0, .ref q7, .ref q15, .int 0, .int 0, .int 0, .null, .null, .int 0, .int 0, .long 0, .int 0, .null, .null, .null, .null, .null, .null, .null, .null, .null, .int 0, .null])), (q7, .inl (cI, 36, .inl (fun _ => 0))), (q15, .inl (cI, 18, .inl (fun _ => 0)))] H := hP
  have hD : va_D A [(hm, .inr (5, [.int 0, .int 0, .ref q7, .ref q15, .int 0, .int 0, .int 0, .null, .null, .int 0, .int 0, .long 0, .int 0, .null, .null, .null, .null, .null, .null, .null, .null, .null, .int 0, .null])), (q7, .inl (cI, 36, .inl (fun _ => 0))), (q15, .inl (cI, 18, .inl (fun _ => 0)))] := hD
  refine lv_aload_n hx hb d_M_init_20 rfl (lv_at hl 0 rfl) ?_
  refine lv_bipush (v := 10) hx hb d_M_init_21 (by decide) ?_
  refine g_newi (N' := 10) Sx hK 0 rfl hP hD hS hA (by decide) rfl (by decide) (Nat.le_of_ble_eq_true rfl) (Nat.le_of_ble_eq_true rfl) d_M_init_23 (fun q23 H hP hD hS => ?_)
  have hP : va_P (dC, dI) pcl [(hm, .inr (5, [.int 0, .int 0, .ref q7, .ref q15, .int 0, .int 0, .int 0, .null, .null, .int 0, .int 0, .long 0, .int 0, .null, .null, .null, .null, .null, .null, .null, .null, .null, .int 0, .null])), (q7, .inl (cI, 36, .inl (fun _ => 0))), (q15, .inl (cI, 18, .inl (fun _ => 0))), (q23, .inl (cI, 10, .inl (fun _ => 0)))] H := hP
  have hD : va_D A [(hm, .inr (5, [.int 0, .int 0, .ref q7, .ref q15, .int 0, .int 0, .int 0, .null, .null, .int 0, .int 0, .long 0, .int 0, .null, .null, .null, .null, .null, .null, .null, .null, .null, .int 0, .null])), (q7, .inl (cI, 36, .inl (fun _ => 0))), (q15, .inl (cI, 18, .inl (fun _ => 0))), (q23, .inl (cI, 10, .inl (fun _ => 0)))] := hD
  refine g_putF Sx hin gf_M fk_M fn_M hK hP hD hS 0 rfl rfl 7 (by decide) gm_426 rfl rfl rfl rfl (Nat.le_of_ble_eq_true rfl) d_M_init_25 (fun H locs hP hD hS => ?_)
  have hP : va_P (dC, dI) pcl [(hm, .inr (5, [.int 0, .int 0, .ref q7, .ref q15, .int 0, .int 0, .int 0, .ref q23, .null, .int 0, .int 0, .long 0, .int 0, .null, .null, .null, .null, .null, .null, .null, .null, .null, .int 0, .null])), (q7, .inl (cI, 36, .inl (fun _ => 0))), (q15, .inl (cI, 18, .inl (fun _ => 0))), (q23, .inl (cI, 10, .inl (fun _ => 0)))] H := hP
  have hD : va_D A [(hm, .inr (5, [.int 0, .int 0, .ref q7, .ref q15, .int 0, .int 0, .int 0, .ref q23, .null, .int 0, .int 0, .long 0, .int 0, .null, .null, .null, .null, .null, .null, .null, .null, .null, .int 0, .null])), (q7, .inl (cI, 36, .inl (fun _ => 0))), (q15, .inl (cI, 18, .inl (fun _ => 0))), (q23, .inl (cI, 10, .inl (fun _ => 0)))] := hD
  refine lv_aload_n hx hb d_M_init_28 rfl (lv_at hl 0 rfl) ?_
  refine lv_bipush (v := 18) hx hb d_M_init_29 (by decide) ?_
  refine g_newi (N' := 18) Sx hK 0 rfl hP hD hS hA (by decide) rfl (by decide) (Nat.le_of_ble_eq_true rfl) (Nat.le_of_ble_eq_true rfl) d_M_init_31 (fun q31 H hP hD hS => ?_)
  have hP : va_P (dC, dI) pcl [(hm, .inr (5, [.int 0, .int 0, .ref q7, .ref q15, .int 0, .int 0, .int 0, .ref q23, .null, .int 0, .int 0, .long 0, .int 0, .null, .null, .null, .null, .null, .null, .null, .null, .null, .int 0, .null])), (q7, .inl (cI, 36, .inl (fun _ => 0))), (q15, .inl (cI, 18, .inl (fun _ => 0))), (q23, .inl (cI, 10, .inl (fun _ => 0))), (q31, .inl (cI, 18, .inl (fun _ => 0)))] H := hP
  have hD : va_D A [(hm, .inr (5, [.int 0, .int 0, .ref q7, .ref q15, .int 0, .int 0, .int 0, .ref q23, .null, .int 0, .int 0, .long 0, .int 0, .null, .null, .null, .null, .null, .null, .null, .null, .null, .int 0, .null])), (q7, .inl (cI, 36, .inl (fun _ => 0))), (q15, .inl (cI, 18, .inl (fun _ => 0))), (q23, .inl (cI, 10, .inl (fun _ => 0))), (q31, .inl (cI, 18, .inl (fun _ => 0)))] := hD
  refine g_putF Sx hin gf_M fk_M fn_M hK hP hD hS 0 rfl rfl 8 (by decide) gm_427 rfl rfl rfl rfl (Nat.le_of_ble_eq_true rfl) d_M_init_33 (fun H locs hP hD hS => ?_)
  have hP : va_P (dC, dI) pcl [(hm, .inr (5, [.int 0, .int 0, .ref q7, .ref q15, .int 0, .int 0, .int 0, .ref q23, .ref q31, .int 0, .int 0, .long 0, .int 0, .null, .null, .null, .null, .null, .null, .null, .null, .null, .int 0, .null])), (q7, .inl (cI, 36, .inl (fun _ => 0))), (q15, .inl (cI, 18, .inl (fun _ => 0))), (q23, .inl (cI, 10, .inl (fun _ => 0))), (q31, .inl (cI, 18, .inl (fun _ => 0)))] H := hP
  have hD : va_D A [(hm, .inr (5, [.int 0, .int 0, .ref q7, .ref q15, .int 0, .int 0, .int 0, .ref q23, .ref q31, .int 0, .int 0, .long 0, .int 0, .null, .null, .null, .null, .null, .null, .null, .null, .null, .int 0, .null])), (q7, .inl (cI, 36, .inl (fun _ => 0))), (q15, .inl (cI, 18, .inl (fun _ => 0))), (q23, .inl (cI, 10, .inl (fun _ => 0))), (q31, .inl (cI, 18, .inl (fun _ => 0)))] := hD
  refine lv_aload_n hx hb d_M_init_36 rfl (lv_at hl 0 rfl) ?_
  refine lv_bipush (v := 10) hx hb d_M_init_37 (by decide) ?_
  refine g_newi (N' := 10) Sx hK 0 rfl hP hD hS hA (by decide) rfl (by decide) (Nat.le_of_ble_eq_true rfl) (Nat.le_of_ble_eq_true rfl) d_M_init_39 (fun q39 H hP hD hS => ?_)
  have hP : va_P (dC, dI) pcl [(hm, .inr (5, [.int 0, .int 0, .ref q7, .ref q15, .int 0, .int 0, .int 0, .ref q23, .ref q31, .int 0, .int 0, .long 0, .int 0, .null, .null, .null, .null, .null, .null, .null, .null, .null, .int 0, .null])), (q7, .inl (cI, 36, .inl (fun _ => 0))), (q15, .inl (cI, 18, .inl (fun _ => 0))), (q23, .inl (cI, 10, .inl (fun _ => 0))), (q31, .inl (cI, 18, .inl (fun _ => 0))), (q39, .inl (cI, 10, .inl (fun _ => 0)))] H := hP
  have hD : va_D A [(hm, .inr (5, [.int 0, .int 0, .ref q7, .ref q15, .int 0, .int 0, .int 0, .ref q23, .ref q31, .int 0, .int 0, .long 0, .int 0, .null, .null, .null, .null, .null, .null, .null, .null, .null, .int 0, .null])), (q7, .inl (cI, 36, .inl (fun _ => 0))), (q15, .inl (cI, 18, .inl (fun _ => 0))), (q23, .inl (cI, 10, .inl (fun _ => 0))), (q31, .inl (cI, 18, .inl (fun _ => 0))), (q39, .inl (cI, 10, .inl (fun _ => 0)))] := hD
  refine g_putF Sx hin gf_M fk_M fn_M hK hP hD hS 0 rfl rfl 13 (by decide) gm_432 rfl rfl rfl rfl (Nat.le_of_ble_eq_true rfl) d_M_init_41 (fun H locs hP hD hS => ?_)
  have hP : va_P (dC, dI) pcl [(hm, .inr (5, [.int 0, .int 0, .ref q7, .ref q15, .int 0, .int 0, .int 0, .ref q23, .ref q31, .int 0, .int 0, .long 0, .int 0, .ref q39, .null, .null, .null, .null, .null, .null, .null, .null, .int 0, .null])), (q7, .inl (cI, 36, .inl (fun _ => 0))), (q15, .inl (cI, 18, .inl (fun _ => 0))), (q23, .inl (cI, 10, .inl (fun _ => 0))), (q31, .inl (cI, 18, .inl (fun _ => 0))), (q39, .inl (cI, 10, .inl (fun _ => 0)))] H := hP
  have hD : va_D A [(hm, .inr (5, [.int 0, .int 0, .ref q7, .ref q15, .int 0, .int 0, .int 0, .ref q23, .ref q31, .int 0, .int 0, .long 0, .int 0, .ref q39, .null, .null, .null, .null, .null, .null, .null, .null, .int 0, .null])), (q7, .inl (cI, 36, .inl (fun _ => 0))), (q15, .inl (cI, 18, .inl (fun _ => 0))), (q23, .inl (cI, 10, .inl (fun _ => 0))), (q31, .inl (cI, 18, .inl (fun _ => 0))), (q39, .inl (cI, 10, .inl (fun _ => 0)))] := hD
  refine lv_aload_n hx hb d_M_init_44 rfl (lv_at hl 0 rfl) ?_
  refine lv_bipush (v := 10) hx hb d_M_init_45 (by decide) ?_
  refine g_newi (N' := 10) Sx hK 0 rfl hP hD hS hA (by decide) rfl (by decide) (Nat.le_of_ble_eq_true rfl) (Nat.le_of_ble_eq_true rfl) d_M_init_47 (fun q47 H hP hD hS => ?_)
  have hP : va_P (dC, dI) pcl [(hm, .inr (5, [.int 0, .int 0, .ref q7, .ref q15, .int 0, .int 0, .int 0, .ref q23, .ref q31, .int 0, .int 0, .long 0, .int 0, .ref q39, .null, .null, .null, .null, .null, .null, .null, .null, .int 0, .null])), (q7, .inl (cI, 36, .inl (fun _ => 0))), (q15, .inl (cI, 18, .inl (fun _ => 0))), (q23, .inl (cI, 10, .inl (fun _ => 0))), (q31, .inl (cI, 18, .inl (fun _ => 0))), (q39, .inl (cI, 10, .inl (fun _ => 0))), (q47, .inl (cI, 10, .inl (fun _ => 0)))] H := hP
  have hD : va_D A [(hm, .inr (5, [.int 0, .int 0, .ref q7, .ref q15, .int 0, .int 0, .int 0, .ref q23, .ref q31, .int 0, .int 0, .long 0, .int 0, .ref q39, .null, .null, .null, .null, .null, .null, .null, .null, .int 0, .null])), (q7, .inl (cI, 36, .inl (fun _ => 0))), (q15, .inl (cI, 18, .inl (fun _ => 0))), (q23, .inl (cI, 10, .inl (fun _ => 0))), (q31, .inl (cI, 18, .inl (fun _ => 0))), (q39, .inl (cI, 10, .inl (fun _ => 0))), (q47, .inl (cI, 10, .inl (fun _ => 0)))] := hD
  refine g_putF Sx hin gf_M fk_M fn_M hK hP hD hS 0 rfl rfl 14 (by decide) gm_433 rfl rfl rfl rfl (Nat.le_of_ble_eq_true rfl) d_M_init_49 (fun H locs hP hD hS => ?_)
  have hP : va_P (dC, dI) pcl [(hm, .inr (5, [.int 0, .int 0, .ref q7, .ref q15, .int 0, .int 0, .int 0, .ref q23, .ref q31, .int 0, .int 0, .long 0, .int 0, .ref q39, .ref q47, .null, .null, .null, .null, .null, .null, .null, .int 0, .null])), (q7, .inl (cI, 36, .inl (fun _ => 0))), (q15, .inl (cI, 18, .inl (fun _ => 0))), (q23, .inl (cI, 10, .inl (fun _ => 0))), (q31, .inl (cI, 18, .inl (fun _ => 0))), (q39, .inl (cI, 10, .inl (fun _ => 0))), (q47, .inl (cI, 10, .inl (fun _ => 0)))] H := hP
  have hD : va_D A [(hm, .inr (5, [.int 0, .int 0, .ref q7, .ref q15, .int 0, .int 0, .int 0, .ref q23, .ref q31, .int 0, .int 0, .long 0, .int 0, .ref q39, .ref q47, .null, .null, .null, .null, .null, .null, .null, .int 0, .null])), (q7, .inl (cI, 36, .inl (fun _ => 0))), (q15, .inl (cI, 18, .inl (fun _ => 0))), (q23, .inl (cI, 10, .inl (fun _ => 0))), (q31, .inl (cI, 18, .inl (fun _ => 0))), (q39, .inl (cI, 10, .inl (fun _ => 0))), (q47, .inl (cI, 10, .inl (fun _ => 0)))] := hD
  refine lv_aload_n hx hb d_M_init_52 rfl (lv_at hl 0 rfl) ?_
  refine lv_bipush (v := 10) hx hb d_M_init_53 (by decide) ?_
  refine g_newi (N' := 10) Sx hK 0 rfl hP hD hS hA (by decide) rfl (by decide) (Nat.le_of_ble_eq_true rfl) (Nat.le_of_ble_eq_true rfl) d_M_init_55 (fun q55 H hP hD hS => ?_)
  have hP : va_P (dC, dI) pcl [(hm, .inr (5, [.int 0, .int 0, .ref q7, .ref q15, .int 0, .int 0, .int 0, .ref q23, .ref q31, .int 0, .int 0, .long 0, .int 0, .ref q39, .ref q47, .null, .null, .null, .null, .null, .null, .null, .int 0, .null])), (q7, .inl (cI, 36, .inl (fun _ => 0))), (q15, .inl (cI, 18, .inl (fun _ => 0))), (q23, .inl (cI, 10, .inl (fun _ => 0))), (q31, .inl (cI, 18, .inl (fun _ => 0))), (q39, .inl (cI, 10, .inl (fun _ => 0))), (q47, .inl (cI, 10, .inl (fun _ => 0))), (q55, .inl (cI, 10, .inl (fun _ => 0)))] H := hP
  have hD : va_D A [(hm, .inr (5, [.int 0, .int 0, .ref q7, .ref q15, .int 0, .int 0, .int 0, .ref q23, .ref q31, .int 0, .int 0, .long 0, .int 0, .ref q39, .ref q47, .null, .null, .null, .null, .null, .null, .null, .int 0, .null])), (q7, .inl (cI, 36, .inl (fun _ => 0))), (q15, .inl (cI, 18, .inl (fun _ => 0))), (q23, .inl (cI, 10, .inl (fun _ => 0))), (q31, .inl (cI, 18, .inl (fun _ => 0))), (q39, .inl (cI, 10, .inl (fun _ => 0))), (q47, .inl (cI, 10, .inl (fun _ => 0))), (q55, .inl (cI, 10, .inl (fun _ => 0)))] := hD
  refine g_putF Sx hin gf_M fk_M fn_M hK hP hD hS 0 rfl rfl 15 (by decide) gm_434 rfl rfl rfl rfl (Nat.le_of_ble_eq_true rfl) d_M_init_57 (fun H locs hP hD hS => ?_)
  have hP : va_P (dC, dI) pcl [(hm, .inr (5, [.int 0, .int 0, .ref q7, .ref q15, .int 0, .int 0, .int 0, .ref q23, .ref q31, .int 0, .int 0, .long 0, .int 0, .ref q39, .ref q47, .ref q55, .null, .null, .null, .null, .null, .null, .int 0, .null])), (q7, .inl (cI, 36, .inl (fun _ => 0))), (q15, .inl (cI, 18, .inl (fun _ => 0))), (q23, .inl (cI, 10, .inl (fun _ => 0))), (q31, .inl (cI, 18, .inl (fun _ => 0))), (q39, .inl (cI, 10, .inl (fun _ => 0))), (q47, .inl (cI, 10, .inl (fun _ => 0))), (q55, .inl (cI, 10, .inl (fun _ => 0)))] H := hP
  have hD : va_D A [(hm, .inr (5, [.int 0, .int 0, .ref q7, .ref q15, .int 0, .int 0, .int 0, .ref q23, .ref q31, .int 0, .int 0, .long 0, .int 0, .ref q39, .ref q47, .ref q55, .null, .null, .null, .null, .null, .null, .int 0, .null])), (q7, .inl (cI, 36, .inl (fun _ => 0))), (q15, .inl (cI, 18, .inl (fun _ => 0))), (q23, .inl (cI, 10, .inl (fun _ => 0))), (q31, .inl (cI, 18, .inl (fun _ => 0))), (q39, .inl (cI, 10, .inl (fun _ => 0))), (q47, .inl (cI, 10, .inl (fun _ => 0))), (q55, .inl (cI, 10, .inl (fun _ => 0)))] := hD
  refine lv_aload_n hx hb d_M_init_60 rfl (lv_at hl 0 rfl) ?_
  refine lv_bipush (v := 10) hx hb d_M_init_61 (by decide) ?_
  refine g_newi (N' := 10) Sx hK 0 rfl hP hD hS hA (by decide) rfl (by decide) (Nat.le_of_ble_eq_true rfl) (Nat.le_of_ble_eq_true rfl) d_M_init_63 (fun q63 H hP hD hS => ?_)
  have hP : va_P (dC, dI) pcl [(hm, .inr (5, [.int 0, .int 0, .ref q7, .ref q15, .int 0, .int 0, .int 0, .ref q23, .ref q31, .int 0, .int 0, .long 0, .int 0, .ref q39, .ref q47, .ref q55, .null, .null, .null, .null, .null, .null, .int 0, .null])), (q7, .inl (cI, 36, .inl (fun _ => 0))), (q15, .inl (cI, 18, .inl (fun _ => 0))), (q23, .inl (cI, 10, .inl (fun _ => 0))), (q31, .inl (cI, 18, .inl (fun _ => 0))), (q39, .inl (cI, 10, .inl (fun _ => 0))), (q47, .inl (cI, 10, .inl (fun _ => 0))), (q55, .inl (cI, 10, .inl (fun _ => 0))), (q63, .inl (cI, 10, .inl (fun _ => 0)))] H := hP
  have hD : va_D A [(hm, .inr (5, [.int 0, .int 0, .ref q7, .ref q15, .int 0, .int 0, .int 0, .ref q23, .ref q31, .int 0, .int 0, .long 0, .int 0, .ref q39, .ref q47, .ref q55, .null, .null, .null, .null, .null, .null, .int 0, .null])), (q7, .inl (cI, 36, .inl (fun _ => 0))), (q15, .inl (cI, 18, .inl (fun _ => 0))), (q23, .inl (cI, 10, .inl (fun _ => 0))), (q31, .inl (cI, 18, .inl (fun _ => 0))), (q39, .inl (cI, 10, .inl (fun _ => 0))), (q47, .inl (cI, 10, .inl (fun _ => 0))), (q55, .inl (cI, 10, .inl (fun _ => 0))), (q63, .inl (cI, 10, .inl (fun _ => 0)))] := hD
  refine g_putF Sx hin gf_M fk_M fn_M hK hP hD hS 0 rfl rfl 16 (by decide) gm_435 rfl rfl rfl rfl (Nat.le_of_ble_eq_true rfl) d_M_init_65 (fun H locs hP hD hS => ?_)
  have hP : va_P (dC, dI) pcl [(hm, .inr (5, [.int 0, .int 0, .ref q7, .ref q15, .int 0, .int 0, .int 0, .ref q23, .ref q31, .int 0, .int 0, .long 0, .int 0, .ref q39, .ref q47, .ref q55, .ref q63, .null, .null, .null, .null, .null, .int 0, .null])), (q7, .inl (cI, 36, .inl (fun _ => 0))), (q15, .inl (cI, 18, .inl (fun _ => 0))), (q23, .inl (cI, 10, .inl (fun _ => 0))), (q31, .inl (cI, 18, .inl (fun _ => 0))), (q39, .inl (cI, 10, .inl (fun _ => 0))), (q47, .inl (cI, 10, .inl (fun _ => 0))), (q55, .inl (cI, 10, .inl (fun _ => 0))), (q63, .inl (cI, 10, .inl (fun _ => 0)))] H := hP
  have hD : va_D A [(hm, .inr (5, [.int 0, .int 0, .ref q7, .ref q15, .int 0, .int 0, .int 0, .ref q23, .ref q31, .int 0, .int 0, .long 0, .int 0, .ref q39, .ref q47, .ref q55, .ref q63, .null, .null, .null, .null, .null, .int 0, .null])), (q7, .inl (cI, 36, .inl (fun _ => 0))), (q15, .inl (cI, 18, .inl (fun _ => 0))), (q23, .inl (cI, 10, .inl (fun _ => 0))), (q31, .inl (cI, 18, .inl (fun _ => 0))), (q39, .inl (cI, 10, .inl (fun _ => 0))), (q47, .inl (cI, 10, .inl (fun _ => 0))), (q55, .inl (cI, 10, .inl (fun _ => 0))), (q63, .inl (cI, 10, .inl (fun _ => 0)))] := hD
  refine lv_aload_n hx hb d_M_init_68 rfl (lv_at hl 0 rfl) ?_
  refine lv_bipush (v := 10) hx hb d_M_init_69 (by decide) ?_
  refine g_newi (N' := 10) Sx hK 0 rfl hP hD hS hA (by decide) rfl (by decide) (Nat.le_of_ble_eq_true rfl) (Nat.le_of_ble_eq_true rfl) d_M_init_71 (fun q71 H hP hD hS => ?_)
  have hP : va_P (dC, dI) pcl [(hm, .inr (5, [.int 0, .int 0, .ref q7, .ref q15, .int 0, .int 0, .int 0, .ref q23, .ref q31, .int 0, .int 0, .long 0, .int 0, .ref q39, .ref q47, .ref q55, .ref q63, .null, .null, .null, .null, .null, .int 0, .null])), (q7, .inl (cI, 36, .inl (fun _ => 0))), (q15, .inl (cI, 18, .inl (fun _ => 0))), (q23, .inl (cI, 10, .inl (fun _ => 0))), (q31, .inl (cI, 18, .inl (fun _ => 0))), (q39, .inl (cI, 10, .inl (fun _ => 0))), (q47, .inl (cI, 10, .inl (fun _ => 0))), (q55, .inl (cI, 10, .inl (fun _ => 0))), (q63, .inl (cI, 10, .inl (fun _ => 0))), (q71, .inl (cI, 10, .inl (fun _ => 0)))] H := hP
  have hD : va_D A [(hm, .inr (5, [.int 0, .int 0, .ref q7, .ref q15, .int 0, .int 0, .int 0, .ref q23, .ref q31, .int 0, .int 0, .long 0, .int 0, .ref q39, .ref q47, .ref q55, .ref q63, .null, .null, .null, .null, .null, .int 0, .null])), (q7, .inl (cI, 36, .inl (fun _ => 0))), (q15, .inl (cI, 18, .inl (fun _ => 0))), (q23, .inl (cI, 10, .inl (fun _ => 0))), (q31, .inl (cI, 18, .inl (fun _ => 0))), (q39, .inl (cI, 10, .inl (fun _ => 0))), (q47, .inl (cI, 10, .inl (fun _ => 0))), (q55, .inl (cI, 10, .inl (fun _ => 0))), (q63, .inl (cI, 10, .inl (fun _ => 0))), (q71, .inl (cI, 10, .inl (fun _ => 0)))] := hD
  refine g_putF Sx hin gf_M fk_M fn_M hK hP hD hS 0 rfl rfl 17 (by decide) gm_436 rfl rfl rfl rfl (Nat.le_of_ble_eq_true rfl) d_M_init_73 (fun H locs hP hD hS => ?_)
  have hP : va_P (dC, dI) pcl [(hm, .inr (5, [.int 0, .int 0, .ref q7, .ref q15, .int 0, .int 0, .int 0, .ref q23, .ref q31, .int 0, .int 0, .long 0, .int 0, .ref q39, .ref q47, .ref q55, .ref q63, .ref q71, .null, .null, .null, .null, .int 0, .null])), (q7, .inl (cI, 36, .inl (fun _ => 0))), (q15, .inl (cI, 18, .inl (fun _ => 0))), (q23, .inl (cI, 10, .inl (fun _ => 0))), (q31, .inl (cI, 18, .inl (fun _ => 0))), (q39, .inl (cI, 10, .inl (fun _ => 0))), (q47, .inl (cI, 10, .inl (fun _ => 0))), (q55, .inl (cI, 10, .inl (fun _ => 0))), (q63, .inl (cI, 10, .inl (fun _ => 0))), (q71, .inl (cI, 10, .inl (fun _ => 0)))] H := hP
  have hD : va_D A [(hm, .inr (5, [.int 0, .int 0, .ref q7, .ref q15, .int 0, .int 0, .int 0, .ref q23, .ref q31, .int 0, .int 0, .long 0, .int 0, .ref q39, .ref q47, .ref q55, .ref q63, .ref q71, .null, .null, .null, .null, .int 0, .null])), (q7, .inl (cI, 36, .inl (fun _ => 0))), (q15, .inl (cI, 18, .inl (fun _ => 0))), (q23, .inl (cI, 10, .inl (fun _ => 0))), (q31, .inl (cI, 18, .inl (fun _ => 0))), (q39, .inl (cI, 10, .inl (fun _ => 0))), (q47, .inl (cI, 10, .inl (fun _ => 0))), (q55, .inl (cI, 10, .inl (fun _ => 0))), (q63, .inl (cI, 10, .inl (fun _ => 0))), (q71, .inl (cI, 10, .inl (fun _ => 0)))] := hD
  refine lv_aload_n hx hb d_M_init_76 rfl (lv_at hl 0 rfl) ?_
  refine lv_bipush (v := 18) hx hb d_M_init_77 (by decide) ?_
  refine g_newi (N' := 18) Sx hK 0 rfl hP hD hS hA (by decide) rfl (by decide) (Nat.le_of_ble_eq_true rfl) (Nat.le_of_ble_eq_true rfl) d_M_init_79 (fun q79 H hP hD hS => ?_)
  have hP : va_P (dC, dI) pcl [(hm, .inr (5, [.int 0, .int 0, .ref q7, .ref q15, .int 0, .int 0, .int 0, .ref q23, .ref q31, .int 0, .int 0, .long 0, .int 0, .ref q39, .ref q47, .ref q55, .ref q63, .ref q71, .null, .null, .null, .null, .int 0, .null])), (q7, .inl (cI, 36, .inl (fun _ => 0))), (q15, .inl (cI, 18, .inl (fun _ => 0))), (q23, .inl (cI, 10, .inl (fun _ => 0))), (q31, .inl (cI, 18, .inl (fun _ => 0))), (q39, .inl (cI, 10, .inl (fun _ => 0))), (q47, .inl (cI, 10, .inl (fun _ => 0))), (q55, .inl (cI, 10, .inl (fun _ => 0))), (q63, .inl (cI, 10, .inl (fun _ => 0))), (q71, .inl (cI, 10, .inl (fun _ => 0))), (q79, .inl (cI, 18, .inl (fun _ => 0)))] H := hP
  have hD : va_D A [(hm, .inr (5, [.int 0, .int 0, .ref q7, .ref q15, .int 0, .int 0, .int 0, .ref q23, .ref q31, .int 0, .int 0, .long 0, .int 0, .ref q39, .ref q47, .ref q55, .ref q63, .ref q71, .null, .null, .null, .null, .int 0, .null])), (q7, .inl (cI, 36, .inl (fun _ => 0))), (q15, .inl (cI, 18, .inl (fun _ => 0))), (q23, .inl (cI, 10, .inl (fun _ => 0))), (q31, .inl (cI, 18, .inl (fun _ => 0))), (q39, .inl (cI, 10, .inl (fun _ => 0))), (q47, .inl (cI, 10, .inl (fun _ => 0))), (q55, .inl (cI, 10, .inl (fun _ => 0))), (q63, .inl (cI, 10, .inl (fun _ => 0))), (q71, .inl (cI, 10, .inl (fun _ => 0))), (q79, .inl (cI, 18, .inl (fun _ => 0)))] := hD
  refine g_putF Sx hin gf_M fk_M fn_M hK hP hD hS 0 rfl rfl 18 (by decide) gm_437 rfl rfl rfl rfl (Nat.le_of_ble_eq_true rfl) d_M_init_81 (fun H locs hP hD hS => ?_)
  have hP : va_P (dC, dI) pcl [(hm, .inr (5, [.int 0, .int 0, .ref q7, .ref q15, .int 0, .int 0, .int 0, .ref q23, .ref q31, .int 0, .int 0, .long 0, .int 0, .ref q39, .ref q47, .ref q55, .ref q63, .ref q71, .ref q79, .null, .null, .null, .int 0, .null])), (q7, .inl (cI, 36, .inl (fun _ => 0))), (q15, .inl (cI, 18, .inl (fun _ => 0))), (q23, .inl (cI, 10, .inl (fun _ => 0))), (q31, .inl (cI, 18, .inl (fun _ => 0))), (q39, .inl (cI, 10, .inl (fun _ => 0))), (q47, .inl (cI, 10, .inl (fun _ => 0))), (q55, .inl (cI, 10, .inl (fun _ => 0))), (q63, .inl (cI, 10, .inl (fun _ => 0))), (q71, .inl (cI, 10, .inl (fun _ => 0))), (q79, .inl (cI, 18, .inl (fun _ => 0)))] H := hP
  have hD : va_D A [(hm, .inr (5, [.int 0, .int 0, .ref q7, .ref q15, .int 0, .int 0, .int 0, .ref q23, .ref q31, .int 0, .int 0, .long 0, .int 0, .ref q39, .ref q47, .ref q55, .ref q63, .ref q71, .ref q79, .null, .null, .null, .int 0, .null])), (q7, .inl (cI, 36, .inl (fun _ => 0))), (q15, .inl (cI, 18, .inl (fun _ => 0))), (q23, .inl (cI, 10, .inl (fun _ => 0))), (q31, .inl (cI, 18, .inl (fun _ => 0))), (q39, .inl (cI, 10, .inl (fun _ => 0))), (q47, .inl (cI, 10, .inl (fun _ => 0))), (q55, .inl (cI, 10, .inl (fun _ => 0))), (q63, .inl (cI, 10, .inl (fun _ => 0))), (q71, .inl (cI, 10, .inl (fun _ => 0))), (q79, .inl (cI, 18, .inl (fun _ => 0)))] := hD
  refine lv_aload_n hx hb d_M_init_84 rfl (lv_at hl 0 rfl) ?_
  refine lv_bipush (v := 18) hx hb d_M_init_85 (by decide) ?_
  refine g_newi (N' := 18) Sx hK 0 rfl hP hD hS hA (by decide) rfl (by decide) (Nat.le_of_ble_eq_true rfl) (Nat.le_of_ble_eq_true rfl) d_M_init_87 (fun q87 H hP hD hS => ?_)
  have hP : va_P (dC, dI) pcl [(hm, .inr (5, [.int 0, .int 0, .ref q7, .ref q15, .int 0, .int 0, .int 0, .ref q23, .ref q31, .int 0, .int 0, .long 0, .int 0, .ref q39, .ref q47, .ref q55, .ref q63, .ref q71, .ref q79, .null, .null, .null, .int 0, .null])), (q7, .inl (cI, 36, .inl (fun _ => 0))), (q15, .inl (cI, 18, .inl (fun _ => 0))), (q23, .inl (cI, 10, .inl (fun _ => 0))), (q31, .inl (cI, 18, .inl (fun _ => 0))), (q39, .inl (cI, 10, .inl (fun _ => 0))), (q47, .inl (cI, 10, .inl (fun _ => 0))), (q55, .inl (cI, 10, .inl (fun _ => 0))), (q63, .inl (cI, 10, .inl (fun _ => 0))), (q71, .inl (cI, 10, .inl (fun _ => 0))), (q79, .inl (cI, 18, .inl (fun _ => 0))), (q87, .inl (cI, 18, .inl (fun _ => 0)))] H := hP
  have hD : va_D A [(hm, .inr (5, [.int 0, .int 0, .ref q7, .ref q15, .int 0, .int 0, .int 0, .ref q23, .ref q31, .int 0, .int 0, .long 0, .int 0, .ref q39, .ref q47, .ref q55, .ref q63, .ref q71, .ref q79, .null, .null, .null, .int 0, .null])), (q7, .inl (cI, 36, .inl (fun _ => 0))), (q15, .inl (cI, 18, .inl (fun _ => 0))), (q23, .inl (cI, 10, .inl (fun _ => 0))), (q31, .inl (cI, 18, .inl (fun _ => 0))), (q39, .inl (cI, 10, .inl (fun _ => 0))), (q47, .inl (cI, 10, .inl (fun _ => 0))), (q55, .inl (cI, 10, .inl (fun _ => 0))), (q63, .inl (cI, 10, .inl (fun _ => 0))), (q71, .inl (cI, 10, .inl (fun _ => 0))), (q79, .inl (cI, 18, .inl (fun _ => 0))), (q87, .inl (cI, 18, .inl (fun _ => 0)))] := hD
  refine g_putF Sx hin gf_M fk_M fn_M hK hP hD hS 0 rfl rfl 19 (by decide) gm_438 rfl rfl rfl rfl (Nat.le_of_ble_eq_true rfl) d_M_init_89 (fun H locs hP hD hS => ?_)
  have hP : va_P (dC, dI) pcl [(hm, .inr (5, [.int 0, .int 0, .ref q7, .ref q15, .int 0, .int 0, .int 0, .ref q23, .ref q31, .int 0, .int 0, .long 0, .int 0, .ref q39, .ref q47, .ref q55, .ref q63, .ref q71, .ref q79, .ref q87, .null, .null, .int 0, .null])), (q7, .inl (cI, 36, .inl (fun _ => 0))), (q15, .inl (cI, 18, .inl (fun _ => 0))), (q23, .inl (cI, 10, .inl (fun _ => 0))), (q31, .inl (cI, 18, .inl (fun _ => 0))), (q39, .inl (cI, 10, .inl (fun _ => 0))), (q47, .inl (cI, 10, .inl (fun _ => 0))), (q55, .inl (cI, 10, .inl (fun _ => 0))), (q63, .inl (cI, 10, .inl (fun _ => 0))), (q71, .inl (cI, 10, .inl (fun _ => 0))), (q79, .inl (cI, 18, .inl (fun _ => 0))), (q87, .inl (cI, 18, .inl (fun _ => 0)))] H := hP
  have hD : va_D A [(hm, .inr (5, [.int 0, .int 0, .ref q7, .ref q15, .int 0, .int 0, .int 0, .ref q23, .ref q31, .int 0, .int 0, .long 0, .int 0, .ref q39, .ref q47, .ref q55, .ref q63, .ref q71, .ref q79, .ref q87, .null, .null, .int 0, .null])), (q7, .inl (cI, 36, .inl (fun _ => 0))), (q15, .inl (cI, 18, .inl (fun _ => 0))), (q23, .inl (cI, 10, .inl (fun _ => 0))), (q31, .inl (cI, 18, .inl (fun _ => 0))), (q39, .inl (cI, 10, .inl (fun _ => 0))), (q47, .inl (cI, 10, .inl (fun _ => 0))), (q55, .inl (cI, 10, .inl (fun _ => 0))), (q63, .inl (cI, 10, .inl (fun _ => 0))), (q71, .inl (cI, 10, .inl (fun _ => 0))), (q79, .inl (cI, 18, .inl (fun _ => 0))), (q87, .inl (cI, 18, .inl (fun _ => 0)))] := hD
  refine lv_aload_n hx hb d_M_init_92 rfl (lv_at hl 0 rfl) ?_
  refine lv_bipush (v := 18) hx hb d_M_init_93 (by decide) ?_
  refine g_newi (N' := 18) Sx hK 0 rfl hP hD hS hA (by decide) rfl (by decide) (Nat.le_of_ble_eq_true rfl) (Nat.le_of_ble_eq_true rfl) d_M_init_95 (fun q95 H hP hD hS => ?_)
  have hP : va_P (dC, dI) pcl [(hm, .inr (5, [.int 0, .int 0, .ref q7, .ref q15, .int 0, .int 0, .int 0, .ref q23, .ref q31, .int 0, .int 0, .long 0, .int 0, .ref q39, .ref q47, .ref q55, .ref q63, .ref q71, .ref q79, .ref q87, .null, .null, .int 0, .null])), (q7, .inl (cI, 36, .inl (fun _ => 0))), (q15, .inl (cI, 18, .inl (fun _ => 0))), (q23, .inl (cI, 10, .inl (fun _ => 0))), (q31, .inl (cI, 18, .inl (fun _ => 0))), (q39, .inl (cI, 10, .inl (fun _ => 0))), (q47, .inl (cI, 10, .inl (fun _ => 0))), (q55, .inl (cI, 10, .inl (fun _ => 0))), (q63, .inl (cI, 10, .inl (fun _ => 0))), (q71, .inl (cI, 10, .inl (fun _ => 0))), (q79, .inl (cI, 18, .inl (fun _ => 0))), (q87, .inl (cI, 18, .inl (fun _ => 0))), (q95, .inl (cI, 18, .inl (fun _ => 0)))] H := hP
  have hD : va_D A [(hm, .inr (5, [.int 0, .int 0, .ref q7, .ref q15, .int 0, .int 0, .int 0, .ref q23, .ref q31, .int 0, .int 0, .long 0, .int 0, .ref q39, .ref q47, .ref q55, .ref q63, .ref q71, .ref q79, .ref q87, .null, .null, .int 0, .null])), (q7, .inl (cI, 36, .inl (fun _ => 0))), (q15, .inl (cI, 18, .inl (fun _ => 0))), (q23, .inl (cI, 10, .inl (fun _ => 0))), (q31, .inl (cI, 18, .inl (fun _ => 0))), (q39, .inl (cI, 10, .inl (fun _ => 0))), (q47, .inl (cI, 10, .inl (fun _ => 0))), (q55, .inl (cI, 10, .inl (fun _ => 0))), (q63, .inl (cI, 10, .inl (fun _ => 0))), (q71, .inl (cI, 10, .inl (fun _ => 0))), (q79, .inl (cI, 18, .inl (fun _ => 0))), (q87, .inl (cI, 18, .inl (fun _ => 0))), (q95, .inl (cI, 18, .inl (fun _ => 0)))] := hD
  refine g_putF Sx hin gf_M fk_M fn_M hK hP hD hS 0 rfl rfl 20 (by decide) gm_439 rfl rfl rfl rfl (Nat.le_of_ble_eq_true rfl) d_M_init_97 (fun H locs hP hD hS => ?_)
  have hP : va_P (dC, dI) pcl [(hm, .inr (5, [.int 0, .int 0, .ref q7, .ref q15, .int 0, .int 0, .int 0, .ref q23, .ref q31, .int 0, .int 0, .long 0, .int 0, .ref q39, .ref q47, .ref q55, .ref q63, .ref q71, .ref q79, .ref q87, .ref q95, .null, .int 0, .null])), (q7, .inl (cI, 36, .inl (fun _ => 0))), (q15, .inl (cI, 18, .inl (fun _ => 0))), (q23, .inl (cI, 10, .inl (fun _ => 0))), (q31, .inl (cI, 18, .inl (fun _ => 0))), (q39, .inl (cI, 10, .inl (fun _ => 0))), (q47, .inl (cI, 10, .inl (fun _ => 0))), (q55, .inl (cI, 10, .inl (fun _ => 0))), (q63, .inl (cI, 10, .inl (fun _ => 0))), (q71, .inl (cI, 10, .inl (fun _ => 0))), (q79, .inl (cI, 18, .inl (fun _ => 0))), (q87, .inl (cI, 18, .inl (fun _ => 0))), (q95, .inl (cI, 18, .inl (fun _ => 0)))] H := hP
  have hD : va_D A [(hm, .inr (5, [.int 0, .int 0, .ref q7, .ref q15, .int 0, .int 0, .int 0, .ref q23, .ref q31, .int 0, .int 0, .long 0, .int 0, .ref q39, .ref q47, .ref q55, .ref q63, .ref q71, .ref q79, .ref q87, .ref q95, .null, .int 0, .null])), (q7, .inl (cI, 36, .inl (fun _ => 0))), (q15, .inl (cI, 18, .inl (fun _ => 0))), (q23, .inl (cI, 10, .inl (fun _ => 0))), (q31, .inl (cI, 18, .inl (fun _ => 0))), (q39, .inl (cI, 10, .inl (fun _ => 0))), (q47, .inl (cI, 10, .inl (fun _ => 0))), (q55, .inl (cI, 10, .inl (fun _ => 0))), (q63, .inl (cI, 10, .inl (fun _ => 0))), (q71, .inl (cI, 10, .inl (fun _ => 0))), (q79, .inl (cI, 18, .inl (fun _ => 0))), (q87, .inl (cI, 18, .inl (fun _ => 0))), (q95, .inl (cI, 18, .inl (fun _ => 0)))] := hD
  refine lv_aload_n hx hb d_M_init_100 rfl (lv_at hl 0 rfl) ?_
  refine lv_bipush (v := 18) hx hb d_M_init_101 (by decide) ?_
  refine g_newi (N' := 18) Sx hK 0 rfl hP hD hS hA (by decide) rfl (by decide) (Nat.le_of_ble_eq_true rfl) (Nat.le_of_ble_eq_true rfl) d_M_init_103 (fun q103 H hP hD hS => ?_)
  have hP : va_P (dC, dI) pcl [(hm, .inr (5, [.int 0, .int 0, .ref q7, .ref q15, .int 0, .int 0, .int 0, .ref q23, .ref q31, .int 0, .int 0, .long 0, .int 0, .ref q39, .ref q47, .ref q55, .ref q63, .ref q71, .ref q79, .ref q87, .ref q95, .null, .int 0, .null])), (q7, .inl (cI, 36, .inl (fun _ => 0))), (q15, .inl (cI, 18, .inl (fun _ => 0))), (q23, .inl (cI, 10, .inl (fun _ => 0))), (q31, .inl (cI, 18, .inl (fun _ => 0))), (q39, .inl (cI, 10, .inl (fun _ => 0))), (q47, .inl (cI, 10, .inl (fun _ => 0))), (q55, .inl (cI, 10, .inl (fun _ => 0))), (q63, .inl (cI, 10, .inl (fun _ => 0))), (q71, .inl (cI, 10, .inl (fun _ => 0))), (q79, .inl (cI, 18, .inl (fun _ => 0))), (q87, .inl (cI, 18, .inl (fun _ => 0))), (q95, .inl (cI, 18, .inl (fun _ => 0))), (q103, .inl (cI, 18, .inl (fun _ => 0)))] H := hP
  have hD : va_D A [(hm, .inr (5, [.int 0, .int 0, .ref q7, .ref q15, .int 0, .int 0, .int 0, .ref q23, .ref q31, .int 0, .int 0, .long 0, .int 0, .ref q39, .ref q47, .ref q55, .ref q63, .ref q71, .ref q79, .ref q87, .ref q95, .null, .int 0, .null])), (q7, .inl (cI, 36, .inl (fun _ => 0))), (q15, .inl (cI, 18, .inl (fun _ => 0))), (q23, .inl (cI, 10, .inl (fun _ => 0))), (q31, .inl (cI, 18, .inl (fun _ => 0))), (q39, .inl (cI, 10, .inl (fun _ => 0))), (q47, .inl (cI, 10, .inl (fun _ => 0))), (q55, .inl (cI, 10, .inl (fun _ => 0))), (q63, .inl (cI, 10, .inl (fun _ => 0))), (q71, .inl (cI, 10, .inl (fun _ => 0))), (q79, .inl (cI, 18, .inl (fun _ => 0))), (q87, .inl (cI, 18, .inl (fun _ => 0))), (q95, .inl (cI, 18, .inl (fun _ => 0))), (q103, .inl (cI, 18, .inl (fun _ => 0)))] := hD
  refine g_putF Sx hin gf_M fk_M fn_M hK hP hD hS 0 rfl rfl 21 (by decide) gm_440 rfl rfl rfl rfl (Nat.le_of_ble_eq_true rfl) d_M_init_105 (fun H locs hP hD hS => ?_)
  have hP : va_P (dC, dI) pcl [(hm, .inr (5, [.int 0, .int 0, .ref q7, .ref q15, .int 0, .int 0, .int 0, .ref q23, .ref q31, .int 0, .int 0, .long 0, .int 0, .ref q39, .ref q47, .ref q55, .ref q63, .ref q71, .ref q79, .ref q87, .ref q95, .ref q103, .int 0, .null])), (q7, .inl (cI, 36, .inl (fun _ => 0))), (q15, .inl (cI, 18, .inl (fun _ => 0))), (q23, .inl (cI, 10, .inl (fun _ => 0))), (q31, .inl (cI, 18, .inl (fun _ => 0))), (q39, .inl (cI, 10, .inl (fun _ => 0))), (q47, .inl (cI, 10, .inl (fun _ => 0))), (q55, .inl (cI, 10, .inl (fun _ => 0))), (q63, .inl (cI, 10, .inl (fun _ => 0))), (q71, .inl (cI, 10, .inl (fun _ => 0))), (q79, .inl (cI, 18, .inl (fun _ => 0))), (q87, .inl (cI, 18, .inl (fun _ => 0))), (q95, .inl (cI, 18, .inl (fun _ => 0))), (q103, .inl (cI, 18, .inl (fun _ => 0)))] H := hP
  have hD : va_D A [(hm, .inr (5, [.int 0, .int 0, .ref q7, .ref q15, .int 0, .int 0, .int 0, .ref q23, .ref q31, .int 0, .int 0, .long 0, .int 0, .ref q39, .ref q47, .ref q55, .ref q63, .ref q71, .ref q79, .ref q87, .ref q95, .ref q103, .int 0, .null])), (q7, .inl (cI, 36, .inl (fun _ => 0))), (q15, .inl (cI, 18, .inl (fun _ => 0))), (q23, .inl (cI, 10, .inl (fun _ => 0))), (q31, .inl (cI, 18, .inl (fun _ => 0))), (q39, .inl (cI, 10, .inl (fun _ => 0))), (q47, .inl (cI, 10, .inl (fun _ => 0))), (q55, .inl (cI, 10, .inl (fun _ => 0))), (q63, .inl (cI, 10, .inl (fun _ => 0))), (q71, .inl (cI, 10, .inl (fun _ => 0))), (q79, .inl (cI, 18, .inl (fun _ => 0))), (q87, .inl (cI, 18, .inl (fun _ => 0))), (q95, .inl (cI, 18, .inl (fun _ => 0))), (q103, .inl (cI, 18, .inl (fun _ => 0)))] := hD
  refine lv_aload_n hx hb d_M_init_108 rfl (lv_at hl 0 rfl) ?_
  refine lv_bipush (v := 18) hx hb d_M_init_109 (by decide) ?_
  refine g_newi (N' := 18) Sx hK 0 rfl hP hD hS hA (by decide) rfl (by decide) (Nat.le_of_ble_eq_true rfl) (Nat.le_of_ble_eq_true rfl) d_M_init_111 (fun q111 H hP hD hS => ?_)
  have hP : va_P (dC, dI) pcl [(hm, .inr (5, [.int 0, .int 0, .ref q7, .ref q15, .int 0, .int 0, .int 0, .ref q23, .ref q31, .int 0, .int 0, .long 0, .int 0, .ref q39, .ref q47, .ref q55, .ref q63, .ref q71, .ref q79, .ref q87, .ref q95, .ref q103, .int 0, .null])), (q7, .inl (cI, 36, .inl (fun _ => 0))), (q15, .inl (cI, 18, .inl (fun _ => 0))), (q23, .inl (cI, 10, .inl (fun _ => 0))), (q31, .inl (cI, 18, .inl (fun _ => 0))), (q39, .inl (cI, 10, .inl (fun _ => 0))), (q47, .inl (cI, 10, .inl (fun _ => 0))), (q55, .inl (cI, 10, .inl (fun _ => 0))), (q63, .inl (cI, 10, .inl (fun _ => 0))), (q71, .inl (cI, 10, .inl (fun _ => 0))), (q79, .inl (cI, 18, .inl (fun _ => 0))), (q87, .inl (cI, 18, .inl (fun _ => 0))), (q95, .inl (cI, 18, .inl (fun _ => 0))), (q103, .inl (cI, 18, .inl (fun _ => 0))), (q111, .inl (cI, 18, .inl (fun _ => 0)))] H := hP
  have hD : va_D A [(hm, .inr (5, [.int 0, .int 0, .ref q7, .ref q15, .int 0, .int 0, .int 0, .ref q23, .ref q31, .int 0, .int 0, .long 0, .int 0, .ref q39, .ref q47, .ref q55, .ref q63, .ref q71, .ref q79, .ref q87, .ref q95, .ref q103, .int 0, .null])), (q7, .inl (cI, 36, .inl (fun _ => 0))), (q15, .inl (cI, 18, .inl (fun _ => 0))), (q23, .inl (cI, 10, .inl (fun _ => 0))), (q31, .inl (cI, 18, .inl (fun _ => 0))), (q39, .inl (cI, 10, .inl (fun _ => 0))), (q47, .inl (cI, 10, .inl (fun _ => 0))), (q55, .inl (cI, 10, .inl (fun _ => 0))), (q63, .inl (cI, 10, .inl (fun _ => 0))), (q71, .inl (cI, 10, .inl (fun _ => 0))), (q79, .inl (cI, 18, .inl (fun _ => 0))), (q87, .inl (cI, 18, .inl (fun _ => 0))), (q95, .inl (cI, 18, .inl (fun _ => 0))), (q103, .inl (cI, 18, .inl (fun _ => 0))), (q111, .inl (cI, 18, .inl (fun _ => 0)))] := hD
  refine g_putF Sx hin gf_M fk_M fn_M hK hP hD hS 0 rfl rfl 23 (by decide) gm_442 rfl rfl rfl rfl (Nat.le_of_ble_eq_true rfl) d_M_init_113 (fun H locs hP hD hS => ?_)
  have hP : va_P (dC, dI) pcl [(hm, .inr (5, [.int 0, .int 0, .ref q7, .ref q15, .int 0, .int 0, .int 0, .ref q23, .ref q31, .int 0, .int 0, .long 0, .int 0, .ref q39, .ref q47, .ref q55, .ref q63, .ref q71, .ref q79, .ref q87, .ref q95, .ref q103, .int 0, .ref q111])), (q7, .inl (cI, 36, .inl (fun _ => 0))), (q15, .inl (cI, 18, .inl (fun _ => 0))), (q23, .inl (cI, 10, .inl (fun _ => 0))), (q31, .inl (cI, 18, .inl (fun _ => 0))), (q39, .inl (cI, 10, .inl (fun _ => 0))), (q47, .inl (cI, 10, .inl (fun _ => 0))), (q55, .inl (cI, 10, .inl (fun _ => 0))), (q63, .inl (cI, 10, .inl (fun _ => 0))), (q71, .inl (cI, 10, .inl (fun _ => 0))), (q79, .inl (cI, 18, .inl (fun _ => 0))), (q87, .inl (cI, 18, .inl (fun _ => 0))), (q95, .inl (cI, 18, .inl (fun _ => 0))), (q103, .inl (cI, 18, .inl (fun _ => 0))), (q111, .inl (cI, 18, .inl (fun _ => 0)))] H := hP
  have hD : va_D A [(hm, .inr (5, [.int 0, .int 0, .ref q7, .ref q15, .int 0, .int 0, .int 0, .ref q23, .ref q31, .int 0, .int 0, .long 0, .int 0, .ref q39, .ref q47, .ref q55, .ref q63, .ref q71, .ref q79, .ref q87, .ref q95, .ref q103, .int 0, .ref q111])), (q7, .inl (cI, 36, .inl (fun _ => 0))), (q15, .inl (cI, 18, .inl (fun _ => 0))), (q23, .inl (cI, 10, .inl (fun _ => 0))), (q31, .inl (cI, 18, .inl (fun _ => 0))), (q39, .inl (cI, 10, .inl (fun _ => 0))), (q47, .inl (cI, 10, .inl (fun _ => 0))), (q55, .inl (cI, 10, .inl (fun _ => 0))), (q63, .inl (cI, 10, .inl (fun _ => 0))), (q71, .inl (cI, 10, .inl (fun _ => 0))), (q79, .inl (cI, 18, .inl (fun _ => 0))), (q87, .inl (cI, 18, .inl (fun _ => 0))), (q95, .inl (cI, 18, .inl (fun _ => 0))), (q103, .inl (cI, 18, .inl (fun _ => 0))), (q111, .inl (cI, 18, .inl (fun _ => 0)))] := hD
  refine W.widen (k := 14) (n := 222) (Nat.le_of_ble_eq_true rfl) (Nat.le_of_ble_eq_true rfl) ?_
  exact hret (q7, q15, q23, q31, q39, q47, q55, q63, q71, q79, q87, q95, q103, q111) _ H locs _ d_M_init_116 hP hD hS
theorem d_D_init_0 : decode k_D_init 0 = .ok (.aload_n 0, 1) := by decide +kernel
theorem d_D_init_1 : decode k_D_init 1 = .ok (.invokespecial 3, 3) := by decide +kernel
theorem d_D_init_4 : decode k_D_init 4 = .ok (.aload_n 0, 1) := by decide +kernel
theorem d_D_init_5 : decode k_D_init 5 = .ok (.bipush 10, 2) := by decide +kernel
theorem d_D_init_7 : decode k_D_init 7 = .ok (.newarray .int, 2) := by decide +kernel
theorem d_D_init_9 : decode k_D_init 9 = .ok (.putfield 9, 3) := by decide +kernel
theorem d_D_init_12 : decode k_D_init 12 = .ok (.aload_n 0, 1) := by decide +kernel
theorem d_D_init_13 : decode k_D_init 13 = .ok (.bipush 10, 2) := by decide +kernel
theorem d_D_init_15 : decode k_D_init 15 = .ok (.newarray .int, 2) := by decide +kernel
theorem d_D_init_17 : decode k_D_init 17 = .ok (.putfield 15, 3) := by decide +kernel
theorem d_D_init_20 : decode k_D_init 20 = .ok (.aload_n 0, 1) := by decide +kernel
theorem d_D_init_21 : decode k_D_init 21 = .ok (.bipush 18, 2) := by decide +kernel
theorem d_D_init_23 : decode k_D_init 23 = .ok (.bipush 10, 2) := by decide +kernel
theorem d_D_init_25 : decode k_D_init 25 = .ok (.multianewarray 18 2, 4) := by decide +kernel
theorem d_D_init_29 : decode k_D_init 29 = .ok (.putfield 20, 3) := by decide +kernel
theorem d_D_init_32 : decode k_D_init 32 = .ok (.aload_n 0, 1) := by decide +kernel
theorem d_D_init_33 : decode k_D_init 33 = .ok (.bipush 18, 2) := by decide +kernel
theorem d_D_init_35 : decode k_D_init 35 = .ok (.newarray .int, 2) := by decide +kernel
theorem d_D_init_37 : decode k_D_init 37 = .ok (.putfield 23, 3) := by decide +kernel
theorem d_D_init_40 : decode k_D_init 40 = .ok (.aload_n 0, 1) := by decide +kernel
theorem d_D_init_41 : decode k_D_init 41 = .ok (.bipush 18, 2) := by decide +kernel
theorem d_D_init_43 : decode k_D_init 43 = .ok (.newarray .int, 2) := by decide +kernel
theorem d_D_init_45 : decode k_D_init 45 = .ok (.putfield 26, 3) := by decide +kernel
theorem d_D_init_48 : decode k_D_init 48 = .ok (.aload_n 0, 1) := by decide +kernel
theorem d_D_init_49 : decode k_D_init 49 = .ok (.bipush 10, 2) := by decide +kernel
theorem d_D_init_51 : decode k_D_init 51 = .ok (.newarray .int, 2) := by decide +kernel
theorem d_D_init_53 : decode k_D_init 53 = .ok (.putfield 29, 3) := by decide +kernel
theorem d_D_init_56 : decode k_D_init 56 = .ok (.aload_n 0, 1) := by decide +kernel
theorem d_D_init_57 : decode k_D_init 57 = .ok (.bipush 10, 2) := by decide +kernel
theorem d_D_init_59 : decode k_D_init 59 = .ok (.newarray .int, 2) := by decide +kernel
theorem d_D_init_61 : decode k_D_init 61 = .ok (.putfield 32, 3) := by decide +kernel
theorem d_D_init_64 : decode k_D_init 64 = .ok (.aload_n 0, 1) := by decide +kernel
theorem d_D_init_65 : decode k_D_init 65 = .ok (.bipush 10, 2) := by decide +kernel
theorem d_D_init_67 : decode k_D_init 67 = .ok (.newarray .int, 2) := by decide +kernel
theorem d_D_init_69 : decode k_D_init 69 = .ok (.putfield 35, 3) := by decide +kernel
theorem d_D_init_72 : decode k_D_init 72 = .ok (.aload_n 0, 1) := by decide +kernel
theorem d_D_init_73 : decode k_D_init 73 = .ok (.aload_n 1, 1) := by decide +kernel
theorem d_D_init_74 : decode k_D_init 74 = .ok (.putfield 38, 3) := by decide +kernel
theorem d_D_init_77 : decode k_D_init 77 = .ok (.return_, 1) := by decide +kernel
abbrev rm_D_init : Room := { frames := 1, cells := 26, slots := 284, locals := 12 }
set_option maxHeartbeats 4000000 in
set_option maxRecDepth 100000 in
theorem c_D_init (l : Launch) (dC : Nat → ClassId) (dI : Nat → Nat → Nat) (cI cL cQ : ClassId) (hd ga : Nat) (sz : Nat) : Met l y_D_init (.code y_D_init k_D_init 2 none :: gw) rm_D_init (cnP [.ref hd, .ref ga] (dC, dI) [(hd, .inr (0, [.null, .null, .null, .int 0, .int 0, .null, .null, .null, .int 0, .int 0, .int 0, .int 0, .int 0, .null, .null, .int 0, .null]))] [(cI, .int), (cL, .long), (cQ, .array .int)] sz dZ) (va_Qv (fun _ : Nat × Nat × Nat × (Nat → Nat) × Nat × Nat × Nat × Nat × Nat => True) (cnB (dC, dI) (fun u9 => ([(hd, .inr (0, [.ref ga, .ref u9.1, .ref u9.2.1, .int 0, .int 0, .ref u9.2.2.1, .ref u9.2.2.2.2.1, .ref u9.2.2.2.2.2.1, .int 0, .int 0, .int 0, .int 0, .int 0, .ref u9.2.2.2.2.2.2.1, .ref u9.2.2.2.2.2.2.2.1, .int 0, .ref u9.2.2.2.2.2.2.2.2])), (u9.1, .inl (cI, 10, .inl (fun _ => 0))), (u9.2.1, .inl (cI, 10, .inl (fun _ => 0))), (u9.2.2.1, .inl (cQ, 18, .inr (.inr (.inr (.inr (fun i9 => if i9 < 18 then some (u9.2.2.2.1 i9) else none)))))), (u9.2.2.2.2.1, .inl (cI, 18, .inl (fun _ => 0))), (u9.2.2.2.2.2.1, .inl (cI, 18, .inl (fun _ => 0))), (u9.2.2.2.2.2.2.1, .inl (cI, 10, .inl (fun _ => 0))), (u9.2.2.2.2.2.2.2.1, .inl (cI, 10, .inl (fun _ => 0))), (u9.2.2.2.2.2.2.2.2, .inl (cI, 10, .inl (fun _ => 0)))] ++ wkR u9.2.2.2.1 cI (fun _ _ => 0))) [(cI, .int), (cL, .long), (cQ, .array .int)] (va_A [(hd, .inr (0, [.null, .null, .null, .int 0, .int 0, .null, .null, .null, .int 0, .int 0, .int 0, .int 0, .int 0, .null, .null, .int 0, .null]))] sz)) (va_A [(hd, .inr (0, [.null, .null, .null, .int 0, .int 0, .null, .null, .null, .int 0, .int 0, .int 0, .int 0, .int 0, .null, .null, .int 0, .null]))] sz)) 26 284 (va_A [(hd, .inr (0, [.null, .null, .null, .int 0, .int 0, .null, .null, .null, .int 0, .int 0, .int 0, .int 0, .int 0, .null, .null, .int 0, .null]))] sz) := by
  refine cn_met (by decide) rfl (Nat.le_of_ble_eq_true rfl) ?_
  intro p e s m args below meth c Q A ls Sx hin hP hK hD hZ hA hl hret
  have hx := Sx.1
  have hb := Sx.2.1
  have hl : lv_has ls 2 [(0, .ref hd), (1, .ref ga)] := hl
  have hS : va_S A s.heap s.heap [] := va_S.rf
  obtain ⟨H, hH⟩ : ∃ H, H = s.heap := ⟨_, rfl⟩
  obtain ⟨locs, hlo⟩ : ∃ locs : List Loc, locs = [] := ⟨_, rfl⟩
  rw [← hlo]
  rw [← hlo] at hS
  have hP : va_P (dC, dI) pcl [(hd, .inr (0, [.null, .null, .null, .int 0, .int 0, .null, .null, .null, .int 0, .int 0, .int 0, .int 0, .int 0, .null, .null, .int 0, .null]))] H := by rw [hH]; exact hP
  have hS : va_S A s.heap H locs := by rw [hH]; exact hS
  suffices hgo : W p l e rm_D_init s m args below meth c H locs 0 0 Q (F0 m 0 ls []) by rw [hH] at hgo; exact hgo
  refine lv_aload_n hx hb d_D_init_0 rfl (lv_at hl 0 rfl) ?_
  refine g_oinit Sx gm_129 gm_66 gm_67 hl.1 d_D_init_1 (Nat.le_of_ble_eq_true rfl) (Nat.le_of_ble_eq_true rfl) ?_
  refine lv_aload_n hx hb d_D_init_4 rfl (lv_at hl 0 rfl) ?_
  refine lv_bipush (v := 10) hx hb d_D_init_5 (by decide) ?_
  refine g_newi (N' := 10) Sx hK 0 rfl hP hD hS hA (by decide) rfl (by decide) (Nat.le_of_ble_eq_true rfl) (Nat.le_of_ble_eq_true rfl) d_D_init_7 (fun q7 H hP hD hS => ?_)
  have hP : va_P (dC, dI) pcl [(hd, .inr (0, [.null, .null, .null, .int 0, .int 0, .null, .null, .null, .int 0, .int 0, .int 0, .int 0, .int 0, .null, .null, .int 0, .null])), (q7, .inl (cI, 10, .inl (fun _ => 0)))] H := hP
  have hD : va_D A [(hd, .inr (0, [.null, .null, .null, .int 0, .int 0, .null, .null, .null, .int 0, .int 0, .int 0, .int 0, .int 0, .null, .null, .int 0, .null])), (q7, .inl (cI, 10, .inl (fun _ => 0)))] := hD
  refine g_putF Sx hin gf_D fk_D fn_D hK hP hD hS 0 rfl rfl 1 (by decide) gm_132 rfl rfl rfl rfl (Nat.le_of_ble_eq_true rfl) d_D_init_9 (fun H locs hP hD hS => ?_)
  have hP : va_P (dC, dI) pcl [(hd, .inr (0, [.null, .ref q7, .null, .int 0, .int 0, .null, .null, .null, .int 0, .int 0, .int 0, .int 0, .int 0, .null, .null, .int 0, .null])), (q7, .inl (cI, 10, .inl (fun _ => 0)))] H := hP
  have hD : va_D A [(hd, .inr (0, [.null, .ref q7, .null, .int 0, .int 0, .null, .null, .null, .int 0, .int 0, .int 0, .int 0, .int 0, .null, .null, .int 0, .null])), (q7, .inl (cI, 10, .inl (fun _ => 0)))] := hD
  refine lv_aload_n hx hb d_D_init_12 rfl (lv_at hl 0 rfl) ?_
  refine lv_bipush (v := 10) hx hb d_D_init_13 (by decide) ?_
  refine g_newi (N' := 10) Sx hK 0 rfl hP hD hS hA (by decide) rfl (by decide) (Nat.le_of_ble_eq_true rfl) (Nat.le_of_ble_eq_true rfl) d_D_init_15 (fun q15 H hP hD hS => ?_)
  have hP : va_P (dC, dI) pcl [(hd, .inr (0, [.null, .ref q7, .null, .int 0, .int 0, .null, .null, .null, .int 0, .int 0, .int 0, .int 0, .int 0, .null, .null, .int 0, .null])), (q7, .inl (cI, 10, .inl (fun _ => 0))), (q15, .inl (cI, 10, .inl (fun _ => 0)))] H := hP
  have hD : va_D A [(hd, .inr (0, [.null, .ref q7, .null, .int 0, .int 0, .null, .null, .null, .int 0, .int 0, .int 0, .int 0, .int 0, .null, .null, .int 0, .null])), (q7, .inl (cI, 10, .inl (fun _ => 0))), (q15, .inl (cI, 10, .inl (fun _ => 0)))] := hD
  refine g_putF Sx hin gf_D fk_D fn_D hK hP hD hS 0 rfl rfl 2 (by decide) gm_133 rfl rfl rfl rfl (Nat.le_of_ble_eq_true rfl) d_D_init_17 (fun H locs hP hD hS => ?_)
  have hP : va_P (dC, dI) pcl [(hd, .inr (0, [.null, .ref q7, .ref q15, .int 0, .int 0, .null, .null, .null, .int 0, .int 0, .int 0, .int 0, .int 0, .null, .null, .int 0, .null])), (q7, .inl (cI, 10, .inl (fun _ => 0))), (q15, .inl (cI, 10, .inl (fun _ => 0)))] H := hP
  have hD : va_D A [(hd, .inr (0, [.null, .ref q7, .ref q15, .int 0, .int 0, .null, .null, .null, .int 0, .int 0, .int 0, .int 0, .int 0, .null, .null, .int 0, .null])), (q7, .inl (cI, 10, .inl (fun _ => 0))), (q15, .inl (cI, 10, .inl (fun _ => 0)))] := hD
  refine lv_aload_n hx hb d_D_init_20 rfl (lv_at hl 0 rfl) ?_
  refine lv_bipush (v := 18) hx hb d_D_init_21 (by decide) ?_
  refine lv_bipush (v := 10) hx hb d_D_init_23 (by decide) ?_
  refine g_mna Sx hZ hK 0 2 rfl rfl hP hD hS hA (Nat.le_of_ble_eq_true rfl) (Nat.le_of_ble_eq_true rfl) d_D_init_25 (fun q25 r9 H hP hD hS => ?_)
  have hP : va_P (dC, dI) pcl ([(hd, .inr (0, [.null, .ref q7, .ref q15, .int 0, .int 0, .null, .null, .null, .int 0, .int 0, .int 0, .int 0, .int 0, .null, .null, .int 0, .null])), (q7, .inl (cI, 10, .inl (fun _ => 0))), (q15, .inl (cI, 10, .inl (fun _ => 0))), (q25, .inl (cQ, 18, .inr (.inr (.inr (.inr (fun i9 => if i9 < 18 then some (r9 i9) else none))))))] ++ wkR r9 cI (fun _ _ => 0)) H := hP
  have hD : va_D A ([(hd, .inr (0, [.null, .ref q7, .ref q15, .int 0, .int 0, .null, .null, .null, .int 0, .int 0, .int 0, .int 0, .int 0, .null, .null, .int 0, .null])), (q7, .inl (cI, 10, .inl (fun _ => 0))), (q15, .inl (cI, 10, .inl (fun _ => 0))), (q25, .inl (cQ, 18, .inr (.inr (.inr (.inr (fun i9 => if i9 < 18 then some (r9 i9) else none))))))] ++ wkR r9 cI (fun _ _ => 0)) := hD
  refine g_putF Sx hin gf_D fk_D fn_D hK hP hD hS 0 rfl rfl 5 (by decide) gm_136 rfl rfl rfl rfl (Nat.le_of_ble_eq_true rfl) d_D_init_29 (fun H locs hP hD hS => ?_)
  have hP : va_P (dC, dI) pcl ([(hd, .inr (0, [.null, .ref q7, .ref q15, .int 0, .int 0, .ref q25, .null, .null, .int 0, .int 0, .int 0, .int 0, .int 0, .null, .null, .int 0, .null])), (q7, .inl (cI, 10, .inl (fun _ => 0))), (q15, .inl (cI, 10, .inl (fun _ => 0))), (q25, .inl (cQ, 18, .inr (.inr (.inr (.inr (fun i9 => if i9 < 18 then some (r9 i9) else none))))))] ++ wkR r9 cI (fun _ _ => 0)) H := hP
  have hD : va_D A ([(hd, .inr (0, [.null, .ref q7, .ref q15, .int 0, .int 0, .ref q25, .null, .null, .int 0, .int 0, .int 0, .int 0, .int 0, .null, .null, .int 0, .null])), (q7, .inl (cI, 10, .inl (fun _ => 0))), (q15, .inl (cI, 10, .inl (fun _ => 0))), (q25, .inl (cQ, 18, .inr (.inr (.inr (.inr (fun i9 => if i9 < 18 then some (r9 i9) else none))))))] ++ wkR r9 cI (fun _ _ => 0)) := hD
  refine lv_aload_n hx hb d_D_init_32 rfl (lv_at hl 0 rfl) ?_
  refine lv_bipush (v := 18) hx hb d_D_init_33 (by decide) ?_
  refine g_newiR (N' := 18) Sx hK 0 rfl hP hD hS hA (by decide) rfl (by decide) (Nat.le_of_ble_eq_true rfl) (Nat.le_of_ble_eq_true rfl) d_D_init_35 (fun q35 H hP hD hS => ?_)
  have hP : va_P (dC, dI) pcl ([(hd, .inr (0, [.null, .ref q7, .ref q15, .int 0, .int 0, .ref q25, .null, .null, .int 0, .int 0, .int 0, .int 0, .int 0, .null, .null, .int 0, .null])), (q7, .inl (cI, 10, .inl (fun _ => 0))), (q15, .inl (cI, 10, .inl (fun _ => 0))), (q25, .inl (cQ, 18, .inr (.inr (.inr (.inr (fun i9 => if i9 < 18 then some (r9 i9) else none)))))), (q35, .inl (cI, 18, .inl (fun _ => 0)))] ++ wkR r9 cI (fun _ _ => 0)) H := hP
  have hD : va_D A ([(hd, .inr (0, [.null, .ref q7, .ref q15, .int 0, .int 0, .ref q25, .null, .null, .int 0, .int 0, .int 0, .int 0, .int 0, .null, .null, .int 0, .null])), (q7, .inl (cI, 10, .inl (fun _ => 0))), (q15, .inl (cI, 10, .inl (fun _ => 0))), (q25, .inl (cQ, 18, .inr (.inr (.inr (.inr (fun i9 => if i9 < 18 then some (r9 i9) else none)))))), (q35, .inl (cI, 18, .inl (fun _ => 0)))] ++ wkR r9 cI (fun _ _ => 0)) := hD
  refine g_putF Sx hin gf_D fk_D fn_D hK hP hD hS 0 rfl rfl 6 (by decide) gm_137 rfl rfl rfl rfl (Nat.le_of_ble_eq_true rfl) d_D_init_37 (fun H locs hP hD hS => ?_)
  have hP : va_P (dC, dI) pcl ([(hd, .inr (0, [.null, .ref q7, .ref q15, .int 0, .int 0, .ref q25, .ref q35, .null, .int 0, .int 0, .int 0, .int 0, .int 0, .null, .null, .int 0, .null])), (q7, .inl (cI, 10, .inl (fun _ => 0))), (q15, .inl (cI, 10, .inl (fun _ => 0))), (q25, .inl (cQ, 18, .inr (.inr (.inr (.inr (fun i9 => if i9 < 18 then some (r9 i9) else none)))))), (q35, .inl (cI, 18, .inl (fun _ => 0)))] ++ wkR r9 cI (fun _ _ => 0)) H := hP
  have hD : va_D A ([(hd, .inr (0, [.null, .ref q7, .ref q15, .int 0, .int 0, .ref q25, .ref q35, .null, .int 0, .int 0, .int 0, .int 0, .int 0, .null, .null, .int 0, .null])), (q7, .inl (cI, 10, .inl (fun _ => 0))), (q15, .inl (cI, 10, .inl (fun _ => 0))), (q25, .inl (cQ, 18, .inr (.inr (.inr (.inr (fun i9 => if i9 < 18 then some (r9 i9) else none)))))), (q35, .inl (cI, 18, .inl (fun _ => 0)))] ++ wkR r9 cI (fun _ _ => 0)) := hD
  refine lv_aload_n hx hb d_D_init_40 rfl (lv_at hl 0 rfl) ?_
  refine lv_bipush (v := 18) hx hb d_D_init_41 (by decide) ?_
  refine g_newiR (N' := 18) Sx hK 0 rfl hP hD hS hA (by decide) rfl (by decide) (Nat.le_of_ble_eq_true rfl) (Nat.le_of_ble_eq_true rfl) d_D_init_43 (fun q43 H hP hD hS => ?_)
  have hP : va_P (dC, dI) pcl ([(hd, .inr (0, [.null, .ref q7, .ref q15, .int 0, .int 0, .ref q25, .ref q35, .null, .int 0, .int 0, .int 0, .int 0, .int 0, .null, .null, .int 0, .null])), (q7, .inl (cI, 10, .inl (fun _ => 0))), (q15, .inl (cI, 10, .inl (fun _ => 0))), (q25, .inl (cQ, 18, .inr (.inr (.inr (.inr (fun i9 => if i9 < 18 then some (r9 i9) else none)))))), (q35, .inl (cI, 18, .inl (fun _ => 0))), (q43, .inl (cI, 18, .inl (fun _ => 0)))] ++ wkR r9 cI (fun _ _ => 0)) H := hP
  have hD : va_D A ([(hd, .inr (0, [.null, .ref q7, .ref q15, .int 0, .int 0, .ref q25, .ref q35, .null, .int 0, .int 0, .int 0, .int 0, .int 0, .null, .null, .int 0, .null])), (q7, .inl (cI, 10, .inl (fun _ => 0))), (q15, .inl (cI, 10, .inl (fun _ => 0))), (q25, .inl (cQ, 18, .inr (.inr (.inr (.inr (fun i9 => if i9 < 18 then some (r9 i9) else none)))))), (q35, .inl (cI, 18, .inl (fun _ => 0))), (q43, .inl (cI, 18, .inl (fun _ => 0)))] ++ wkR r9 cI (fun _ _ => 0)) := hD
  refine g_putF Sx hin gf_D fk_D fn_D hK hP hD hS 0 rfl rfl 7 (by decide) gm_138 rfl rfl rfl rfl (Nat.le_of_ble_eq_true rfl) d_D_init_45 (fun H locs hP hD hS => ?_)
  have hP : va_P (dC, dI) pcl ([(hd, .inr (0, [.null, .ref q7, .ref q15, .int 0, .int 0, .ref q25, .ref q35, .ref q43, .int 0, .int 0, .int 0, .int 0, .int 0, .null, .null, .int 0, .null])), (q7, .inl (cI, 10, .inl (fun _ => 0))), (q15, .inl (cI, 10, .inl (fun _ => 0))), (q25, .inl (cQ, 18, .inr (.inr (.inr (.inr (fun i9 => if i9 < 18 then some (r9 i9) else none)))))), (q35, .inl (cI, 18, .inl (fun _ => 0))), (q43, .inl (cI, 18, .inl (fun _ => 0)))] ++ wkR r9 cI (fun _ _ => 0)) H := hP
  have hD : va_D A ([(hd, .inr (0, [.null, .ref q7, .ref q15, .int 0, .int 0, .ref q25, .ref q35, .ref q43, .int 0, .int 0, .int 0, .int 0, .int 0, .null, .null, .int 0, .null])), (q7, .inl (cI, 10, .inl (fun _ => 0))), (q15, .inl (cI, 10, .inl (fun _ => 0))), (q25, .inl (cQ, 18, .inr (.inr (.inr (.inr (fun i9 => if i9 < 18 then some (r9 i9) else none)))))), (q35, .inl (cI, 18, .inl (fun _ => 0))), (q43, .inl (cI, 18, .inl (fun _ => 0)))] ++ wkR r9 cI (fun _ _ => 0)) := hD
  refine lv_aload_n hx hb d_D_init_48 rfl (lv_at hl 0 rfl) ?_
  refine lv_bipush (v := 10) hx hb d_D_init_49 (by decide) ?_
  refine g_newiR (N' := 10) Sx hK 0 rfl hP hD hS hA (by decide) rfl (by decide) (Nat.le_of_ble_eq_true rfl) (Nat.le_of_ble_eq_true rfl) d_D_init_51 (fun q51 H hP hD hS => ?_)
  have hP : va_P (dC, dI) pcl ([(hd, .inr (0, [.null, .ref q7, .ref q15, .int 0, .int 0, .ref q25, .ref q35, .ref q43, .int 0, .int 0, .int 0, .int 0, .int 0, .null, .null, .int 0, .null])), (q7, .inl (cI, 10, .inl (fun _ => 0))), (q15, .inl (cI, 10, .inl (fun _ => 0))), (q25, .inl (cQ, 18, .inr (.inr (.inr (.inr (fun i9 => if i9 < 18 then some (r9 i9) else none)))))), (q35, .inl (cI, 18, .inl (fun _ => 0))), (q43, .inl (cI, 18, .inl (fun _ => 0))), (q51, .inl (cI, 10, .inl (fun _ => 0)))] ++ wkR r9 cI (fun _ _ => 0)) H := hP
  have hD : va_D A ([(hd, .inr (0, [.null, .ref q7, .ref q15, .int 0, .int 0, .ref q25, .ref q35, .ref q43, .int 0, .int 0, .int 0, .int 0, .int 0, .null, .null, .int 0, .null])), (q7, .inl (cI, 10, .inl (fun _ => 0))), (q15, .inl (cI, 10, .inl (fun _ => 0))), (q25, .inl (cQ, 18, .inr (.inr (.inr (.inr (fun i9 => if i9 < 18 then some (r9 i9) else none)))))), (q35, .inl (cI, 18, .inl (fun _ => 0))), (q43, .inl (cI, 18, .inl (fun _ => 0))), (q51, .inl (cI, 10, .inl (fun _ => 0)))] ++ wkR r9 cI (fun _ _ => 0)) := hD
  refine g_putF Sx hin gf_D fk_D fn_D hK hP hD hS 0 rfl rfl 13 (by decide) gm_144 rfl rfl rfl rfl (Nat.le_of_ble_eq_true rfl) d_D_init_53 (fun H locs hP hD hS => ?_)
  have hP : va_P (dC, dI) pcl ([(hd, .inr (0, [.null, .ref q7, .ref q15, .int 0, .int 0, .ref q25, .ref q35, .ref q43, .int 0, .int 0, .int 0, .int 0, .int 0, .ref q51, .null, .int 0, .null])), (q7, .inl (cI, 10, .inl (fun _ => 0))), (q15, .inl (cI, 10, .inl (fun _ => 0))), (q25, .inl (cQ, 18, .inr (.inr (.inr (.inr (fun i9 => if i9 < 18 then some (r9 i9) else none)))))), (q35, .inl (cI, 18, .inl (fun _ => 0))), (q43, .inl (cI, 18, .inl (fun _ => 0))), (q51, .inl (cI, 10, .inl (fun _ => 0)))] ++ wkR r9 cI (fun _ _ => 0)) H := hP
  have hD : va_D A ([(hd, .inr (0, [.null, .ref q7, .ref q15, .int 0, .int 0, .ref q25, .ref q35, .ref q43, .int 0, .int 0, .int 0, .int 0, .int 0, .ref q51, .null, .int 0, .null])), (q7, .inl (cI, 10, .inl (fun _ => 0))), (q15, .inl (cI, 10, .inl (fun _ => 0))), (q25, .inl (cQ, 18, .inr (.inr (.inr (.inr (fun i9 => if i9 < 18 then some (r9 i9) else none)))))), (q35, .inl (cI, 18, .inl (fun _ => 0))), (q43, .inl (cI, 18, .inl (fun _ => 0))), (q51, .inl (cI, 10, .inl (fun _ => 0)))] ++ wkR r9 cI (fun _ _ => 0)) := hD
  refine lv_aload_n hx hb d_D_init_56 rfl (lv_at hl 0 rfl) ?_
  refine lv_bipush (v := 10) hx hb d_D_init_57 (by decide) ?_
  refine g_newiR (N' := 10) Sx hK 0 rfl hP hD hS hA (by decide) rfl (by decide) (Nat.le_of_ble_eq_true rfl) (Nat.le_of_ble_eq_true rfl) d_D_init_59 (fun q59 H hP hD hS => ?_)
  have hP : va_P (dC, dI) pcl ([(hd, .inr (0, [.null, .ref q7, .ref q15, .int 0, .int 0, .ref q25, .ref q35, .ref q43, .int 0, .int 0, .int 0, .int 0, .int 0, .ref q51, .null, .int 0, .null])), (q7, .inl (cI, 10, .inl (fun _ => 0))), (q15, .inl (cI, 10, .inl (fun _ => 0))), (q25, .inl (cQ, 18, .inr (.inr (.inr (.inr (fun i9 => if i9 < 18 then some (r9 i9) else none)))))), (q35, .inl (cI, 18, .inl (fun _ => 0))), (q43, .inl (cI, 18, .inl (fun _ => 0))), (q51, .inl (cI, 10, .inl (fun _ => 0))), (q59, .inl (cI, 10, .inl (fun _ => 0)))] ++ wkR r9 cI (fun _ _ => 0)) H := hP
  have hD : va_D A ([(hd, .inr (0, [.null, .ref q7, .ref q15, .int 0, .int 0, .ref q25, .ref q35, .ref q43, .int 0, .int 0, .int 0, .int 0, .int 0, .ref q51, .null, .int 0, .null])), (q7, .inl (cI, 10, .inl (fun _ => 0))), (q15, .inl (cI, 10, .inl (fun _ => 0))), (q25, .inl (cQ, 18, .inr (.inr (.inr (.inr (fun i9 => if i9 < 18 then some (r9 i9) else none)))))), (q35, .inl (cI, 18, .inl (fun _ => 0))), (q43, .inl (cI, 18, .inl (fun _ => 0))), (q51, .inl (cI, 10, .inl (fun _ => 0))), (q59, .inl (cI, 10, .inl (fun _ => 0)))] ++ wkR r9 cI (fun _ _ => 0)) := hD
  refine g_putF Sx hin gf_D fk_D fn_D hK hP hD hS 0 rfl rfl 14 (by decide) gm_145 rfl rfl rfl rfl (Nat.le_of_ble_eq_true rfl) d_D_init_61 (fun H locs hP hD hS => ?_)
  have hP : va_P (dC, dI) pcl ([(hd, .inr (0, [.null, .ref q7, .ref q15, .int 0, .int 0, .ref q25, .ref q35, .ref q43, .int 0, .int 0, .int 0, .int 0, .int 0, .ref q51, .ref q59, .int 0, .null])), (q7, .inl (cI, 10, .inl (fun _ => 0))), (q15, .inl (cI, 10, .inl (fun _ => 0))), (q25, .inl (cQ, 18, .inr (.inr (.inr (.inr (fun i9 => if i9 < 18 then some (r9 i9) else none)))))), (q35, .inl (cI, 18, .inl (fun _ => 0))), (q43, .inl (cI, 18, .inl (fun _ => 0))), (q51, .inl (cI, 10, .inl (fun _ => 0))), (q59, .inl (cI, 10, .inl (fun _ => 0)))] ++ wkR r9 cI (fun _ _ => 0)) H := hP
  have hD : va_D A ([(hd, .inr (0, [.null, .ref q7, .ref q15, .int 0, .int 0, .ref q25, .ref q35, .ref q43, .int 0, .int 0, .int 0, .int 0, .int 0, .ref q51, .ref q59, .int 0, .null])), (q7, .inl (cI, 10, .inl (fun _ => 0))), (q15, .inl (cI, 10, .inl (fun _ => 0))), (q25, .inl (cQ, 18, .inr (.inr (.inr (.inr (fun i9 => if i9 < 18 then some (r9 i9) else none)))))), (q35, .inl (cI, 18, .inl (fun _ => 0))), (q43, .inl (cI, 18, .inl (fun _ => 0))), (q51, .inl (cI, 10, .inl (fun _ => 0))), (q59, .inl (cI, 10, .inl (fun _ => 0)))] ++ wkR r9 cI (fun _ _ => 0)) := hD
  refine lv_aload_n hx hb d_D_init_64 rfl (lv_at hl 0 rfl) ?_
  refine lv_bipush (v := 10) hx hb d_D_init_65 (by decide) ?_
  refine g_newiR (N' := 10) Sx hK 0 rfl hP hD hS hA (by decide) rfl (by decide) (Nat.le_of_ble_eq_true rfl) (Nat.le_of_ble_eq_true rfl) d_D_init_67 (fun q67 H hP hD hS => ?_)
  have hP : va_P (dC, dI) pcl ([(hd, .inr (0, [.null, .ref q7, .ref q15, .int 0, .int 0, .ref q25, .ref q35, .ref q43, .int 0, .int 0, .int 0, .int 0, .int 0, .ref q51, .ref q59, .int 0, .null])), (q7, .inl (cI, 10, .inl (fun _ => 0))), (q15, .inl (cI, 10, .inl (fun _ => 0))), (q25, .inl (cQ, 18, .inr (.inr (.inr (.inr (fun i9 => if i9 < 18 then some (r9 i9) else none)))))), (q35, .inl (cI, 18, .inl (fun _ => 0))), (q43, .inl (cI, 18, .inl (fun _ => 0))), (q51, .inl (cI, 10, .inl (fun _ => 0))), (q59, .inl (cI, 10, .inl (fun _ => 0))), (q67, .inl (cI, 10, .inl (fun _ => 0)))] ++ wkR r9 cI (fun _ _ => 0)) H := hP
  have hD : va_D A ([(hd, .inr (0, [.null, .ref q7, .ref q15, .int 0, .int 0, .ref q25, .ref q35, .ref q43, .int 0, .int 0, .int 0, .int 0, .int 0, .ref q51, .ref q59, .int 0, .null])), (q7, .inl (cI, 10, .inl (fun _ => 0))), (q15, .inl (cI, 10, .inl (fun _ => 0))), (q25, .inl (cQ, 18, .inr (.inr (.inr (.inr (fun i9 => if i9 < 18 then some (r9 i9) else none)))))), (q35, .inl (cI, 18, .inl (fun _ => 0))), (q43, .inl (cI, 18, .inl (fun _ => 0))), (q51, .inl (cI, 10, .inl (fun _ => 0))), (q59, .inl (cI, 10, .inl (fun _ => 0))), (q67, .inl (cI, 10, .inl (fun _ => 0)))] ++ wkR r9 cI (fun _ _ => 0)) := hD
  refine g_putF Sx hin gf_D fk_D fn_D hK hP hD hS 0 rfl rfl 16 (by decide) gm_147 rfl rfl rfl rfl (Nat.le_of_ble_eq_true rfl) d_D_init_69 (fun H locs hP hD hS => ?_)
  have hP : va_P (dC, dI) pcl ([(hd, .inr (0, [.null, .ref q7, .ref q15, .int 0, .int 0, .ref q25, .ref q35, .ref q43, .int 0, .int 0, .int 0, .int 0, .int 0, .ref q51, .ref q59, .int 0, .ref q67])), (q7, .inl (cI, 10, .inl (fun _ => 0))), (q15, .inl (cI, 10, .inl (fun _ => 0))), (q25, .inl (cQ, 18, .inr (.inr (.inr (.inr (fun i9 => if i9 < 18 then some (r9 i9) else none)))))), (q35, .inl (cI, 18, .inl (fun _ => 0))), (q43, .inl (cI, 18, .inl (fun _ => 0))), (q51, .inl (cI, 10, .inl (fun _ => 0))), (q59, .inl (cI, 10, .inl (fun _ => 0))), (q67, .inl (cI, 10, .inl (fun _ => 0)))] ++ wkR r9 cI (fun _ _ => 0)) H := hP
  have hD : va_D A ([(hd, .inr (0, [.null, .ref q7, .ref q15, .int 0, .int 0, .ref q25, .ref q35, .ref q43, .int 0, .int 0, .int 0, .int 0, .int 0, .ref q51, .ref q59, .int 0, .ref q67])), (q7, .inl (cI, 10, .inl (fun _ => 0))), (q15, .inl (cI, 10, .inl (fun _ => 0))), (q25, .inl (cQ, 18, .inr (.inr (.inr (.inr (fun i9 => if i9 < 18 then some (r9 i9) else none)))))), (q35, .inl (cI, 18, .inl (fun _ => 0))), (q43, .inl (cI, 18, .inl (fun _ => 0))), (q51, .inl (cI, 10, .inl (fun _ => 0))), (q59, .inl (cI, 10, .inl (fun _ => 0))), (q67, .inl (cI, 10, .inl (fun _ => 0)))] ++ wkR r9 cI (fun _ _ => 0)) := hD
  refine lv_aload_n hx hb d_D_init_72 rfl (lv_at hl 0 rfl) ?_
  refine lv_aload_n hx hb d_D_init_73 rfl (lv_at hl 1 rfl) ?_
  refine g_putF Sx hin gf_D fk_D fn_D hK hP hD hS 0 rfl rfl 0 (by decide) gm_131 rfl rfl rfl rfl (Nat.le_of_ble_eq_true rfl) d_D_init_74 (fun H locs hP hD hS => ?_)
  have hP : va_P (dC, dI) pcl ([(hd, .inr (0, [.ref ga, .ref q7, .ref q15, .int 0, .int 0, .ref q25, .ref q35, .ref q43, .int 0, .int 0, .int 0, .int 0, .int 0, .ref q51, .ref q59, .int 0, .ref q67])), (q7, .inl (cI, 10, .inl (fun _ => 0))), (q15, .inl (cI, 10, .inl (fun _ => 0))), (q25, .inl (cQ, 18, .inr (.inr (.inr (.inr (fun i9 => if i9 < 18 then some (r9 i9) else none)))))), (q35, .inl (cI, 18, .inl (fun _ => 0))), (q43, .inl (cI, 18, .inl (fun _ => 0))), (q51, .inl (cI, 10, .inl (fun _ => 0))), (q59, .inl (cI, 10, .inl (fun _ => 0))), (q67, .inl (cI, 10, .inl (fun _ => 0)))] ++ wkR r9 cI (fun _ _ => 0)) H := hP
  have hD : va_D A ([(hd, .inr (0, [.ref ga, .ref q7, .ref q15, .int 0, .int 0, .ref q25, .ref q35, .ref q43, .int 0, .int 0, .int 0, .int 0, .int 0, .ref q51, .ref q59, .int 0, .ref q67])), (q7, .inl (cI, 10, .inl (fun _ => 0))), (q15, .inl (cI, 10, .inl (fun _ => 0))), (q25, .inl (cQ, 18, .inr (.inr (.inr (.inr (fun i9 => if i9 < 18 then some (r9 i9) else none)))))), (q35, .inl (cI, 18, .inl (fun _ => 0))), (q43, .inl (cI, 18, .inl (fun _ => 0))), (q51, .inl (cI, 10, .inl (fun _ => 0))), (q59, .inl (cI, 10, .inl (fun _ => 0))), (q67, .inl (cI, 10, .inl (fun _ => 0)))] ++ wkR r9 cI (fun _ _ => 0)) := hD
  refine W.widen (k := 26) (n := 284) (Nat.le_of_ble_eq_true rfl) (Nat.le_of_ble_eq_true rfl) ?_
  exact hret (q7, q15, q25, r9, q35, q43, q51, q59, q67) _ H locs _ d_D_init_77 hP hD hS
theorem d_X_init_0 : decode k_X_init 0 = .ok (.aload_n 0, 1) := by decide +kernel
theorem d_X_init_1 : decode k_X_init 1 = .ok (.invokespecial 1, 3) := by decide +kernel
theorem d_X_init_4 : decode k_X_init 4 = .ok (.aload_n 0, 1) := by decide +kernel
theorem d_X_init_5 : decode k_X_init 5 = .ok (.new 7, 3) := by decide +kernel
theorem d_X_init_8 : decode k_X_init 8 = .ok (.dup, 1) := by decide +kernel
theorem d_X_init_9 : decode k_X_init 9 = .ok (.invokespecial 9, 3) := by decide +kernel
theorem d_X_init_12 : decode k_X_init 12 = .ok (.putfield 10, 3) := by decide +kernel
theorem d_X_init_15 : decode k_X_init 15 = .ok (.aload_n 0, 1) := by decide +kernel
theorem d_X_init_16 : decode k_X_init 16 = .ok (.new 16, 3) := by decide +kernel
theorem d_X_init_19 : decode k_X_init 19 = .ok (.dup, 1) := by decide +kernel
theorem d_X_init_20 : decode k_X_init 20 = .ok (.aload_n 0, 1) := by decide +kernel
theorem d_X_init_21 : decode k_X_init 21 = .ok (.getfield 10, 3) := by decide +kernel
theorem d_X_init_24 : decode k_X_init 24 = .ok (.invokespecial 18, 3) := by decide +kernel
theorem d_X_init_27 : decode k_X_init 27 = .ok (.putfield 21, 3) := by decide +kernel
theorem d_X_init_30 : decode k_X_init 30 = .ok (.aload_n 0, 1) := by decide +kernel
theorem d_X_init_31 : decode k_X_init 31 = .ok (.new 16, 3) := by decide +kernel
theorem d_X_init_34 : decode k_X_init 34 = .ok (.dup, 1) := by decide +kernel
theorem d_X_init_35 : decode k_X_init 35 = .ok (.aload_n 0, 1) := by decide +kernel
theorem d_X_init_36 : decode k_X_init 36 = .ok (.getfield 10, 3) := by decide +kernel
theorem d_X_init_39 : decode k_X_init 39 = .ok (.invokespecial 18, 3) := by decide +kernel
theorem d_X_init_42 : decode k_X_init 42 = .ok (.putfield 25, 3) := by decide +kernel
theorem d_X_init_45 : decode k_X_init 45 = .ok (.aload_n 0, 1) := by decide +kernel
theorem d_X_init_46 : decode k_X_init 46 = .ok (.new 28, 3) := by decide +kernel
theorem d_X_init_49 : decode k_X_init 49 = .ok (.dup, 1) := by decide +kernel
theorem d_X_init_50 : decode k_X_init 50 = .ok (.aload_n 0, 1) := by decide +kernel
theorem d_X_init_51 : decode k_X_init 51 = .ok (.getfield 10, 3) := by decide +kernel
theorem d_X_init_54 : decode k_X_init 54 = .ok (.invokespecial 30, 3) := by decide +kernel
theorem d_X_init_57 : decode k_X_init 57 = .ok (.putfield 31, 3) := by decide +kernel
theorem d_X_init_60 : decode k_X_init 60 = .ok (.aload_n 0, 1) := by decide +kernel
theorem d_X_init_61 : decode k_X_init 61 = .ok (.new 35, 3) := by decide +kernel
theorem d_X_init_64 : decode k_X_init 64 = .ok (.dup, 1) := by decide +kernel
theorem d_X_init_65 : decode k_X_init 65 = .ok (.aload_n 0, 1) := by decide +kernel
theorem d_X_init_66 : decode k_X_init 66 = .ok (.getfield 10, 3) := by decide +kernel
theorem d_X_init_69 : decode k_X_init 69 = .ok (.invokespecial 37, 3) := by decide +kernel
theorem d_X_init_72 : decode k_X_init 72 = .ok (.putfield 38, 3) := by decide +kernel
theorem d_X_init_75 : decode k_X_init 75 = .ok (.return_, 1) := by decide +kernel
abbrev rm_X_init : Room := { frames := 2, cells := 41, slots := 470, locals := 33 }
set_option maxHeartbeats 4000000 in
set_option maxRecDepth 100000 in
theorem c_X_init (l : Launch) (dC : Nat → ClassId) (dI : Nat → Nat → Nat) (cI cL cQ : ClassId) (hx9 : Nat) (sz : Nat) : Met l y_X_init (.code y_X_init k_X_init 1 none :: gw) rm_X_init (cnP [.ref hx9] (dC, dI) [(hx9, .inr (4, [.null, .null, .null, .null, .null, .int 0, .int 0, .int 0, .int 0, .int 0, .int 0]))] [(cI, .int), (cL, .long), (cQ, .array .int)] sz xZ) (va_Qv (fun _ : Nat × Nat × Nat × Nat × Nat × Nat × Nat × Nat × Nat × Nat × Nat × Nat × Nat × Nat × Nat × Nat × (Nat → Nat) × Nat × Nat × Nat × Nat × Nat × Nat × Nat => True) (cnB (dC, dI) (fun u9 => ([(hx9, .inr (4, [.ref u9.1, .ref u9.2.2.2.2.1, .ref u9.2.2.2.2.2.2.2.2.1, .ref u9.2.2.2.2.2.2.2.2.2.2.2.2.1, .ref u9.2.2.2.2.2.2.2.2.2.2.2.2.2.2.2.2.2.2.2.2.2.2.1, .int 0, .int 0, .int 0, .int 0, .int 0, .int 0])), (u9.1, .inr (1, [.int 0, .int 0, .ref u9.2.1, .ref u9.2.2.1, .ref u9.2.2.2.1])), (u9.2.1, .inl (cI, 18, .inl (fun _ => 0))), (u9.2.2.1, .inl (cI, 18, .inl (fun _ => 0))), (u9.2.2.2.1, .inl (cI, 18, .inl (fun _ => 0))), (u9.2.2.2.2.1, .inr (2, [.ref u9.1, .ref u9.2.2.2.2.2.1, .ref u9.2.2.2.2.2.2.1, .int 0, .int 0, .ref u9.2.2.2.2.2.2.2.1])), (u9.2.2.2.2.2.1, .inl (cI, 10, .inl (fun _ => 0))), (u9.2.2.2.2.2.2.1, .inl (cI, 18, .inl (fun _ => 0))), (u9.2.2.2.2.2.2.2.1, .inl (cI, 10, .inl (fun _ => 0))), (u9.2.2.2.2.2.2.2.2.1, .inr (2, [.ref u9.1, .ref u9.2.2.2.2.2.2.2.2.2.1, .ref u9.2.2.2.2.2.2.2.2.2.2.1, .int 0, .int 0, .ref u9.2.2.2.2.2.2.2.2.2.2.2.1])), (u9.2.2.2.2.2.2.2.2.2.1, .inl (cI, 10, .inl (fun _ => 0))), (u9.2.2.2.2.2.2.2.2.2.2.1, .inl (cI, 18, .inl (fun _ => 0))), (u9.2.2.2.2.2.2.2.2.2.2.2.1, .inl (cI, 10, .inl (fun _ => 0))), (u9.2.2.2.2.2.2.2.2.2.2.2.2.1, .inr (0, [.ref u9.1, .ref u9.2.2.2.2.2.2.2.2.2.2.2.2.2.1, .ref u9.2.2.2.2.2.2.2.2.2.2.2.2.2.2.1, .int 0, .int 0, .ref u9.2.2.2.2.2.2.2.2.2.2.2.2.2.2.2.1, .ref u9.2.2.2.2.2.2.2.2.2.2.2.2.2.2.2.2.2.1, .ref u9.2.2.2.2.2.2.2.2.2.2.2.2.2.2.2.2.2.2.1, .int 0, .int 0, .int 0, .int 0, .int 0, .ref u9.2.2.2.2.2.2.2.2.2.2.2.2.2.2.2.2.2.2.2.1, .ref u9.2.2.2.2.2.2.2.2.2.2.2.2.2.2.2.2.2.2.2.2.1, .int 0, .ref u9.2.2.2.2.2.2.2.2.2.2.2.2.2.2.2.2.2.2.2.2.2.1])), (u9.2.2.2.2.2.2.2.2.2.2.2.2.2.1, .inl (cI, 10, .inl (fun _ => 0))), (u9.2.2.2.2.2.2.2.2.2.2.2.2.2.2.1, .inl (cI, 10, .inl (fun _ => 0))), (u9.2.2.2.2.2.2.2.2.2.2.2.2.2.2.2.1, .inl (cQ, 18, .inr (.inr (.inr (.inr (fun i9 => if i9 < 18 then some (u9.2.2.2.2.2.2.2.2.2.2.2.2.2.2.2.2.1 i9) else none)))))), (u9.2.2.2.2.2.2.2.2.2.2.2.2.2.2.2.2.2.1, .inl (cI, 18, .inl (fun _ => 0))), (u9.2.2.2.2.2.2.2.2.2.2.2.2.2.2.2.2.2.2.1, .inl (cI, 18, .inl (fun _ => 0))), (u9.2.2.2.2.2.2.2.2.2.2.2.2.2.2.2.2.2.2.2.1, .inl (cI, 10, .inl (fun _ => 0))), (u9.2.2.2.2.2.2.2.2.2.2.2.2.2.2.2.2.2.2.2.2.1, .inl (cI, 10, .inl (fun _ => 0))), (u9.2.2.2.2.2.2.2.2.2.2.2.2.2.2.2.2.2.2.2.2.2.1, .inl (cI, 10, .inl (fun _ => 0))), (u9.2.2.2.2.2.2.2.2.2.2.2.2.2.2.2.2.2.2.2.2.2.2.1, .inr (3, [.ref u9.1, .int 0, .long 0, .ref u9.2.2.2.2.2.2.2.2.2.2.2.2.2.2.2.2.2.2.2.2.2.2.2])), (u9.2.2.2.2.2.2.2.2.2.2.2.2.2.2.2.2.2.2.2.2.2.2.2, .inl (cL, 18, .inr (.inl (fun _ => 0))))] ++ wkR u9.2.2.2.2.2.2.2.2.2.2.2.2.2.2.2.2.1 cI (fun _ _ => 0))) [(cI, .int), (cL, .long), (cQ, .array .int)] (va_A [(hx9, .inr (4, [.null, .null, .null, .null, .null, .int 0, .int 0, .int 0, .int 0, .int 0, .int 0]))] sz)) (va_A [(hx9, .inr (4, [.null, .null, .null, .null, .null, .int 0, .int 0, .int 0, .int 0, .int 0, .int 0]))] sz)) 41 470 (va_A [(hx9, .inr (4, [.null, .null, .null, .null, .null, .int 0, .int 0, .int 0, .int 0, .int 0, .int 0]))] sz) := by
  refine cn_met (by decide) rfl (Nat.le_of_ble_eq_true rfl) ?_
  intro p e s m args below meth c Q A ls Sx hin hP hK hD hZ hA hl hret
  have hx := Sx.1
  have hb := Sx.2.1
  have hl : lv_has ls 1 [(0, .ref hx9)] := hl
  have hS : va_S A s.heap s.heap [] := va_S.rf
  obtain ⟨H, hH⟩ : ∃ H, H = s.heap := ⟨_, rfl⟩
  obtain ⟨locs, hlo⟩ : ∃ locs : List Loc, locs = [] := ⟨_, rfl⟩
  rw [← hlo]
  rw [← hlo] at hS
  have hP : va_P (dC, dI) pcl [(hx9, .inr (4, [.null, .null, .null, .null, .null, .int 0, .int 0, .int 0, .int 0, .int 0, .int 0]))] H := by rw [hH]; exact hP
  have hS : va_S A s.heap H locs := by rw [hH]; exact hS
  suffices hgo : W p l e rm_X_init s m args below meth c H locs 0 0 Q (F0 m 0 ls []) by rw [hH] at hgo; exact hgo
  refine lv_aload_n hx hb d_X_init_0 rfl (lv_at hl 0 rfl) ?_
  refine g_oinit Sx gm_65 gm_66 gm_67 hl.1 d_X_init_1 (Nat.le_of_ble_eq_true rfl) (Nat.le_of_ble_eq_true rfl) ?_
  refine lv_aload_n hx hb d_X_init_4 rfl (lv_at hl 0 rfl) ?_
  refine g_new (ci := 1) (fs := [.int 0, .int 0, .null, .null, .null]) (C := n_G) (T := f_G) (N := 5) Sx gf_G fk_G gm_68 gm_69 gm_52 hK hP hD hS hA rfl nf_G (Nat.le_of_ble_eq_true rfl) (Nat.le_of_ble_eq_true rfl) d_X_init_5 (fun q5 H hP hD hS => ?_)
  have hP : va_P (dC, dI) pcl [(hx9, .inr (4, [.null, .null, .null, .null, .null, .int 0, .int 0, .int 0, .int 0, .int 0, .int 0])), (q5, .inr (1, [.int 0, .int 0, .null, .null, .null]))] H := hP
  have hD : va_D A [(hx9, .inr (4, [.null, .null, .null, .null, .null, .int 0, .int 0, .int 0, .int 0, .int 0, .int 0])), (q5, .inr (1, [.int 0, .int 0, .null, .null, .null]))] := hD
  refine lv_dup hx hb d_X_init_8 rfl ?_
  refine cn_IN (n := 0) (Z := nZ) (wr := [(hx9, .inr (4, [.null, .null, .null, .null, .null, .int 0, .int 0, .int 0, .int 0, .int 0, .int 0]))]) Sx (c_G_init l dC dI cI cL cQ q5  H.size) hZ.2 gm_70 gm_52 gm_71 rfl (by decide +kernel) ⟨rfl, rfl⟩ ⟨Nat.le_of_ble_eq_true rfl, Nat.le_of_ble_eq_true rfl⟩ nZ_ok nZs hP hD hS hA hK [1] [0] rfl rfl rfl rfl (by decide) rfl hl.1 rfl (Nat.le_of_ble_eq_true rfl) d_X_init_9 ⟨Nat.le_of_ble_eq_true rfl, Nat.le_of_ble_eq_true rfl⟩ (fun u9 H locs hP hD hS => ?_)
  obtain ⟨q7_9, q15_9, q23_9⟩ := u9
  have hP : va_P (dC, dI) pcl [(hx9, .inr (4, [.null, .null, .null, .null, .null, .int 0, .int 0, .int 0, .int 0, .int 0, .int 0])), (q5, .inr (1, [.int 0, .int 0, .ref q7_9, .ref q15_9, .ref q23_9])), (q7_9, .inl (cI, 18, .inl (fun _ => 0))), (q15_9, .inl (cI, 18, .inl (fun _ => 0))), (q23_9, .inl (cI, 18, .inl (fun _ => 0)))] H := hP
  have hD : va_D A [(hx9, .inr (4, [.null, .null, .null, .null, .null, .int 0, .int 0, .int 0, .int 0, .int 0, .int 0])), (q5, .inr (1, [.int 0, .int 0, .ref q7_9, .ref q15_9, .ref q23_9])), (q7_9, .inl (cI, 18, .inl (fun _ => 0))), (q15_9, .inl (cI, 18, .inl (fun _ => 0))), (q23_9, .inl (cI, 18, .inl (fun _ => 0)))] := hD
  refine g_putF Sx hin gf_X fk_X fn_X hK hP hD hS 0 rfl rfl 0 (by decide) gm_181 rfl rfl rfl rfl (Nat.le_of_ble_eq_true rfl) d_X_init_12 (fun H locs hP hD hS => ?_)
  have hP : va_P (dC, dI) pcl [(hx9, .inr (4, [.ref q5, .null, .null, .null, .null, .int 0, .int 0, .int 0, .int 0, .int 0, .int 0])), (q5, .inr (1, [.int 0, .int 0, .ref q7_9, .ref q15_9, .ref q23_9])), (q7_9, .inl (cI, 18, .inl (fun _ => 0))), (q15_9, .inl (cI, 18, .inl (fun _ => 0))), (q23_9, .inl (cI, 18, .inl (fun _ => 0)))] H := hP
  have hD : va_D A [(hx9, .inr (4, [.ref q5, .null, .null, .null, .null, .int 0, .int 0, .int 0, .int 0, .int 0, .int 0])), (q5, .inr (1, [.int 0, .int 0, .ref q7_9, .ref q15_9, .ref q23_9])), (q7_9, .inl (cI, 18, .inl (fun _ => 0))), (q15_9, .inl (cI, 18, .inl (fun _ => 0))), (q23_9, .inl (cI, 18, .inl (fun _ => 0)))] := hD
  refine lv_aload_n hx hb d_X_init_15 rfl (lv_at hl 0 rfl) ?_
  refine g_new (ci := 2) (fs := [.null, .null, .null, .int 0, .int 0, .null]) (C := n_P) (T := f_P) (N := 6) Sx gf_P fk_P gm_100 gm_101 gm_53 hK hP hD hS hA rfl nf_P (Nat.le_of_ble_eq_true rfl) (Nat.le_of_ble_eq_true rfl) d_X_init_16 (fun q16 H hP hD hS => ?_)
  have hP : va_P (dC, dI) pcl [(hx9, .inr (4, [.ref q5, .null, .null, .null, .null, .int 0, .int 0, .int 0, .int 0, .int 0, .int 0])), (q5, .inr (1, [.int 0, .int 0, .ref q7_9, .ref q15_9, .ref q23_9])), (q7_9, .inl (cI, 18, .inl (fun _ => 0))), (q15_9, .inl (cI, 18, .inl (fun _ => 0))), (q23_9, .inl (cI, 18, .inl (fun _ => 0))), (q16, .inr (2, [.null, .null, .null, .int 0, .int 0, .null]))] H := hP
  have hD : va_D A [(hx9, .inr (4, [.ref q5, .null, .null, .null, .null, .int 0, .int 0, .int 0, .int 0, .int 0, .int 0])), (q5, .inr (1, [.int 0, .int 0, .ref q7_9, .ref q15_9, .ref q23_9])), (q7_9, .inl (cI, 18, .inl (fun _ => 0))), (q15_9, .inl (cI, 18, .inl (fun _ => 0))), (q23_9, .inl (cI, 18, .inl (fun _ => 0))), (q16, .inr (2, [.null, .null, .null, .int 0, .int 0, .null]))] := hD
  refine lv_dup hx hb d_X_init_19 rfl ?_
  refine lv_aload_n hx hb d_X_init_20 rfl (lv_at hl 0 rfl) ?_
  refine g_get Sx gf_X hK hP 0 rfl rfl 0 (by decide) gm_181 rfl d_X_init_21 ?_
  refine cn_I (n := 1) (Z := nZ) (wr := [(hx9, .inr (4, [.ref q5, .null, .null, .null, .null, .int 0, .int 0, .int 0, .int 0, .int 0, .int 0])), (q5, .inr (1, [.int 0, .int 0, .ref q7_9, .ref q15_9, .ref q23_9])), (q7_9, .inl (cI, 18, .inl (fun _ => 0))), (q15_9, .inl (cI, 18, .inl (fun _ => 0))), (q23_9, .inl (cI, 18, .inl (fun _ => 0)))]) Sx (c_P_init l dC dI cI cL cQ q16 q5 H.size) gm_102 gm_103 gm_53 gm_104 rfl (by decide +kernel) ⟨rfl, rfl⟩ ⟨Nat.le_of_ble_eq_true rfl, Nat.le_of_ble_eq_true rfl⟩ nZ_ok nZs hP hD hS hA hK [5] [0, 1, 2, 3, 4] rfl rfl rfl rfl (by decide) rfl hl.1 rfl (Nat.le_of_ble_eq_true rfl) d_X_init_24 ⟨Nat.le_of_ble_eq_true rfl, Nat.le_of_ble_eq_true rfl⟩ (fun u9 H locs hP hD hS => ?_)
  obtain ⟨q7_24, q15_24, q23_24⟩ := u9
  have hP : va_P (dC, dI) pcl [(hx9, .inr (4, [.ref q5, .null, .null, .null, .null, .int 0, .int 0, .int 0, .int 0, .int 0, .int 0])), (q5, .inr (1, [.int 0, .int 0, .ref q7_9, .ref q15_9, .ref q23_9])), (q7_9, .inl (cI, 18, .inl (fun _ => 0))), (q15_9, .inl (cI, 18, .inl (fun _ => 0))), (q23_9, .inl (cI, 18, .inl (fun _ => 0))), (q16, .inr (2, [.ref q5, .ref q7_24, .ref q15_24, .int 0, .int 0, .ref q23_24])), (q7_24, .inl (cI, 10, .inl (fun _ => 0))), (q15_24, .inl (cI, 18, .inl (fun _ => 0))), (q23_24, .inl (cI, 10, .inl (fun _ => 0)))] H := hP
  have hD : va_D A [(hx9, .inr (4, [.ref q5, .null, .null, .null, .null, .int 0, .int 0, .int 0, .int 0, .int 0, .int 0])), (q5, .inr (1, [.int 0, .int 0, .ref q7_9, .ref q15_9, .ref q23_9])), (q7_9, .inl (cI, 18, .inl (fun _ => 0))), (q15_9, .inl (cI, 18, .inl (fun _ => 0))), (q23_9, .inl (cI, 18, .inl (fun _ => 0))), (q16, .inr (2, [.ref q5, .ref q7_24, .ref q15_24, .int 0, .int 0, .ref q23_24])), (q7_24, .inl (cI, 10, .inl (fun _ => 0))), (q15_24, .inl (cI, 18, .inl (fun _ => 0))), (q23_24, .inl (cI, 10, .inl (fun _ => 0)))] := hD
  refine g_putF Sx hin gf_X fk_X fn_X hK hP hD hS 0 rfl rfl 1 (by decide) gm_182 rfl rfl rfl rfl (Nat.le_of_ble_eq_true rfl) d_X_init_27 (fun H locs hP hD hS => ?_)
  have hP : va_P (dC, dI) pcl [(hx9, .inr (4, [.ref q5, .ref q16, .null, .null, .null, .int 0, .int 0, .int 0, .int 0, .int 0, .int 0])), (q5, .inr (1, [.int 0, .int 0, .ref q7_9, .ref q15_9, .ref q23_9])), (q7_9, .inl (cI, 18, .inl (fun _ => 0))), (q15_9, .inl (cI, 18, .inl (fun _ => 0))), (q23_9, .inl (cI, 18, .inl (fun _ => 0))), (q16, .inr (2, [.ref q5, .ref q7_24, .ref q15_24, .int 0, .int 0, .ref q23_24])), (q7_24, .inl (cI, 10, .inl (fun _ => 0))), (q15_24, .inl (cI, 18, .inl (fun _ => 0))), (q23_24, .inl (cI, 10, .inl (fun _ => 0)))] H := hP
  have hD : va_D A [(hx9, .inr (4, [.ref q5, .ref q16, .null, .null, .null, .int 0, .int 0, .int 0, .int 0, .int 0, .int 0])), (q5, .inr (1, [.int 0, .int 0, .ref q7_9, .ref q15_9, .ref q23_9])), (q7_9, .inl (cI, 18, .inl (fun _ => 0))), (q15_9, .inl (cI, 18, .inl (fun _ => 0))), (q23_9, .inl (cI, 18, .inl (fun _ => 0))), (q16, .inr (2, [.ref q5, .ref q7_24, .ref q15_24, .int 0, .int 0, .ref q23_24])), (q7_24, .inl (cI, 10, .inl (fun _ => 0))), (q15_24, .inl (cI, 18, .inl (fun _ => 0))), (q23_24, .inl (cI, 10, .inl (fun _ => 0)))] := hD
  refine lv_aload_n hx hb d_X_init_30 rfl (lv_at hl 0 rfl) ?_
  refine g_new (ci := 2) (fs := [.null, .null, .null, .int 0, .int 0, .null]) (C := n_P) (T := f_P) (N := 6) Sx gf_P fk_P gm_100 gm_101 gm_53 hK hP hD hS hA rfl nf_P (Nat.le_of_ble_eq_true rfl) (Nat.le_of_ble_eq_true rfl) d_X_init_31 (fun q31 H hP hD hS => ?_)
  have hP : va_P (dC, dI) pcl [(hx9, .inr (4, [.ref q5, .ref q16, .null, .null, .null, .int 0, .int 0, .int 0, .int 0, .int 0, .int 0])), (q5, .inr (1, [.int 0, .int 0, .ref q7_9, .ref q15_9, .ref q23_9])), (q7_9, .inl (cI, 18, .inl (fun _ => 0))), (q15_9, .inl (cI, 18, .inl (fun _ => 0))), (q23_9, .inl (cI, 18, .inl (fun _ => 0))), (q16, .inr (2, [.ref q5, .ref q7_24, .ref q15_24, .int 0, .int 0, .ref q23_24])), (q7_24, .inl (cI, 10, .inl (fun _ => 0))), (q15_24, .inl (cI, 18, .inl (fun _ => 0))), (q23_24, .inl (cI, 10, .inl (fun _ => 0))), (q31, .inr (2, [.null, .null, .null, .int 0, .int 0, .null]))] H := hP
  have hD : va_D A [(hx9, .inr (4, [.ref q5, .ref q16, .null, .null, .null, .int 0, .int 0, .int 0, .int 0, .int 0, .int 0])), (q5, .inr (1, [.int 0, .int 0, .ref q7_9, .ref q15_9, .ref q23_9])), (q7_9, .inl (cI, 18, .inl (fun _ => 0))), (q15_9, .inl (cI, 18, .inl (fun _ => 0))), (q23_9, .inl (cI, 18, .inl (fun _ => 0))), (q16, .inr (2, [.ref q5, .ref q7_24, .ref q15_24, .int 0, .int 0, .ref q23_24])), (q7_24, .inl (cI, 10, .inl (fun _ => 0))), (q15_24, .inl (cI, 18, .inl (fun _ => 0))), (q23_24, .inl (cI, 10, .inl (fun _ => 0))), (q31, .inr (2, [.null, .null, .null, .int 0, .int 0, .null]))] := hD
  refine lv_dup hx hb d_X_init_34 rfl ?_
  refine lv_aload_n hx hb d_X_init_35 rfl (lv_at hl 0 rfl) ?_
  refine g_get Sx gf_X hK hP 0 rfl rfl 0 (by decide) gm_181 rfl d_X_init_36 ?_
  refine cn_I (n := 1) (Z := nZ) (wr := [(hx9, .inr (4, [.ref q5, .ref q16, .null, .null, .null, .int 0, .int 0, .int 0, .int 0, .int 0, .int 0])), (q5, .inr (1, [.int 0, .int 0, .ref q7_9, .ref q15_9, .ref q23_9])), (q7_9, .inl (cI, 18, .inl (fun _ => 0))), (q15_9, .inl (cI, 18, .inl (fun _ => 0))), (q23_9, .inl (cI, 18, .inl (fun _ => 0))), (q16, .inr (2, [.ref q5, .ref q7_24, .ref q15_24, .int 0, .int 0, .ref q23_24])), (q7_24, .inl (cI, 10, .inl (fun _ => 0))), (q15_24, .inl (cI, 18, .inl (fun _ => 0))), (q23_24, .inl (cI, 10, .inl (fun _ => 0)))]) Sx (c_P_init l dC dI cI cL cQ q31 q5 H.size) gm_102 gm_103 gm_53 gm_104 rfl (by decide +kernel) ⟨rfl, rfl⟩ ⟨Nat.le_of_ble_eq_true rfl, Nat.le_of_ble_eq_true rfl⟩ nZ_ok nZs hP hD hS hA hK [9] [0, 1, 2, 3, 4, 5, 6, 7, 8] rfl rfl rfl rfl (by decide) rfl hl.1 rfl (Nat.le_of_ble_eq_true rfl) d_X_init_39 ⟨Nat.le_of_ble_eq_true rfl, Nat.le_of_ble_eq_true rfl⟩ (fun u9 H locs hP hD hS => ?_)
  obtain ⟨q7_39, q15_39, q23_39⟩ := u9
  have hP : va_P (dC, dI) pcl [(hx9, .inr (4, [.ref q5, .ref q16, .null, .null, .null, .int 0, .int 0, .int 0, .int 0, .int 0, .int 0])), (q5, .inr (1, [.int 0, .int 0, .ref q7_9, .ref q15_9, .ref q23_9])), (q7_9, .inl (cI, 18, .inl (fun _ => 0))), (q15_9, .inl (cI, 18, .inl (fun _ => 0))), (q23_9, .inl (cI, 18, .inl (fun _ => 0))), (q16, .inr (2, [.ref q5, .ref q7_24, .ref q15_24, .int 0, .int 0, .ref q23_24])), (q7_24, .inl (cI, 10, .inl (fun _ => 0))), (q15_24, .inl (cI, 18, .inl (fun _ => 0))), (q23_24, .inl (cI, 10, .inl (fun _ => 0))), (q31, .inr (2, [.ref q5, .ref q7_39, .ref q15_39, .int 0, .int 0, .ref q23_39])), (q7_39, .inl (cI, 10, .inl (fun _ => 0))), (q15_39, .inl (cI, 18, .inl (fun _ => 0))), (q23_39, .inl (cI, 10, .inl (fun _ => 0)))] H := hP
  have hD : va_D A [(hx9, .inr (4, [.ref q5, .ref q16, .null, .null, .null, .int 0, .int 0, .int 0, .int 0, .int 0, .int 0])), (q5, .inr (1, [.int 0, .int 0, .ref q7_9, .ref q15_9, .ref q23_9])), (q7_9, .inl (cI, 18, .inl (fun _ => 0))), (q15_9, .inl (cI, 18, .inl (fun _ => 0))), (q23_9, .inl (cI, 18, .inl (fun _ => 0))), (q16, .inr (2, [.ref q5, .ref q7_24, .ref q15_24, .int 0, .int 0, .ref q23_24])), (q7_24, .inl (cI, 10, .inl (fun _ => 0))), (q15_24, .inl (cI, 18, .inl (fun _ => 0))), (q23_24, .inl (cI, 10, .inl (fun _ => 0))), (q31, .inr (2, [.ref q5, .ref q7_39, .ref q15_39, .int 0, .int 0, .ref q23_39])), (q7_39, .inl (cI, 10, .inl (fun _ => 0))), (q15_39, .inl (cI, 18, .inl (fun _ => 0))), (q23_39, .inl (cI, 10, .inl (fun _ => 0)))] := hD
  refine g_putF Sx hin gf_X fk_X fn_X hK hP hD hS 0 rfl rfl 2 (by decide) gm_183 rfl rfl rfl rfl (Nat.le_of_ble_eq_true rfl) d_X_init_42 (fun H locs hP hD hS => ?_)
  have hP : va_P (dC, dI) pcl [(hx9, .inr (4, [.ref q5, .ref q16, .ref q31, .null, .null, .int 0, .int 0, .int 0, .int 0, .int 0, .int 0])), (q5, .inr (1, [.int 0, .int 0, .ref q7_9, .ref q15_9, .ref q23_9])), (q7_9, .inl (cI, 18, .inl (fun _ => 0))), (q15_9, .inl (cI, 18, .inl (fun _ => 0))), (q23_9, .inl (cI, 18, .inl (fun _ => 0))), (q16, .inr (2, [.ref q5, .ref q7_24, .ref q15_24, .int 0, .int 0, .ref q23_24])), (q7_24, .inl (cI, 10, .inl (fun _ => 0))), (q15_24, .inl (cI, 18, .inl (fun _ => 0))), (q23_24, .inl (cI, 10, .inl (fun _ => 0))), (q31, .inr (2, [.ref q5, .ref q7_39, .ref q15_39, .int 0, .int 0, .ref q23_39])), (q7_39, .inl (cI, 10, .inl (fun _ => 0))), (q15_39, .inl (cI, 18, .inl (fun _ => 0))), (q23_39, .inl (cI, 10, .inl (fun _ => 0)))] H := hP
  have hD : va_D A [(hx9, .inr (4, [.ref q5, .ref q16, .ref q31, .null, .null, .int 0, .int 0, .int 0, .int 0, .int 0, .int 0])), (q5, .inr (1, [.int 0, .int 0, .ref q7_9, .ref q15_9, .ref q23_9])), (q7_9, .inl (cI, 18, .inl (fun _ => 0))), (q15_9, .inl (cI, 18, .inl (fun _ => 0))), (q23_9, .inl (cI, 18, .inl (fun _ => 0))), (q16, .inr (2, [.ref q5, .ref q7_24, .ref q15_24, .int 0, .int 0, .ref q23_24])), (q7_24, .inl (cI, 10, .inl (fun _ => 0))), (q15_24, .inl (cI, 18, .inl (fun _ => 0))), (q23_24, .inl (cI, 10, .inl (fun _ => 0))), (q31, .inr (2, [.ref q5, .ref q7_39, .ref q15_39, .int 0, .int 0, .ref q23_39])), (q7_39, .inl (cI, 10, .inl (fun _ => 0))), (q15_39, .inl (cI, 18, .inl (fun _ => 0))), (q23_39, .inl (cI, 10, .inl (fun _ => 0)))] := hD
  refine lv_aload_n hx hb d_X_init_45 rfl (lv_at hl 0 rfl) ?_
  refine g_new (ci := 0) (fs := [.null, .null, .null, .int 0, .int 0, .null, .null, .null, .int 0, .int 0, .int 0, .int 0, .int 0, .null, .null, .int 0, .null]) (C := n_D) (T := f_D) (N := 17) Sx gf_D fk_D gm_124 gm_125 gm_54 hK hP hD hS hA rfl nf_D (Nat.le_of_ble_eq_true rfl) (Nat.le_of_ble_eq_true rfl) d_X_init_46 (fun q46 H hP hD hS => ?_)
  have hP : va_P (dC, dI) pcl [(hx9, .inr (4, [.ref q5, .ref q16, .ref q31, .null, .null, .int 0, .int 0, .int 0, .int 0, .int 0, .int 0])), (q5, .inr (1, [.int 0, .int 0, .ref q7_9, .ref q15_9, .ref q23_9])), (q7_9, .inl (cI, 18, .inl (fun _ => 0))), (q15_9, .inl (cI, 18, .inl (fun _ => 0))), (q23_9, .inl (cI, 18, .inl (fun _ => 0))), (q16, .inr (2, [.ref q5, .ref q7_24, .ref q15_24, .int 0, .int 0, .ref q23_24])), (q7_24, .inl (cI, 10, .inl (fun _ => 0))), (q15_24, .inl (cI, 18, .inl (fun _ => 0))), (q23_24, .inl (cI, 10, .inl (fun _ => 0))), (q31, .inr (2, [.ref q5, .ref q7_39, .ref q15_39, .int 0, .int 0, .ref q23_39])), (q7_39, .inl (cI, 10, .inl (fun _ => 0))), (q15_39, .inl (cI, 18, .inl (fun _ => 0))), (q23_39, .inl (cI, 10, .inl (fun _ => 0))), (q46, .inr (0, [.null, .null, .null, .int 0, .int 0, .null, .null, .null, .int 0, .int 0, .int 0, .int 0, .int 0, .null, .null, .int 0, .null]))] H := hP
  have hD : va_D A [(hx9, .inr (4, [.ref q5, .ref q16, .ref q31, .null, .null, .int 0, .int 0, .int 0, .int 0, .int 0, .int 0])), (q5, .inr (1, [.int 0, .int 0, .ref q7_9, .ref q15_9, .ref q23_9])), (q7_9, .inl (cI, 18, .inl (fun _ => 0))), (q15_9, .inl (cI, 18, .inl (fun _ => 0))), (q23_9, .inl (cI, 18, .inl (fun _ => 0))), (q16, .inr (2, [.ref q5, .ref q7_24, .ref q15_24, .int 0, .int 0, .ref q23_24])), (q7_24, .inl (cI, 10, .inl (fun _ => 0))), (q15_24, .inl (cI, 18, .inl (fun _ => 0))), (q23_24, .inl (cI, 10, .inl (fun _ => 0))), (q31, .inr (2, [.ref q5, .ref q7_39, .ref q15_39, .int 0, .int 0, .ref q23_39])), (q7_39, .inl (cI, 10, .inl (fun _ => 0))), (q15_39, .inl (cI, 18, .inl (fun _ => 0))), (q23_39, .inl (cI, 10, .inl (fun _ => 0))), (q46, .inr (0, [.null, .null, .null, .int 0, .int 0, .null, .null, .null, .int 0, .int 0, .int 0, .int 0, .int 0, .null, .null, .int 0, .null]))] := hD
  refine lv_dup hx hb d_X_init_49 rfl ?_
  refine lv_aload_n hx hb d_X_init_50 rfl (lv_at hl 0 rfl) ?_
  refine g_get Sx gf_X hK hP 0 rfl rfl 0 (by decide) gm_181 rfl d_X_init_51 ?_
  refine cn_I (n := 1) (Z := dZ) (wr := [(hx9, .inr (4, [.ref q5, .ref q16, .ref q31, .null, .null, .int 0, .int 0, .int 0, .int 0, .int 0, .int 0])), (q5, .inr (1, [.int 0, .int 0, .ref q7_9, .ref q15_9, .ref q23_9])), (q7_9, .inl (cI, 18, .inl (fun _ => 0))), (q15_9, .inl (cI, 18, .inl (fun _ => 0))), (q23_9, .inl (cI, 18, .inl (fun _ => 0))), (q16, .inr (2, [.ref q5, .ref q7_24, .ref q15_24, .int 0, .int 0, .ref q23_24])), (q7_24, .inl (cI, 10, .inl (fun _ => 0))), (q15_24, .inl (cI, 18, .inl (fun _ => 0))), (q23_24, .inl (cI, 10, .inl (fun _ => 0))), (q31, .inr (2, [.ref q5, .ref q7_39, .ref q15_39, .int 0, .int 0, .ref q23_39])), (q7_39, .inl (cI, 10, .inl (fun _ => 0))), (q15_39, .inl (cI, 18, .inl (fun _ => 0))), (q23_39, .inl (cI, 10, .inl (fun _ => 0)))]) Sx (c_D_init l dC dI cI cL cQ q46 q5 H.size) gm_126 gm_127 gm_54 gm_128 rfl (by decide +kernel) ⟨rfl, rfl⟩ ⟨Nat.le_of_ble_eq_true rfl, Nat.le_of_ble_eq_true rfl⟩ dZ_ok (dZs hZ.1) hP hD hS hA hK [13] [0, 1, 2, 3, 4, 5, 6, 7, 8, 9, 10, 11, 12] rfl rfl rfl rfl (by decide) rfl hl.1 rfl (Nat.le_of_ble_eq_true rfl) d_X_init_54 ⟨Nat.le_of_ble_eq_true rfl, Nat.le_of_ble_eq_true rfl⟩ (fun u9 H locs hP hD hS => ?_)
  obtain ⟨q7_54, q15_54, q25_54, r9_54, q35_54, q43_54, q51_54, q59_54, q67_54⟩ := u9
  have hP : va_P (dC, dI) pcl ([(hx9, .inr (4, [.ref q5, .ref q16, .ref q31, .null, .null, .int 0, .int 0, .int 0, .int 0, .int 0, .int 0])), (q5, .inr (1, [.int 0, .int 0, .ref q7_9, .ref q15_9, .ref q23_9])), (q7_9, .inl (cI, 18, .inl (fun _ => 0))), (q15_9, .inl (cI, 18, .inl (fun _ => 0))), (q23_9, .inl (cI, 18, .inl (fun _ => 0))), (q16, .inr (2, [.ref q5, .ref q7_24, .ref q15_24, .int 0, .int 0, .ref q23_24])), (q7_24, .inl (cI, 10, .inl (fun _ => 0))), (q15_24, .inl (cI, 18, .inl (fun _ => 0))), (q23_24, .inl (cI, 10, .inl (fun _ => 0))), (q31, .inr (2, [.ref q5, .ref q7_39, .ref q15_39, .int 0, .int 0, .ref q23_39])), (q7_39, .inl (cI, 10, .inl (fun _ => 0))), (q15_39, .inl (cI, 18, .inl (fun _ => 0))), (q23_39, .inl (cI, 10, .inl (fun _ => 0))), (q46, .inr (0, [.ref q5, .ref q7_54, .ref q15_54, .int 0, .int 0, .ref q25_54, .ref q35_54, .ref q43_54, .int 0, .int 0, .int 0, .int 0, .int 0, .ref q51_54, .ref q59_54, .int 0, .ref q67_54])), (q7_54, .inl (cI, 10, .inl (fun _ => 0))), (q15_54, .inl (cI, 10, .inl (fun _ => 0))), (q25_54, .inl (cQ, 18, .inr (.inr (.inr (.inr (fun i9 => if i9 < 18 then some (r9_54 i9) else none)))))), (q35_54, .inl (cI, 18, .inl (fun _ => 0))), (q43_54, .inl (cI, 18, .inl (fun _ => 0))), (q51_54, .inl (cI, 10, .inl (fun _ => 0))), (q59_54, .inl (cI, 10, .inl (fun _ => 0))), (q67_54, .inl (cI, 10, .inl (fun _ => 0)))] ++ wkR r9_54 cI (fun _ _ => 0)) H := hP
  have hD : va_D A ([(hx9, .inr (4, [.ref q5, .ref q16, .ref q31, .null, .null, .int 0, .int 0, .int 0, .int 0, .int 0, .int 0])), (q5, .inr (1, [.int 0, .int 0, .ref q7_9, .ref q15_9, .ref q23_9])), (q7_9, .inl (cI, 18, .inl (fun _ => 0))), (q15_9, .inl (cI, 18, .inl (fun _ => 0))), (q23_9, .inl (cI, 18, .inl (fun _ => 0))), (q16, .inr (2, [.ref q5, .ref q7_24, .ref q15_24, .int 0, .int 0, .ref q23_24])), (q7_24, .inl (cI, 10, .inl (fun _ => 0))), (q15_24, .inl (cI, 18, .inl (fun _ => 0))), (q23_24, .inl (cI, 10, .inl (fun _ => 0))), (q31, .inr (2, [.ref q5, .ref q7_39, .ref q15_39, .int 0, .int 0, .ref q23_39])), (q7_39, .inl (cI, 10, .inl (fun _ => 0))), (q15_39, .inl (cI, 18, .inl (fun _ => 0))), (q23_39, .inl (cI, 10, .inl (fun _ => 0))), (q46, .inr (0, [.ref q5, .ref q7_54, .ref q15_54, .int 0, .int 0, .ref q25_54, .ref q35_54, .ref q43_54, .int 0, .int 0, .int 0, .int 0, .int 0, .ref q51_54, .ref q59_54, .int 0, .ref q67_54])), (q7_54, .inl (cI, 10, .inl (fun _ => 0))), (q15_54, .inl (cI, 10, .inl (fun _ => 0))), (q25_54, .inl (cQ, 18, .inr (.inr (.inr (.inr (fun i9 => if i9 < 18 then some (r9_54 i9) else none)))))), (q35_54, .inl (cI, 18, .inl (fun _ => 0))), (q43_54, .inl (cI, 18, .inl (fun _ => 0))), (q51_54, .inl (cI, 10, .inl (fun _ => 0))), (q59_54, .inl (cI, 10, .inl (fun _ => 0))), (q67_54, .inl (cI, 10, .inl (fun _ => 0)))] ++ wkR r9_54 cI (fun _ _ => 0)) := hD
  refine g_putF Sx hin gf_X fk_X fn_X hK hP hD hS 0 rfl rfl 3 (by decide) gm_184 rfl rfl rfl rfl (Nat.le_of_ble_eq_true rfl) d_X_init_57 (fun H locs hP hD hS => ?_)
  have hP : va_P (dC, dI) pcl ([(hx9, .inr (4, [.ref q5, .ref q16, .ref q31, .ref q46, .null, .int 0, .int 0, .int 0, .int 0, .int 0, .int 0])), (q5, .inr (1, [.int 0, .int 0, .ref q7_9, .ref q15_9, .ref q23_9])), (q7_9, .inl (cI, 18, .inl (fun _ => 0))), (q15_9, .inl (cI, 18, .inl (fun _ => 0))), (q23_9, .inl (cI, 18, .inl (fun _ => 0))), (q16, .inr (2, [.ref q5, .ref q7_24, .ref q15_24, .int 0, .int 0, .ref q23_24])), (q7_24, .inl (cI, 10, .inl (fun _ => 0))), (q15_24, .inl (cI, 18, .inl (fun _ => 0))), (q23_24, .inl (cI, 10, .inl (fun _ => 0))), (q31, .inr (2, [.ref q5, .ref q7_39, .ref q15_39, .int 0, .int 0, .ref q23_39])), (q7_39, .inl (cI, 10, .inl (fun _ => 0))), (q15_39, .inl (cI, 18, .inl (fun _ => 0))), (q23_39, .inl (cI, 10, .inl (fun _ => 0))), (q46, .inr (0, [.ref q5, .ref q7_54, .ref q15_54, .int 0, .int 0, .ref q25_54, .ref q35_54, .ref q43_54, .int 0, .int 0, .int 0, .int 0, .int 0, .ref q51_54, .ref q59_54, .int 0, .ref q67_54])), (q7_54, .inl (cI, 10, .inl (fun _ => 0))), (q15_54, .inl (cI, 10, .inl (fun _ => 0))), (q25_54, .inl (cQ, 18, .inr (.inr (.inr (.inr (fun i9 => if i9 < 18 then some (r9_54 i9) else none)))))), (q35_54, .inl (cI, 18, .inl (fun _ => 0))), (q43_54, .inl (cI, 18, .inl (fun _ => 0))), (q51_54, .inl (cI, 10, .inl (fun _ => 0))), (q59_54, .inl (cI, 10, .inl (fun _ => 0))), (q67_54, .inl (cI, 10, .inl (fun _ => 0)))] ++ wkR r9_54 cI (fun _ _ => 0)) H := hP
  have hD : va_D A ([(hx9, .inr (4, [.ref q5, .ref q16, .ref q31, .ref q46, .null, .int 0, .int 0, .int 0, .int 0, .int 0, .int 0])), (q5, .inr (1, [.int 0, .int 0, .ref q7_9, .ref q15_9, .ref q23_9])), (q7_9, .inl (cI, 18, .inl (fun _ => 0))), (q15_9, .inl (cI, 18, .inl (fun _ => 0))), (q23_9, .inl (cI, 18, .inl (fun _ => 0))), (q16, .inr (2, [.ref q5, .ref q7_24, .ref q15_24, .int 0, .int 0, .ref q23_24])), (q7_24, .inl (cI, 10, .inl (fun _ => 0))), (q15_24, .inl (cI, 18, .inl (fun _ => 0))), (q23_24, .inl (cI, 10, .inl (fun _ => 0))), (q31, .inr (2, [.ref q5, .ref q7_39, .ref q15_39, .int 0, .int 0, .ref q23_39])), (q7_39, .inl (cI, 10, .inl (fun _ => 0))), (q15_39, .inl (cI, 18, .inl (fun _ => 0))), (q23_39, .inl (cI, 10, .inl (fun _ => 0))), (q46, .inr (0, [.ref q5, .ref q7_54, .ref q15_54, .int 0, .int 0, .ref q25_54, .ref q35_54, .ref q43_54, .int 0, .int 0, .int 0, .int 0, .int 0, .ref q51_54, .ref q59_54, .int 0, .ref q67_54])), (q7_54, .inl (cI, 10, .inl (fun _ => 0))), (q15_54, .inl (cI, 10, .inl (fun _ => 0))), (q25_54, .inl (cQ, 18, .inr (.inr (.inr (.inr (fun i9 => if i9 < 18 then some (r9_54 i9) else none)))))), (q35_54, .inl (cI, 18, .inl (fun _ => 0))), (q43_54, .inl (cI, 18, .inl (fun _ => 0))), (q51_54, .inl (cI, 10, .inl (fun _ => 0))), (q59_54, .inl (cI, 10, .inl (fun _ => 0))), (q67_54, .inl (cI, 10, .inl (fun _ => 0)))] ++ wkR r9_54 cI (fun _ _ => 0)) := hD
  refine lv_aload_n hx hb d_X_init_60 rfl (lv_at hl 0 rfl) ?_
  refine g_newR (ci := 3) (fs := [.null, .int 0, .long 0, .null]) (C := n_S) (T := f_S) (N := 4) Sx gf_S fk_S gm_165 gm_166 gm_55 hK hP hD hS hA rfl nf_S (Nat.le_of_ble_eq_true rfl) (Nat.le_of_ble_eq_true rfl) d_X_init_61 (fun q61 H hP hD hS => ?_)
  have hP : va_P (dC, dI) pcl ([(hx9, .inr (4, [.ref q5, .ref q16, .ref q31, .ref q46, .null, .int 0, .int 0, .int 0, .int 0, .int 0, .int 0])), (q5, .inr (1, [.int 0, .int 0, .ref q7_9, .ref q15_9, .ref q23_9])), (q7_9, .inl (cI, 18, .inl (fun _ => 0))), (q15_9, .inl (cI, 18, .inl (fun _ => 0))), (q23_9, .inl (cI, 18, .inl (fun _ => 0))), (q16, .inr (2, [.ref q5, .ref q7_24, .ref q15_24, .int 0, .int 0, .ref q23_24])), (q7_24, .inl (cI, 10, .inl (fun _ => 0))), (q15_24, .inl (cI, 18, .inl (fun _ => 0))), (q23_24, .inl (cI, 10, .inl (fun _ => 0))), (q31, .inr (2, [.ref q5, .ref q7_39, .ref q15_39, .int 0, .int 0, .ref q23_39])), (q7_39, .inl (cI, 10, .inl (fun _ => 0))), (q15_39, .inl (cI, 18, .inl (fun _ => 0))), (q23_39, .inl (cI, 10, .inl (fun _ => 0))), (q46, .inr (0, [.ref q5, .ref q7_54, .ref q15_54, .int 0, .int 0, .ref q25_54, .ref q35_54, .ref q43_54, .int 0, .int 0, .int 0, .int 0, .int 0, .ref q51_54, .ref q59_54, .int 0, .ref q67_54])), (q7_54, .inl (cI, 10, .inl (fun _ => 0))), (q15_54, .inl (cI, 10, .inl (fun _ => 0))), (q25_54, .inl (cQ, 18, .inr (.inr (.inr (.inr (fun i9 => if i9 < 18 then some (r9_54 i9) else none)))))), (q35_54, .inl (cI, 18, .inl (fun _ => 0))), (q43_54, .inl (cI, 18, .inl (fun _ => 0))), (q51_54, .inl (cI, 10, .inl (fun _ => 0))), (q59_54, .inl (cI, 10, .inl (fun _ => 0))), (q67_54, .inl (cI, 10, .inl (fun _ => 0))), (q61, .inr (3, [.null, .int 0, .long 0, .null]))] ++ wkR r9_54 cI (fun _ _ => 0)) H := hP
  have hD : va_D A ([(hx9, .inr (4, [.ref q5, .ref q16, .ref q31, .ref q46, .null, .int 0, .int 0, .int 0, .int 0, .int 0, .int 0])), (q5, .inr (1, [.int 0, .int 0, .ref q7_9, .ref q15_9, .ref q23_9])), (q7_9, .inl (cI, 18, .inl (fun _ => 0))), (q15_9, .inl (cI, 18, .inl (fun _ => 0))), (q23_9, .inl (cI, 18, .inl (fun _ => 0))), (q16, .inr (2, [.ref q5, .ref q7_24, .ref q15_24, .int 0, .int 0, .ref q23_24])), (q7_24, .inl (cI, 10, .inl (fun _ => 0))), (q15_24, .inl (cI, 18, .inl (fun _ => 0))), (q23_24, .inl (cI, 10, .inl (fun _ => 0))), (q31, .inr (2, [.ref q5, .ref q7_39, .ref q15_39, .int 0, .int 0, .ref q23_39])), (q7_39, .inl (cI, 10, .inl (fun _ => 0))), (q15_39, .inl (cI, 18, .inl (fun _ => 0))), (q23_39, .inl (cI, 10, .inl (fun _ => 0))), (q46, .inr (0, [.ref q5, .ref q7_54, .ref q15_54, .int 0, .int 0, .ref q25_54, .ref q35_54, .ref q43_54, .int 0, .int 0, .int 0, .int 0, .int 0, .ref q51_54, .ref q59_54, .int 0, .ref q67_54])), (q7_54, .inl (cI, 10, .inl (fun _ => 0))), (q15_54, .inl (cI, 10, .inl (fun _ => 0))), (q25_54, .inl (cQ, 18, .inr (.inr (.inr (.inr (fun i9 => if i9 < 18 then some (r9_54 i9) else none)))))), (q35_54, .inl (cI, 18, .inl (fun _ => 0))), (q43_54, .inl (cI, 18, .inl (fun _ => 0))), (q51_54, .inl (cI, 10, .inl (fun _ => 0))), (q59_54, .inl (cI, 10, .inl (fun _ => 0))), (q67_54, .inl (cI, 10, .inl (fun _ => 0))), (q61, .inr (3, [.null, .int 0, .long 0, .null]))] ++ wkR r9_54 cI (fun _ _ => 0)) := hD
  refine lv_dup hx hb d_X_init_64 rfl ?_
  refine lv_aload_n hx hb d_X_init_65 rfl (lv_at hl 0 rfl) ?_
  refine g_get Sx gf_X hK hP 0 rfl rfl 0 (by decide) gm_181 rfl d_X_init_66 ?_
  refine cn_I (n := 1) (Z := nZ) (wr := ([(hx9, .inr (4, [.ref q5, .ref q16, .ref q31, .ref q46, .null, .int 0, .int 0, .int 0, .int 0, .int 0, .int 0])), (q5, .inr (1, [.int 0, .int 0, .ref q7_9, .ref q15_9, .ref q23_9])), (q7_9, .inl (cI, 18, .inl (fun _ => 0))), (q15_9, .inl (cI, 18, .inl (fun _ => 0))), (q23_9, .inl (cI, 18, .inl (fun _ => 0))), (q16, .inr (2, [.ref q5, .ref q7_24, .ref q15_24, .int 0, .int 0, .ref q23_24])), (q7_24, .inl (cI, 10, .inl (fun _ => 0))), (q15_24, .inl (cI, 18, .inl (fun _ => 0))), (q23_24, .inl (cI, 10, .inl (fun _ => 0))), (q31, .inr (2, [.ref q5, .ref q7_39, .ref q15_39, .int 0, .int 0, .ref q23_39])), (q7_39, .inl (cI, 10, .inl (fun _ => 0))), (q15_39, .inl (cI, 18, .inl (fun _ => 0))), (q23_39, .inl (cI, 10, .inl (fun _ => 0))), (q46, .inr (0, [.ref q5, .ref q7_54, .ref q15_54, .int 0, .int 0, .ref q25_54, .ref q35_54, .ref q43_54, .int 0, .int 0, .int 0, .int 0, .int 0, .ref q51_54, .ref q59_54, .int 0, .ref q67_54])), (q7_54, .inl (cI, 10, .inl (fun _ => 0))), (q15_54, .inl (cI, 10, .inl (fun _ => 0))), (q25_54, .inl (cQ, 18, .inr (.inr (.inr (.inr (fun i9 => if i9 < 18 then some (r9_54 i9) else none)))))), (q35_54, .inl (cI, 18, .inl (fun _ => 0))), (q43_54, .inl (cI, 18, .inl (fun _ => 0))), (q51_54, .inl (cI, 10, .inl (fun _ => 0))), (q59_54, .inl (cI, 10, .inl (fun _ => 0))), (q67_54, .inl (cI, 10, .inl (fun _ => 0)))] ++ wkR r9_54 cI (fun _ _ => 0))) Sx (c_S_init l dC dI cI cL cQ q61 q5 H.size) gm_167 gm_168 gm_55 gm_169 rfl (by decide +kernel) ⟨rfl, rfl⟩ ⟨Nat.le_of_ble_eq_true rfl, Nat.le_of_ble_eq_true rfl⟩ nZ_ok nZs hP hD hS hA hK [22] [0, 1, 2, 3, 4, 5, 6, 7, 8, 9, 10, 11, 12, 13, 14, 15, 16, 17, 18, 19, 20, 21, 23, 24, 25, 26, 27, 28, 29, 30, 31, 32, 33, 34, 35, 36, 37, 38, 39, 40] rfl rfl rfl rfl (by decide) rfl hl.1 rfl (Nat.le_of_ble_eq_true rfl) d_X_init_69 ⟨Nat.le_of_ble_eq_true rfl, Nat.le_of_ble_eq_true rfl⟩ (fun u9 H locs hP hD hS => ?_)
  obtain ⟨q7_69, rfl⟩ : ∃ z, z = u9 := ⟨_, rfl⟩
  have hP := va_P.swap hP
  have hD := va_D.swap hD
  have hP : va_P (dC, dI) pcl ([(hx9, .inr (4, [.ref q5, .ref q16, .ref q31, .ref q46, .null, .int 0, .int 0, .int 0, .int 0, .int 0, .int 0])), (q5, .inr (1, [.int 0, .int 0, .ref q7_9, .ref q15_9, .ref q23_9])), (q7_9, .inl (cI, 18, .inl (fun _ => 0))), (q15_9, .inl (cI, 18, .inl (fun _ => 0))), (q23_9, .inl (cI, 18, .inl (fun _ => 0))), (q16, .inr (2, [.ref q5, .ref q7_24, .ref q15_24, .int 0, .int 0, .ref q23_24])), (q7_24, .inl (cI, 10, .inl (fun _ => 0))), (q15_24, .inl (cI, 18, .inl (fun _ => 0))), (q23_24, .inl (cI, 10, .inl (fun _ => 0))), (q31, .inr (2, [.ref q5, .ref q7_39, .ref q15_39, .int 0, .int 0, .ref q23_39])), (q7_39, .inl (cI, 10, .inl (fun _ => 0))), (q15_39, .inl (cI, 18, .inl (fun _ => 0))), (q23_39, .inl (cI, 10, .inl (fun _ => 0))), (q46, .inr (0, [.ref q5, .ref q7_54, .ref q15_54, .int 0, .int 0, .ref q25_54, .ref q35_54, .ref q43_54, .int 0, .int 0, .int 0, .int 0, .int 0, .ref q51_54, .ref q59_54, .int 0, .ref q67_54])), (q7_54, .inl (cI, 10, .inl (fun _ => 0))), (q15_54, .inl (cI, 10, .inl (fun _ => 0))), (q25_54, .inl (cQ, 18, .inr (.inr (.inr (.inr (fun i9 => if i9 < 18 then some (r9_54 i9) else none)))))), (q35_54, .inl (cI, 18, .inl (fun _ => 0))), (q43_54, .inl (cI, 18, .inl (fun _ => 0))), (q51_54, .inl (cI, 10, .inl (fun _ => 0))), (q59_54, .inl (cI, 10, .inl (fun _ => 0))), (q67_54, .inl (cI, 10, .inl (fun _ => 0))), (q61, .inr (3, [.ref q5, .int 0, .long 0, .ref q7_69])), (q7_69, .inl (cL, 18, .inr (.inl (fun _ => 0))))] ++ wkR r9_54 cI (fun _ _ => 0)) H := hP
  have hD : va_D A ([(hx9, .inr (4, [.ref q5, .ref q16, .ref q31, .ref q46, .null, .int 0, .int 0, .int 0, .int 0, .int 0, .int 0])), (q5, .inr (1, [.int 0, .int 0, .ref q7_9, .ref q15_9, .ref q23_9])), (q7_9, .inl (cI, 18, .inl (fun _ => 0))), (q15_9, .inl (cI, 18, .inl (fun _ => 0))), (q23_9, .inl (cI, 18, .inl (fun _ => 0))), (q16, .inr (2, [.ref q5, .ref q7_24, .ref q15_24, .int 0, .int 0, .ref q23_24])), (q7_24, .inl (cI, 10, .inl (fun _ => 0))), (q15_24, .inl (cI, 18, .inl (fun _ => 0))), (q23_24, .inl (cI, 10, .inl (fun _ => 0))), (q31, .inr (2, [.ref q5, .ref q7_39, .ref q15_39, .int 0, .int 0, .ref q23_39])), (q7_39, .inl (cI, 10, .inl (fun _ => 0))), (q15_39, .inl (cI, 18, .inl (fun _ => 0))), (q23_39, .inl (cI, 10, .inl (fun _ => 0))), (q46, .inr (0, [.ref q5, .ref q7_54, .ref q15_54, .int 0, .int 0, .ref q25_54, .ref q35_54, .ref q43_54, .int 0, .int 0, .int 0, .int 0, .int 0, .ref q51_54, .ref q59_54, .int 0, .ref q67_54])), (q7_54, .inl (cI, 10, .inl (fun _ => 0))), (q15_54, .inl (cI, 10, .inl (fun _ => 0))), (q25_54, .inl (cQ, 18, .inr (.inr (.inr (.inr (fun i9 => if i9 < 18 then some (r9_54 i9) else none)))))), (q35_54, .inl (cI, 18, .inl (fun _ => 0))), (q43_54, .inl (cI, 18, .inl (fun _ => 0))), (q51_54, .inl (cI, 10, .inl (fun _ => 0))), (q59_54, .inl (cI, 10, .inl (fun _ => 0))), (q67_54, .inl (cI, 10, .inl (fun _ => 0))), (q61, .inr (3, [.ref q5, .int 0, .long 0, .ref q7_69])), (q7_69, .inl (cL, 18, .inr (.inl (fun _ => 0))))] ++ wkR r9_54 cI (fun _ _ => 0)) := hD
  refine g_putF Sx hin gf_X fk_X fn_X hK hP hD hS 0 rfl rfl 4 (by decide) gm_185 rfl rfl rfl rfl (Nat.le_of_ble_eq_true rfl) d_X_init_72 (fun H locs hP hD hS => ?_)
  have hP : va_P (dC, dI) pcl ([(hx9, .inr (4, [.ref q5, .ref q16, .ref q31, .ref q46, .ref q61, .int 0, .int 0, .int 0, .int 0, .int 0, .int 0])), (q5, .inr (1, [.int 0, .int 0, .ref q7_9, .ref q15_9, .ref q23_9])), (q7_9, .inl (cI, 18, .inl (fun _ => 0))), (q15_9, .inl (cI, 18, .inl (fun _ => 0))), (q23_9, .inl (cI, 18, .inl (fun _ => 0))), (q16, .inr (2, [.ref q5, .ref q7_24, .ref q15_24, .int 0, .int 0, .ref q23_24])), (q7_24, .inl (cI, 10, .inl (fun _ => 0))), (q15_24, .inl (cI, 18, .inl (fun _ => 0))), (q23_24, .inl (cI, 10, .inl (fun _ => 0))), (q31, .inr (2, [.ref q5, .ref q7_39, .ref q15_39, .int 0, .int 0, .ref q23_39])), (q7_39, .inl (cI, 10, .inl (fun _ => 0))), (q15_39, .inl (cI, 18, .inl (fun _ => 0))), (q23_39, .inl (cI, 10, .inl (fun _ => 0))), (q46, .inr (0, [.ref q5, .ref q7_54, .ref q15_54, .int 0, .int 0, .ref q25_54, .ref q35_54, .ref q43_54, .int 0, .int 0, .int 0, .int 0, .int 0, .ref q51_54, .ref q59_54, .int 0, .ref q67_54])), (q7_54, .inl (cI, 10, .inl (fun _ => 0))), (q15_54, .inl (cI, 10, .inl (fun _ => 0))), (q25_54, .inl (cQ, 18, .inr (.inr (.inr (.inr (fun i9 => if i9 < 18 then some (r9_54 i9) else none)))))), (q35_54, .inl (cI, 18, .inl (fun _ => 0))), (q43_54, .inl (cI, 18, .inl (fun _ => 0))), (q51_54, .inl (cI, 10, .inl (fun _ => 0))), (q59_54, .inl (cI, 10, .inl (fun _ => 0))), (q67_54, .inl (cI, 10, .inl (fun _ => 0))), (q61, .inr (3, [.ref q5, .int 0, .long 0, .ref q7_69])), (q7_69, .inl (cL, 18, .inr (.inl (fun _ => 0))))] ++ wkR r9_54 cI (fun _ _ => 0)) H := hP
  have hD : va_D A ([(hx9, .inr (4, [.ref q5, .ref q16, .ref q31, .ref q46, .ref q61, .int 0, .int 0, .int 0, .int 0, .int 0, .int 0])), (q5, .inr (1, [.int 0, .int 0, .ref q7_9, .ref q15_9, .ref q23_9])), (q7_9, .inl (cI, 18, .inl (fun _ => 0))), (q15_9, .inl (cI, 18, .inl (fun _ => 0))), (q23_9, .inl (cI, 18, .inl (fun _ => 0))), (q16, .inr (2, [.ref q5, .ref q7_24, .ref q15_24, .int 0, .int 0, .ref q23_24])), (q7_24, .inl (cI, 10, .inl (fun _ => 0))), (q15_24, .inl (cI, 18, .inl (fun _ => 0))), (q23_24, .inl (cI, 10, .inl (fun _ => 0))), (q31, .inr (2, [.ref q5, .ref q7_39, .ref q15_39, .int 0, .int 0, .ref q23_39])), (q7_39, .inl (cI, 10, .inl (fun _ => 0))), (q15_39, .inl (cI, 18, .inl (fun _ => 0))), (q23_39, .inl (cI, 10, .inl (fun _ => 0))), (q46, .inr (0, [.ref q5, .ref q7_54, .ref q15_54, .int 0, .int 0, .ref q25_54, .ref q35_54, .ref q43_54, .int 0, .int 0, .int 0, .int 0, .int 0, .ref q51_54, .ref q59_54, .int 0, .ref q67_54])), (q7_54, .inl (cI, 10, .inl (fun _ => 0))), (q15_54, .inl (cI, 10, .inl (fun _ => 0))), (q25_54, .inl (cQ, 18, .inr (.inr (.inr (.inr (fun i9 => if i9 < 18 then some (r9_54 i9) else none)))))), (q35_54, .inl (cI, 18, .inl (fun _ => 0))), (q43_54, .inl (cI, 18, .inl (fun _ => 0))), (q51_54, .inl (cI, 10, .inl (fun _ => 0))), (q59_54, .inl (cI, 10, .inl (fun _ => 0))), (q67_54, .inl (cI, 10, .inl (fun _ => 0))), (q61, .inr (3, [.ref q5, .int 0, .long 0, .ref q7_69])), (q7_69, .inl (cL, 18, .inr (.inl (fun _ => 0))))] ++ wkR r9_54 cI (fun _ _ => 0)) := hD
  refine W.widen (k := 41) (n := 470) (Nat.le_of_ble_eq_true rfl) (Nat.le_of_ble_eq_true rfl) ?_
  exact hret (q5, q7_9, q15_9, q23_9, q16, q7_24, q15_24, q23_24, q31, q7_39, q15_39, q23_39, q46, q7_54, q15_54, q25_54, r9_54, q35_54, q43_54, q51_54, q59_54, q67_54, q61, q7_69) _ H locs _ d_X_init_75 hP hD hS
