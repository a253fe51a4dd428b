theorem d_X_forgetAll_0 : decode k_X_forgetAll 0 = .ok (.aload_n 0, 1) := by decide +kernel
theorem d_X_forgetAll_1 : decode k_X_forgetAll 1 = .ok (.iconst 0, 1) := by decide +kernel
theorem d_X_forgetAll_2 : decode k_X_forgetAll 2 = .ok (.putfield 137, 3) := by decide +kernel
theorem d_X_forgetAll_5 : decode k_X_forgetAll 5 = .ok (.aload_n 0, 1) := by decide +kernel
theorem d_X_forgetAll_6 : decode k_X_forgetAll 6 = .ok (.iconst 0, 1) := by decide +kernel
theorem d_X_forgetAll_7 : decode k_X_forgetAll 7 = .ok (.putfield 140, 3) := by decide +kernel
theorem d_X_forgetAll_10 : decode k_X_forgetAll 10 = .ok (.aload_n 0, 1) := by decide +kernel
theorem d_X_forgetAll_11 : decode k_X_forgetAll 11 = .ok (.iconst 0, 1) := by decide +kernel
theorem d_X_forgetAll_12 : decode k_X_forgetAll 12 = .ok (.putfield 69, 3) := by decide +kernel
theorem d_X_forgetAll_15 : decode k_X_forgetAll 15 = .ok (.aload_n 0, 1) := by decide +kernel
theorem d_X_forgetAll_16 : decode k_X_forgetAll 16 = .ok (.iconst 0, 1) := by decide +kernel
theorem d_X_forgetAll_17 : decode k_X_forgetAll 17 = .ok (.putfield 143, 3) := by decide +kernel
theorem d_X_forgetAll_20 : decode k_X_forgetAll 20 = .ok (.return_, 1) := by decide +kernel
abbrev rm_X_forgetAll : Room := { frames := 0, cells := 0, slots := 0, locals := 0 }
theorem hd_X_forgetAll : y_X_forgetAll.cls = n_X ∧ y_X_forgetAll.cls ≠ "java/lang/invoke/MethodHandle" ∧ y_X_forgetAll.cls ≠ "java/lang/invoke/VarHandle" ∧ (parseMethodDescriptor y_X_forgetAll.desc).map (fun d => d.parameters.length) = some 0 := by decide +kernel
set_option maxHeartbeats 4000000 in
set_option maxRecDepth 100000 in
theorem c_X_forgetAll (l : Launch) (dC : Nat → ClassId) (dI : Nat → Nat → Nat) (hg : Nat) (hx9 : Nat) (hp : Nat) (hp2 : Nat) (hd : Nat) (hs : Nat) (pk : Bool) (tk : Bool) (sk9 : Bool) (wk : Bool) (tg : Int32) (ws9 : Int32) (sz : Nat) : Met l y_X_forgetAll (.code y_X_forgetAll k_X_forgetAll 1 none :: gw) rm_X_forgetAll (rwP [.ref hx9] (dC, dI) [(hx9, .inr (4, [.ref hg, .ref hp, .ref hp2, .ref hd, .ref hs, .int (bI pk), .int (bI tk), .int (bI sk9), .int (bI wk), .int tg, .int ws9]))] [] sz) (va_Qv (fun _ : Unit => True) (rwB (dC, dI) [(hx9, .inr (4, [.ref hg, .ref hp, .ref hp2, .ref hd, .ref hs, .int (bI false), .int (bI false), .int (bI false), .int (bI false), .int tg, .int ws9]))] [] (va_A [(hx9, .inr (4, [.ref hg, .ref hp, .ref hp2, .ref hd, .ref hs, .int (bI pk), .int (bI tk), .int (bI sk9), .int (bI wk), .int tg, .int ws9]))] sz)) (va_A [(hx9, .inr (4, [.ref hg, .ref hp, .ref hp2, .ref hd, .ref hs, .int (bI pk), .int (bI tk), .int (bI sk9), .int (bI wk), .int tg, .int ws9]))] sz)) 0 0 (va_A [(hx9, .inr (4, [.ref hg, .ref hp, .ref hp2, .ref hd, .ref hs, .int (bI pk), .int (bI tk), .int (bI sk9), .int (bI wk), .int tg, .int ws9]))] sz) := by
  refine rw_met (by decide) ⟨rfl, rfl⟩ (Nat.le_of_ble_eq_true rfl) ?_
  intro p e s m args below meth c Q A ls Sx hP hK hD hA hl hret
  have hx := Sx.1
  have hb := Sx.2.1
  have hl : lv_has ls 1 [(0, .ref hx9)] := hl
  have hS : va_S A s.heap s.heap [] := va_S.rf
  obtain ⟨H, hH⟩ : ∃ H, H = s.heap := ⟨_, rfl⟩
  obtain ⟨locs, hlo⟩ : ∃ locs : List Loc, locs = [] := ⟨_, rfl⟩
  rw [← hlo]
  rw [← hlo] at hS
  have hP : va_P (dC, dI) pcl [(hx9, .inr (4, [.ref hg, .ref hp, .ref hp2, .ref hd, .ref hs, .int (bI pk), .int (bI tk), .int (bI sk9), .int (bI wk), .int tg, .int ws9]))] H := by rw [hH]; exact hP
  have hS : va_S A s.heap H locs := by rw [hH]; exact hS
  suffices hgo : W p l e rm_X_forgetAll s m args below meth c H locs 0 0 Q (F0 m 0 ls []) by rw [hH] at hgo; exact hgo
  refine lv_aload_n hx hb d_X_forgetAll_0 rfl (lv_at hl 0 rfl) ?_
  refine lv_iconst (v := 0) hx hb d_X_forgetAll_1 (by decide) ?_
  refine g_put Sx gf_X fk_X fn_X hK hP hD hS 0 rfl rfl 5 (by decide) gm_186 rfl rfl rfl (Nat.le_of_ble_eq_true rfl) d_X_forgetAll_2 (fun H locs hP hD hS => ?_)
  have hP : va_P (dC, dI) pcl [(hx9, .inr (4, [.ref hg, .ref hp, .ref hp2, .ref hd, .ref hs, .int 0, .int (bI tk), .int (bI sk9), .int (bI wk), .int tg, .int ws9]))] H := hP
  have hD : va_D A [(hx9, .inr (4, [.ref hg, .ref hp, .ref hp2, .ref hd, .ref hs, .int 0, .int (bI tk), .int (bI sk9), .int (bI wk), .int tg, .int ws9]))] := hD
  refine lv_aload_n hx hb d_X_forgetAll_5 rfl (lv_at hl 0 rfl) ?_
  refine lv_iconst (v := 0) hx hb d_X_forgetAll_6 (by decide) ?_
  refine g_put Sx gf_X fk_X fn_X hK hP hD hS 0 rfl rfl 6 (by decide) gm_187 rfl rfl rfl (Nat.le_of_ble_eq_true rfl) d_X_forgetAll_7 (fun H locs hP hD hS => ?_)
  have hP : va_P (dC, dI) pcl [(hx9, .inr (4, [.ref hg, .ref hp, .ref hp2, .ref hd, .ref hs, .int 0, .int 0, .int (bI sk9), .int (bI wk), .int tg, .int ws9]))] H := hP
  have hD : va_D A [(hx9, .inr (4, [.ref hg, .ref hp, .ref hp2, .ref hd, .ref hs, .int 0, .int 0, .int (bI sk9), .int (bI wk), .int tg, .int ws9]))] := hD
  refine lv_aload_n hx hb d_X_forgetAll_10 rfl (lv_at hl 0 rfl) ?_
  refine lv_iconst (v := 0) hx hb d_X_forgetAll_11 (by decide) ?_
  refine g_put Sx gf_X fk_X fn_X hK hP hD hS 0 rfl rfl 7 (by decide) gm_188 rfl rfl rfl (Nat.le_of_ble_eq_true rfl) d_X_forgetAll_12 (fun H locs hP hD hS => ?_)
  have hP : va_P (dC, dI) pcl [(hx9, .inr (4, [.ref hg, .ref hp, .ref hp2, .ref hd, .ref hs, .int 0, .int 0, .int 0, .int (bI wk), .int tg, .int ws9]))] H := hP
  have hD : va_D A [(hx9, .inr (4, [.ref hg, .ref hp, .ref hp2, .ref hd, .ref hs, .int 0, .int 0, .int 0, .int (bI wk), .int tg, .int ws9]))] := hD
  refine lv_aload_n hx hb d_X_forgetAll_15 rfl (lv_at hl 0 rfl) ?_
  refine lv_iconst (v := 0) hx hb d_X_forgetAll_16 (by decide) ?_
  refine g_put Sx gf_X fk_X fn_X hK hP hD hS 0 rfl rfl 8 (by decide) gm_189 rfl rfl rfl (Nat.le_of_ble_eq_true rfl) d_X_forgetAll_17 (fun H locs hP hD hS => ?_)
  have hP : va_P (dC, dI) pcl [(hx9, .inr (4, [.ref hg, .ref hp, .ref hp2, .ref hd, .ref hs, .int 0, .int 0, .int 0, .int 0, .int tg, .int ws9]))] H := hP
  have hD : va_D A [(hx9, .inr (4, [.ref hg, .ref hp, .ref hp2, .ref hd, .ref hs, .int 0, .int 0, .int 0, .int 0, .int tg, .int ws9]))] := hD
  exact hret _ H locs _ d_X_forgetAll_20 hP hD hS
theorem d_X_begin_0 : decode k_X_begin 0 = .ok (.iload_n 1, 1) := by decide +kernel
theorem d_X_begin_1 : decode k_X_begin 1 = .ok (.ifCond .lt 9, 3) := by decide +kernel
theorem d_X_begin_4 : decode k_X_begin 4 = .ok (.iload_n 1, 1) := by decide +kernel
theorem d_X_begin_5 : decode k_X_begin 5 = .ok (.bipush 10, 2) := by decide +kernel
theorem d_X_begin_7 : decode k_X_begin 7 = .ok (.if_icmp .le 5, 3) := by decide +kernel
theorem d_X_begin_10 : decode k_X_begin 10 = .ok (.iconst 0, 1) := by decide +kernel
theorem d_X_begin_11 : decode k_X_begin 11 = .ok (.ireturn, 1) := by decide +kernel
theorem d_X_begin_12 : decode k_X_begin 12 = .ok (.aload_n 0, 1) := by decide +kernel
theorem d_X_begin_13 : decode k_X_begin 13 = .ok (.getfield 10, 3) := by decide +kernel
theorem d_X_begin_16 : decode k_X_begin 16 = .ok (.iload_n 1, 1) := by decide +kernel
theorem d_X_begin_17 : decode k_X_begin 17 = .ok (.putfield 42, 3) := by decide +kernel
theorem d_X_begin_20 : decode k_X_begin 20 = .ok (.aload_n 0, 1) := by decide +kernel
theorem d_X_begin_21 : decode k_X_begin 21 = .ok (.getfield 10, 3) := by decide +kernel
theorem d_X_begin_24 : decode k_X_begin 24 = .ok (.iconst 0, 1) := by decide +kernel
theorem d_X_begin_25 : decode k_X_begin 25 = .ok (.putfield 46, 3) := by decide +kernel
theorem d_X_begin_28 : decode k_X_begin 28 = .ok (.aload_n 0, 1) := by decide +kernel
theorem d_X_begin_29 : decode k_X_begin 29 = .ok (.invokevirtual 49, 3) := by decide +kernel
theorem d_X_begin_32 : decode k_X_begin 32 = .ok (.iconst 1, 1) := by decide +kernel
theorem d_X_begin_33 : decode k_X_begin 33 = .ok (.ireturn, 1) := by decide +kernel
abbrev rm_X_begin : Room := { frames := 1, cells := 0, slots := 0, locals := 20 }
theorem hd_X_begin : y_X_begin.cls = n_X ∧ y_X_begin.cls ≠ "java/lang/invoke/MethodHandle" ∧ y_X_begin.cls ≠ "java/lang/invoke/VarHandle" ∧ (parseMethodDescriptor y_X_begin.desc).map (fun d => d.parameters.length) = some 1 := by decide +kernel
set_option maxHeartbeats 4000000 in
set_option maxRecDepth 100000 in
theorem c_X_begin_ok (l : Launch) (dC : Nat → ClassId) (dI : Nat → Nat → Nat) (n : Nat) (k : Nat) (F : Nat → Nat) (S : Nat → Nat) (w : Nat → Int32) (hg : Nat) (g1 : Nat) (g2 : Nat) (g3 : Nat) (cI : ClassId) (hx9 : Nat) (hp : Nat) (hp2 : Nat) (hd : Nat) (hs : Nat) (pk : Bool) (tk : Bool) (sk9 : Bool) (wk : Bool) (tg : Int32) (ws9 : Int32) (n0 : Nat) (sz : Nat) (hn0 : n0 ≤ 10) : Met l y_X_begin (.code y_X_begin k_X_begin 2 (.some FieldType.boolean) :: gw) rm_X_begin (rwP [.ref hx9, .int (nI n0)] (dC, dI) [(hx9, .inr (4, [.ref hg, .ref hp, .ref hp2, .ref hd, .ref hs, .int (bI pk), .int (bI tk), .int (bI sk9), .int (bI wk), .int tg, .int ws9])), (hg, .inr (1, [.int (nI n), .int (nI k), .ref g1, .ref g2, .ref g3])), (g1, .inl (cI, 18, .inl (fun i9 => nI (F i9)))), (g2, .inl (cI, 18, .inl (fun i9 => nI (S i9)))), (g3, .inl (cI, 18, .inl w))] [(cI, .int)] sz) (va_Qi (fun (r : Int32) (_ : Unit) => r = bI true) (rwB (dC, dI) [(hx9, .inr (4, [.ref hg, .ref hp, .ref hp2, .ref hd, .ref hs, .int (bI false), .int (bI false), .int (bI false), .int (bI false), .int tg, .int ws9])), (hg, .inr (1, [.int (nI n0), .int (nI 0), .ref g1, .ref g2, .ref g3])), (g1, .inl (cI, 18, .inl (fun i9 => nI (F i9)))), (g2, .inl (cI, 18, .inl (fun i9 => nI (S i9)))), (g3, .inl (cI, 18, .inl w))] [(cI, .int)] (va_A [(hx9, .inr (4, [.ref hg, .ref hp, .ref hp2, .ref hd, .ref hs, .int (bI pk), .int (bI tk), .int (bI sk9), .int (bI wk), .int tg, .int ws9])), (hg, .inr (1, [.int (nI n), .int (nI k), .ref g1, .ref g2, .ref g3])), (g1, .inl (cI, 18, .inl (fun i9 => nI (F i9)))), (g2, .inl (cI, 18, .inl (fun i9 => nI (S i9)))), (g3, .inl (cI, 18, .inl w))] sz)) (va_A [(hx9, .inr (4, [.ref hg, .ref hp, .ref hp2, .ref hd, .ref hs, .int (bI pk), .int (bI tk), .int (bI sk9), .int (bI wk), .int tg, .int ws9])), (hg, .inr (1, [.int (nI n), .int (nI k), .ref g1, .ref g2, .ref g3])), (g1, .inl (cI, 18, .inl (fun i9 => nI (F i9)))), (g2, .inl (cI, 18, .inl (fun i9 => nI (S i9)))), (g3, .inl (cI, 18, .inl w))] sz)) 0 0 (va_A [(hx9, .inr (4, [.ref hg, .ref hp, .ref hp2, .ref hd, .ref hs, .int (bI pk), .int (bI tk), .int (bI sk9), .int (bI wk), .int tg, .int ws9])), (hg, .inr (1, [.int (nI n), .int (nI k), .ref g1, .ref g2, .ref g3])), (g1, .inl (cI, 18, .inl (fun i9 => nI (F i9)))), (g2, .inl (cI, 18, .inl (fun i9 => nI (S i9)))), (g3, .inl (cI, 18, .inl w))] sz) := by
  refine rw_metI (by decide) ⟨rfl, rfl⟩ (bI_nar _) (Nat.le_of_ble_eq_true rfl) ?_
  intro p e s m args below meth c Q A ls Sx hP hK hD hA hl hret
  have hx := Sx.1
  have hb := Sx.2.1
  have hl : lv_has ls 2 [(0, .ref hx9), (1, .int (nI n0))] := hl
  have hS : va_S A s.heap s.heap [] := va_S.rf
  obtain ⟨H, hH⟩ : ∃ H, H = s.heap := ⟨_, rfl⟩
  obtain ⟨locs, hlo⟩ : ∃ locs : List Loc, locs = [] := ⟨_, rfl⟩
  rw [← hlo]
  rw [← hlo] at hS
  have hP : va_P (dC, dI) pcl [(hx9, .inr (4, [.ref hg, .ref hp, .ref hp2, .ref hd, .ref hs, .int (bI pk), .int (bI tk), .int (bI sk9), .int (bI wk), .int tg, .int ws9])), (hg, .inr (1, [.int (nI n), .int (nI k), .ref g1, .ref g2, .ref g3])), (g1, .inl (cI, 18, .inl (fun i9 => nI (F i9)))), (g2, .inl (cI, 18, .inl (fun i9 => nI (S i9)))), (g3, .inl (cI, 18, .inl w))] H := by rw [hH]; exact hP
  have hS : va_S A s.heap H locs := by rw [hH]; exact hS
  suffices hgo : W p l e rm_X_begin s m args below meth c H locs 0 0 Q (F0 m 0 ls []) by rw [hH] at hgo; exact hgo
  refine lv_iload_n hx hb d_X_begin_0 rfl (lv_at hl 1 rfl) ?_
  refine lv_if_lt hx hb d_X_begin_1 (tgt := 10) rfl (fun q1 => ?_) (fun q1 => ?_)
  · skip
    exact absurd q1 (nI_pos (by omega))
  · skip
    refine lv_iload_n hx hb d_X_begin_4 rfl (lv_at hl 1 rfl) ?_
    refine lv_bipush (v := 10) hx hb d_X_begin_5 (by decide) ?_
    refine lv_icmp_le hx hb d_X_begin_7 (tgt := 12) rfl (fun q2 => ?_) (fun q2 => ?_)
    · skip
      refine lv_aload_n hx hb d_X_begin_12 rfl (lv_at hl 0 rfl) ?_
      refine g_get Sx gf_X hK hP 0 rfl rfl 0 (by decide) gm_181 rfl d_X_begin_13 ?_
      refine lv_iload_n hx hb d_X_begin_16 rfl (lv_at hl 1 rfl) ?_
      refine g_put Sx gf_G fk_G fn_G hK hP hD hS 1 rfl rfl 0 (by decide) gm_75 rfl rfl rfl (Nat.le_of_ble_eq_true rfl) d_X_begin_17 (fun H locs hP hD hS => ?_)
      have hP : va_P (dC, dI) pcl [(hx9, .inr (4, [.ref hg, .ref hp, .ref hp2, .ref hd, .ref hs, .int (bI pk), .int (bI tk), .int (bI sk9), .int (bI wk), .int tg, .int ws9])), (hg, .inr (1, [.int (nI n0), .int (nI k), .ref g1, .ref g2, .ref g3])), (g1, .inl (cI, 18, .inl (fun i9 => nI (F i9)))), (g2, .inl (cI, 18, .inl (fun i9 => nI (S i9)))), (g3, .inl (cI, 18, .inl w))] H := hP
      have hD : va_D A [(hx9, .inr (4, [.ref hg, .ref hp, .ref hp2, .ref hd, .ref hs, .int (bI pk), .int (bI tk), .int (bI sk9), .int (bI wk), .int tg, .int ws9])), (hg, .inr (1, [.int (nI n0), .int (nI k), .ref g1, .ref g2, .ref g3])), (g1, .inl (cI, 18, .inl (fun i9 => nI (F i9)))), (g2, .inl (cI, 18, .inl (fun i9 => nI (S i9)))), (g3, .inl (cI, 18, .inl w))] := hD
      refine lv_aload_n hx hb d_X_begin_20 rfl (lv_at hl 0 rfl) ?_
      refine g_get Sx gf_X hK hP 0 rfl rfl 0 (by decide) gm_181 rfl d_X_begin_21 ?_
      refine lv_iconst (v := 0) hx hb d_X_begin_24 (by decide) ?_
      refine g_put Sx gf_G fk_G fn_G hK hP hD hS 1 rfl rfl 1 (by decide) gm_79 rfl rfl rfl (Nat.le_of_ble_eq_true rfl) d_X_begin_25 (fun H locs hP hD hS => ?_)
      have hP : va_P (dC, dI) pcl [(hx9, .inr (4, [.ref hg, .ref hp, .ref hp2, .ref hd, .ref hs, .int (bI pk), .int (bI tk), .int (bI sk9), .int (bI wk), .int tg, .int ws9])), (hg, .inr (1, [.int (nI n0), .int 0, .ref g1, .ref g2, .ref g3])), (g1, .inl (cI, 18, .inl (fun i9 => nI (F i9)))), (g2, .inl (cI, 18, .inl (fun i9 => nI (S i9)))), (g3, .inl (cI, 18, .inl w))] H := hP
      have hD : va_D A [(hx9, .inr (4, [.ref hg, .ref hp, .ref hp2, .ref hd, .ref hs, .int (bI pk), .int (bI tk), .int (bI sk9), .int (bI wk), .int tg, .int ws9])), (hg, .inr (1, [.int (nI n0), .int 0, .ref g1, .ref g2, .ref g3])), (g1, .inl (cI, 18, .inl (fun i9 => nI (F i9)))), (g2, .inl (cI, 18, .inl (fun i9 => nI (S i9)))), (g3, .inl (cI, 18, .inl w))] := hD
      refine lv_aload_n hx hb d_X_begin_28 rfl (lv_at hl 0 rfl) ?_
      refine rw_V (As := []) (rest := []) (wr := [(hg, .inr (1, [.int (nI n0), .int 0, .ref g1, .ref g2, .ref g3])), (g1, .inl (cI, 18, .inl (fun i9 => nI (F i9)))), (g2, .inl (cI, 18, .inl (fun i9 => nI (S i9)))), (g3, .inl (cI, 18, .inl w))]) Sx (c_X_forgetAll l dC dI hg hx9 hp hp2 hd hs pk tk sk9 wk tg ws9 H.size) (gw_callV gm_207 gm_208 gm_0 gm_51 gm_209) hd_X_forgetAll ⟨rfl, rfl⟩ ⟨Nat.le_of_ble_eq_true rfl, Nat.le_of_ble_eq_true rfl⟩ hP hD hS hA (hK.sub (tys' := []) [] rfl) [0] [1, 2, 3, 4] rfl rfl (by decide) (by decide) (by decide) rfl 0 rfl rfl hl.1 rfl (Nat.le_of_ble_eq_true rfl) d_X_begin_29 ⟨Nat.zero_le _, Nat.zero_le _⟩ (fun H locs hP hD hS => ?_)
      have hP : va_P (dC, dI) pcl [(hg, .inr (1, [.int (nI n0), .int 0, .ref g1, .ref g2, .ref g3])), (g1, .inl (cI, 18, .inl (fun i9 => nI (F i9)))), (g2, .inl (cI, 18, .inl (fun i9 => nI (S i9)))), (g3, .inl (cI, 18, .inl w)), (hx9, .inr (4, [.ref hg, .ref hp, .ref hp2, .ref hd, .ref hs, .int (bI false), .int (bI false), .int (bI false), .int (bI false), .int tg, .int ws9]))] H := hP
      have hD : va_D A [(hg, .inr (1, [.int (nI n0), .int 0, .ref g1, .ref g2, .ref g3])), (g1, .inl (cI, 18, .inl (fun i9 => nI (F i9)))), (g2, .inl (cI, 18, .inl (fun i9 => nI (S i9)))), (g3, .inl (cI, 18, .inl w)), (hx9, .inr (4, [.ref hg, .ref hp, .ref hp2, .ref hd, .ref hs, .int (bI false), .int (bI false), .int (bI false), .int (bI false), .int tg, .int ws9]))] := hD
      refine lv_iconst (v := 1) hx hb d_X_begin_32 (by decide) ?_
      rw [show (1 : Int32) = (bI true) from rfl]
      exact hret _ H locs _ d_X_begin_33 (va_P_map hP [4, 0, 1, 2, 3] rfl) (hD.sub [4, 0, 1, 2, 3] (by decide) rfl) hS
    · skip
      exact absurd (show nI n0 ≤ 10 from nI_le hn0 (by decide)) q2
set_option maxHeartbeats 4000000 in
set_option maxRecDepth 100000 in
theorem c_X_begin_no (l : Launch) (dC : Nat → ClassId) (dI : Nat → Nat → Nat) (n : Nat) (k : Nat) (F : Nat → Nat) (S : Nat → Nat) (w : Nat → Int32) (hg : Nat) (g1 : Nat) (g2 : Nat) (g3 : Nat) (cI : ClassId) (hx9 : Nat) (hp : Nat) (hp2 : Nat) (hd : Nat) (hs : Nat) (pk : Bool) (tk : Bool) (sk9 : Bool) (wk : Bool) (tg : Int32) (ws9 : Int32) (n0 : Int32) (sz : Nat) (hno : n0 < 0 ∨ ¬ n0 ≤ 10) : Met l y_X_begin (.code y_X_begin k_X_begin 2 (.some FieldType.boolean) :: gw) rm_X_begin (rwP [.ref hx9, .int n0] (dC, dI) [(hx9, .inr (4, [.ref hg, .ref hp, .ref hp2, .ref hd, .ref hs, .int (bI pk), .int (bI tk), .int (bI sk9), .int (bI wk), .int tg, .int ws9])), (hg, .inr (1, [.int (nI n), .int (nI k), .ref g1, .ref g2, .ref g3])), (g1, .inl (cI, 18, .inl (fun i9 => nI (F i9)))), (g2, .inl (cI, 18, .inl (fun i9 => nI (S i9)))), (g3, .inl (cI, 18, .inl w))] [(cI, .int)] sz) (va_Qi (fun (r : Int32) (_ : Unit) => r = bI false) (rwB (dC, dI) [(hx9, .inr (4, [.ref hg, .ref hp, .ref hp2, .ref hd, .ref hs, .int (bI pk), .int (bI tk), .int (bI sk9), .int (bI wk), .int tg, .int ws9])), (hg, .inr (1, [.int (nI n), .int (nI k), .ref g1, .ref g2, .ref g3])), (g1, .inl (cI, 18, .inl (fun i9 => nI (F i9)))), (g2, .inl (cI, 18, .inl (fun i9 => nI (S i9)))), (g3, .inl (cI, 18, .inl w))] [(cI, .int)] (va_A [(hx9, .inr (4, [.ref hg, .ref hp, .ref hp2, .ref hd, .ref hs, .int (bI pk), .int (bI tk), .int (bI sk9), .int (bI wk), .int tg, .int ws9])), (hg, .inr (1, [.int (nI n), .int (nI k), .ref g1, .ref g2, .ref g3])), (g1, .inl (cI, 18, .inl (fun i9 => nI (F i9)))), (g2, .inl (cI, 18, .inl (fun i9 => nI (S i9)))), (g3, .inl (cI, 18, .inl w))] sz)) (va_A [(hx9, .inr (4, [.ref hg, .ref hp, .ref hp2, .ref hd, .ref hs, .int (bI pk), .int (bI tk), .int (bI sk9), .int (bI wk), .int tg, .int ws9])), (hg, .inr (1, [.int (nI n), .int (nI k), .ref g1, .ref g2, .ref g3])), (g1, .inl (cI, 18, .inl (fun i9 => nI (F i9)))), (g2, .inl (cI, 18, .inl (fun i9 => nI (S i9)))), (g3, .inl (cI, 18, .inl w))] sz)) 0 0 (va_A [(hx9, .inr (4, [.ref hg, .ref hp, .ref hp2, .ref hd, .ref hs, .int (bI pk), .int (bI tk), .int (bI sk9), .int (bI wk), .int tg, .int ws9])), (hg, .inr (1, [.int (nI n), .int (nI k), .ref g1, .ref g2, .ref g3])), (g1, .inl (cI, 18, .inl (fun i9 => nI (F i9)))), (g2, .inl (cI, 18, .inl (fun i9 => nI (S i9)))), (g3, .inl (cI, 18, .inl w))] sz) := by
  refine rw_metI (by decide) ⟨rfl, rfl⟩ (bI_nar _) (Nat.le_of_ble_eq_true rfl) ?_
  intro p e s m args below meth c Q A ls Sx hP hK hD hA hl hret
  have hx := Sx.1
  have hb := Sx.2.1
  have hl : lv_has ls 2 [(0, .ref hx9), (1, .int n0)] := hl
  have hS : va_S A s.heap s.heap [] := va_S.rf
  obtain ⟨H, hH⟩ : ∃ H, H = s.heap := ⟨_, rfl⟩
  obtain ⟨locs, hlo⟩ : ∃ locs : List Loc, locs = [] := ⟨_, rfl⟩
  rw [← hlo]
  rw [← hlo] at hS
  have hP : va_P (dC, dI) pcl [(hx9, .inr (4, [.ref hg, .ref hp, .ref hp2, .ref hd, .ref hs, .int (bI pk), .int (bI tk), .int (bI sk9), .int (bI wk), .int tg, .int ws9])), (hg, .inr (1, [.int (nI n), .int (nI k), .ref g1, .ref g2, .ref g3])), (g1, .inl (cI, 18, .inl (fun i9 => nI (F i9)))), (g2, .inl (cI, 18, .inl (fun i9 => nI (S i9)))), (g3, .inl (cI, 18, .inl w))] H := by rw [hH]; exact hP
  have hS : va_S A s.heap H locs := by rw [hH]; exact hS
  suffices hgo : W p l e rm_X_begin s m args below meth c H locs 0 0 Q (F0 m 0 ls []) by rw [hH] at hgo; exact hgo
  refine lv_iload_n hx hb d_X_begin_0 rfl (lv_at hl 1 rfl) ?_
  refine lv_if_lt hx hb d_X_begin_1 (tgt := 10) rfl (fun q1 => ?_) (fun q1 => ?_)
  · skip
    refine lv_iconst (v := 0) hx hb d_X_begin_10 (by decide) ?_
    rw [show (0 : Int32) = (bI false) from rfl]
    exact hret _ H locs _ d_X_begin_11 hP hD hS
  · skip
    refine lv_iload_n hx hb d_X_begin_4 rfl (lv_at hl 1 rfl) ?_
    refine lv_bipush (v := 10) hx hb d_X_begin_5 (by decide) ?_
    refine lv_icmp_le hx hb d_X_begin_7 (tgt := 12) rfl (fun q2 => ?_) (fun q2 => ?_)
    · skip
      exact hno.elim (fun h => absurd h q1) (fun h => absurd q2 h)
    · skip
      refine lv_iconst (v := 0) hx hb d_X_begin_10 (by decide) ?_
      rw [show (0 : Int32) = (bI false) from rfl]
      exact hret _ H locs _ d_X_begin_11 hP hD hS
theorem d_X_add_0 : decode k_X_add 0 = .ok (.aload_n 0, 1) := by decide +kernel
theorem d_X_add_1 : decode k_X_add 1 = .ok (.getfield 10, 3) := by decide +kernel
theorem d_X_add_4 : decode k_X_add 4 = .ok (.iload_n 1, 1) := by decide +kernel
theorem d_X_add_5 : decode k_X_add 5 = .ok (.invokevirtual 52, 3) := by decide +kernel
theorem d_X_add_8 : decode k_X_add 8 = .ok (.ifCond .eq 19, 3) := by decide +kernel
theorem d_X_add_11 : decode k_X_add 11 = .ok (.aload_n 0, 1) := by decide +kernel
theorem d_X_add_12 : decode k_X_add 12 = .ok (.getfield 10, 3) := by decide +kernel
theorem d_X_add_15 : decode k_X_add 15 = .ok (.iload_n 2, 1) := by decide +kernel
theorem d_X_add_16 : decode k_X_add 16 = .ok (.invokevirtual 52, 3) := by decide +kernel
theorem d_X_add_19 : decode k_X_add 19 = .ok (.ifCond .eq 8, 3) := by decide +kernel
theorem d_X_add_22 : decode k_X_add 22 = .ok (.iload_n 1, 1) := by decide +kernel
theorem d_X_add_23 : decode k_X_add 23 = .ok (.iload_n 2, 1) := by decide +kernel
theorem d_X_add_24 : decode k_X_add 24 = .ok (.if_icmp .ne 5, 3) := by decide +kernel
theorem d_X_add_27 : decode k_X_add 27 = .ok (.iconst (-1), 1) := by decide +kernel
theorem d_X_add_28 : decode k_X_add 28 = .ok (.ireturn, 1) := by decide +kernel
theorem d_X_add_29 : decode k_X_add 29 = .ok (.iload_n 3, 1) := by decide +kernel
theorem d_X_add_30 : decode k_X_add 30 = .ok (.ifCond .lt 15, 3) := by decide +kernel
theorem d_X_add_33 : decode k_X_add 33 = .ok (.aload_n 0, 1) := by decide +kernel
theorem d_X_add_34 : decode k_X_add 34 = .ok (.getfield 10, 3) := by decide +kernel
theorem d_X_add_37 : decode k_X_add 37 = .ok (.getfield 46, 3) := by decide +kernel
theorem d_X_add_40 : decode k_X_add 40 = .ok (.bipush 18, 2) := by decide +kernel
theorem d_X_add_42 : decode k_X_add 42 = .ok (.if_icmp .lt 5, 3) := by decide +kernel
theorem d_X_add_45 : decode k_X_add 45 = .ok (.iconst (-1), 1) := by decide +kernel
theorem d_X_add_46 : decode k_X_add 46 = .ok (.ireturn, 1) := by decide +kernel
theorem d_X_add_47 : decode k_X_add 47 = .ok (.aload_n 0, 1) := by decide +kernel
theorem d_X_add_48 : decode k_X_add 48 = .ok (.getfield 10, 3) := by decide +kernel
theorem d_X_add_51 : decode k_X_add 51 = .ok (.getfield 46, 3) := by decide +kernel
theorem d_X_add_54 : decode k_X_add 54 = .ok (.istore 4, 2) := by decide +kernel
theorem d_X_add_56 : decode k_X_add 56 = .ok (.aload_n 0, 1) := by decide +kernel
theorem d_X_add_57 : decode k_X_add 57 = .ok (.getfield 10, 3) := by decide +kernel
theorem d_X_add_60 : decode k_X_add 60 = .ok (.getfield 56, 3) := by decide +kernel
theorem d_X_add_63 : decode k_X_add 63 = .ok (.iload 4, 2) := by decide +kernel
theorem d_X_add_65 : decode k_X_add 65 = .ok (.iload_n 1, 1) := by decide +kernel
theorem d_X_add_66 : decode k_X_add 66 = .ok (.iastore, 1) := by decide +kernel
theorem d_X_add_67 : decode k_X_add 67 = .ok (.aload_n 0, 1) := by decide +kernel
theorem d_X_add_68 : decode k_X_add 68 = .ok (.getfield 10, 3) := by decide +kernel
theorem d_X_add_71 : decode k_X_add 71 = .ok (.getfield 60, 3) := by decide +kernel
theorem d_X_add_74 : decode k_X_add 74 = .ok (.iload 4, 2) := by decide +kernel
theorem d_X_add_76 : decode k_X_add 76 = .ok (.iload_n 2, 1) := by decide +kernel
theorem d_X_add_77 : decode k_X_add 77 = .ok (.iastore, 1) := by decide +kernel
theorem d_X_add_78 : decode k_X_add 78 = .ok (.aload_n 0, 1) := by decide +kernel
theorem d_X_add_79 : decode k_X_add 79 = .ok (.getfield 10, 3) := by decide +kernel
theorem d_X_add_82 : decode k_X_add 82 = .ok (.getfield 63, 3) := by decide +kernel
theorem d_X_add_85 : decode k_X_add 85 = .ok (.iload 4, 2) := by decide +kernel
theorem d_X_add_87 : decode k_X_add 87 = .ok (.iload_n 3, 1) := by decide +kernel
theorem d_X_add_88 : decode k_X_add 88 = .ok (.iastore, 1) := by decide +kernel
theorem d_X_add_89 : decode k_X_add 89 = .ok (.aload_n 0, 1) := by decide +kernel
theorem d_X_add_90 : decode k_X_add 90 = .ok (.getfield 10, 3) := by decide +kernel
theorem d_X_add_93 : decode k_X_add 93 = .ok (.iload 4, 2) := by decide +kernel
theorem d_X_add_95 : decode k_X_add 95 = .ok (.iconst 1, 1) := by decide +kernel
theorem d_X_add_96 : decode k_X_add 96 = .ok (.iadd, 1) := by decide +kernel
theorem d_X_add_97 : decode k_X_add 97 = .ok (.putfield 46, 3) := by decide +kernel
theorem d_X_add_100 : decode k_X_add 100 = .ok (.aload_n 0, 1) := by decide +kernel
theorem d_X_add_101 : decode k_X_add 101 = .ok (.invokevirtual 49, 3) := by decide +kernel
theorem d_X_add_104 : decode k_X_add 104 = .ok (.iload 4, 2) := by decide +kernel
theorem d_X_add_106 : decode k_X_add 106 = .ok (.ireturn, 1) := by decide +kernel
abbrev rm_X_add : Room := { frames := 1, cells := 0, slots := 0, locals := 21 }
theorem hd_X_add : y_X_add.cls = n_X ∧ y_X_add.cls ≠ "java/lang/invoke/MethodHandle" ∧ y_X_add.cls ≠ "java/lang/invoke/VarHandle" ∧ (parseMethodDescriptor y_X_add.desc).map (fun d => d.parameters.length) = some 3 := by decide +kernel
set_option maxHeartbeats 4000000 in
set_option maxRecDepth 100000 in
theorem c_X_add_ok (l : Launch) (dC : Nat → ClassId) (dI : Nat → Nat → Nat) (n : Nat) (k : Nat) (F : Nat → Nat) (S : Nat → Nat) (w : Nat → Int32) (hg : Nat) (g1 : Nat) (g2 : Nat) (g3 : Nat) (cI : ClassId) (hx9 : Nat) (hp : Nat) (hp2 : Nat) (hd : Nat) (hs : Nat) (pk : Bool) (tk : Bool) (sk9 : Bool) (wk : Bool) (tg : Int32) (ws9 : Int32) (u : Nat) (v : Nat) (w0 : Int32) (sz : Nat) (hn : n ≤ 10) (hk : k < 18) (hu : u < n) (hv : v < n) (huv : u ≠ v) (hw : ¬ w0 < 0) : Met l y_X_add (.code y_X_add k_X_add 5 (.some FieldType.int) :: gw) rm_X_add (rwP [.ref hx9, .int (nI u), .int (nI v), .int w0] (dC, dI) [(hx9, .inr (4, [.ref hg, .ref hp, .ref hp2, .ref hd, .ref hs, .int (bI pk), .int (bI tk), .int (bI sk9), .int (bI wk), .int tg, .int ws9])), (hg, .inr (1, [.int (nI n), .int (nI k), .ref g1, .ref g2, .ref g3])), (g1, .inl (cI, 18, .inl (fun i9 => nI (F i9)))), (g2, .inl (cI, 18, .inl (fun i9 => nI (S i9)))), (g3, .inl (cI, 18, .inl w))] [(cI, .int)] sz) (va_Qi (fun (r : Int32) (_ : Unit) => r = nI k) (rwB (dC, dI) [(hx9, .inr (4, [.ref hg, .ref hp, .ref hp2, .ref hd, .ref hs, .int (bI false), .int (bI false), .int (bI false), .int (bI false), .int tg, .int ws9])), (hg, .inr (1, [.int (nI n), .int (nI (k + 1)), .ref g1, .ref g2, .ref g3])), (g1, .inl (cI, 18, .inl (fun i9 => nI ((va_up F k u) i9)))), (g2, .inl (cI, 18, .inl (fun i9 => nI ((va_up S k v) i9)))), (g3, .inl (cI, 18, .inl (upd w k w0)))] [(cI, .int)] (va_A [(hx9, .inr (4, [.ref hg, .ref hp, .ref hp2, .ref hd, .ref hs, .int (bI pk), .int (bI tk), .int (bI sk9), .int (bI wk), .int tg, .int ws9])), (hg, .inr (1, [.int (nI n), .int (nI k), .ref g1, .ref g2, .ref g3])), (g1, .inl (cI, 18, .inl (fun i9 => nI (F i9)))), (g2, .inl (cI, 18, .inl (fun i9 => nI (S i9)))), (g3, .inl (cI, 18, .inl w))] sz)) (va_A [(hx9, .inr (4, [.ref hg, .ref hp, .ref hp2, .ref hd, .ref hs, .int (bI pk), .int (bI tk), .int (bI sk9), .int (bI wk), .int tg, .int ws9])), (hg, .inr (1, [.int (nI n), .int (nI k), .ref g1, .ref g2, .ref g3])), (g1, .inl (cI, 18, .inl (fun i9 => nI (F i9)))), (g2, .inl (cI, 18, .inl (fun i9 => nI (S i9)))), (g3, .inl (cI, 18, .inl w))] sz)) 0 0 (va_A [(hx9, .inr (4, [.ref hg, .ref hp, .ref hp2, .ref hd, .ref hs, .int (bI pk), .int (bI tk), .int (bI sk9), .int (bI wk), .int tg, .int ws9])), (hg, .inr (1, [.int (nI n), .int (nI k), .ref g1, .ref g2, .ref g3])), (g1, .inl (cI, 18, .inl (fun i9 => nI (F i9)))), (g2, .inl (cI, 18, .inl (fun i9 => nI (S i9)))), (g3, .inl (cI, 18, .inl w))] sz) := by
  refine rw_metI (by decide) ⟨rfl, rfl⟩ rfl (Nat.le_of_ble_eq_true rfl) ?_
  intro p e s m args below meth c Q A ls Sx hP hK hD hA hl hret
  have hx := Sx.1
  have hb := Sx.2.1
  have hl : lv_has ls 5 [(0, .ref hx9), (1, .int (nI u)), (2, .int (nI v)), (3, .int w0)] := hl
  have hS : va_S A s.heap s.heap [] := va_S.rf
  obtain ⟨H, hH⟩ : ∃ H, H = s.heap := ⟨_, rfl⟩
  obtain ⟨locs, hlo⟩ : ∃ locs : List Loc, locs = [] := ⟨_, rfl⟩
  rw [← hlo]
  rw [← hlo] at hS
  have hP : va_P (dC, dI) pcl [(hx9, .inr (4, [.ref hg, .ref hp, .ref hp2, .ref hd, .ref hs, .int (bI pk), .int (bI tk), .int (bI sk9), .int (bI wk), .int tg, .int ws9])), (hg, .inr (1, [.int (nI n), .int (nI k), .ref g1, .ref g2, .ref g3])), (g1, .inl (cI, 18, .inl (fun i9 => nI (F i9)))), (g2, .inl (cI, 18, .inl (fun i9 => nI (S i9)))), (g3, .inl (cI, 18, .inl w))] H := by rw [hH]; exact hP
  have hS : va_S A s.heap H locs := by rw [hH]; exact hS
  suffices hgo : W p l e rm_X_add s m args below meth c H locs 0 0 Q (F0 m 0 ls []) by rw [hH] at hgo; exact hgo
  refine lv_aload_n hx hb d_X_add_0 rfl (lv_at hl 0 rfl) ?_
  refine g_get Sx gf_X hK hP 0 rfl rfl 0 (by decide) gm_181 rfl d_X_add_1 ?_
  refine lv_iload_n hx hb d_X_add_4 rfl (lv_at hl 1 rfl) ?_
  refine ro_V (As := [.int (nI u)]) (rest := []) Sx (c_G_hasVertex l dC dI n k F S w hg g1 g2 g3 cI (nI u)) (gw_callV gm_214 gm_215 gm_216 gm_52 gm_217) hd_G_hasVertex ⟨rfl, rfl⟩ ⟨Nat.le_of_ble_eq_true rfl, Nat.le_of_ble_eq_true rfl⟩ (va_P_map hP [1, 2, 3, 4] rfl) (hK.sub (tys' := [(cI, .int)]) [0] rfl) rfl 0 rfl rfl hl.1 rfl (Nat.le_of_ble_eq_true rfl) d_X_add_5 ⟨Nat.zero_le _, Nat.zero_le _⟩ ?_
  refine lv_if_eq hx hb d_X_add_8 (tgt := 27) rfl (fun q1 => ?_) (fun q1 => ?_)
  · have q1 : (ps_in (nI u) (nI n)) = false := bI_0.mp q1
    rw [ps_in_nI hu (by omega)] at q1; cases q1
  · have q1 : (ps_in (nI u) (nI n)) = true := bI_1.mp q1
    refine lv_aload_n hx hb d_X_add_11 rfl (lv_at hl 0 rfl) ?_
    refine g_get Sx gf_X hK hP 0 rfl rfl 0 (by decide) gm_181 rfl d_X_add_12 ?_
    refine lv_iload_n hx hb d_X_add_15 rfl (lv_at hl 2 rfl) ?_
    refine ro_V (As := [.int (nI v)]) (rest := []) Sx (c_G_hasVertex l dC dI n k F S w hg g1 g2 g3 cI (nI v)) (gw_callV gm_214 gm_215 gm_216 gm_52 gm_217) hd_G_hasVertex ⟨rfl, rfl⟩ ⟨Nat.le_of_ble_eq_true rfl, Nat.le_of_ble_eq_true rfl⟩ (va_P_map hP [1, 2, 3, 4] rfl) (hK.sub (tys' := [(cI, .int)]) [0] rfl) rfl 0 rfl rfl hl.1 rfl (Nat.le_of_ble_eq_true rfl) d_X_add_16 ⟨Nat.zero_le _, Nat.zero_le _⟩ ?_
    refine lv_if_eq hx hb d_X_add_19 (tgt := 27) rfl (fun q2 => ?_) (fun q2 => ?_)
    · have q2 : (ps_in (nI v) (nI n)) = false := bI_0.mp q2
      rw [ps_in_nI hv (by omega)] at q2; cases q2
    · have q2 : (ps_in (nI v) (nI n)) = true := bI_1.mp q2
      refine lv_iload_n hx hb d_X_add_22 rfl (lv_at hl 1 rfl) ?_
      refine lv_iload_n hx hb d_X_add_23 rfl (lv_at hl 2 rfl) ?_
      refine lv_icmp_ne hx hb d_X_add_24 (tgt := 29) rfl (fun q3 => ?_) (fun q3 => ?_)
      · skip
        refine lv_iload_n hx hb d_X_add_29 rfl (lv_at hl 3 rfl) ?_
        refine lv_if_lt hx hb d_X_add_30 (tgt := 45) rfl (fun q4 => ?_) (fun q4 => ?_)
        · skip
          exact absurd q4 hw
        · skip
          refine lv_aload_n hx hb d_X_add_33 rfl (lv_at hl 0 rfl) ?_
          refine g_get Sx gf_X hK hP 0 rfl rfl 0 (by decide) gm_181 rfl d_X_add_34 ?_
          refine g_get Sx gf_G hK hP 1 rfl rfl 1 (by decide) gm_79 rfl d_X_add_37 ?_
          refine lv_bipush (v := 18) hx hb d_X_add_40 (by decide) ?_
          refine lv_icmp_lt hx hb d_X_add_42 (tgt := 47) rfl (fun q5 => ?_) (fun q5 => ?_)
          · skip
            refine lv_aload_n hx hb d_X_add_47 rfl (lv_at hl 0 rfl) ?_
            refine g_get Sx gf_X hK hP 0 rfl rfl 0 (by decide) gm_181 rfl d_X_add_48 ?_
            refine g_get Sx gf_G hK hP 1 rfl rfl 1 (by decide) gm_79 rfl d_X_add_51 ?_
            refine lv_istore hx hb d_X_add_54 hl (Nat.le_of_ble_eq_true rfl) rfl (fun ls hl => ?_)
            have hl : lv_has ls 5 [(4, .int (nI k)), (0, .ref hx9), (1, .int (nI u)), (2, .int (nI v)), (3, .int w0)] := hl
            refine lv_aload_n hx hb d_X_add_56 rfl (lv_at hl 1 rfl) ?_
            refine g_get Sx gf_X hK hP 0 rfl rfl 0 (by decide) gm_181 rfl d_X_add_57 ?_
            refine g_get Sx gf_G hK hP 1 rfl rfl 2 (by decide) gm_85 rfl d_X_add_60 ?_
            refine lv_iload hx hb d_X_add_63 (lv_at hl 0 rfl) ?_
            refine lv_iload_n hx hb d_X_add_65 rfl (lv_at hl 2 rfl) ?_
            refine g_istN (j := k) Sx hK hP hD hS 2 0 rfl rfl (by omega) (by decide) d_X_add_66 (fun H locs hP hD hS => ?_)
            have hP : va_P (dC, dI) pcl [(hx9, .inr (4, [.ref hg, .ref hp, .ref hp2, .ref hd, .ref hs, .int (bI pk), .int (bI tk), .int (bI sk9), .int (bI wk), .int tg, .int ws9])), (hg, .inr (1, [.int (nI n), .int (nI k), .ref g1, .ref g2, .ref g3])), (g1, .inl (cI, 18, .inl (fun i9 => nI ((va_up F k u) i9)))), (g2, .inl (cI, 18, .inl (fun i9 => nI (S i9)))), (g3, .inl (cI, 18, .inl w))] H := hP
            have hD : va_D A [(hx9, .inr (4, [.ref hg, .ref hp, .ref hp2, .ref hd, .ref hs, .int (bI pk), .int (bI tk), .int (bI sk9), .int (bI wk), .int tg, .int ws9])), (hg, .inr (1, [.int (nI n), .int (nI k), .ref g1, .ref g2, .ref g3])), (g1, .inl (cI, 18, .inl (fun i9 => nI ((va_up F k u) i9)))), (g2, .inl (cI, 18, .inl (fun i9 => nI (S i9)))), (g3, .inl (cI, 18, .inl w))] := hD
            refine lv_aload_n hx hb d_X_add_67 rfl (lv_at hl 1 rfl) ?_
            refine g_get Sx gf_X hK hP 0 rfl rfl 0 (by decide) gm_181 rfl d_X_add_68 ?_
            refine g_get Sx gf_G hK hP 1 rfl rfl 3 (by decide) gm_89 rfl d_X_add_71 ?_
            refine lv_iload hx hb d_X_add_74 (lv_at hl 0 rfl) ?_
            refine lv_iload_n hx hb d_X_add_76 rfl (lv_at hl 3 rfl) ?_
            refine g_istN (j := k) Sx hK hP hD hS 3 0 rfl rfl (by omega) (by decide) d_X_add_77 (fun H locs hP hD hS => ?_)
            have hP : va_P (dC, dI) pcl [(hx9, .inr (4, [.ref hg, .ref hp, .ref hp2, .ref hd, .ref hs, .int (bI pk), .int (bI tk), .int (bI sk9), .int (bI wk), .int tg, .int ws9])), (hg, .inr (1, [.int (nI n), .int (nI k), .ref g1, .ref g2, .ref g3])), (g1, .inl (cI, 18, .inl (fun i9 => nI ((va_up F k u) i9)))), (g2, .inl (cI, 18, .inl (fun i9 => nI ((va_up S k v) i9)))), (g3, .inl (cI, 18, .inl w))] H := hP
            have hD : va_D A [(hx9, .inr (4, [.ref hg, .ref hp, .ref hp2, .ref hd, .ref hs, .int (bI pk), .int (bI tk), .int (bI sk9), .int (bI wk), .int tg, .int ws9])), (hg, .inr (1, [.int (nI n), .int (nI k), .ref g1, .ref g2, .ref g3])), (g1, .inl (cI, 18, .inl (fun i9 => nI ((va_up F k u) i9)))), (g2, .inl (cI, 18, .inl (fun i9 => nI ((va_up S k v) i9)))), (g3, .inl (cI, 18, .inl w))] := hD
            refine lv_aload_n hx hb d_X_add_78 rfl (lv_at hl 1 rfl) ?_
            refine g_get Sx gf_X hK hP 0 rfl rfl 0 (by decide) gm_181 rfl d_X_add_79 ?_
            refine g_get Sx gf_G hK hP 1 rfl rfl 4 (by decide) gm_92 rfl d_X_add_82 ?_
            refine lv_iload hx hb d_X_add_85 (lv_at hl 0 rfl) ?_
            refine lv_iload_n hx hb d_X_add_87 rfl (lv_at hl 4 rfl) ?_
            refine g_ist (j := k) Sx hK hP hD hS 4 0 rfl rfl (by omega) (by decide) d_X_add_88 (fun H locs hP hD hS => ?_)
            have hP : va_P (dC, dI) pcl [(hx9, .inr (4, [.ref hg, .ref hp, .ref hp2, .ref hd, .ref hs, .int (bI pk), .int (bI tk), .int (bI sk9), .int (bI wk), .int tg, .int ws9])), (hg, .inr (1, [.int (nI n), .int (nI k), .ref g1, .ref g2, .ref g3])), (g1, .inl (cI, 18, .inl (fun i9 => nI ((va_up F k u) i9)))), (g2, .inl (cI, 18, .inl (fun i9 => nI ((va_up S k v) i9)))), (g3, .inl (cI, 18, .inl (upd w k w0)))] H := hP
            have hD : va_D A [(hx9, .inr (4, [.ref hg, .ref hp, .ref hp2, .ref hd, .ref hs, .int (bI pk), .int (bI tk), .int (bI sk9), .int (bI wk), .int tg, .int ws9])), (hg, .inr (1, [.int (nI n), .int (nI k), .ref g1, .ref g2, .ref g3])), (g1, .inl (cI, 18, .inl (fun i9 => nI ((va_up F k u) i9)))), (g2, .inl (cI, 18, .inl (fun i9 => nI ((va_up S k v) i9)))), (g3, .inl (cI, 18, .inl (upd w k w0)))] := hD
            refine lv_aload_n hx hb d_X_add_89 rfl (lv_at hl 1 rfl) ?_
            refine g_get Sx gf_X hK hP 0 rfl rfl 0 (by decide) gm_181 rfl d_X_add_90 ?_
            refine lv_iload hx hb d_X_add_93 (lv_at hl 0 rfl) ?_
            refine lv_iconst (v := nI 1) hx hb d_X_add_95 (by decide) ?_
            refine lv_iadd hx hb d_X_add_96 ?_
            rw [show (((nI k) + (nI 1)) : Int32) = nI (k + 1) from nI_add _ _]
            refine g_put Sx gf_G fk_G fn_G hK hP hD hS 1 rfl rfl 1 (by decide) gm_79 rfl rfl rfl (Nat.le_of_ble_eq_true rfl) d_X_add_97 (fun H locs hP hD hS => ?_)
            have hP : va_P (dC, dI) pcl [(hx9, .inr (4, [.ref hg, .ref hp, .ref hp2, .ref hd, .ref hs, .int (bI pk), .int (bI tk), .int (bI sk9), .int (bI wk), .int tg, .int ws9])), (hg, .inr (1, [.int (nI n), .int (nI (k + 1)), .ref g1, .ref g2, .ref g3])), (g1, .inl (cI, 18, .inl (fun i9 => nI ((va_up F k u) i9)))), (g2, .inl (cI, 18, .inl (fun i9 => nI ((va_up S k v) i9)))), (g3, .inl (cI, 18, .inl (upd w k w0)))] H := hP
            have hD : va_D A [(hx9, .inr (4, [.ref hg, .ref hp, .ref hp2, .ref hd, .ref hs, .int (bI pk), .int (bI tk), .int (bI sk9), .int (bI wk), .int tg, .int ws9])), (hg, .inr (1, [.int (nI n), .int (nI (k + 1)), .ref g1, .ref g2, .ref g3])), (g1, .inl (cI, 18, .inl (fun i9 => nI ((va_up F k u) i9)))), (g2, .inl (cI, 18, .inl (fun i9 => nI ((va_up S k v) i9)))), (g3, .inl (cI, 18, .inl (upd w k w0)))] := hD
            refine lv_aload_n hx hb d_X_add_100 rfl (lv_at hl 1 rfl) ?_
            refine rw_V (As := []) (rest := []) (wr := [(hg, .inr (1, [.int (nI n), .int (nI (k + 1)), .ref g1, .ref g2, .ref g3])), (g1, .inl (cI, 18, .inl (fun i9 => nI ((va_up F k u) i9)))), (g2, .inl (cI, 18, .inl (fun i9 => nI ((va_up S k v) i9)))), (g3, .inl (cI, 18, .inl (upd w k w0)))]) Sx (c_X_forgetAll l dC dI hg hx9 hp hp2 hd hs pk tk sk9 wk tg ws9 H.size) (gw_callV gm_207 gm_208 gm_0 gm_51 gm_209) hd_X_forgetAll ⟨rfl, rfl⟩ ⟨Nat.le_of_ble_eq_true rfl, Nat.le_of_ble_eq_true rfl⟩ hP hD hS hA (hK.sub (tys' := []) [] rfl) [0] [1, 2, 3, 4] rfl rfl (by decide) (by decide) (by decide) rfl 0 rfl rfl hl.1 rfl (Nat.le_of_ble_eq_true rfl) d_X_add_101 ⟨Nat.zero_le _, Nat.zero_le _⟩ (fun H locs hP hD hS => ?_)
            have hP : va_P (dC, dI) pcl [(hg, .inr (1, [.int (nI n), .int (nI (k + 1)), .ref g1, .ref g2, .ref g3])), (g1, .inl (cI, 18, .inl (fun i9 => nI ((va_up F k u) i9)))), (g2, .inl (cI, 18, .inl (fun i9 => nI ((va_up S k v) i9)))), (g3, .inl (cI, 18, .inl (upd w k w0))), (hx9, .inr (4, [.ref hg, .ref hp, .ref hp2, .ref hd, .ref hs, .int (bI false), .int (bI false), .int (bI false), .int (bI false), .int tg, .int ws9]))] H := hP
            have hD : va_D A [(hg, .inr (1, [.int (nI n), .int (nI (k + 1)), .ref g1, .ref g2, .ref g3])), (g1, .inl (cI, 18, .inl (fun i9 => nI ((va_up F k u) i9)))), (g2, .inl (cI, 18, .inl (fun i9 => nI ((va_up S k v) i9)))), (g3, .inl (cI, 18, .inl (upd w k w0))), (hx9, .inr (4, [.ref hg, .ref hp, .ref hp2, .ref hd, .ref hs, .int (bI false), .int (bI false), .int (bI false), .int (bI false), .int tg, .int ws9]))] := hD
            refine lv_iload hx hb d_X_add_104 (lv_at hl 0 rfl) ?_
            rw [show (nI k : Int32) = (nI k) from rfl]
            exact hret _ H locs _ d_X_add_106 (va_P_map hP [4, 0, 1, 2, 3] rfl) (hD.sub [4, 0, 1, 2, 3] (by decide) rfl) hS
          · skip
            exact absurd (show nI k < 18 from nI_lt hk (by decide)) q5
      · skip
        exact absurd (nq_eq (by omega) (by omega) q3) huv
set_option maxHeartbeats 4000000 in
set_option maxRecDepth 100000 in
theorem c_X_add_no (l : Launch) (dC : Nat → ClassId) (dI : Nat → Nat → Nat) (n : Nat) (k : Nat) (F : Nat → Nat) (S : Nat → Nat) (w : Nat → Int32) (hg : Nat) (g1 : Nat) (g2 : Nat) (g3 : Nat) (cI : ClassId) (hx9 : Nat) (hp : Nat) (hp2 : Nat) (hd : Nat) (hs : Nat) (pk : Bool) (tk : Bool) (sk9 : Bool) (wk : Bool) (tg : Int32) (ws9 : Int32) (u : Int32) (v : Int32) (w0 : Int32) (sz : Nat) (hno : ¬ (ps_in u (nI n) = true ∧ ps_in v (nI n) = true ∧ ¬ u = v ∧ ¬ w0 < 0 ∧ nI k < 18)) : Met l y_X_add (.code y_X_add k_X_add 5 (.some FieldType.int) :: gw) rm_X_add (rwP [.ref hx9, .int u, .int v, .int w0] (dC, dI) [(hx9, .inr (4, [.ref hg, .ref hp, .ref hp2, .ref hd, .ref hs, .int (bI pk), .int (bI tk), .int (bI sk9), .int (bI wk), .int tg, .int ws9])), (hg, .inr (1, [.int (nI n), .int (nI k), .ref g1, .ref g2, .ref g3])), (g1, .inl (cI, 18, .inl (fun i9 => nI (F i9)))), (g2, .inl (cI, 18, .inl (fun i9 => nI (S i9)))), (g3, .inl (cI, 18, .inl w))] [(cI, .int)] sz) (va_Qi (fun (r : Int32) (_ : Unit) => r = (-1)) (rwB (dC, dI) [(hx9, .inr (4, [.ref hg, .ref hp, .ref hp2, .ref hd, .ref hs, .int (bI pk), .int (bI tk), .int (bI sk9), .int (bI wk), .int tg, .int ws9])), (hg, .inr (1, [.int (nI n), .int (nI k), .ref g1, .ref g2, .ref g3])), (g1, .inl (cI, 18, .inl (fun i9 => nI (F i9)))), (g2, .inl (cI, 18, .inl (fun i9 => nI (S i9)))), (g3, .inl (cI, 18, .inl w))] [(cI, .int)] (va_A [(hx9, .inr (4, [.ref hg, .ref hp, .ref hp2, .ref hd, .ref hs, .int (bI pk), .int (bI tk), .int (bI sk9), .int (bI wk), .int tg, .int ws9])), (hg, .inr (1, [.int (nI n), .int (nI k), .ref g1, .ref g2, .ref g3])), (g1, .inl (cI, 18, .inl (fun i9 => nI (F i9)))), (g2, .inl (cI, 18, .inl (fun i9 => nI (S i9)))), (g3, .inl (cI, 18, .inl w))] sz)) (va_A [(hx9, .inr (4, [.ref hg, .ref hp, .ref hp2, .ref hd, .ref hs, .int (bI pk), .int (bI tk), .int (bI sk9), .int (bI wk), .int tg, .int ws9])), (hg, .inr (1, [.int (nI n), .int (nI k), .ref g1, .ref g2, .ref g3])), (g1, .inl (cI, 18, .inl (fun i9 => nI (F i9)))), (g2, .inl (cI, 18, .inl (fun i9 => nI (S i9)))), (g3, .inl (cI, 18, .inl w))] sz)) 0 0 (va_A [(hx9, .inr (4, [.ref hg, .ref hp, .ref hp2, .ref hd, .ref hs, .int (bI pk), .int (bI tk), .int (bI sk9), .int (bI wk), .int tg, .int ws9])), (hg, .inr (1, [.int (nI n), .int (nI k), .ref g1, .ref g2, .ref g3])), (g1, .inl (cI, 18, .inl (fun i9 => nI (F i9)))), (g2, .inl (cI, 18, .inl (fun i9 => nI (S i9)))), (g3, .inl (cI, 18, .inl w))] sz) := by
  refine rw_metI (by decide) ⟨rfl, rfl⟩ rfl (Nat.le_of_ble_eq_true rfl) ?_
  intro p e s m args below meth c Q A ls Sx hP hK hD hA hl hret
  have hx := Sx.1
  have hb := Sx.2.1
  have hl : lv_has ls 5 [(0, .ref hx9), (1, .int u), (2, .int v), (3, .int w0)] := hl
  have hS : va_S A s.heap s.heap [] := va_S.rf
  obtain ⟨H, hH⟩ : ∃ H, H = s.heap := ⟨_, rfl⟩
  obtain ⟨locs, hlo⟩ : ∃ locs : List Loc, locs = [] := ⟨_, rfl⟩
  rw [← hlo]
  rw [← hlo] at hS
  have hP : va_P (dC, dI) pcl [(hx9, .inr (4, [.ref hg, .ref hp, .ref hp2, .ref hd, .ref hs, .int (bI pk), .int (bI tk), .int (bI sk9), .int (bI wk), .int tg, .int ws9])), (hg, .inr (1, [.int (nI n), .int (nI k), .ref g1, .ref g2, .ref g3])), (g1, .inl (cI, 18, .inl (fun i9 => nI (F i9)))), (g2, .inl (cI, 18, .inl (fun i9 => nI (S i9)))), (g3, .inl (cI, 18, .inl w))] H := by rw [hH]; exact hP
  have hS : va_S A s.heap H locs := by rw [hH]; exact hS
  suffices hgo : W p l e rm_X_add s m args below meth c H locs 0 0 Q (F0 m 0 ls []) by rw [hH] at hgo; exact hgo
  refine lv_aload_n hx hb d_X_add_0 rfl (lv_at hl 0 rfl) ?_
  refine g_get Sx gf_X hK hP 0 rfl rfl 0 (by decide) gm_181 rfl d_X_add_1 ?_
  refine lv_iload_n hx hb d_X_add_4 rfl (lv_at hl 1 rfl) ?_
  refine ro_V (As := [.int u]) (rest := []) Sx (c_G_hasVertex l dC dI n k F S w hg g1 g2 g3 cI u) (gw_callV gm_214 gm_215 gm_216 gm_52 gm_217) hd_G_hasVertex ⟨rfl, rfl⟩ ⟨Nat.le_of_ble_eq_true rfl, Nat.le_of_ble_eq_true rfl⟩ (va_P_map hP [1, 2, 3, 4] rfl) (hK.sub (tys' := [(cI, .int)]) [0] rfl) rfl 0 rfl rfl hl.1 rfl (Nat.le_of_ble_eq_true rfl) d_X_add_5 ⟨Nat.zero_le _, Nat.zero_le _⟩ ?_
  refine lv_if_eq hx hb d_X_add_8 (tgt := 27) rfl (fun q1 => ?_) (fun q1 => ?_)
  · have q1 : (ps_in u (nI n)) = false := bI_0.mp q1
    refine lv_iconst (v := (-1)) hx hb d_X_add_27 (by decide) ?_
    rw [show ((-1) : Int32) = (-1) from rfl]
    exact hret _ H locs _ d_X_add_28 hP hD hS
  · have q1 : (ps_in u (nI n)) = true := bI_1.mp q1
    refine lv_aload_n hx hb d_X_add_11 rfl (lv_at hl 0 rfl) ?_
    refine g_get Sx gf_X hK hP 0 rfl rfl 0 (by decide) gm_181 rfl d_X_add_12 ?_
    refine lv_iload_n hx hb d_X_add_15 rfl (lv_at hl 2 rfl) ?_
    refine ro_V (As := [.int v]) (rest := []) Sx (c_G_hasVertex l dC dI n k F S w hg g1 g2 g3 cI v) (gw_callV gm_214 gm_215 gm_216 gm_52 gm_217) hd_G_hasVertex ⟨rfl, rfl⟩ ⟨Nat.le_of_ble_eq_true rfl, Nat.le_of_ble_eq_true rfl⟩ (va_P_map hP [1, 2, 3, 4] rfl) (hK.sub (tys' := [(cI, .int)]) [0] rfl) rfl 0 rfl rfl hl.1 rfl (Nat.le_of_ble_eq_true rfl) d_X_add_16 ⟨Nat.zero_le _, Nat.zero_le _⟩ ?_
    refine lv_if_eq hx hb d_X_add_19 (tgt := 27) rfl (fun q2 => ?_) (fun q2 => ?_)
    · have q2 : (ps_in v (nI n)) = false := bI_0.mp q2
      refine lv_iconst (v := (-1)) hx hb d_X_add_27 (by decide) ?_
      rw [show ((-1) : Int32) = (-1) from rfl]
      exact hret _ H locs _ d_X_add_28 hP hD hS
    · have q2 : (ps_in v (nI n)) = true := bI_1.mp q2
      refine lv_iload_n hx hb d_X_add_22 rfl (lv_at hl 1 rfl) ?_
      refine lv_iload_n hx hb d_X_add_23 rfl (lv_at hl 2 rfl) ?_
      refine lv_icmp_ne hx hb d_X_add_24 (tgt := 29) rfl (fun q3 => ?_) (fun q3 => ?_)
      · skip
        refine lv_iload_n hx hb d_X_add_29 rfl (lv_at hl 3 rfl) ?_
        refine lv_if_lt hx hb d_X_add_30 (tgt := 45) rfl (fun q4 => ?_) (fun q4 => ?_)
        · skip
          refine lv_iconst (v := (-1)) hx hb d_X_add_45 (by decide) ?_
          rw [show ((-1) : Int32) = (-1) from rfl]
          exact hret _ H locs _ d_X_add_46 hP hD hS
        · skip
          refine lv_aload_n hx hb d_X_add_33 rfl (lv_at hl 0 rfl) ?_
          refine g_get Sx gf_X hK hP 0 rfl rfl 0 (by decide) gm_181 rfl d_X_add_34 ?_
          refine g_get Sx gf_G hK hP 1 rfl rfl 1 (by decide) gm_79 rfl d_X_add_37 ?_
          refine lv_bipush (v := 18) hx hb d_X_add_40 (by decide) ?_
          refine lv_icmp_lt hx hb d_X_add_42 (tgt := 47) rfl (fun q5 => ?_) (fun q5 => ?_)
          · skip
            exact absurd ⟨q1, q2, q3, q4, q5⟩ hno
          · skip
            refine lv_iconst (v := (-1)) hx hb d_X_add_45 (by decide) ?_
            rw [show ((-1) : Int32) = (-1) from rfl]
            exact hret _ H locs _ d_X_add_46 hP hD hS
      · skip
        refine lv_iconst (v := (-1)) hx hb d_X_add_27 (by decide) ?_
        rw [show ((-1) : Int32) = (-1) from rfl]
        exact hret _ H locs _ d_X_add_28 hP hD hS
theorem d_X_undo_0 : decode k_X_undo 0 = .ok (.aload_n 0, 1) := by decide +kernel
theorem d_X_undo_1 : decode k_X_undo 1 = .ok (.getfield 10, 3) := by decide +kernel
theorem d_X_undo_4 : decode k_X_undo 4 = .ok (.getfield 46, 3) := by decide +kernel
theorem d_X_undo_7 : decode k_X_undo 7 = .ok (.ifCond .ne 5, 3) := by decide +kernel
theorem d_X_undo_10 : decode k_X_undo 10 = .ok (.iconst (-1), 1) := by decide +kernel
theorem d_X_undo_11 : decode k_X_undo 11 = .ok (.ireturn, 1) := by decide +kernel
theorem d_X_undo_12 : decode k_X_undo 12 = .ok (.aload_n 0, 1) := by decide +kernel
theorem d_X_undo_13 : decode k_X_undo 13 = .ok (.getfield 10, 3) := by decide +kernel
theorem d_X_undo_16 : decode k_X_undo 16 = .ok (.dup, 1) := by decide +kernel
theorem d_X_undo_17 : decode k_X_undo 17 = .ok (.getfield 46, 3) := by decide +kernel
theorem d_X_undo_20 : decode k_X_undo 20 = .ok (.iconst 1, 1) := by decide +kernel
theorem d_X_undo_21 : decode k_X_undo 21 = .ok (.isub, 1) := by decide +kernel
theorem d_X_undo_22 : decode k_X_undo 22 = .ok (.putfield 46, 3) := by decide +kernel
theorem d_X_undo_25 : decode k_X_undo 25 = .ok (.aload_n 0, 1) := by decide +kernel
theorem d_X_undo_26 : decode k_X_undo 26 = .ok (.invokevirtual 49, 3) := by decide +kernel
theorem d_X_undo_29 : decode k_X_undo 29 = .ok (.aload_n 0, 1) := by decide +kernel
theorem d_X_undo_30 : decode k_X_undo 30 = .ok (.getfield 10, 3) := by decide +kernel
theorem d_X_undo_33 : decode k_X_undo 33 = .ok (.getfield 46, 3) := by decide +kernel
theorem d_X_undo_36 : decode k_X_undo 36 = .ok (.ireturn, 1) := by decide +kernel
abbrev rm_X_undo : Room := { frames := 1, cells := 0, slots := 0, locals := 20 }
theorem hd_X_undo : y_X_undo.cls = n_X ∧ y_X_undo.cls ≠ "java/lang/invoke/MethodHandle" ∧ y_X_undo.cls ≠ "java/lang/invoke/VarHandle" ∧ (parseMethodDescriptor y_X_undo.desc).map (fun d => d.parameters.length) = some 0 := by decide +kernel
set_option maxHeartbeats 4000000 in
set_option maxRecDepth 100000 in
theorem c_X_undo_ok (l : Launch) (dC : Nat → ClassId) (dI : Nat → Nat → Nat) (n : Nat) (k : Nat) (F : Nat → Nat) (S : Nat → Nat) (w : Nat → Int32) (hg : Nat) (g1 : Nat) (g2 : Nat) (g3 : Nat) (cI : ClassId) (hx9 : Nat) (hp : Nat) (hp2 : Nat) (hd : Nat) (hs : Nat) (pk : Bool) (tk : Bool) (sk9 : Bool) (wk : Bool) (tg : Int32) (ws9 : Int32) (sz : Nat) (hk : k ≤ 18) (hk0 : 1 ≤ k) : Met l y_X_undo (.code y_X_undo k_X_undo 1 (.some FieldType.int) :: gw) rm_X_undo (rwP [.ref hx9] (dC, dI) [(hx9, .inr (4, [.ref hg, .ref hp, .ref hp2, .ref hd, .ref hs, .int (bI pk), .int (bI tk), .int (bI sk9), .int (bI wk), .int tg, .int ws9])), (hg, .inr (1, [.int (nI n), .int (nI k), .ref g1, .ref g2, .ref g3])), (g1, .inl (cI, 18, .inl (fun i9 => nI (F i9)))), (g2, .inl (cI, 18, .inl (fun i9 => nI (S i9)))), (g3, .inl (cI, 18, .inl w))] [(cI, .int)] sz) (va_Qi (fun (r : Int32) (_ : Unit) => r = nI (k - 1)) (rwB (dC, dI) [(hx9, .inr (4, [.ref hg, .ref hp, .ref hp2, .ref hd, .ref hs, .int (bI false), .int (bI false), .int (bI false), .int (bI false), .int tg, .int ws9])), (hg, .inr (1, [.int (nI n), .int (nI (k - 1)), .ref g1, .ref g2, .ref g3])), (g1, .inl (cI, 18, .inl (fun i9 => nI (F i9)))), (g2, .inl (cI, 18, .inl (fun i9 => nI (S i9)))), (g3, .inl (cI, 18, .inl w))] [(cI, .int)] (va_A [(hx9, .inr (4, [.ref hg, .ref hp, .ref hp2, .ref hd, .ref hs, .int (bI pk), .int (bI tk), .int (bI sk9), .int (bI wk), .int tg, .int ws9])), (hg, .inr (1, [.int (nI n), .int (nI k), .ref g1, .ref g2, .ref g3])), (g1, .inl (cI, 18, .inl (fun i9 => nI (F i9)))), (g2, .inl (cI, 18, .inl (fun i9 => nI (S i9)))), (g3, .inl (cI, 18, .inl w))] sz)) (va_A [(hx9, .inr (4, [.ref hg, .ref hp, .ref hp2, .ref hd, .ref hs, .int (bI pk), .int (bI tk), .int (bI sk9), .int (bI wk), .int tg, .int ws9])), (hg, .inr (1, [.int (nI n), .int (nI k), .ref g1, .ref g2, .ref g3])), (g1, .inl (cI, 18, .inl (fun i9 => nI (F i9)))), (g2, .inl (cI, 18, .inl (fun i9 => nI (S i9)))), (g3, .inl (cI, 18, .inl w))] sz)) 0 0 (va_A [(hx9, .inr (4, [.ref hg, .ref hp, .ref hp2, .ref hd, .ref hs, .int (bI pk), .int (bI tk), .int (bI sk9), .int (bI wk), .int tg, .int ws9])), (hg, .inr (1, [.int (nI n), .int (nI k), .ref g1, .ref g2, .ref g3])), (g1, .inl (cI, 18, .inl (fun i9 => nI (F i9)))), (g2, .inl (cI, 18, .inl (fun i9 => nI (S i9)))), (g3, .inl (cI, 18, .inl w))] sz) := by
  refine rw_metI (by decide) ⟨rfl, rfl⟩ rfl (Nat.le_of_ble_eq_true rfl) ?_
  intro p e s m args below meth c Q A ls Sx hP hK hD hA hl hret
  have hx := Sx.1
  have hb := Sx.2.1
  have hl : lv_has ls 1 [(0, .ref hx9)] := hl
  have hS : va_S A s.heap s.heap [] := va_S.rf
  obtain ⟨H, hH⟩ : ∃ H, H = s.heap := ⟨_, rfl⟩
  obtain ⟨locs, hlo⟩ : ∃ locs : List Loc, locs = [] := ⟨_, rfl⟩
  rw [← hlo]
  rw [← hlo] at hS
  have hP : va_P (dC, dI) pcl [(hx9, .inr (4, [.ref hg, .ref hp, .ref hp2, .ref hd, .ref hs, .int (bI pk), .int (bI tk), .int (bI sk9), .int (bI wk), .int tg, .int ws9])), (hg, .inr (1, [.int (nI n), .int (nI k), .ref g1, .ref g2, .ref g3])), (g1, .inl (cI, 18, .inl (fun i9 => nI (F i9)))), (g2, .inl (cI, 18, .inl (fun i9 => nI (S i9)))), (g3, .inl (cI, 18, .inl w))] H := by rw [hH]; exact hP
  have hS : va_S A s.heap H locs := by rw [hH]; exact hS
  suffices hgo : W p l e rm_X_undo s m args below meth c H locs 0 0 Q (F0 m 0 ls []) by rw [hH] at hgo; exact hgo
  refine lv_aload_n hx hb d_X_undo_0 rfl (lv_at hl 0 rfl) ?_
  refine g_get Sx gf_X hK hP 0 rfl rfl 0 (by decide) gm_181 rfl d_X_undo_1 ?_
  refine g_get Sx gf_G hK hP 1 rfl rfl 1 (by decide) gm_79 rfl d_X_undo_4 ?_
  refine lv_if_ne hx hb d_X_undo_7 (tgt := 12) rfl (fun q1 => ?_) (fun q1 => ?_)
  · skip
    refine lv_aload_n hx hb d_X_undo_12 rfl (lv_at hl 0 rfl) ?_
    refine g_get Sx gf_X hK hP 0 rfl rfl 0 (by decide) gm_181 rfl d_X_undo_13 ?_
    refine lv_dup hx hb d_X_undo_16 rfl ?_
    refine g_get Sx gf_G hK hP 1 rfl rfl 1 (by decide) gm_79 rfl d_X_undo_17 ?_
    refine lv_iconst (v := nI 1) hx hb d_X_undo_20 (by decide) ?_
    refine lv_isub hx hb d_X_undo_21 ?_
    rw [show (((nI k) - (nI 1)) : Int32) = nI (k - 1) from pk_sub (by omega)]
    refine g_put Sx gf_G fk_G fn_G hK hP hD hS 1 rfl rfl 1 (by decide) gm_79 rfl rfl rfl (Nat.le_of_ble_eq_true rfl) d_X_undo_22 (fun H locs hP hD hS => ?_)
    have hP : va_P (dC, dI) pcl [(hx9, .inr (4, [.ref hg, .ref hp, .ref hp2, .ref hd, .ref hs, .int (bI pk), .int (bI tk), .int (bI sk9), .int (bI wk), .int tg, .int ws9])), (hg, .inr (1, [.int (nI n), .int (nI (k - 1)), .ref g1, .ref g2, .ref g3])), (g1, .inl (cI, 18, .inl (fun i9 => nI (F i9)))), (g2, .inl (cI, 18, .inl (fun i9 => nI (S i9)))), (g3, .inl (cI, 18, .inl w))] H := hP
    have hD : va_D A [(hx9, .inr (4, [.ref hg, .ref hp, .ref hp2, .ref hd, .ref hs, .int (bI pk), .int (bI tk), .int (bI sk9), .int (bI wk), .int tg, .int ws9])), (hg, .inr (1, [.int (nI n), .int (nI (k - 1)), .ref g1, .ref g2, .ref g3])), (g1, .inl (cI, 18, .inl (fun i9 => nI (F i9)))), (g2, .inl (cI, 18, .inl (fun i9 => nI (S i9)))), (g3, .inl (cI, 18, .inl w))] := hD
    refine lv_aload_n hx hb d_X_undo_25 rfl (lv_at hl 0 rfl) ?_
    refine rw_V (As := []) (rest := []) (wr := [(hg, .inr (1, [.int (nI n), .int (nI (k - 1)), .ref g1, .ref g2, .ref g3])), (g1, .inl (cI, 18, .inl (fun i9 => nI (F i9)))), (g2, .inl (cI, 18, .inl (fun i9 => nI (S i9)))), (g3, .inl (cI, 18, .inl w))]) Sx (c_X_forgetAll l dC dI hg hx9 hp hp2 hd hs pk tk sk9 wk tg ws9 H.size) (gw_callV gm_207 gm_208 gm_0 gm_51 gm_209) hd_X_forgetAll ⟨rfl, rfl⟩ ⟨Nat.le_of_ble_eq_true rfl, Nat.le_of_ble_eq_true rfl⟩ hP hD hS hA (hK.sub (tys' := []) [] rfl) [0] [1, 2, 3, 4] rfl rfl (by decide) (by decide) (by decide) rfl 0 rfl rfl hl.1 rfl (Nat.le_of_ble_eq_true rfl) d_X_undo_26 ⟨Nat.zero_le _, Nat.zero_le _⟩ (fun H locs hP hD hS => ?_)
    have hP : va_P (dC, dI) pcl [(hg, .inr (1, [.int (nI n), .int (nI (k - 1)), .ref g1, .ref g2, .ref g3])), (g1, .inl (cI, 18, .inl (fun i9 => nI (F i9)))), (g2, .inl (cI, 18, .inl (fun i9 => nI (S i9)))), (g3, .inl (cI, 18, .inl w)), (hx9, .inr (4, [.ref hg, .ref hp, .ref hp2, .ref hd, .ref hs, .int (bI false), .int (bI false), .int (bI false), .int (bI false), .int tg, .int ws9]))] H := hP
    have hD : va_D A [(hg, .inr (1, [.int (nI n), .int (nI (k - 1)), .ref g1, .ref g2, .ref g3])), (g1, .inl (cI, 18, .inl (fun i9 => nI (F i9)))), (g2, .inl (cI, 18, .inl (fun i9 => nI (S i9)))), (g3, .inl (cI, 18, .inl w)), (hx9, .inr (4, [.ref hg, .ref hp, .ref hp2, .ref hd, .ref hs, .int (bI false), .int (bI false), .int (bI false), .int (bI false), .int tg, .int ws9]))] := hD
    refine lv_aload_n hx hb d_X_undo_29 rfl (lv_at hl 0 rfl) ?_
    refine g_get Sx gf_X hK hP 4 rfl rfl 0 (by decide) gm_181 rfl d_X_undo_30 ?_
    refine g_get Sx gf_G hK hP 0 rfl rfl 1 (by decide) gm_79 rfl d_X_undo_33 ?_
    rw [show (nI (k - 1) : Int32) = (nI (k - 1)) from rfl]
    exact hret _ H locs _ d_X_undo_36 (va_P_map hP [4, 0, 1, 2, 3] rfl) (hD.sub [4, 0, 1, 2, 3] (by decide) rfl) hS
  · skip
    exact absurd (nq_eq (b := 0) (by omega) (by omega) q1) (by omega)
set_option maxHeartbeats 4000000 in
set_option maxRecDepth 100000 in
theorem c_X_undo_no (l : Launch) (dC : Nat → ClassId) (dI : Nat → Nat → Nat) (n : Nat) (k : Nat) (F : Nat → Nat) (S : Nat → Nat) (w : Nat → Int32) (hg : Nat) (g1 : Nat) (g2 : Nat) (g3 : Nat) (cI : ClassId) (hx9 : Nat) (hp : Nat) (hp2 : Nat) (hd : Nat) (hs : Nat) (pk : Bool) (tk : Bool) (sk9 : Bool) (wk : Bool) (tg : Int32) (ws9 : Int32) (sz : Nat) (hk0 : k = 0) : Met l y_X_undo (.code y_X_undo k_X_undo 1 (.some FieldType.int) :: gw) rm_X_undo (rwP [.ref hx9] (dC, dI) [(hx9, .inr (4, [.ref hg, .ref hp, .ref hp2, .ref hd, .ref hs, .int (bI pk), .int (bI tk), .int (bI sk9), .int (bI wk), .int tg, .int ws9])), (hg, .inr (1, [.int (nI n), .int (nI k), .ref g1, .ref g2, .ref g3])), (g1, .inl (cI, 18, .inl (fun i9 => nI (F i9)))), (g2, .inl (cI, 18, .inl (fun i9 => nI (S i9)))), (g3, .inl (cI, 18, .inl w))] [(cI, .int)] sz) (va_Qi (fun (r : Int32) (_ : Unit) => r = (-1)) (rwB (dC, dI) [(hx9, .inr (4, [.ref hg, .ref hp, .ref hp2, .ref hd, .ref hs, .int (bI pk), .int (bI tk), .int (bI sk9), .int (bI wk), .int tg, .int ws9])), (hg, .inr (1, [.int (nI n), .int (nI k), .ref g1, .ref g2, .ref g3])), (g1, .inl (cI, 18, .inl (fun i9 => nI (F i9)))), (g2, .inl (cI, 18, .inl (fun i9 => nI (S i9)))), (g3, .inl (cI, 18, .inl w))] [(cI, .int)] (va_A [(hx9, .inr (4, [.ref hg, .ref hp, .ref hp2, .ref hd, .ref hs, .int (bI pk), .int (bI tk), .int (bI sk9), .int (bI wk), .int tg, .int ws9])), (hg, .inr (1, [.int (nI n), .int (nI k), .ref g1, .ref g2, .ref g3])), (g1, .inl (cI, 18, .inl (fun i9 => nI (F i9)))), (g2, .inl (cI, 18, .inl (fun i9 => nI (S i9)))), (g3, .inl (cI, 18, .inl w))] sz)) (va_A [(hx9, .inr (4, [.ref hg, .ref hp, .ref hp2, .ref hd, .ref hs, .int (bI pk), .int (bI tk), .int (bI sk9), .int (bI wk), .int tg, .int ws9])), (hg, .inr (1, [.int (nI n), .int (nI k), .ref g1, .ref g2, .ref g3])), (g1, .inl (cI, 18, .inl (fun i9 => nI (F i9)))), (g2, .inl (cI, 18, .inl (fun i9 => nI (S i9)))), (g3, .inl (cI, 18, .inl w))] sz)) 0 0 (va_A [(hx9, .inr (4, [.ref hg, .ref hp, .ref hp2, .ref hd, .ref hs, .int (bI pk), .int (bI tk), .int (bI sk9), .int (bI wk), .int tg, .int ws9])), (hg, .inr (1, [.int (nI n), .int (nI k), .ref g1, .ref g2, .ref g3])), (g1, .inl (cI, 18, .inl (fun i9 => nI (F i9)))), (g2, .inl (cI, 18, .inl (fun i9 => nI (S i9)))), (g3, .inl (cI, 18, .inl w))] sz) := by
  refine rw_metI (by decide) ⟨rfl, rfl⟩ rfl (Nat.le_of_ble_eq_true rfl) ?_
  intro p e s m args below meth c Q A ls Sx hP hK hD hA hl hret
  have hx := Sx.1
  have hb := Sx.2.1
  have hl : lv_has ls 1 [(0, .ref hx9)] := hl
  have hS : va_S A s.heap s.heap [] := va_S.rf
  obtain ⟨H, hH⟩ : ∃ H, H = s.heap := ⟨_, rfl⟩
  obtain ⟨locs, hlo⟩ : ∃ locs : List Loc, locs = [] := ⟨_, rfl⟩
  rw [← hlo]
  rw [← hlo] at hS
  have hP : va_P (dC, dI) pcl [(hx9, .inr (4, [.ref hg, .ref hp, .ref hp2, .ref hd, .ref hs, .int (bI pk), .int (bI tk), .int (bI sk9), .int (bI wk), .int tg, .int ws9])), (hg, .inr (1, [.int (nI n), .int (nI k), .ref g1, .ref g2, .ref g3])), (g1, .inl (cI, 18, .inl (fun i9 => nI (F i9)))), (g2, .inl (cI, 18, .inl (fun i9 => nI (S i9)))), (g3, .inl (cI, 18, .inl w))] H := by rw [hH]; exact hP
  have hS : va_S A s.heap H locs := by rw [hH]; exact hS
  suffices hgo : W p l e rm_X_undo s m args below meth c H locs 0 0 Q (F0 m 0 ls []) by rw [hH] at hgo; exact hgo
  refine lv_aload_n hx hb d_X_undo_0 rfl (lv_at hl 0 rfl) ?_
  refine g_get Sx gf_X hK hP 0 rfl rfl 0 (by decide) gm_181 rfl d_X_undo_1 ?_
  refine g_get Sx gf_G hK hP 1 rfl rfl 1 (by decide) gm_79 rfl d_X_undo_4 ?_
  refine lv_if_ne hx hb d_X_undo_7 (tgt := 12) rfl (fun q1 => ?_) (fun q1 => ?_)
  · skip
    exact absurd (by rw [hk0]; rfl) q1
  · skip
    refine lv_iconst (v := (-1)) hx hb d_X_undo_10 (by decide) ?_
    rw [show ((-1) : Int32) = (-1) from rfl]
    exact hret _ H locs _ d_X_undo_11 hP hD hS
theorem d_X_weigh_0 : decode k_X_weigh 0 = .ok (.aload_n 0, 1) := by decide +kernel
theorem d_X_weigh_1 : decode k_X_weigh 1 = .ok (.getfield 10, 3) := by decide +kernel
theorem d_X_weigh_4 : decode k_X_weigh 4 = .ok (.iload_n 1, 1) := by decide +kernel
theorem d_X_weigh_5 : decode k_X_weigh 5 = .ok (.invokevirtual 66, 3) := by decide +kernel
theorem d_X_weigh_8 : decode k_X_weigh 8 = .ok (.ifCond .eq 7, 3) := by decide +kernel
theorem d_X_weigh_11 : decode k_X_weigh 11 = .ok (.iload_n 2, 1) := by decide +kernel
theorem d_X_weigh_12 : decode k_X_weigh 12 = .ok (.ifCond .ge 5, 3) := by decide +kernel
theorem d_X_weigh_15 : decode k_X_weigh 15 = .ok (.iconst 0, 1) := by decide +kernel
theorem d_X_weigh_16 : decode k_X_weigh 16 = .ok (.ireturn, 1) := by decide +kernel
theorem d_X_weigh_17 : decode k_X_weigh 17 = .ok (.aload_n 0, 1) := by decide +kernel
theorem d_X_weigh_18 : decode k_X_weigh 18 = .ok (.getfield 10, 3) := by decide +kernel
theorem d_X_weigh_21 : decode k_X_weigh 21 = .ok (.getfield 63, 3) := by decide +kernel
theorem d_X_weigh_24 : decode k_X_weigh 24 = .ok (.iload_n 1, 1) := by decide +kernel
theorem d_X_weigh_25 : decode k_X_weigh 25 = .ok (.iload_n 2, 1) := by decide +kernel
theorem d_X_weigh_26 : decode k_X_weigh 26 = .ok (.iastore, 1) := by decide +kernel
theorem d_X_weigh_27 : decode k_X_weigh 27 = .ok (.aload_n 0, 1) := by decide +kernel
theorem d_X_weigh_28 : decode k_X_weigh 28 = .ok (.iconst 0, 1) := by decide +kernel
theorem d_X_weigh_29 : decode k_X_weigh 29 = .ok (.putfield 69, 3) := by decide +kernel
theorem d_X_weigh_32 : decode k_X_weigh 32 = .ok (.iconst 1, 1) := by decide +kernel
theorem d_X_weigh_33 : decode k_X_weigh 33 = .ok (.ireturn, 1) := by decide +kernel
abbrev rm_X_weigh : Room := { frames := 1, cells := 0, slots := 0, locals := 21 }
theorem hd_X_weigh : y_X_weigh.cls = n_X ∧ y_X_weigh.cls ≠ "java/lang/invoke/MethodHandle" ∧ y_X_weigh.cls ≠ "java/lang/invoke/VarHandle" ∧ (parseMethodDescriptor y_X_weigh.desc).map (fun d => d.parameters.length) = some 2 := by decide +kernel
set_option maxHeartbeats 4000000 in
set_option maxRecDepth 100000 in
theorem c_X_weigh_ok (l : Launch) (dC : Nat → ClassId) (dI : Nat → Nat → Nat) (n : Nat) (k : Nat) (F : Nat → Nat) (S : Nat → Nat) (w : Nat → Int32) (hg : Nat) (g1 : Nat) (g2 : Nat) (g3 : Nat) (cI : ClassId) (hx9 : Nat) (hp : Nat) (hp2 : Nat) (hd : Nat) (hs : Nat) (pk : Bool) (tk : Bool) (sk9 : Bool) (wk : Bool) (tg : Int32) (ws9 : Int32) (v : Nat) (w0 : Int32) (sz : Nat) (hk : k ≤ 18) (hv : v < k) (hw : ¬ w0 < 0) : Met l y_X_weigh (.code y_X_weigh k_X_weigh 3 (.some FieldType.boolean) :: gw) rm_X_weigh (rwP [.ref hx9, .int (nI v), .int w0] (dC, dI) [(hx9, .inr (4, [.ref hg, .ref hp, .ref hp2, .ref hd, .ref hs, .int (bI pk), .int (bI tk), .int (bI sk9), .int (bI wk), .int tg, .int ws9])), (hg, .inr (1, [.int (nI n), .int (nI k), .ref g1, .ref g2, .ref g3])), (g1, .inl (cI, 18, .inl (fun i9 => nI (F i9)))), (g2, .inl (cI, 18, .inl (fun i9 => nI (S i9)))), (g3, .inl (cI, 18, .inl w))] [(cI, .int)] sz) (va_Qi (fun (r : Int32) (_ : Unit) => r = bI true) (rwB (dC, dI) [(hx9, .inr (4, [.ref hg, .ref hp, .ref hp2, .ref hd, .ref hs, .int (bI pk), .int (bI tk), .int (bI false), .int (bI wk), .int tg, .int ws9])), (hg, .inr (1, [.int (nI n), .int (nI k), .ref g1, .ref g2, .ref g3])), (g1, .inl (cI, 18, .inl (fun i9 => nI (F i9)))), (g2, .inl (cI, 18, .inl (fun i9 => nI (S i9)))), (g3, .inl (cI, 18, .inl (upd w v w0)))] [(cI, .int)] (va_A [(hx9, .inr (4, [.ref hg, .ref hp, .ref hp2, .ref hd, .ref hs, .int (bI pk), .int (bI tk), .int (bI sk9), .int (bI wk), .int tg, .int ws9])), (hg, .inr (1, [.int (nI n), .int (nI k), .ref g1, .ref g2, .ref g3])), (g1, .inl (cI, 18, .inl (fun i9 => nI (F i9)))), (g2, .inl (cI, 18, .inl (fun i9 => nI (S i9)))), (g3, .inl (cI, 18, .inl w))] sz)) (va_A [(hx9, .inr (4, [.ref hg, .ref hp, .ref hp2, .ref hd, .ref hs, .int (bI pk), .int (bI tk), .int (bI sk9), .int (bI wk), .int tg, .int ws9])), (hg, .inr (1, [.int (nI n), .int (nI k), .ref g1, .ref g2, .ref g3])), (g1, .inl (cI, 18, .inl (fun i9 => nI (F i9)))), (g2, .inl (cI, 18, .inl (fun i9 => nI (S i9)))), (g3, .inl (cI, 18, .inl w))] sz)) 0 0 (va_A [(hx9, .inr (4, [.ref hg, .ref hp, .ref hp2, .ref hd, .ref hs, .int (bI pk), .int (bI tk), .int (bI sk9), .int (bI wk), .int tg, .int ws9])), (hg, .inr (1, [.int (nI n), .int (nI k), .ref g1, .ref g2, .ref g3])), (g1, .inl (cI, 18, .inl (fun i9 => nI (F i9)))), (g2, .inl (cI, 18, .inl (fun i9 => nI (S i9)))), (g3, .inl (cI, 18, .inl w))] sz) := by
  refine rw_metI (by decide) ⟨rfl, rfl⟩ (bI_nar _) (Nat.le_of_ble_eq_true rfl) ?_
  intro p e s m args below meth c Q A ls Sx hP hK hD hA hl hret
  have hx := Sx.1
  have hb := Sx.2.1
  have hl : lv_has ls 3 [(0, .ref hx9), (1, .int (nI v)), (2, .int w0)] := hl
  have hS : va_S A s.heap s.heap [] := va_S.rf
  obtain ⟨H, hH⟩ : ∃ H, H = s.heap := ⟨_, rfl⟩
  obtain ⟨locs, hlo⟩ : ∃ locs : List Loc, locs = [] := ⟨_, rfl⟩
  rw [← hlo]
  rw [← hlo] at hS
  have hP : va_P (dC, dI) pcl [(hx9, .inr (4, [.ref hg, .ref hp, .ref hp2, .ref hd, .ref hs, .int (bI pk), .int (bI tk), .int (bI sk9), .int (bI wk), .int tg, .int ws9])), (hg, .inr (1, [.int (nI n), .int (nI k), .ref g1, .ref g2, .ref g3])), (g1, .inl (cI, 18, .inl (fun i9 => nI (F i9)))), (g2, .inl (cI, 18, .inl (fun i9 => nI (S i9)))), (g3, .inl (cI, 18, .inl w))] H := by rw [hH]; exact hP
  have hS : va_S A s.heap H locs := by rw [hH]; exact hS
  suffices hgo : W p l e rm_X_weigh s m args below meth c H locs 0 0 Q (F0 m 0 ls []) by rw [hH] at hgo; exact hgo
  refine lv_aload_n hx hb d_X_weigh_0 rfl (lv_at hl 0 rfl) ?_
  refine g_get Sx gf_X hK hP 0 rfl rfl 0 (by decide) gm_181 rfl d_X_weigh_1 ?_
  refine lv_iload_n hx hb d_X_weigh_4 rfl (lv_at hl 1 rfl) ?_
  refine ro_V (As := [.int (nI v)]) (rest := []) Sx (c_G_hasEdge l dC dI n k F S w hg g1 g2 g3 cI (nI v)) (gw_callV gm_226 gm_227 gm_228 gm_52 gm_229) hd_G_hasEdge ⟨rfl, rfl⟩ ⟨Nat.le_of_ble_eq_true rfl, Nat.le_of_ble_eq_true rfl⟩ (va_P_map hP [1, 2, 3, 4] rfl) (hK.sub (tys' := [(cI, .int)]) [0] rfl) rfl 0 rfl rfl hl.1 rfl (Nat.le_of_ble_eq_true rfl) d_X_weigh_5 ⟨Nat.zero_le _, Nat.zero_le _⟩ ?_
  refine lv_if_eq hx hb d_X_weigh_8 (tgt := 15) rfl (fun q1 => ?_) (fun q1 => ?_)
  · have q1 : (ps_in (nI v) (nI k)) = false := bI_0.mp q1
    rw [ps_in_nI hv (by omega)] at q1; cases q1
  · have q1 : (ps_in (nI v) (nI k)) = true := bI_1.mp q1
    refine lv_iload_n hx hb d_X_weigh_11 rfl (lv_at hl 2 rfl) ?_
    refine lv_if_ge hx hb d_X_weigh_12 (tgt := 17) rfl (fun q2 => ?_) (fun q2 => ?_)
    · skip
      refine lv_aload_n hx hb d_X_weigh_17 rfl (lv_at hl 0 rfl) ?_
      refine g_get Sx gf_X hK hP 0 rfl rfl 0 (by decide) gm_181 rfl d_X_weigh_18 ?_
      refine g_get Sx gf_G hK hP 1 rfl rfl 4 (by decide) gm_92 rfl d_X_weigh_21 ?_
      refine lv_iload_n hx hb d_X_weigh_24 rfl (lv_at hl 1 rfl) ?_
      refine lv_iload_n hx hb d_X_weigh_25 rfl (lv_at hl 2 rfl) ?_
      refine g_ist (j := v) Sx hK hP hD hS 4 0 rfl rfl (by omega) (by decide) d_X_weigh_26 (fun H locs hP hD hS => ?_)
      have hP : va_P (dC, dI) pcl [(hx9, .inr (4, [.ref hg, .ref hp, .ref hp2, .ref hd, .ref hs, .int (bI pk), .int (bI tk), .int (bI sk9), .int (bI wk), .int tg, .int ws9])), (hg, .inr (1, [.int (nI n), .int (nI k), .ref g1, .ref g2, .ref g3])), (g1, .inl (cI, 18, .inl (fun i9 => nI (F i9)))), (g2, .inl (cI, 18, .inl (fun i9 => nI (S i9)))), (g3, .inl (cI, 18, .inl (upd w v w0)))] H := hP
      have hD : va_D A [(hx9, .inr (4, [.ref hg, .ref hp, .ref hp2, .ref hd, .ref hs, .int (bI pk), .int (bI tk), .int (bI sk9), .int (bI wk), .int tg, .int ws9])), (hg, .inr (1, [.int (nI n), .int (nI k), .ref g1, .ref g2, .ref g3])), (g1, .inl (cI, 18, .inl (fun i9 => nI (F i9)))), (g2, .inl (cI, 18, .inl (fun i9 => nI (S i9)))), (g3, .inl (cI, 18, .inl (upd w v w0)))] := hD
      refine lv_aload_n hx hb d_X_weigh_27 rfl (lv_at hl 0 rfl) ?_
      refine lv_iconst (v := 0) hx hb d_X_weigh_28 (by decide) ?_
      refine g_put Sx gf_X fk_X fn_X hK hP hD hS 0 rfl rfl 7 (by decide) gm_188 rfl rfl rfl (Nat.le_of_ble_eq_true rfl) d_X_weigh_29 (fun H locs hP hD hS => ?_)
      have hP : va_P (dC, dI) pcl [(hx9, .inr (4, [.ref hg, .ref hp, .ref hp2, .ref hd, .ref hs, .int (bI pk), .int (bI tk), .int 0, .int (bI wk), .int tg, .int ws9])), (hg, .inr (1, [.int (nI n), .int (nI k), .ref g1, .ref g2, .ref g3])), (g1, .inl (cI, 18, .inl (fun i9 => nI (F i9)))), (g2, .inl (cI, 18, .inl (fun i9 => nI (S i9)))), (g3, .inl (cI, 18, .inl (upd w v w0)))] H := hP
      have hD : va_D A [(hx9, .inr (4, [.ref hg, .ref hp, .ref hp2, .ref hd, .ref hs, .int (bI pk), .int (bI tk), .int 0, .int (bI wk), .int tg, .int ws9])), (hg, .inr (1, [.int (nI n), .int (nI k), .ref g1, .ref g2, .ref g3])), (g1, .inl (cI, 18, .inl (fun i9 => nI (F i9)))), (g2, .inl (cI, 18, .inl (fun i9 => nI (S i9)))), (g3, .inl (cI, 18, .inl (upd w v w0)))] := hD
      refine lv_iconst (v := 1) hx hb d_X_weigh_32 (by decide) ?_
      rw [show (1 : Int32) = (bI true) from rfl]
      exact hret _ H locs _ d_X_weigh_33 hP hD hS
    · skip
      exact absurd (Int32.not_lt.mp hw) q2
set_option maxHeartbeats 4000000 in
set_option maxRecDepth 100000 in
theorem c_X_weigh_no (l : Launch) (dC : Nat → ClassId) (dI : Nat → Nat → Nat) (n : Nat) (k : Nat) (F : Nat → Nat) (S : Nat → Nat) (w : Nat → Int32) (hg : Nat) (g1 : Nat) (g2 : Nat) (g3 : Nat) (cI : ClassId) (hx9 : Nat) (hp : Nat) (hp2 : Nat) (hd : Nat) (hs : Nat) (pk : Bool) (tk : Bool) (sk9 : Bool) (wk : Bool) (tg : Int32) (ws9 : Int32) (v : Int32) (w0 : Int32) (sz : Nat) (hno : ¬ (ps_in v (nI k) = true ∧ 0 ≤ w0)) : Met l y_X_weigh (.code y_X_weigh k_X_weigh 3 (.some FieldType.boolean) :: gw) rm_X_weigh (rwP [.ref hx9, .int v, .int w0] (dC, dI) [(hx9, .inr (4, [.ref hg, .ref hp, .ref hp2, .ref hd, .ref hs, .int (bI pk), .int (bI tk), .int (bI sk9), .int (bI wk), .int tg, .int ws9])), (hg, .inr (1, [.int (nI n), .int (nI k), .ref g1, .ref g2, .ref g3])), (g1, .inl (cI, 18, .inl (fun i9 => nI (F i9)))), (g2, .inl (cI, 18, .inl (fun i9 => nI (S i9)))), (g3, .inl (cI, 18, .inl w))] [(cI, .int)] sz) (va_Qi (fun (r : Int32) (_ : Unit) => r = bI false) (rwB (dC, dI) [(hx9, .inr (4, [.ref hg, .ref hp, .ref hp2, .ref hd, .ref hs, .int (bI pk), .int (bI tk), .int (bI sk9), .int (bI wk), .int tg, .int ws9])), (hg, .inr (1, [.int (nI n), .int (nI k), .ref g1, .ref g2, .ref g3])), (g1, .inl (cI, 18, .inl (fun i9 => nI (F i9)))), (g2, .inl (cI, 18, .inl (fun i9 => nI (S i9)))), (g3, .inl (cI, 18, .inl w))] [(cI, .int)] (va_A [(hx9, .inr (4, [.ref hg, .ref hp, .ref hp2, .ref hd, .ref hs, .int (bI pk), .int (bI tk), .int (bI sk9), .int (bI wk), .int tg, .int ws9])), (hg, .inr (1, [.int (nI n), .int (nI k), .ref g1, .ref g2, .ref g3])), (g1, .inl (cI, 18, .inl (fun i9 => nI (F i9)))), (g2, .inl (cI, 18, .inl (fun i9 => nI (S i9)))), (g3, .inl (cI, 18, .inl w))] sz)) (va_A [(hx9, .inr (4, [.ref hg, .ref hp, .ref hp2, .ref hd, .ref hs, .int (bI pk), .int (bI tk), .int (bI sk9), .int (bI wk), .int tg, .int ws9])), (hg, .inr (1, [.int (nI n), .int (nI k), .ref g1, .ref g2, .ref g3])), (g1, .inl (cI, 18, .inl (fun i9 => nI (F i9)))), (g2, .inl (cI, 18, .inl (fun i9 => nI (S i9)))), (g3, .inl (cI, 18, .inl w))] sz)) 0 0 (va_A [(hx9, .inr (4, [.ref hg, .ref hp, .ref hp2, .ref hd, .ref hs, .int (bI pk), .int (bI tk), .int (bI sk9), .int (bI wk), .int tg, .int ws9])), (hg, .inr (1, [.int (nI n), .int (nI k), .ref g1, .ref g2, .ref g3])), (g1, .inl (cI, 18, .inl (fun i9 => nI (F i9)))), (g2, .inl (cI, 18, .inl (fun i9 => nI (S i9)))), (g3, .inl (cI, 18, .inl w))] sz) := by
  refine rw_metI (by decide) ⟨rfl, rfl⟩ (bI_nar _) (Nat.le_of_ble_eq_true rfl) ?_
  intro p e s m args below meth c Q A ls Sx hP hK hD hA hl hret
  have hx := Sx.1
  have hb := Sx.2.1
  have hl : lv_has ls 3 [(0, .ref hx9), (1, .int v), (2, .int w0)] := hl
  have hS : va_S A s.heap s.heap [] := va_S.rf
  obtain ⟨H, hH⟩ : ∃ H, H = s.heap := ⟨_, rfl⟩
  obtain ⟨locs, hlo⟩ : ∃ locs : List Loc, locs = [] := ⟨_, rfl⟩
  rw [← hlo]
  rw [← hlo] at hS
  have hP : va_P (dC, dI) pcl [(hx9, .inr (4, [.ref hg, .ref hp, .ref hp2, .ref hd, .ref hs, .int (bI pk), .int (bI tk), .int (bI sk9), .int (bI wk), .int tg, .int ws9])), (hg, .inr (1, [.int (nI n), .int (nI k), .ref g1, .ref g2, .ref g3])), (g1, .inl (cI, 18, .inl (fun i9 => nI (F i9)))), (g2, .inl (cI, 18, .inl (fun i9 => nI (S i9)))), (g3, .inl (cI, 18, .inl w))] H := by rw [hH]; exact hP
  have hS : va_S A s.heap H locs := by rw [hH]; exact hS
  suffices hgo : W p l e rm_X_weigh s m args below meth c H locs 0 0 Q (F0 m 0 ls []) by rw [hH] at hgo; exact hgo
  refine lv_aload_n hx hb d_X_weigh_0 rfl (lv_at hl 0 rfl) ?_
  refine g_get Sx gf_X hK hP 0 rfl rfl 0 (by decide) gm_181 rfl d_X_weigh_1 ?_
  refine lv_iload_n hx hb d_X_weigh_4 rfl (lv_at hl 1 rfl) ?_
  refine ro_V (As := [.int v]) (rest := []) Sx (c_G_hasEdge l dC dI n k F S w hg g1 g2 g3 cI v) (gw_callV gm_226 gm_227 gm_228 gm_52 gm_229) hd_G_hasEdge ⟨rfl, rfl⟩ ⟨Nat.le_of_ble_eq_true rfl, Nat.le_of_ble_eq_true rfl⟩ (va_P_map hP [1, 2, 3, 4] rfl) (hK.sub (tys' := [(cI, .int)]) [0] rfl) rfl 0 rfl rfl hl.1 rfl (Nat.le_of_ble_eq_true rfl) d_X_weigh_5 ⟨Nat.zero_le _, Nat.zero_le _⟩ ?_
  refine lv_if_eq hx hb d_X_weigh_8 (tgt := 15) rfl (fun q1 => ?_) (fun q1 => ?_)
  · have q1 : (ps_in v (nI k)) = false := bI_0.mp q1
    refine lv_iconst (v := 0) hx hb d_X_weigh_15 (by decide) ?_
    rw [show (0 : Int32) = (bI false) from rfl]
    exact hret _ H locs _ d_X_weigh_16 hP hD hS
  · have q1 : (ps_in v (nI k)) = true := bI_1.mp q1
    refine lv_iload_n hx hb d_X_weigh_11 rfl (lv_at hl 2 rfl) ?_
    refine lv_if_ge hx hb d_X_weigh_12 (tgt := 17) rfl (fun q2 => ?_) (fun q2 => ?_)
    · skip
      exact absurd ⟨q1, q2⟩ hno
    · skip
      refine lv_iconst (v := 0) hx hb d_X_weigh_15 (by decide) ?_
      rw [show (0 : Int32) = (bI false) from rfl]
      exact hret _ H locs _ d_X_weigh_16 hP hD hS
theorem d_X_edges_0 : decode k_X_edges 0 = .ok (.aload_n 0, 1) := by decide +kernel
theorem d_X_edges_1 : decode k_X_edges 1 = .ok (.getfield 10, 3) := by decide +kernel
theorem d_X_edges_4 : decode k_X_edges 4 = .ok (.getfield 46, 3) := by decide +kernel
theorem d_X_edges_7 : decode k_X_edges 7 = .ok (.ireturn, 1) := by decide +kernel
abbrev rm_X_edges : Room := { frames := 0, cells := 0, slots := 0, locals := 0 }
theorem hd_X_edges : y_X_edges.cls = n_X ∧ y_X_edges.cls ≠ "java/lang/invoke/MethodHandle" ∧ y_X_edges.cls ≠ "java/lang/invoke/VarHandle" ∧ (parseMethodDescriptor y_X_edges.desc).map (fun d => d.parameters.length) = some 0 := by decide +kernel
set_option maxHeartbeats 4000000 in
set_option maxRecDepth 100000 in
theorem c_X_edges (l : Launch) (dC : Nat → ClassId) (dI : Nat → Nat → Nat) (n : Nat) (k : Nat) (F : Nat → Nat) (S : Nat → Nat) (w : Nat → Int32) (hg : Nat) (g1 : Nat) (g2 : Nat) (g3 : Nat) (cI : ClassId) (hx9 : Nat) (hp : Nat) (hp2 : Nat) (hd : Nat) (hs : Nat) (pk : Bool) (tk : Bool) (sk9 : Bool) (wk : Bool) (tg : Int32) (ws9 : Int32) : Met l y_X_edges (.code y_X_edges k_X_edges 1 (.some FieldType.int) :: gw) rm_X_edges (roP [.ref hx9] (dC, dI) [(hx9, .inr (4, [.ref hg, .ref hp, .ref hp2, .ref hd, .ref hs, .int (bI pk), .int (bI tk), .int (bI sk9), .int (bI wk), .int tg, .int ws9])), (hg, .inr (1, [.int (nI n), .int (nI k), .ref g1, .ref g2, .ref g3])), (g1, .inl (cI, 18, .inl (fun i9 => nI (F i9)))), (g2, .inl (cI, 18, .inl (fun i9 => nI (S i9)))), (g3, .inl (cI, 18, .inl w))] [(cI, .int)]) (vp_Si (fun r => r = nI k)) 0 0 (fun _ => False) := by
  refine ro_met (by decide) ⟨rfl, rfl⟩ rfl (Nat.le_of_ble_eq_true rfl) ?_
  intro p e s m args below meth c Q ls Sx hP hK hl hret
  have hx := Sx.1
  have hb := Sx.2.1
  have hl : lv_has ls 1 [(0, .ref hx9)] := hl
  refine lv_aload_n hx hb d_X_edges_0 rfl (lv_at hl 0 rfl) ?_
  refine g_get Sx gf_X hK hP 0 rfl rfl 0 (by decide) gm_181 rfl d_X_edges_1 ?_
  refine g_get Sx gf_G hK hP 1 rfl rfl 1 (by decide) gm_79 rfl d_X_edges_4 ?_
  exact hret _ _ d_X_edges_7
