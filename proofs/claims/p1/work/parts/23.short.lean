theorem d_M_begin_0 : decode k_M_begin 0 = .ok (.iload_n 1, 1) := by decide +kernel
theorem d_M_begin_1 : decode k_M_begin 1 = .ok (.ifCond .lt 9, 3) := by decide +kernel
theorem d_M_begin_4 : decode k_M_begin 4 = .ok (.iload_n 1, 1) := by decide +kernel
theorem d_M_begin_5 : decode k_M_begin 5 = .ok (.bipush 10, 2) := by decide +kernel
theorem d_M_begin_7 : decode k_M_begin 7 = .ok (.if_icmp .le 5, 3) := by decide +kernel
theorem d_M_begin_10 : decode k_M_begin 10 = .ok (.iconst 0, 1) := by decide +kernel
theorem d_M_begin_11 : decode k_M_begin 11 = .ok (.ireturn, 1) := by decide +kernel
theorem d_M_begin_12 : decode k_M_begin 12 = .ok (.aload_n 0, 1) := by decide +kernel
theorem d_M_begin_13 : decode k_M_begin 13 = .ok (.iload_n 1, 1) := by decide +kernel
theorem d_M_begin_14 : decode k_M_begin 14 = .ok (.putfield 52, 3) := by decide +kernel
theorem d_M_begin_17 : decode k_M_begin 17 = .ok (.aload_n 0, 1) := by decide +kernel
theorem d_M_begin_18 : decode k_M_begin 18 = .ok (.iconst 0, 1) := by decide +kernel
theorem d_M_begin_19 : decode k_M_begin 19 = .ok (.putfield 56, 3) := by decide +kernel
theorem d_M_begin_22 : decode k_M_begin 22 = .ok (.aload_n 0, 1) := by decide +kernel
theorem d_M_begin_23 : decode k_M_begin 23 = .ok (.iconst 0, 1) := by decide +kernel
theorem d_M_begin_24 : decode k_M_begin 24 = .ok (.putfield 59, 3) := by decide +kernel
theorem d_M_begin_27 : decode k_M_begin 27 = .ok (.iconst 1, 1) := by decide +kernel
theorem d_M_begin_28 : decode k_M_begin 28 = .ok (.ireturn, 1) := by decide +kernel
abbrev rm_M_begin : Room := { frames := 0, cells := 0, slots := 0, locals := 0 }
theorem hd_M_begin : y_M_begin.cls = n_M ∧ y_M_begin.cls ≠ "java/lang/invoke/MethodHandle" ∧ y_M_begin.cls ≠ "java/lang/invoke/VarHandle" ∧ (parseMethodDescriptor y_M_begin.desc).map (fun d => d.parameters.length) = some 1 := by decide +kernel
set_option maxHeartbeats 4000000 in
set_option maxRecDepth 100000 in
theorem c_M_begin_ok (l : Launch) (dC : Nat → ClassId) (dI : Nat → Nat → Nat) (n : Nat) (k : Nat) (wk : Bool) (fl : Bool) (cm : Nat) (bl : Int32) (sd : Int32) (sm : Int64) (co : Int32) (cf : Bool) (hm : Nat) (a1 : Nat) (a2 : Nat) (a3 : Nat) (a4 : Nat) (a5 : Nat) (a6 : Nat) (a7 : Nat) (a8 : Nat) (a9 : Nat) (a10 : Nat) (a11 : Nat) (a12 : Nat) (a13 : Nat) (a14 : Nat) (cI : ClassId) (n0 : Nat) (sz : Nat) (hn0 : n0 ≤ 10) : Met l y_M_begin (.code y_M_begin k_M_begin 2 (.some FieldType.boolean) :: gw) rm_M_begin (rwP [.ref hm, .int (nI n0)] (dC, dI) [(hm, .inr (5, [.int (nI n), .int (nI k), .ref a1, .ref a2, .int (bI wk), .int (bI fl), .int (nI cm), .ref a3, .ref a4, .int bl, .int sd, .long sm, .int co, .ref a5, .ref a6, .ref a7, .ref a8, .ref a9, .ref a10, .ref a11, .ref a12, .ref a13, .int (bI cf), .ref a14]))] [(cI, .int)] sz) (va_Qi (fun (r : Int32) (_ : Unit) => r = bI true) (rwB (dC, dI) [(hm, .inr (5, [.int (nI n0), .int (nI 0), .ref a1, .ref a2, .int (bI false), .int (bI fl), .int (nI cm), .ref a3, .ref a4, .int bl, .int sd, .long sm, .int co, .ref a5, .ref a6, .ref a7, .ref a8, .ref a9, .ref a10, .ref a11, .ref a12, .ref a13, .int (bI cf), .ref a14]))] [(cI, .int)] (va_A [(hm, .inr (5, [.int (nI n), .int (nI k), .ref a1, .ref a2, .int (bI wk), .int (bI fl), .int (nI cm), .ref a3, .ref a4, .int bl, .int sd, .long sm, .int co, .ref a5, .ref a6, .ref a7, .ref a8, .ref a9, .ref a10, .ref a11, .ref a12, .ref a13, .int (bI cf), .ref a14]))] sz)) (va_A [(hm, .inr (5, [.int (nI n), .int (nI k), .ref a1, .ref a2, .int (bI wk), .int (bI fl), .int (nI cm), .ref a3, .ref a4, .int bl, .int sd, .long sm, .int co, .ref a5, .ref a6, .ref a7, .ref a8, .ref a9, .ref a10, .ref a11, .ref a12, .ref a13, .int (bI cf), .ref a14]))] sz)) 0 0 (va_A [(hm, .inr (5, [.int (nI n), .int (nI k), .ref a1, .ref a2, .int (bI wk), .int (bI fl), .int (nI cm), .ref a3, .ref a4, .int bl, .int sd, .long sm, .int co, .ref a5, .ref a6, .ref a7, .ref a8, .ref a9, .ref a10, .ref a11, .ref a12, .ref a13, .int (bI cf), .ref a14]))] sz) := by
  refine rw_metI (by decide) ⟨rfl, rfl⟩ (bI_nar _) (Nat.le_of_ble_eq_true rfl) ?_
  intro p e s m args below meth c Q A ls Sx hP hK hD hA hl hret
  have hx := Sx.1
  have hb := Sx.2.1
  have hl : lv_has ls 2 [(0, .ref hm), (1, .int (nI n0))] := hl
  have hS : va_S A s.heap s.heap [] := va_S.rf
  obtain ⟨H, hH⟩ : ∃ H, H = s.heap := ⟨_, rfl⟩
  obtain ⟨locs, hlo⟩ : ∃ locs : List Loc, locs = [] := ⟨_, rfl⟩
  rw [← hlo]
  rw [← hlo] at hS
  have hP : va_P (dC, dI) pcl [(hm, .inr (5, [.int (nI n), .int (nI k), .ref a1, .ref a2, .int (bI wk), .int (bI fl), .int (nI cm), .ref a3, .ref a4, .int bl, .int sd, .long sm, .int co, .ref a5, .ref a6, .ref a7, .ref a8, .ref a9, .ref a10, .ref a11, .ref a12, .ref a13, .int (bI cf), .ref a14]))] H := by rw [hH]; exact hP
  have hS : va_S A s.heap H locs := by rw [hH]; exact hS
  suffices hgo : W p l e rm_M_begin s m args below meth c H locs 0 0 Q (F0 m 0 ls []) by rw [hH] at hgo; exact hgo
  refine lv_iload_n hx hb d_M_begin_0 rfl (lv_at hl 1 rfl) ?_
  refine lv_if_lt hx hb d_M_begin_1 (tgt := 10) rfl (fun q1 => ?_) (fun q1 => ?_)
  · skip
    exact absurd q1 (nI_pos (by omega))
  · skip
    refine lv_iload_n hx hb d_M_begin_4 rfl (lv_at hl 1 rfl) ?_
    refine lv_bipush (v := 10) hx hb d_M_begin_5 (by decide) ?_
    refine lv_icmp_le hx hb d_M_begin_7 (tgt := 12) rfl (fun q2 => ?_) (fun q2 => ?_)
    · skip
      refine lv_aload_n hx hb d_M_begin_12 rfl (lv_at hl 0 rfl) ?_
      refine lv_iload_n hx hb d_M_begin_13 rfl (lv_at hl 1 rfl) ?_
      refine g_put Sx gf_M fk_M fn_M hK hP hD hS 0 rfl rfl 0 (by decide) gm_419 rfl rfl rfl (Nat.le_of_ble_eq_true rfl) d_M_begin_14 (fun H locs hP hD hS => ?_)
      have hP : va_P (dC, dI) pcl [(hm, .inr (5, [.int (nI n0), .int (nI k), .ref a1, .ref a2, .int (bI wk), .int (bI fl), .int (nI cm), .ref a3, .ref a4, .int bl, .int sd, .long sm, .int co, .ref a5, .ref a6, .ref a7, .ref a8, .ref a9, .ref a10, .ref a11, .ref a12, .ref a13, .int (bI cf), .ref a14]))] H := hP
      have hD : va_D A [(hm, .inr (5, [.int (nI n0), .int (nI k), .ref a1, .ref a2, .int (bI wk), .int (bI fl), .int (nI cm), .ref a3, .ref a4, .int bl, .int sd, .long sm, .int co, .ref a5, .ref a6, .ref a7, .ref a8, .ref a9, .ref a10, .ref a11, .ref a12, .ref a13, .int (bI cf), .ref a14]))] := hD
      refine lv_aload_n hx hb d_M_begin_17 rfl (lv_at hl 0 rfl) ?_
      refine lv_iconst (v := 0) hx hb d_M_begin_18 (by decide) ?_
      refine g_put Sx gf_M fk_M fn_M hK hP hD hS 0 rfl rfl 1 (by decide) gm_420 rfl rfl rfl (Nat.le_of_ble_eq_true rfl) d_M_begin_19 (fun H locs hP hD hS => ?_)
      have hP : va_P (dC, dI) pcl [(hm, .inr (5, [.int (nI n0), .int 0, .ref a1, .ref a2, .int (bI wk), .int (bI fl), .int (nI cm), .ref a3, .ref a4, .int bl, .int sd, .long sm, .int co, .ref a5, .ref a6, .ref a7, .ref a8, .ref a9, .ref a10, .ref a11, .ref a12, .ref a13, .int (bI cf), .ref a14]))] H := hP
      have hD : va_D A [(hm, .inr (5, [.int (nI n0), .int 0, .ref a1, .ref a2, .int (bI wk), .int (bI fl), .int (nI cm), .ref a3, .ref a4, .int bl, .int sd, .long sm, .int co, .ref a5, .ref a6, .ref a7, .ref a8, .ref a9, .ref a10, .ref a11, .ref a12, .ref a13, .int (bI cf), .ref a14]))] := hD
      refine lv_aload_n hx hb d_M_begin_22 rfl (lv_at hl 0 rfl) ?_
      refine lv_iconst (v := 0) hx hb d_M_begin_23 (by decide) ?_
      refine g_put Sx gf_M fk_M fn_M hK hP hD hS 0 rfl rfl 4 (by decide) gm_423 rfl rfl rfl (Nat.le_of_ble_eq_true rfl) d_M_begin_24 (fun H locs hP hD hS => ?_)
      have hP : va_P (dC, dI) pcl [(hm, .inr (5, [.int (nI n0), .int 0, .ref a1, .ref a2, .int 0, .int (bI fl), .int (nI cm), .ref a3, .ref a4, .int bl, .int sd, .long sm, .int co, .ref a5, .ref a6, .ref a7, .ref a8, .ref a9, .ref a10, .ref a11, .ref a12, .ref a13, .int (bI cf), .ref a14]))] H := hP
      have hD : va_D A [(hm, .inr (5, [.int (nI n0), .int 0, .ref a1, .ref a2, .int 0, .int (bI fl), .int (nI cm), .ref a3, .ref a4, .int bl, .int sd, .long sm, .int co, .ref a5, .ref a6, .ref a7, .ref a8, .ref a9, .ref a10, .ref a11, .ref a12, .ref a13, .int (bI cf), .ref a14]))] := hD
      refine lv_iconst (v := 1) hx hb d_M_begin_27 (by decide) ?_
      rw [show (1 : Int32) = (bI true) from rfl]
      exact hret _ H locs _ d_M_begin_28 hP hD hS
    · skip
      exact absurd (show nI n0 ≤ 10 from nI_le hn0 (by decide)) q2
set_option maxHeartbeats 4000000 in
set_option maxRecDepth 100000 in
theorem c_M_begin_no (l : Launch) (dC : Nat → ClassId) (dI : Nat → Nat → Nat) (n : Nat) (k : Nat) (wk : Bool) (fl : Bool) (cm : Nat) (bl : Int32) (sd : Int32) (sm : Int64) (co : Int32) (cf : Bool) (hm : Nat) (a1 : Nat) (a2 : Nat) (a3 : Nat) (a4 : Nat) (a5 : Nat) (a6 : Nat) (a7 : Nat) (a8 : Nat) (a9 : Nat) (a10 : Nat) (a11 : Nat) (a12 : Nat) (a13 : Nat) (a14 : Nat) (cI : ClassId) (n0 : Int32) (sz : Nat) (hno : n0 < 0 ∨ ¬ n0 ≤ 10) : Met l y_M_begin (.code y_M_begin k_M_begin 2 (.some FieldType.boolean) :: gw) rm_M_begin (rwP [.ref hm, .int n0] (dC, dI) [(hm, .inr (5, [.int (nI n), .int (nI k), .ref a1, .ref a2, .int (bI wk), .int (bI fl), .int (nI cm), .ref a3, .ref a4, .int bl, .int sd, .long sm, .int co, .ref a5, .ref a6, .ref a7, .ref a8, .ref a9, .ref a10, .ref a11, .ref a12, .ref a13, .int (bI cf), .ref a14]))] [(cI, .int)] sz) (va_Qi (fun (r : Int32) (_ : Unit) => r = bI false) (rwB (dC, dI) [(hm, .inr (5, [.int (nI n), .int (nI k), .ref a1, .ref a2, .int (bI wk), .int (bI fl), .int (nI cm), .ref a3, .ref a4, .int bl, .int sd, .long sm, .int co, .ref a5, .ref a6, .ref a7, .ref a8, .ref a9, .ref a10, .ref a11, .ref a12, .ref a13, .int (bI cf), .ref a14]))] [(cI, .int)] (va_A [(hm, .inr (5, [.int (nI n), .int (nI k), .ref a1, .ref a2, .int (bI wk), .int (bI fl), .int (nI cm), .ref a3, .ref a4, .int bl, .int sd, .long sm, .int co, .ref a5, .ref a6, .ref a7, .ref a8, .ref a9, .ref a10, .ref a11, .ref a12, .ref a13, .int (bI cf), .ref a14]))] sz)) (va_A [(hm, .inr (5, [.int (nI n), .int (nI k), .ref a1, .ref a2, .int (bI wk), .int (bI fl), .int (nI cm), .ref a3, .ref a4, .int bl, .int sd, .long sm, .int co, .ref a5, .ref a6, .ref a7, .ref a8, .ref a9, .ref a10, .ref a11, .ref a12, .ref a13, .int (bI cf), .ref a14]))] sz)) 0 0 (va_A [(hm, .inr (5, [.int (nI n), .int (nI k), .ref a1, .ref a2, .int (bI wk), .int (bI fl), .int (nI cm), .ref a3, .ref a4, .int bl, .int sd, .long sm, .int co, .ref a5, .ref a6, .ref a7, .ref a8, .ref a9, .ref a10, .ref a11, .ref a12, .ref a13, .int (bI cf), .ref a14]))] sz) := by
  refine rw_metI (by decide) ⟨rfl, rfl⟩ (bI_nar _) (Nat.le_of_ble_eq_true rfl) ?_
  intro p e s m args below meth c Q A ls Sx hP hK hD hA hl hret
  have hx := Sx.1
  have hb := Sx.2.1
  have hl : lv_has ls 2 [(0, .ref hm), (1, .int n0)] := hl
  have hS : va_S A s.heap s.heap [] := va_S.rf
  obtain ⟨H, hH⟩ : ∃ H, H = s.heap := ⟨_, rfl⟩
  obtain ⟨locs, hlo⟩ : ∃ locs : List Loc, locs = [] := ⟨_, rfl⟩
  rw [← hlo]
  rw [← hlo] at hS
  have hP : va_P (dC, dI) pcl [(hm, .inr (5, [.int (nI n), .int (nI k), .ref a1, .ref a2, .int (bI wk), .int (bI fl), .int (nI cm), .ref a3, .ref a4, .int bl, .int sd, .long sm, .int co, .ref a5, .ref a6, .ref a7, .ref a8, .ref a9, .ref a10, .ref a11, .ref a12, .ref a13, .int (bI cf), .ref a14]))] H := by rw [hH]; exact hP
  have hS : va_S A s.heap H locs := by rw [hH]; exact hS
  suffices hgo : W p l e rm_M_begin s m args below meth c H locs 0 0 Q (F0 m 0 ls []) by rw [hH] at hgo; exact hgo
  refine lv_iload_n hx hb d_M_begin_0 rfl (lv_at hl 1 rfl) ?_
  refine lv_if_lt hx hb d_M_begin_1 (tgt := 10) rfl (fun q1 => ?_) (fun q1 => ?_)
  · skip
    refine lv_iconst (v := 0) hx hb d_M_begin_10 (by decide) ?_
    rw [show (0 : Int32) = (bI false) from rfl]
    exact hret _ H locs _ d_M_begin_11 hP hD hS
  · skip
    refine lv_iload_n hx hb d_M_begin_4 rfl (lv_at hl 1 rfl) ?_
    refine lv_bipush (v := 10) hx hb d_M_begin_5 (by decide) ?_
    refine lv_icmp_le hx hb d_M_begin_7 (tgt := 12) rfl (fun q2 => ?_) (fun q2 => ?_)
    · skip
      exact hno.elim (fun h => absurd h q1) (fun h => absurd q2 h)
    · skip
      refine lv_iconst (v := 0) hx hb d_M_begin_10 (by decide) ?_
      rw [show (0 : Int32) = (bI false) from rfl]
      exact hret _ H locs _ d_M_begin_11 hP hD hS
theorem d_M_add_0 : decode k_M_add 0 = .ok (.aload_n 0, 1) := by decide +kernel
theorem d_M_add_1 : decode k_M_add 1 = .ok (.iload_n 1, 1) := by decide +kernel
theorem d_M_add_2 : decode k_M_add 2 = .ok (.invokevirtual 63, 3) := by decide +kernel
theorem d_M_add_5 : decode k_M_add 5 = .ok (.ifCond .eq 29, 3) := by decide +kernel
theorem d_M_add_8 : decode k_M_add 8 = .ok (.aload_n 0, 1) := by decide +kernel
theorem d_M_add_9 : decode k_M_add 9 = .ok (.iload_n 2, 1) := by decide +kernel
theorem d_M_add_10 : decode k_M_add 10 = .ok (.invokevirtual 63, 3) := by decide +kernel
theorem d_M_add_13 : decode k_M_add 13 = .ok (.ifCond .eq 21, 3) := by decide +kernel
theorem d_M_add_16 : decode k_M_add 16 = .ok (.iload_n 1, 1) := by decide +kernel
theorem d_M_add_17 : decode k_M_add 17 = .ok (.iload_n 2, 1) := by decide +kernel
theorem d_M_add_18 : decode k_M_add 18 = .ok (.if_icmp .eq 16, 3) := by decide +kernel
theorem d_M_add_21 : decode k_M_add 21 = .ok (.iload_n 3, 1) := by decide +kernel
theorem d_M_add_22 : decode k_M_add 22 = .ok (.ifCond .lt 12, 3) := by decide +kernel
theorem d_M_add_25 : decode k_M_add 25 = .ok (.aload_n 0, 1) := by decide +kernel
theorem d_M_add_26 : decode k_M_add 26 = .ok (.getfield 56, 3) := by decide +kernel
theorem d_M_add_29 : decode k_M_add 29 = .ok (.bipush 18, 2) := by decide +kernel
theorem d_M_add_31 : decode k_M_add 31 = .ok (.if_icmp .ne 5, 3) := by decide +kernel
theorem d_M_add_34 : decode k_M_add 34 = .ok (.iconst (-1), 1) := by decide +kernel
theorem d_M_add_35 : decode k_M_add 35 = .ok (.ireturn, 1) := by decide +kernel
theorem d_M_add_36 : decode k_M_add 36 = .ok (.aload_n 0, 1) := by decide +kernel
theorem d_M_add_37 : decode k_M_add 37 = .ok (.getfield 7, 3) := by decide +kernel
theorem d_M_add_40 : decode k_M_add 40 = .ok (.iconst 2, 1) := by decide +kernel
theorem d_M_add_41 : decode k_M_add 41 = .ok (.aload_n 0, 1) := by decide +kernel
theorem d_M_add_42 : decode k_M_add 42 = .ok (.getfield 56, 3) := by decide +kernel
theorem d_M_add_45 : decode k_M_add 45 = .ok (.imul, 1) := by decide +kernel
theorem d_M_add_46 : decode k_M_add 46 = .ok (.iload_n 1, 1) := by decide +kernel
theorem d_M_add_47 : decode k_M_add 47 = .ok (.iastore, 1) := by decide +kernel
theorem d_M_add_48 : decode k_M_add 48 = .ok (.aload_n 0, 1) := by decide +kernel
theorem d_M_add_49 : decode k_M_add 49 = .ok (.getfield 7, 3) := by decide +kernel
theorem d_M_add_52 : decode k_M_add 52 = .ok (.iconst 2, 1) := by decide +kernel
theorem d_M_add_53 : decode k_M_add 53 = .ok (.aload_n 0, 1) := by decide +kernel
theorem d_M_add_54 : decode k_M_add 54 = .ok (.getfield 56, 3) := by decide +kernel
theorem d_M_add_57 : decode k_M_add 57 = .ok (.imul, 1) := by decide +kernel
theorem d_M_add_58 : decode k_M_add 58 = .ok (.iconst 1, 1) := by decide +kernel
theorem d_M_add_59 : decode k_M_add 59 = .ok (.iadd, 1) := by decide +kernel
theorem d_M_add_60 : decode k_M_add 60 = .ok (.iload_n 2, 1) := by decide +kernel
theorem d_M_add_61 : decode k_M_add 61 = .ok (.iastore, 1) := by decide +kernel
theorem d_M_add_62 : decode k_M_add 62 = .ok (.aload_n 0, 1) := by decide +kernel
theorem d_M_add_63 : decode k_M_add 63 = .ok (.getfield 13, 3) := by decide +kernel
theorem d_M_add_66 : decode k_M_add 66 = .ok (.aload_n 0, 1) := by decide +kernel
theorem d_M_add_67 : decode k_M_add 67 = .ok (.getfield 56, 3) := by decide +kernel
theorem d_M_add_70 : decode k_M_add 70 = .ok (.iload_n 3, 1) := by decide +kernel
theorem d_M_add_71 : decode k_M_add 71 = .ok (.iastore, 1) := by decide +kernel
theorem d_M_add_72 : decode k_M_add 72 = .ok (.aload_n 0, 1) := by decide +kernel
theorem d_M_add_73 : decode k_M_add 73 = .ok (.aload_n 0, 1) := by decide +kernel
theorem d_M_add_74 : decode k_M_add 74 = .ok (.getfield 56, 3) := by decide +kernel
theorem d_M_add_77 : decode k_M_add 77 = .ok (.iconst 1, 1) := by decide +kernel
theorem d_M_add_78 : decode k_M_add 78 = .ok (.iadd, 1) := by decide +kernel
theorem d_M_add_79 : decode k_M_add 79 = .ok (.putfield 56, 3) := by decide +kernel
theorem d_M_add_82 : decode k_M_add 82 = .ok (.aload_n 0, 1) := by decide +kernel
theorem d_M_add_83 : decode k_M_add 83 = .ok (.iconst 0, 1) := by decide +kernel
theorem d_M_add_84 : decode k_M_add 84 = .ok (.putfield 59, 3) := by decide +kernel
theorem d_M_add_87 : decode k_M_add 87 = .ok (.aload_n 0, 1) := by decide +kernel
theorem d_M_add_88 : decode k_M_add 88 = .ok (.getfield 56, 3) := by decide +kernel
theorem d_M_add_91 : decode k_M_add 91 = .ok (.iconst 1, 1) := by decide +kernel
theorem d_M_add_92 : decode k_M_add 92 = .ok (.isub, 1) := by decide +kernel
theorem d_M_add_93 : decode k_M_add 93 = .ok (.ireturn, 1) := by decide +kernel
abbrev rm_M_add : Room := { frames := 1, cells := 0, slots := 0, locals := 21 }
theorem hd_M_add : y_M_add.cls = n_M ∧ y_M_add.cls ≠ "java/lang/invoke/MethodHandle" ∧ y_M_add.cls ≠ "java/lang/invoke/VarHandle" ∧ (parseMethodDescriptor y_M_add.desc).map (fun d => d.parameters.length) = some 3 := by decide +kernel
set_option maxHeartbeats 4000000 in
set_option maxRecDepth 100000 in
theorem c_M_add_ok (l : Launch) (dC : Nat → ClassId) (dI : Nat → Nat → Nat) (n : Nat) (k : Nat) (wk : Bool) (fl : Bool) (cm : Nat) (bl : Int32) (sd : Int32) (sm : Int64) (co : Int32) (cf : Bool) (hm : Nat) (a1 : Nat) (a2 : Nat) (a3 : Nat) (a4 : Nat) (a5 : Nat) (a6 : Nat) (a7 : Nat) (a8 : Nat) (a9 : Nat) (a10 : Nat) (a11 : Nat) (a12 : Nat) (a13 : Nat) (a14 : Nat) (cI : ClassId) (E : Nat → Nat) (w : Nat → Int32) (u : Nat) (v : Nat) (w0 : Int32) (sz : Nat) (hn : n ≤ 10) (hk : k < 18) (hu : u < n) (hv : v < n) (huv : u ≠ v) (hw : ¬ w0 < 0) : Met l y_M_add (.code y_M_add k_M_add 4 (.some FieldType.int) :: gw) rm_M_add (rwP [.ref hm, .int (nI u), .int (nI v), .int w0] (dC, dI) [(hm, .inr (5, [.int (nI n), .int (nI k), .ref a1, .ref a2, .int (bI wk), .int (bI fl), .int (nI cm), .ref a3, .ref a4, .int bl, .int sd, .long sm, .int co, .ref a5, .ref a6, .ref a7, .ref a8, .ref a9, .ref a10, .ref a11, .ref a12, .ref a13, .int (bI cf), .ref a14])), (a1, .inl (cI, 36, .inl (fun i9 => nI (E i9)))), (a2, .inl (cI, 18, .inl w))] [(cI, .int)] sz) (va_Qi (fun (r : Int32) (_ : Unit) => r = nI k) (rwB (dC, dI) [(hm, .inr (5, [.int (nI n), .int (nI (k + 1)), .ref a1, .ref a2, .int (bI false), .int (bI fl), .int (nI cm), .ref a3, .ref a4, .int bl, .int sd, .long sm, .int co, .ref a5, .ref a6, .ref a7, .ref a8, .ref a9, .ref a10, .ref a11, .ref a12, .ref a13, .int (bI cf), .ref a14])), (a1, .inl (cI, 36, .inl (fun i9 => nI ((va_up (va_up E (2 * k) u) (2 * k + 1) v) i9)))), (a2, .inl (cI, 18, .inl (upd w k w0)))] [(cI, .int)] (va_A [(hm, .inr (5, [.int (nI n), .int (nI k), .ref a1, .ref a2, .int (bI wk), .int (bI fl), .int (nI cm), .ref a3, .ref a4, .int bl, .int sd, .long sm, .int co, .ref a5, .ref a6, .ref a7, .ref a8, .ref a9, .ref a10, .ref a11, .ref a12, .ref a13, .int (bI cf), .ref a14])), (a1, .inl (cI, 36, .inl (fun i9 => nI (E i9)))), (a2, .inl (cI, 18, .inl w))] sz)) (va_A [(hm, .inr (5, [.int (nI n), .int (nI k), .ref a1, .ref a2, .int (bI wk), .int (bI fl), .int (nI cm), .ref a3, .ref a4, .int bl, .int sd, .long sm, .int co, .ref a5, .ref a6, .ref a7, .ref a8, .ref a9, .ref a10, .ref a11, .ref a12, .ref a13, .int (bI cf), .ref a14])), (a1, .inl (cI, 36, .inl (fun i9 => nI (E i9)))), (a2, .inl (cI, 18, .inl w))] sz)) 0 0 (va_A [(hm, .inr (5, [.int (nI n), .int (nI k), .ref a1, .ref a2, .int (bI wk), .int (bI fl), .int (nI cm), .ref a3, .ref a4, .int bl, .int sd, .long sm, .int co, .ref a5, .ref a6, .ref a7, .ref a8, .ref a9, .ref a10, .ref a11, .ref a12, .ref a13, .int (bI cf), .ref a14])), (a1, .inl (cI, 36, .inl (fun i9 => nI (E i9)))), (a2, .inl (cI, 18, .inl w))] sz) := by
  refine rw_metI (by decide) ⟨rfl, rfl⟩ rfl (Nat.le_of_ble_eq_true rfl) ?_
  intro p e s m args below meth c Q A ls Sx hP hK hD hA hl hret
  have hx := Sx.1
  have hb := Sx.2.1
  have hl : lv_has ls 4 [(0, .ref hm), (1, .int (nI u)), (2, .int (nI v)), (3, .int w0)] := hl
  have hS : va_S A s.heap s.heap [] := va_S.rf
  obtain ⟨H, hH⟩ : ∃ H, H = s.heap := ⟨_, rfl⟩
  obtain ⟨locs, hlo⟩ : ∃ locs : List Loc, locs = [] := ⟨_, rfl⟩
  rw [← hlo]
  rw [← hlo] at hS
  have hP : va_P (dC, dI) pcl [(hm, .inr (5, [.int (nI n), .int (nI k), .ref a1, .ref a2, .int (bI wk), .int (bI fl), .int (nI cm), .ref a3, .ref a4, .int bl, .int sd, .long sm, .int co, .ref a5, .ref a6, .ref a7, .ref a8, .ref a9, .ref a10, .ref a11, .ref a12, .ref a13, .int (bI cf), .ref a14])), (a1, .inl (cI, 36, .inl (fun i9 => nI (E i9)))), (a2, .inl (cI, 18, .inl w))] H := by rw [hH]; exact hP
  have hS : va_S A s.heap H locs := by rw [hH]; exact hS
  suffices hgo : W p l e rm_M_add s m args below meth c H locs 0 0 Q (F0 m 0 ls []) by rw [hH] at hgo; exact hgo
  refine lv_aload_n hx hb d_M_add_0 rfl (lv_at hl 0 rfl) ?_
  refine lv_iload_n hx hb d_M_add_1 rfl (lv_at hl 1 rfl) ?_
  refine ro_V (As := [.int (nI u)]) (rest := []) Sx (c_M_isVertex l dC dI n k wk fl cm bl sd sm co cf hm a1 a2 a3 a4 a5 a6 a7 a8 a9 a10 a11 a12 a13 a14 cI (nI u)) (gw_callV gm_475 gm_476 gm_25 gm_56 gm_477) hd_M_isVertex ⟨rfl, rfl⟩ ⟨Nat.le_of_ble_eq_true rfl, Nat.le_of_ble_eq_true rfl⟩ (va_P_map hP [0] rfl) (hK.sub (tys' := []) [] rfl) rfl 0 rfl rfl hl.1 rfl (Nat.le_of_ble_eq_true rfl) d_M_add_2 ⟨Nat.zero_le _, Nat.zero_le _⟩ ?_
  refine lv_if_eq hx hb d_M_add_5 (tgt := 34) rfl (fun q1 => ?_) (fun q1 => ?_)
  · have q1 : (ps_in (nI u) (nI n)) = false := bI_0.mp q1
    rw [ps_in_nI hu (by omega)] at q1; cases q1
  · have q1 : (ps_in (nI u) (nI n)) = true := bI_1.mp q1
    refine lv_aload_n hx hb d_M_add_8 rfl (lv_at hl 0 rfl) ?_
    refine lv_iload_n hx hb d_M_add_9 rfl (lv_at hl 2 rfl) ?_
    refine ro_V (As := [.int (nI v)]) (rest := []) Sx (c_M_isVertex l dC dI n k wk fl cm bl sd sm co cf hm a1 a2 a3 a4 a5 a6 a7 a8 a9 a10 a11 a12 a13 a14 cI (nI v)) (gw_callV gm_475 gm_476 gm_25 gm_56 gm_477) hd_M_isVertex ⟨rfl, rfl⟩ ⟨Nat.le_of_ble_eq_true rfl, Nat.le_of_ble_eq_true rfl⟩ (va_P_map hP [0] rfl) (hK.sub (tys' := []) [] rfl) rfl 0 rfl rfl hl.1 rfl (Nat.le_of_ble_eq_true rfl) d_M_add_10 ⟨Nat.zero_le _, Nat.zero_le _⟩ ?_
    refine lv_if_eq hx hb d_M_add_13 (tgt := 34) rfl (fun q2 => ?_) (fun q2 => ?_)
    · have q2 : (ps_in (nI v) (nI n)) = false := bI_0.mp q2
      rw [ps_in_nI hv (by omega)] at q2; cases q2
    · have q2 : (ps_in (nI v) (nI n)) = true := bI_1.mp q2
      refine lv_iload_n hx hb d_M_add_16 rfl (lv_at hl 1 rfl) ?_
      refine lv_iload_n hx hb d_M_add_17 rfl (lv_at hl 2 rfl) ?_
      refine lv_icmp_eq hx hb d_M_add_18 (tgt := 34) rfl (fun q3 => ?_) (fun q3 => ?_)
      · skip
        exact absurd (nq_eq (by omega) (by omega) q3) huv
      · skip
        refine lv_iload_n hx hb d_M_add_21 rfl (lv_at hl 3 rfl) ?_
        refine lv_if_lt hx hb d_M_add_22 (tgt := 34) rfl (fun q4 => ?_) (fun q4 => ?_)
        · skip
          exact absurd q4 hw
        · skip
          refine lv_aload_n hx hb d_M_add_25 rfl (lv_at hl 0 rfl) ?_
          refine g_get Sx gf_M hK hP 0 rfl rfl 1 (by decide) gm_420 rfl d_M_add_26 ?_
          refine lv_bipush (v := 18) hx hb d_M_add_29 (by decide) ?_
          refine lv_icmp_ne hx hb d_M_add_31 (tgt := 36) rfl (fun q5 => ?_) (fun q5 => ?_)
          · skip
            refine lv_aload_n hx hb d_M_add_36 rfl (lv_at hl 0 rfl) ?_
            refine g_get Sx gf_M hK hP 0 rfl rfl 2 (by decide) gm_421 rfl d_M_add_37 ?_
            refine lv_iconst (v := nI 2) hx hb d_M_add_40 (by decide) ?_
            refine lv_aload_n hx hb d_M_add_41 rfl (lv_at hl 0 rfl) ?_
            refine g_get Sx gf_M hK hP 0 rfl rfl 1 (by decide) gm_420 rfl d_M_add_42 ?_
            refine lv_imul hx hb d_M_add_45 ?_
            rw [show (((nI 2) * (nI k)) : Int32) = nI (2 * k) from pk_mul _ _]
            refine lv_iload_n hx hb d_M_add_46 rfl (lv_at hl 1 rfl) ?_
            refine g_istN (j := (2 * k)) Sx hK hP hD hS 1 0 rfl rfl (by omega) (by decide) d_M_add_47 (fun H locs hP hD hS => ?_)
            have hP : va_P (dC, dI) pcl [(hm, .inr (5, [.int (nI n), .int (nI k), .ref a1, .ref a2, .int (bI wk), .int (bI fl), .int (nI cm), .ref a3, .ref a4, .int bl, .int sd, .long sm, .int co, .ref a5, .ref a6, .ref a7, .ref a8, .ref a9, .ref a10, .ref a11, .ref a12, .ref a13, .int (bI cf), .ref a14])), (a1, .inl (cI, 36, .inl (fun i9 => nI ((va_up E (2 * k) u) i9)))), (a2, .inl (cI, 18, .inl w))] H := hP
            have hD : va_D A [(hm, .inr (5, [.int (nI n), .int (nI k), .ref a1, .ref a2, .int (bI wk), .int (bI fl), .int (nI cm), .ref a3, .ref a4, .int bl, .int sd, .long sm, .int co, .ref a5, .ref a6, .ref a7, .ref a8, .ref a9, .ref a10, .ref a11, .ref a12, .ref a13, .int (bI cf), .ref a14])), (a1, .inl (cI, 36, .inl (fun i9 => nI ((va_up E (2 * k) u) i9)))), (a2, .inl (cI, 18, .inl w))] := hD
            refine lv_aload_n hx hb d_M_add_48 rfl (lv_at hl 0 rfl) ?_
            refine g_get Sx gf_M hK hP 0 rfl rfl 2 (by decide) gm_421 rfl d_M_add_49 ?_
            refine lv_iconst (v := nI 2) hx hb d_M_add_52 (by decide) ?_
            refine lv_aload_n hx hb d_M_add_53 rfl (lv_at hl 0 rfl) ?_
            refine g_get Sx gf_M hK hP 0 rfl rfl 1 (by decide) gm_420 rfl d_M_add_54 ?_
            refine lv_imul hx hb d_M_add_57 ?_
            rw [show (((nI 2) * (nI k)) : Int32) = nI (2 * k) from pk_mul _ _]
            refine lv_iconst (v := nI 1) hx hb d_M_add_58 (by decide) ?_
            refine lv_iadd hx hb d_M_add_59 ?_
            rw [show (((nI (2 * k)) + (nI 1)) : Int32) = nI ((2 * k) + 1) from nI_add _ _]
            refine lv_iload_n hx hb d_M_add_60 rfl (lv_at hl 2 rfl) ?_
            refine g_istN (j := ((2 * k) + 1)) Sx hK hP hD hS 1 0 rfl rfl (by omega) (by decide) d_M_add_61 (fun H locs hP hD hS => ?_)
            have hP : va_P (dC, dI) pcl [(hm, .inr (5, [.int (nI n), .int (nI k), .ref a1, .ref a2, .int (bI wk), .int (bI fl), .int (nI cm), .ref a3, .ref a4, .int bl, .int sd, .long sm, .int co, .ref a5, .ref a6, .ref a7, .ref a8, .ref a9, .ref a10, .ref a11, .ref a12, .ref a13, .int (bI cf), .ref a14])), (a1, .inl (cI, 36, .inl (fun i9 => nI ((va_up (va_up E (2 * k) u) ((2 * k) + 1) v) i9)))), (a2, .inl (cI, 18, .inl w))] H := hP
            have hD : va_D A [(hm, .inr (5, [.int (nI n), .int (nI k), .ref a1, .ref a2, .int (bI wk), .int (bI fl), .int (nI cm), .ref a3, .ref a4, .int bl, .int sd, .long sm, .int co, .ref a5, .ref a6, .ref a7, .ref a8, .ref a9, .ref a10, .ref a11, .ref a12, .ref a13, .int (bI cf), .ref a14])), (a1, .inl (cI, 36, .inl (fun i9 => nI ((va_up (va_up E (2 * k) u) ((2 * k) + 1) v) i9)))), (a2, .inl (cI, 18, .inl w))] := hD
            refine lv_aload_n hx hb d_M_add_62 rfl (lv_at hl 0 rfl) ?_
            refine g_get Sx gf_M hK hP 0 rfl rfl 3 (by decide) gm_422 rfl d_M_add_63 ?_
            refine lv_aload_n hx hb d_M_add_66 rfl (lv_at hl 0 rfl) ?_
            refine g_get Sx gf_M hK hP 0 rfl rfl 1 (by decide) gm_420 rfl d_M_add_67 ?_
            refine lv_iload_n hx hb d_M_add_70 rfl (lv_at hl 3 rfl) ?_
            refine g_ist (j := k) Sx hK hP hD hS 2 0 rfl rfl (by omega) (by decide) d_M_add_71 (fun H locs hP hD hS => ?_)
            have hP : va_P (dC, dI) pcl [(hm, .inr (5, [.int (nI n), .int (nI k), .ref a1, .ref a2, .int (bI wk), .int (bI fl), .int (nI cm), .ref a3, .ref a4, .int bl, .int sd, .long sm, .int co, .ref a5, .ref a6, .ref a7, .ref a8, .ref a9, .ref a10, .ref a11, .ref a12, .ref a13, .int (bI cf), .ref a14])), (a1, .inl (cI, 36, .inl (fun i9 => nI ((va_up (va_up E (2 * k) u) ((2 * k) + 1) v) i9)))), (a2, .inl (cI, 18, .inl (upd w k w0)))] H := hP
            have hD : va_D A [(hm, .inr (5, [.int (nI n), .int (nI k), .ref a1, .ref a2, .int (bI wk), .int (bI fl), .int (nI cm), .ref a3, .ref a4, .int bl, .int sd, .long sm, .int co, .ref a5, .ref a6, .ref a7, .ref a8, .ref a9, .ref a10, .ref a11, .ref a12, .ref a13, .int (bI cf), .ref a14])), (a1, .inl (cI, 36, .inl (fun i9 => nI ((va_up (va_up E (2 * k) u) ((2 * k) + 1) v) i9)))), (a2, .inl (cI, 18, .inl (upd w k w0)))] := hD
            refine lv_aload_n hx hb d_M_add_72 rfl (lv_at hl 0 rfl) ?_
            refine lv_aload_n hx hb d_M_add_73 rfl (lv_at hl 0 rfl) ?_
            refine g_get Sx gf_M hK hP 0 rfl rfl 1 (by decide) gm_420 rfl d_M_add_74 ?_
            refine lv_iconst (v := nI 1) hx hb d_M_add_77 (by decide) ?_
            refine lv_iadd hx hb d_M_add_78 ?_
            rw [show (((nI k) + (nI 1)) : Int32) = nI (k + 1) from nI_add _ _]
            refine g_put Sx gf_M fk_M fn_M hK hP hD hS 0 rfl rfl 1 (by decide) gm_420 rfl rfl rfl (Nat.le_of_ble_eq_true rfl) d_M_add_79 (fun H locs hP hD hS => ?_)
            have hP : va_P (dC, dI) pcl [(hm, .inr (5, [.int (nI n), .int (nI (k + 1)), .ref a1, .ref a2, .int (bI wk), .int (bI fl), .int (nI cm), .ref a3, .ref a4, .int bl, .int sd, .long sm, .int co, .ref a5, .ref a6, .ref a7, .ref a8, .ref a9, .ref a10, .ref a11, .ref a12, .ref a13, .int (bI cf), .ref a14])), (a1, .inl (cI, 36, .inl (fun i9 => nI ((va_up (va_up E (2 * k) u) ((2 * k) + 1) v) i9)))), (a2, .inl (cI, 18, .inl (upd w k w0)))] H := hP
            have hD : va_D A [(hm, .inr (5, [.int (nI n), .int (nI (k + 1)), .ref a1, .ref a2, .int (bI wk), .int (bI fl), .int (nI cm), .ref a3, .ref a4, .int bl, .int sd, .long sm, .int co, .ref a5, .ref a6, .ref a7, .ref a8, .ref a9, .ref a10, .ref a11, .ref a12, .ref a13, .int (bI cf), .ref a14])), (a1, .inl (cI, 36, .inl (fun i9 => nI ((va_up (va_up E (2 * k) u) ((2 * k) + 1) v) i9)))), (a2, .inl (cI, 18, .inl (upd w k w0)))] := hD
            refine lv_aload_n hx hb d_M_add_82 rfl (lv_at hl 0 rfl) ?_
            refine lv_iconst (v := 0) hx hb d_M_add_83 (by decide) ?_
            refine g_put Sx gf_M fk_M fn_M hK hP hD hS 0 rfl rfl 4 (by decide) gm_423 rfl rfl rfl (Nat.le_of_ble_eq_true rfl) d_M_add_84 (fun H locs hP hD hS => ?_)
            have hP : va_P (dC, dI) pcl [(hm, .inr (5, [.int (nI n), .int (nI (k + 1)), .ref a1, .ref a2, .int 0, .int (bI fl), .int (nI cm), .ref a3, .ref a4, .int bl, .int sd, .long sm, .int co, .ref a5, .ref a6, .ref a7, .ref a8, .ref a9, .ref a10, .ref a11, .ref a12, .ref a13, .int (bI cf), .ref a14])), (a1, .inl (cI, 36, .inl (fun i9 => nI ((va_up (va_up E (2 * k) u) ((2 * k) + 1) v) i9)))), (a2, .inl (cI, 18, .inl (upd w k w0)))] H := hP
            have hD : va_D A [(hm, .inr (5, [.int (nI n), .int (nI (k + 1)), .ref a1, .ref a2, .int 0, .int (bI fl), .int (nI cm), .ref a3, .ref a4, .int bl, .int sd, .long sm, .int co, .ref a5, .ref a6, .ref a7, .ref a8, .ref a9, .ref a10, .ref a11, .ref a12, .ref a13, .int (bI cf), .ref a14])), (a1, .inl (cI, 36, .inl (fun i9 => nI ((va_up (va_up E (2 * k) u) ((2 * k) + 1) v) i9)))), (a2, .inl (cI, 18, .inl (upd w k w0)))] := hD
            refine lv_aload_n hx hb d_M_add_87 rfl (lv_at hl 0 rfl) ?_
            refine g_get Sx gf_M hK hP 0 rfl rfl 1 (by decide) gm_420 rfl d_M_add_88 ?_
            refine lv_iconst (v := nI 1) hx hb d_M_add_91 (by decide) ?_
            refine lv_isub hx hb d_M_add_92 ?_
            rw [show (((nI (k + 1)) - (nI 1)) : Int32) = nI ((k + 1) - 1) from pk_sub (by omega)]
            rw [show (nI ((k + 1) - 1) : Int32) = (nI k) from by rw [Nat.add_sub_cancel]]
            exact hret _ H locs _ d_M_add_93 hP hD hS
          · skip
            exact absurd (nq_eq (b := 18) (by omega) (by omega) q5) (by omega)
set_option maxHeartbeats 4000000 in
set_option maxRecDepth 100000 in
theorem c_M_add_no (l : Launch) (dC : Nat → ClassId) (dI : Nat → Nat → Nat) (n : Nat) (k : Nat) (wk : Bool) (fl : Bool) (cm : Nat) (bl : Int32) (sd : Int32) (sm : Int64) (co : Int32) (cf : Bool) (hm : Nat) (a1 : Nat) (a2 : Nat) (a3 : Nat) (a4 : Nat) (a5 : Nat) (a6 : Nat) (a7 : Nat) (a8 : Nat) (a9 : Nat) (a10 : Nat) (a11 : Nat) (a12 : Nat) (a13 : Nat) (a14 : Nat) (cI : ClassId) (E : Nat → Nat) (w : Nat → Int32) (u : Int32) (v : Int32) (w0 : Int32) (sz : Nat) (hno : ¬ (ps_in u (nI n) = true ∧ ps_in v (nI n) = true ∧ ¬ u = v ∧ ¬ w0 < 0 ∧ ¬ nI k = 18)) : Met l y_M_add (.code y_M_add k_M_add 4 (.some FieldType.int) :: gw) rm_M_add (rwP [.ref hm, .int u, .int v, .int w0] (dC, dI) [(hm, .inr (5, [.int (nI n), .int (nI k), .ref a1, .ref a2, .int (bI wk), .int (bI fl), .int (nI cm), .ref a3, .ref a4, .int bl, .int sd, .long sm, .int co, .ref a5, .ref a6, .ref a7, .ref a8, .ref a9, .ref a10, .ref a11, .ref a12, .ref a13, .int (bI cf), .ref a14])), (a1, .inl (cI, 36, .inl (fun i9 => nI (E i9)))), (a2, .inl (cI, 18, .inl w))] [(cI, .int)] sz) (va_Qi (fun (r : Int32) (_ : Unit) => r = (-1)) (rwB (dC, dI) [(hm, .inr (5, [.int (nI n), .int (nI k), .ref a1, .ref a2, .int (bI wk), .int (bI fl), .int (nI cm), .ref a3, .ref a4, .int bl, .int sd, .long sm, .int co, .ref a5, .ref a6, .ref a7, .ref a8, .ref a9, .ref a10, .ref a11, .ref a12, .ref a13, .int (bI cf), .ref a14])), (a1, .inl (cI, 36, .inl (fun i9 => nI (E i9)))), (a2, .inl (cI, 18, .inl w))] [(cI, .int)] (va_A [(hm, .inr (5, [.int (nI n), .int (nI k), .ref a1, .ref a2, .int (bI wk), .int (bI fl), .int (nI cm), .ref a3, .ref a4, .int bl, .int sd, .long sm, .int co, .ref a5, .ref a6, .ref a7, .ref a8, .ref a9, .ref a10, .ref a11, .ref a12, .ref a13, .int (bI cf), .ref a14])), (a1, .inl (cI, 36, .inl (fun i9 => nI (E i9)))), (a2, .inl (cI, 18, .inl w))] sz)) (va_A [(hm, .inr (5, [.int (nI n), .int (nI k), .ref a1, .ref a2, .int (bI wk), .int (bI fl), .int (nI cm), .ref a3, .ref a4, .int bl, .int sd, .long sm, .int co, .ref a5, .ref a6, .ref a7, .ref a8, .ref a9, .ref a10, .ref a11, .ref a12, .ref a13, .int (bI cf), .ref a14])), (a1, .inl (cI, 36, .inl (fun i9 => nI (E i9)))), (a2, .inl (cI, 18, .inl w))] sz)) 0 0 (va_A [(hm, .inr (5, [.int (nI n), .int (nI k), .ref a1, .ref a2, .int (bI wk), .int (bI fl), .int (nI cm), .ref a3, .ref a4, .int bl, .int sd, .long sm, .int co, .ref a5, .ref a6, .ref a7, .ref a8, .ref a9, .ref a10, .ref a11, .ref a12, .ref a13, .int (bI cf), .ref a14])), (a1, .inl (cI, 36, .inl (fun i9 => nI (E i9)))), (a2, .inl (cI, 18, .inl w))] sz) := by
  refine rw_metI (by decide) ⟨rfl, rfl⟩ rfl (Nat.le_of_ble_eq_true rfl) ?_
  intro p e s m args below meth c Q A ls Sx hP hK hD hA hl hret
  have hx := Sx.1
  have hb := Sx.2.1
  have hl : lv_has ls 4 [(0, .ref hm), (1, .int u), (2, .int v), (3, .int w0)] := hl
  have hS : va_S A s.heap s.heap [] := va_S.rf
  obtain ⟨H, hH⟩ : ∃ H, H = s.heap := ⟨_, rfl⟩
  obtain ⟨locs, hlo⟩ : ∃ locs : List Loc, locs = [] := ⟨_, rfl⟩
  rw [← hlo]
  rw [← hlo] at hS
  have hP : va_P (dC, dI) pcl [(hm, .inr (5, [.int (nI n), .int (nI k), .ref a1, .ref a2, .int (bI wk), .int (bI fl), .int (nI cm), .ref a3, .ref a4, .int bl, .int sd, .long sm, .int co, .ref a5, .ref a6, .ref a7, .ref a8, .ref a9, .ref a10, .ref a11, .ref a12, .ref a13, .int (bI cf), .ref a14])), (a1, .inl (cI, 36, .inl (fun i9 => nI (E i9)))), (a2, .inl (cI, 18, .inl w))] H := by rw [hH]; exact hP
  have hS : va_S A s.heap H locs := by rw [hH]; exact hS
  suffices hgo : W p l e rm_M_add s m args below meth c H locs 0 0 Q (F0 m 0 ls []) by rw [hH] at hgo; exact hgo
  refine lv_aload_n hx hb d_M_add_0 rfl (lv_at hl 0 rfl) ?_
  refine lv_iload_n hx hb d_M_add_1 rfl (lv_at hl 1 rfl) ?_
  refine ro_V (As := [.int u]) (rest := []) Sx (c_M_isVertex l dC dI n k wk fl cm bl sd sm co cf hm a1 a2 a3 a4 a5 a6 a7 a8 a9 a10 a11 a12 a13 a14 cI u) (gw_callV gm_475 gm_476 gm_25 gm_56 gm_477) hd_M_isVertex ⟨rfl, rfl⟩ ⟨Nat.le_of_ble_eq_true rfl, Nat.le_of_ble_eq_true rfl⟩ (va_P_map hP [0] rfl) (hK.sub (tys' := []) [] rfl) rfl 0 rfl rfl hl.1 rfl (Nat.le_of_ble_eq_true rfl) d_M_add_2 ⟨Nat.zero_le _, Nat.zero_le _⟩ ?_
  refine lv_if_eq hx hb d_M_add_5 (tgt := 34) rfl (fun q1 => ?_) (fun q1 => ?_)
  · have q1 : (ps_in u (nI n)) = false := bI_0.mp q1
    refine lv_iconst (v := (-1)) hx hb d_M_add_34 (by decide) ?_
    rw [show ((-1) : Int32) = (-1) from rfl]
    exact hret _ H locs _ d_M_add_35 hP hD hS
  · have q1 : (ps_in u (nI n)) = true := bI_1.mp q1
    refine lv_aload_n hx hb d_M_add_8 rfl (lv_at hl 0 rfl) ?_
    refine lv_iload_n hx hb d_M_add_9 rfl (lv_at hl 2 rfl) ?_
    refine ro_V (As := [.int v]) (rest := []) Sx (c_M_isVertex l dC dI n k wk fl cm bl sd sm co cf hm a1 a2 a3 a4 a5 a6 a7 a8 a9 a10 a11 a12 a13 a14 cI v) (gw_callV gm_475 gm_476 gm_25 gm_56 gm_477) hd_M_isVertex ⟨rfl, rfl⟩ ⟨Nat.le_of_ble_eq_true rfl, Nat.le_of_ble_eq_true rfl⟩ (va_P_map hP [0] rfl) (hK.sub (tys' := []) [] rfl) rfl 0 rfl rfl hl.1 rfl (Nat.le_of_ble_eq_true rfl) d_M_add_10 ⟨Nat.zero_le _, Nat.zero_le _⟩ ?_
    refine lv_if_eq hx hb d_M_add_13 (tgt := 34) rfl (fun q2 => ?_) (fun q2 => ?_)
    · have q2 : (ps_in v (nI n)) = false := bI_0.mp q2
      refine lv_iconst (v := (-1)) hx hb d_M_add_34 (by decide) ?_
      rw [show ((-1) : Int32) = (-1) from rfl]
      exact hret _ H locs _ d_M_add_35 hP hD hS
    · have q2 : (ps_in v (nI n)) = true := bI_1.mp q2
      refine lv_iload_n hx hb d_M_add_16 rfl (lv_at hl 1 rfl) ?_
      refine lv_iload_n hx hb d_M_add_17 rfl (lv_at hl 2 rfl) ?_
      refine lv_icmp_eq hx hb d_M_add_18 (tgt := 34) rfl (fun q3 => ?_) (fun q3 => ?_)
      · skip
        refine lv_iconst (v := (-1)) hx hb d_M_add_34 (by decide) ?_
        rw [show ((-1) : Int32) = (-1) from rfl]
        exact hret _ H locs _ d_M_add_35 hP hD hS
      · skip
        refine lv_iload_n hx hb d_M_add_21 rfl (lv_at hl 3 rfl) ?_
        refine lv_if_lt hx hb d_M_add_22 (tgt := 34) rfl (fun q4 => ?_) (fun q4 => ?_)
        · skip
          refine lv_iconst (v := (-1)) hx hb d_M_add_34 (by decide) ?_
          rw [show ((-1) : Int32) = (-1) from rfl]
          exact hret _ H locs _ d_M_add_35 hP hD hS
        · skip
          refine lv_aload_n hx hb d_M_add_25 rfl (lv_at hl 0 rfl) ?_
          refine g_get Sx gf_M hK hP 0 rfl rfl 1 (by decide) gm_420 rfl d_M_add_26 ?_
          refine lv_bipush (v := 18) hx hb d_M_add_29 (by decide) ?_
          refine lv_icmp_ne hx hb d_M_add_31 (tgt := 36) rfl (fun q5 => ?_) (fun q5 => ?_)
          · skip
            exact absurd ⟨q1, q2, q3, q4, q5⟩ hno
          · skip
            refine lv_iconst (v := (-1)) hx hb d_M_add_34 (by decide) ?_
            rw [show ((-1) : Int32) = (-1) from rfl]
            exact hret _ H locs _ d_M_add_35 hP hD hS
theorem d_M_undo_0 : decode k_M_undo 0 = .ok (.aload_n 0, 1) := by decide +kernel
theorem d_M_undo_1 : decode k_M_undo 1 = .ok (.getfield 56, 3) := by decide +kernel
theorem d_M_undo_4 : decode k_M_undo 4 = .ok (.ifCond .ne 5, 3) := by decide +kernel
theorem d_M_undo_7 : decode k_M_undo 7 = .ok (.iconst (-1), 1) := by decide +kernel
theorem d_M_undo_8 : decode k_M_undo 8 = .ok (.ireturn, 1) := by decide +kernel
theorem d_M_undo_9 : decode k_M_undo 9 = .ok (.aload_n 0, 1) := by decide +kernel
theorem d_M_undo_10 : decode k_M_undo 10 = .ok (.aload_n 0, 1) := by decide +kernel
theorem d_M_undo_11 : decode k_M_undo 11 = .ok (.getfield 56, 3) := by decide +kernel
theorem d_M_undo_14 : decode k_M_undo 14 = .ok (.iconst 1, 1) := by decide +kernel
theorem d_M_undo_15 : decode k_M_undo 15 = .ok (.isub, 1) := by decide +kernel
theorem d_M_undo_16 : decode k_M_undo 16 = .ok (.putfield 56, 3) := by decide +kernel
theorem d_M_undo_19 : decode k_M_undo 19 = .ok (.aload_n 0, 1) := by decide +kernel
theorem d_M_undo_20 : decode k_M_undo 20 = .ok (.iconst 0, 1) := by decide +kernel
theorem d_M_undo_21 : decode k_M_undo 21 = .ok (.putfield 59, 3) := by decide +kernel
theorem d_M_undo_24 : decode k_M_undo 24 = .ok (.aload_n 0, 1) := by decide +kernel
theorem d_M_undo_25 : decode k_M_undo 25 = .ok (.getfield 56, 3) := by decide +kernel
theorem d_M_undo_28 : decode k_M_undo 28 = .ok (.ireturn, 1) := by decide +kernel
abbrev rm_M_undo : Room := { frames := 0, cells := 0, slots := 0, locals := 0 }
theorem hd_M_undo : y_M_undo.cls = n_M ∧ y_M_undo.cls ≠ "java/lang/invoke/MethodHandle" ∧ y_M_undo.cls ≠ "java/lang/invoke/VarHandle" ∧ (parseMethodDescriptor y_M_undo.desc).map (fun d => d.parameters.length) = some 0 := by decide +kernel
set_option maxHeartbeats 4000000 in
set_option maxRecDepth 100000 in
theorem c_M_undo_ok (l : Launch) (dC : Nat → ClassId) (dI : Nat → Nat → Nat) (n : Nat) (k : Nat) (wk : Bool) (fl : Bool) (cm : Nat) (bl : Int32) (sd : Int32) (sm : Int64) (co : Int32) (cf : Bool) (hm : Nat) (a1 : Nat) (a2 : Nat) (a3 : Nat) (a4 : Nat) (a5 : Nat) (a6 : Nat) (a7 : Nat) (a8 : Nat) (a9 : Nat) (a10 : Nat) (a11 : Nat) (a12 : Nat) (a13 : Nat) (a14 : Nat) (cI : ClassId) (sz : Nat) (hk : k ≤ 18) (hk0 : 1 ≤ k) : Met l y_M_undo (.code y_M_undo k_M_undo 1 (.some FieldType.int) :: gw) rm_M_undo (rwP [.ref hm] (dC, dI) [(hm, .inr (5, [.int (nI n), .int (nI k), .ref a1, .ref a2, .int (bI wk), .int (bI fl), .int (nI cm), .ref a3, .ref a4, .int bl, .int sd, .long sm, .int co, .ref a5, .ref a6, .ref a7, .ref a8, .ref a9, .ref a10, .ref a11, .ref a12, .ref a13, .int (bI cf), .ref a14]))] [(cI, .int)] sz) (va_Qi (fun (r : Int32) (_ : Unit) => r = nI (k - 1)) (rwB (dC, dI) [(hm, .inr (5, [.int (nI n), .int (nI (k - 1)), .ref a1, .ref a2, .int (bI false), .int (bI fl), .int (nI cm), .ref a3, .ref a4, .int bl, .int sd, .long sm, .int co, .ref a5, .ref a6, .ref a7, .ref a8, .ref a9, .ref a10, .ref a11, .ref a12, .ref a13, .int (bI cf), .ref a14]))] [(cI, .int)] (va_A [(hm, .inr (5, [.int (nI n), .int (nI k), .ref a1, .ref a2, .int (bI wk), .int (bI fl), .int (nI cm), .ref a3, .ref a4, .int bl, .int sd, .long sm, .int co, .ref a5, .ref a6, .ref a7, .ref a8, .ref a9, .ref a10, .ref a11, .ref a12, .ref a13, .int (bI cf), .ref a14]))] sz)) (va_A [(hm, .inr (5, [.int (nI n), .int (nI k), .ref a1, .ref a2, .int (bI wk), .int (bI fl), .int (nI cm), .ref a3, .ref a4, .int bl, .int sd, .long sm, .int co, .ref a5, .ref a6, .ref a7, .ref a8, .ref a9, .ref a10, .ref a11, .ref a12, .ref a13, .int (bI cf), .ref a14]))] sz)) 0 0 (va_A [(hm, .inr (5, [.int (nI n), .int (nI k), .ref a1, .ref a2, .int (bI wk), .int (bI fl), .int (nI cm), .ref a3, .ref a4, .int bl, .int sd, .long sm, .int co, .ref a5, .ref a6, .ref a7, .ref a8, .ref a9, .ref a10, .ref a11, .ref a12, .ref a13, .int (bI cf), .ref a14]))] sz) := by
  refine rw_metI (by decide) ⟨rfl, rfl⟩ rfl (Nat.le_of_ble_eq_true rfl) ?_
  intro p e s m args below meth c Q A ls Sx hP hK hD hA hl hret
  have hx := Sx.1
  have hb := Sx.2.1
  have hl : lv_has ls 1 [(0, .ref hm)] := hl
  have hS : va_S A s.heap s.heap [] := va_S.rf
  obtain ⟨H, hH⟩ : ∃ H, H = s.heap := ⟨_, rfl⟩
  obtain ⟨locs, hlo⟩ : ∃ locs : List Loc, locs = [] := ⟨_, rfl⟩
  rw [← hlo]
  rw [← hlo] at hS
  have hP : va_P (dC, dI) pcl [(hm, .inr (5, [.int (nI n), .int (nI k), .ref a1, .ref a2, .int (bI wk), .int (bI fl), .int (nI cm), .ref a3, .ref a4, .int bl, .int sd, .long sm, .int co, .ref a5, .ref a6, .ref a7, .ref a8, .ref a9, .ref a10, .ref a11, .ref a12, .ref a13, .int (bI cf), .ref a14]))] H := by rw [hH]; exact hP
  have hS : va_S A s.heap H locs := by rw [hH]; exact hS
  suffices hgo : W p l e rm_M_undo s m args below meth c H locs 0 0 Q (F0 m 0 ls []) by rw [hH] at hgo; exact hgo
  refine lv_aload_n hx hb d_M_undo_0 rfl (lv_at hl 0 rfl) ?_
  refine g_get Sx gf_M hK hP 0 rfl rfl 1 (by decide) gm_420 rfl d_M_undo_1 ?_
  refine lv_if_ne hx hb d_M_undo_4 (tgt := 9) rfl (fun q1 => ?_) (fun q1 => ?_)
  · skip
    refine lv_aload_n hx hb d_M_undo_9 rfl (lv_at hl 0 rfl) ?_
    refine lv_aload_n hx hb d_M_undo_10 rfl (lv_at hl 0 rfl) ?_
    refine g_get Sx gf_M hK hP 0 rfl rfl 1 (by decide) gm_420 rfl d_M_undo_11 ?_
    refine lv_iconst (v := nI 1) hx hb d_M_undo_14 (by decide) ?_
    refine lv_isub hx hb d_M_undo_15 ?_
    rw [show (((nI k) - (nI 1)) : Int32) = nI (k - 1) from pk_sub (by omega)]
    refine g_put Sx gf_M fk_M fn_M hK hP hD hS 0 rfl rfl 1 (by decide) gm_420 rfl rfl rfl (Nat.le_of_ble_eq_true rfl) d_M_undo_16 (fun H locs hP hD hS => ?_)
    have hP : va_P (dC, dI) pcl [(hm, .inr (5, [.int (nI n), .int (nI (k - 1)), .ref a1, .ref a2, .int (bI wk), .int (bI fl), .int (nI cm), .ref a3, .ref a4, .int bl, .int sd, .long sm, .int co, .ref a5, .ref a6, .ref a7, .ref a8, .ref a9, .ref a10, .ref a11, .ref a12, .ref a13, .int (bI cf), .ref a14]))] H := hP
    have hD : va_D A [(hm, .inr (5, [.int (nI n), .int (nI (k - 1)), .ref a1, .ref a2, .int (bI wk), .int (bI fl), .int (nI cm), .ref a3, .ref a4, .int bl, .int sd, .long sm, .int co, .ref a5, .ref a6, .ref a7, .ref a8, .ref a9, .ref a10, .ref a11, .ref a12, .ref a13, .int (bI cf), .ref a14]))] := hD
    refine lv_aload_n hx hb d_M_undo_19 rfl (lv_at hl 0 rfl) ?_
    refine lv_iconst (v := 0) hx hb d_M_undo_20 (by decide) ?_
    refine g_put Sx gf_M fk_M fn_M hK hP hD hS 0 rfl rfl 4 (by decide) gm_423 rfl rfl rfl (Nat.le_of_ble_eq_true rfl) d_M_undo_21 (fun H locs hP hD hS => ?_)
    have hP : va_P (dC, dI) pcl [(hm, .inr (5, [.int (nI n), .int (nI (k - 1)), .ref a1, .ref a2, .int 0, .int (bI fl), .int (nI cm), .ref a3, .ref a4, .int bl, .int sd, .long sm, .int co, .ref a5, .ref a6, .ref a7, .ref a8, .ref a9, .ref a10, .ref a11, .ref a12, .ref a13, .int (bI cf), .ref a14]))] H := hP
    have hD : va_D A [(hm, .inr (5, [.int (nI n), .int (nI (k - 1)), .ref a1, .ref a2, .int 0, .int (bI fl), .int (nI cm), .ref a3, .ref a4, .int bl, .int sd, .long sm, .int co, .ref a5, .ref a6, .ref a7, .ref a8, .ref a9, .ref a10, .ref a11, .ref a12, .ref a13, .int (bI cf), .ref a14]))] := hD
    refine lv_aload_n hx hb d_M_undo_24 rfl (lv_at hl 0 rfl) ?_
    refine g_get Sx gf_M hK hP 0 rfl rfl 1 (by decide) gm_420 rfl d_M_undo_25 ?_
    rw [show (nI (k - 1) : Int32) = (nI (k - 1)) from rfl]
    exact hret _ H locs _ d_M_undo_28 hP hD hS
  · skip
    exact absurd (nq_eq (b := 0) (by omega) (by omega) q1) (by omega)
set_option maxHeartbeats 4000000 in
set_option maxRecDepth 100000 in
theorem c_M_undo_no (l : Launch) (dC : Nat → ClassId) (dI : Nat → Nat → Nat) (n : Nat) (k : Nat) (wk : Bool) (fl : Bool) (cm : Nat) (bl : Int32) (sd : Int32) (sm : Int64) (co : Int32) (cf : Bool) (hm : Nat) (a1 : Nat) (a2 : Nat) (a3 : Nat) (a4 : Nat) (a5 : Nat) (a6 : Nat) (a7 : Nat) (a8 : Nat) (a9 : Nat) (a10 : Nat) (a11 : Nat) (a12 : Nat) (a13 : Nat) (a14 : Nat) (cI : ClassId) (sz : Nat) (hk0 : k = 0) : Met l y_M_undo (.code y_M_undo k_M_undo 1 (.some FieldType.int) :: gw) rm_M_undo (rwP [.ref hm] (dC, dI) [(hm, .inr (5, [.int (nI n), .int (nI k), .ref a1, .ref a2, .int (bI wk), .int (bI fl), .int (nI cm), .ref a3, .ref a4, .int bl, .int sd, .long sm, .int co, .ref a5, .ref a6, .ref a7, .ref a8, .ref a9, .ref a10, .ref a11, .ref a12, .ref a13, .int (bI cf), .ref a14]))] [(cI, .int)] sz) (va_Qi (fun (r : Int32) (_ : Unit) => r = (-1)) (rwB (dC, dI) [(hm, .inr (5, [.int (nI n), .int (nI k), .ref a1, .ref a2, .int (bI wk), .int (bI fl), .int (nI cm), .ref a3, .ref a4, .int bl, .int sd, .long sm, .int co, .ref a5, .ref a6, .ref a7, .ref a8, .ref a9, .ref a10, .ref a11, .ref a12, .ref a13, .int (bI cf), .ref a14]))] [(cI, .int)] (va_A [(hm, .inr (5, [.int (nI n), .int (nI k), .ref a1, .ref a2, .int (bI wk), .int (bI fl), .int (nI cm), .ref a3, .ref a4, .int bl, .int sd, .long sm, .int co, .ref a5, .ref a6, .ref a7, .ref a8, .ref a9, .ref a10, .ref a11, .ref a12, .ref a13, .int (bI cf), .ref a14]))] sz)) (va_A [(hm, .inr (5, [.int (nI n), .int (nI k), .ref a1, .ref a2, .int (bI wk), .int (bI fl), .int (nI cm), .ref a3, .ref a4, .int bl, .int sd, .long sm, .int co, .ref a5, .ref a6, .ref a7, .ref a8, .ref a9, .ref a10, .ref a11, .ref a12, .ref a13, .int (bI cf), .ref a14]))] sz)) 0 0 (va_A [(hm, .inr (5, [.int (nI n), .int (nI k), .ref a1, .ref a2, .int (bI wk), .int (bI fl), .int (nI cm), .ref a3, .ref a4, .int bl, .int sd, .long sm, .int co, .ref a5, .ref a6, .ref a7, .ref a8, .ref a9, .ref a10, .ref a11, .ref a12, .ref a13, .int (bI cf), .ref a14]))] sz) := by
  refine rw_metI (by decide) ⟨rfl, rfl⟩ rfl (Nat.le_of_ble_eq_true rfl) ?_
  intro p e s m args below meth c Q A ls Sx hP hK hD hA hl hret
  have hx := Sx.1
  have hb := Sx.2.1
  have hl : lv_has ls 1 [(0, .ref hm)] := hl
  have hS : va_S A s.heap s.heap [] := va_S.rf
  obtain ⟨H, hH⟩ : ∃ H, H = s.heap := ⟨_, rfl⟩
  obtain ⟨locs, hlo⟩ : ∃ locs : List Loc, locs = [] := ⟨_, rfl⟩
  rw [← hlo]
  rw [← hlo] at hS
  have hP : va_P (dC, dI) pcl [(hm, .inr (5, [.int (nI n), .int (nI k), .ref a1, .ref a2, .int (bI wk), .int (bI fl), .int (nI cm), .ref a3, .ref a4, .int bl, .int sd, .long sm, .int co, .ref a5, .ref a6, .ref a7, .ref a8, .ref a9, .ref a10, .ref a11, .ref a12, .ref a13, .int (bI cf), .ref a14]))] H := by rw [hH]; exact hP
  have hS : va_S A s.heap H locs := by rw [hH]; exact hS
  suffices hgo : W p l e rm_M_undo s m args below meth c H locs 0 0 Q (F0 m 0 ls []) by rw [hH] at hgo; exact hgo
  refine lv_aload_n hx hb d_M_undo_0 rfl (lv_at hl 0 rfl) ?_
  refine g_get Sx gf_M hK hP 0 rfl rfl 1 (by decide) gm_420 rfl d_M_undo_1 ?_
  refine lv_if_ne hx hb d_M_undo_4 (tgt := 9) rfl (fun q1 => ?_) (fun q1 => ?_)
  · skip
    exact absurd (by rw [hk0]; rfl) q1
  · skip
    refine lv_iconst (v := (-1)) hx hb d_M_undo_7 (by decide) ?_
    rw [show ((-1) : Int32) = (-1) from rfl]
    exact hret _ H locs _ d_M_undo_8 hP hD hS
theorem d_M_weigh_0 : decode k_M_weigh 0 = .ok (.aload_n 0, 1) := by decide +kernel
theorem d_M_weigh_1 : decode k_M_weigh 1 = .ok (.iload_n 1, 1) := by decide +kernel
theorem d_M_weigh_2 : decode k_M_weigh 2 = .ok (.invokevirtual 67, 3) := by decide +kernel
theorem d_M_weigh_5 : decode k_M_weigh 5 = .ok (.ifCond .eq 7, 3) := by decide +kernel
theorem d_M_weigh_8 : decode k_M_weigh 8 = .ok (.iload_n 2, 1) := by decide +kernel
theorem d_M_weigh_9 : decode k_M_weigh 9 = .ok (.ifCond .ge 5, 3) := by decide +kernel
theorem d_M_weigh_12 : decode k_M_weigh 12 = .ok (.iconst 0, 1) := by decide +kernel
theorem d_M_weigh_13 : decode k_M_weigh 13 = .ok (.ireturn, 1) := by decide +kernel
theorem d_M_weigh_14 : decode k_M_weigh 14 = .ok (.aload_n 0, 1) := by decide +kernel
theorem d_M_weigh_15 : decode k_M_weigh 15 = .ok (.getfield 13, 3) := by decide +kernel
theorem d_M_weigh_18 : decode k_M_weigh 18 = .ok (.iload_n 1, 1) := by decide +kernel
theorem d_M_weigh_19 : decode k_M_weigh 19 = .ok (.iload_n 2, 1) := by decide +kernel
theorem d_M_weigh_20 : decode k_M_weigh 20 = .ok (.iastore, 1) := by decide +kernel
theorem d_M_weigh_21 : decode k_M_weigh 21 = .ok (.aload_n 0, 1) := by decide +kernel
theorem d_M_weigh_22 : decode k_M_weigh 22 = .ok (.iconst 0, 1) := by decide +kernel
theorem d_M_weigh_23 : decode k_M_weigh 23 = .ok (.putfield 59, 3) := by decide +kernel
theorem d_M_weigh_26 : decode k_M_weigh 26 = .ok (.iconst 1, 1) := by decide +kernel
theorem d_M_weigh_27 : decode k_M_weigh 27 = .ok (.ireturn, 1) := by decide +kernel
abbrev rm_M_weigh : Room := { frames := 1, cells := 0, slots := 0, locals := 21 }
theorem hd_M_weigh : y_M_weigh.cls = n_M ∧ y_M_weigh.cls ≠ "java/lang/invoke/MethodHandle" ∧ y_M_weigh.cls ≠ "java/lang/invoke/VarHandle" ∧ (parseMethodDescriptor y_M_weigh.desc).map (fun d => d.parameters.length) = some 2 := by decide +kernel
set_option maxHeartbeats 4000000 in
set_option maxRecDepth 100000 in
theorem c_M_weigh_ok (l : Launch) (dC : Nat → ClassId) (dI : Nat → Nat → Nat) (n : Nat) (k : Nat) (wk : Bool) (fl : Bool) (cm : Nat) (bl : Int32) (sd : Int32) (sm : Int64) (co : Int32) (cf : Bool) (hm : Nat) (a1 : Nat) (a2 : Nat) (a3 : Nat) (a4 : Nat) (a5 : Nat) (a6 : Nat) (a7 : Nat) (a8 : Nat) (a9 : Nat) (a10 : Nat) (a11 : Nat) (a12 : Nat) (a13 : Nat) (a14 : Nat) (cI : ClassId) (w : Nat → Int32) (v : Nat) (w0 : Int32) (sz : Nat) (hk : k ≤ 18) (hv : v < k) (hw : ¬ w0 < 0) : Met l y_M_weigh (.code y_M_weigh k_M_weigh 3 (.some FieldType.boolean) :: gw) rm_M_weigh (rwP [.ref hm, .int (nI v), .int w0] (dC, dI) [(hm, .inr (5, [.int (nI n), .int (nI k), .ref a1, .ref a2, .int (bI wk), .int (bI fl), .int (nI cm), .ref a3, .ref a4, .int bl, .int sd, .long sm, .int co, .ref a5, .ref a6, .ref a7, .ref a8, .ref a9, .ref a10, .ref a11, .ref a12, .ref a13, .int (bI cf), .ref a14])), (a2, .inl (cI, 18, .inl w))] [(cI, .int)] sz) (va_Qi (fun (r : Int32) (_ : Unit) => r = bI true) (rwB (dC, dI) [(hm, .inr (5, [.int (nI n), .int (nI k), .ref a1, .ref a2, .int (bI false), .int (bI fl), .int (nI cm), .ref a3, .ref a4, .int bl, .int sd, .long sm, .int co, .ref a5, .ref a6, .ref a7, .ref a8, .ref a9, .ref a10, .ref a11, .ref a12, .ref a13, .int (bI cf), .ref a14])), (a2, .inl (cI, 18, .inl (upd w v w0)))] [(cI, .int)] (va_A [(hm, .inr (5, [.int (nI n), .int (nI k), .ref a1, .ref a2, .int (bI wk), .int (bI fl), .int (nI cm), .ref a3, .ref a4, .int bl, .int sd, .long sm, .int co, .ref a5, .ref a6, .ref a7, .ref a8, .ref a9, .ref a10, .ref a11, .ref a12, .ref a13, .int (bI cf), .ref a14])), (a2, .inl (cI, 18, .inl w))] sz)) (va_A [(hm, .inr (5, [.int (nI n), .int (nI k), .ref a1, .ref a2, .int (bI wk), .int (bI fl), .int (nI cm), .ref a3, .ref a4, .int bl, .int sd, .long sm, .int co, .ref a5, .ref a6, .ref a7, .ref a8, .ref a9, .ref a10, .ref a11, .ref a12, .ref a13, .int (bI cf), .ref a14])), (a2, .inl (cI, 18, .inl w))] sz)) 0 0 (va_A [(hm, .inr (5, [.int (nI n), .int (nI k), .ref a1, .ref a2, .int (bI wk), .int (bI fl), .int (nI cm), .ref a3, .ref a4, .int bl, .int sd, .long sm, .int co, .ref a5, .ref a6, .ref a7, .ref a8, .ref a9, .ref a10, .ref a11, .ref a12, .ref a13, .int (bI cf), .ref a14])), (a2, .inl (cI, 18, .inl w))] sz) := by
  refine rw_metI (by decide) ⟨rfl, rfl⟩ (bI_nar _) (Nat.le_of_ble_eq_true rfl) ?_
  intro p e s m args below meth c Q A ls Sx hP hK hD hA hl hret
  have hx := Sx.1
  have hb := Sx.2.1
  have hl : lv_has ls 3 [(0, .ref hm), (1, .int (nI v)), (2, .int w0)] := hl
  have hS : va_S A s.heap s.heap [] := va_S.rf
  obtain ⟨H, hH⟩ : ∃ H, H = s.heap := ⟨_, rfl⟩
  obtain ⟨locs, hlo⟩ : ∃ locs : List Loc, locs = [] := ⟨_, rfl⟩
  rw [← hlo]
  rw [← hlo] at hS
  have hP : va_P (dC, dI) pcl [(hm, .inr (5, [.int (nI n), .int (nI k), .ref a1, .ref a2, .int (bI wk), .int (bI fl), .int (nI cm), .ref a3, .ref a4, .int bl, .int sd, .long sm, .int co, .ref a5, .ref a6, .ref a7, .ref a8, .ref a9, .ref a10, .ref a11, .ref a12, .ref a13, .int (bI cf), .ref a14])), (a2, .inl (cI, 18, .inl w))] H := by rw [hH]; exact hP
  have hS : va_S A s.heap H locs := by rw [hH]; exact hS
  suffices hgo : W p l e rm_M_weigh s m args below meth c H locs 0 0 Q (F0 m 0 ls []) by rw [hH] at hgo; exact hgo
  refine lv_aload_n hx hb d_M_weigh_0 rfl (lv_at hl 0 rfl) ?_
  refine lv_iload_n hx hb d_M_weigh_1 rfl (lv_at hl 1 rfl) ?_
  refine ro_V (As := [.int (nI v)]) (rest := []) Sx (c_M_isEdge l dC dI n k wk fl cm bl sd sm co cf hm a1 a2 a3 a4 a5 a6 a7 a8 a9 a10 a11 a12 a13 a14 cI (nI v)) (gw_callV gm_486 gm_487 gm_26 gm_56 gm_488) hd_M_isEdge ⟨rfl, rfl⟩ ⟨Nat.le_of_ble_eq_true rfl, Nat.le_of_ble_eq_true rfl⟩ (va_P_map hP [0] rfl) (hK.sub (tys' := []) [] rfl) rfl 0 rfl rfl hl.1 rfl (Nat.le_of_ble_eq_true rfl) d_M_weigh_2 ⟨Nat.zero_le _, Nat.zero_le _⟩ ?_
  refine lv_if_eq hx hb d_M_weigh_5 (tgt := 12) rfl (fun q1 => ?_) (fun q1 => ?_)
  · have q1 : (ps_in (nI v) (nI k)) = false := bI_0.mp q1
    rw [ps_in_nI hv (by omega)] at q1; cases q1
  · have q1 : (ps_in (nI v) (nI k)) = true := bI_1.mp q1
    refine lv_iload_n hx hb d_M_weigh_8 rfl (lv_at hl 2 rfl) ?_
    refine lv_if_ge hx hb d_M_weigh_9 (tgt := 14) rfl (fun q2 => ?_) (fun q2 => ?_)
    · skip
      refine lv_aload_n hx hb d_M_weigh_14 rfl (lv_at hl 0 rfl) ?_
      refine g_get Sx gf_M hK hP 0 rfl rfl 3 (by decide) gm_422 rfl d_M_weigh_15 ?_
      refine lv_iload_n hx hb d_M_weigh_18 rfl (lv_at hl 1 rfl) ?_
      refine lv_iload_n hx hb d_M_weigh_19 rfl (lv_at hl 2 rfl) ?_
      refine g_ist (j := v) Sx hK hP hD hS 1 0 rfl rfl (by omega) (by decide) d_M_weigh_20 (fun H locs hP hD hS => ?_)
      have hP : va_P (dC, dI) pcl [(hm, .inr (5, [.int (nI n), .int (nI k), .ref a1, .ref a2, .int (bI wk), .int (bI fl), .int (nI cm), .ref a3, .ref a4, .int bl, .int sd, .long sm, .int co, .ref a5, .ref a6, .ref a7, .ref a8, .ref a9, .ref a10, .ref a11, .ref a12, .ref a13, .int (bI cf), .ref a14])), (a2, .inl (cI, 18, .inl (upd w v w0)))] H := hP
      have hD : va_D A [(hm, .inr (5, [.int (nI n), .int (nI k), .ref a1, .ref a2, .int (bI wk), .int (bI fl), .int (nI cm), .ref a3, .ref a4, .int bl, .int sd, .long sm, .int co, .ref a5, .ref a6, .ref a7, .ref a8, .ref a9, .ref a10, .ref a11, .ref a12, .ref a13, .int (bI cf), .ref a14])), (a2, .inl (cI, 18, .inl (upd w v w0)))] := hD
      refine lv_aload_n hx hb d_M_weigh_21 rfl (lv_at hl 0 rfl) ?_
      refine lv_iconst (v := 0) hx hb d_M_weigh_22 (by decide) ?_
      refine g_put Sx gf_M fk_M fn_M hK hP hD hS 0 rfl rfl 4 (by decide) gm_423 rfl rfl rfl (Nat.le_of_ble_eq_true rfl) d_M_weigh_23 (fun H locs hP hD hS => ?_)
      have hP : va_P (dC, dI) pcl [(hm, .inr (5, [.int (nI n), .int (nI k), .ref a1, .ref a2, .int 0, .int (bI fl), .int (nI cm), .ref a3, .ref a4, .int bl, .int sd, .long sm, .int co, .ref a5, .ref a6, .ref a7, .ref a8, .ref a9, .ref a10, .ref a11, .ref a12, .ref a13, .int (bI cf), .ref a14])), (a2, .inl (cI, 18, .inl (upd w v w0)))] H := hP
      have hD : va_D A [(hm, .inr (5, [.int (nI n), .int (nI k), .ref a1, .ref a2, .int 0, .int (bI fl), .int (nI cm), .ref a3, .ref a4, .int bl, .int sd, .long sm, .int co, .ref a5, .ref a6, .ref a7, .ref a8, .ref a9, .ref a10, .ref a11, .ref a12, .ref a13, .int (bI cf), .ref a14])), (a2, .inl (cI, 18, .inl (upd w v w0)))] := hD
      refine lv_iconst (v := 1) hx hb d_M_weigh_26 (by decide) ?_
      rw [show (1 : Int32) = (bI true) from rfl]
      exact hret _ H locs _ d_M_weigh_27 hP hD hS
    · skip
      exact absurd (Int32.not_lt.mp hw) q2
set_option maxHeartbeats 4000000 in
set_option maxRecDepth 100000 in
theorem c_M_weigh_no (l : Launch) (dC : Nat → ClassId) (dI : Nat → Nat → Nat) (n : Nat) (k : Nat) (wk : Bool) (fl : Bool) (cm : Nat) (bl : Int32) (sd : Int32) (sm : Int64) (co : Int32) (cf : Bool) (hm : Nat) (a1 : Nat) (a2 : Nat) (a3 : Nat) (a4 : Nat) (a5 : Nat) (a6 : Nat) (a7 : Nat) (a8 : Nat) (a9 : Nat) (a10 : Nat) (a11 : Nat) (a12 : Nat) (a13 : Nat) (a14 : Nat) (cI : ClassId) (w : Nat → Int32) (v : Int32) (w0 : Int32) (sz : Nat) (hno : ¬ (ps_in v (nI k) = true ∧ 0 ≤ w0)) : Met l y_M_weigh (.code y_M_weigh k_M_weigh 3 (.some FieldType.boolean) :: gw) rm_M_weigh (rwP [.ref hm, .int v, .int w0] (dC, dI) [(hm, .inr (5, [.int (nI n), .int (nI k), .ref a1, .ref a2, .int (bI wk), .int (bI fl), .int (nI cm), .ref a3, .ref a4, .int bl, .int sd, .long sm, .int co, .ref a5, .ref a6, .ref a7, .ref a8, .ref a9, .ref a10, .ref a11, .ref a12, .ref a13, .int (bI cf), .ref a14])), (a2, .inl (cI, 18, .inl w))] [(cI, .int)] sz) (va_Qi (fun (r : Int32) (_ : Unit) => r = bI false) (rwB (dC, dI) [(hm, .inr (5, [.int (nI n), .int (nI k), .ref a1, .ref a2, .int (bI wk), .int (bI fl), .int (nI cm), .ref a3, .ref a4, .int bl, .int sd, .long sm, .int co, .ref a5, .ref a6, .ref a7, .ref a8, .ref a9, .ref a10, .ref a11, .ref a12, .ref a13, .int (bI cf), .ref a14])), (a2, .inl (cI, 18, .inl w))] [(cI, .int)] (va_A [(hm, .inr (5, [.int (nI n), .int (nI k), .ref a1, .ref a2, .int (bI wk), .int (bI fl), .int (nI cm), .ref a3, .ref a4, .int bl, .int sd, .long sm, .int co, .ref a5, .ref a6, .ref a7, .ref a8, .ref a9, .ref a10, .ref a11, .ref a12, .ref a13, .int (bI cf), .ref a14])), (a2, .inl (cI, 18, .inl w))] sz)) (va_A [(hm, .inr (5, [.int (nI n), .int (nI k), .ref a1, .ref a2, .int (bI wk), .int (bI fl), .int (nI cm), .ref a3, .ref a4, .int bl, .int sd, .long sm, .int co, .ref a5, .ref a6, .ref a7, .ref a8, .ref a9, .ref a10, .ref a11, .ref a12, .ref a13, .int (bI cf), .ref a14])), (a2, .inl (cI, 18, .inl w))] sz)) 0 0 (va_A [(hm, .inr (5, [.int (nI n), .int (nI k), .ref a1, .ref a2, .int (bI wk), .int (bI fl), .int (nI cm), .ref a3, .ref a4, .int bl, .int sd, .long sm, .int co, .ref a5, .ref a6, .ref a7, .ref a8, .ref a9, .ref a10, .ref a11, .ref a12, .ref a13, .int (bI cf), .ref a14])), (a2, .inl (cI, 18, .inl w))] sz) := by
  refine rw_metI (by decide) ⟨rfl, rfl⟩ (bI_nar _) (Nat.le_of_ble_eq_true rfl) ?_
  intro p e s m args below meth c Q A ls Sx hP hK hD hA hl hret
  have hx := Sx.1
  have hb := Sx.2.1
  have hl : lv_has ls 3 [(0, .ref hm), (1, .int v), (2, .int w0)] := hl
  have hS : va_S A s.heap s.heap [] := va_S.rf
  obtain ⟨H, hH⟩ : ∃ H, H = s.heap := ⟨_, rfl⟩
  obtain ⟨locs, hlo⟩ : ∃ locs : List Loc, locs = [] := ⟨_, rfl⟩
  rw [← hlo]
  rw [← hlo] at hS
  have hP : va_P (dC, dI) pcl [(hm, .inr (5, [.int (nI n), .int (nI k), .ref a1, .ref a2, .int (bI wk), .int (bI fl), .int (nI cm), .ref a3, .ref a4, .int bl, .int sd, .long sm, .int co, .ref a5, .ref a6, .ref a7, .ref a8, .ref a9, .ref a10, .ref a11, .ref a12, .ref a13, .int (bI cf), .ref a14])), (a2, .inl (cI, 18, .inl w))] H := by rw [hH]; exact hP
  have hS : va_S A s.heap H locs := by rw [hH]; exact hS
  suffices hgo : W p l e rm_M_weigh s m args below meth c H locs 0 0 Q (F0 m 0 ls []) by rw [hH] at hgo; exact hgo
  refine lv_aload_n hx hb d_M_weigh_0 rfl (lv_at hl 0 rfl) ?_
  refine lv_iload_n hx hb d_M_weigh_1 rfl (lv_at hl 1 rfl) ?_
  refine ro_V (As := [.int v]) (rest := []) Sx (c_M_isEdge l dC dI n k wk fl cm bl sd sm co cf hm a1 a2 a3 a4 a5 a6 a7 a8 a9 a10 a11 a12 a13 a14 cI v) (gw_callV gm_486 gm_487 gm_26 gm_56 gm_488) hd_M_isEdge ⟨rfl, rfl⟩ ⟨Nat.le_of_ble_eq_true rfl, Nat.le_of_ble_eq_true rfl⟩ (va_P_map hP [0] rfl) (hK.sub (tys' := []) [] rfl) rfl 0 rfl rfl hl.1 rfl (Nat.le_of_ble_eq_true rfl) d_M_weigh_2 ⟨Nat.zero_le _, Nat.zero_le _⟩ ?_
  refine lv_if_eq hx hb d_M_weigh_5 (tgt := 12) rfl (fun q1 => ?_) (fun q1 => ?_)
  · have q1 : (ps_in v (nI k)) = false := bI_0.mp q1
    refine lv_iconst (v := 0) hx hb d_M_weigh_12 (by decide) ?_
    rw [show (0 : Int32) = (bI false) from rfl]
    exact hret _ H locs _ d_M_weigh_13 hP hD hS
  · have q1 : (ps_in v (nI k)) = true := bI_1.mp q1
    refine lv_iload_n hx hb d_M_weigh_8 rfl (lv_at hl 2 rfl) ?_
    refine lv_if_ge hx hb d_M_weigh_9 (tgt := 14) rfl (fun q2 => ?_) (fun q2 => ?_)
    · skip
      exact absurd ⟨q1, q2⟩ hno
    · skip
      refine lv_iconst (v := 0) hx hb d_M_weigh_12 (by decide) ?_
      rw [show (0 : Int32) = (bI false) from rfl]
      exact hret _ H locs _ d_M_weigh_13 hP hD hS
theorem d_M_edges_0 : decode k_M_edges 0 = .ok (.aload_n 0, 1) := by decide +kernel
theorem d_M_edges_1 : decode k_M_edges 1 = .ok (.getfield 56, 3) := by decide +kernel
theorem d_M_edges_4 : decode k_M_edges 4 = .ok (.ireturn, 1) := by decide +kernel
abbrev rm_M_edges : Room := { frames := 0, cells := 0, slots := 0, locals := 0 }
theorem hd_M_edges : y_M_edges.cls = n_M ∧ y_M_edges.cls ≠ "java/lang/invoke/MethodHandle" ∧ y_M_edges.cls ≠ "java/lang/invoke/VarHandle" ∧ (parseMethodDescriptor y_M_edges.desc).map (fun d => d.parameters.length) = some 0 := by decide +kernel
set_option maxHeartbeats 4000000 in
set_option maxRecDepth 100000 in
theorem c_M_edges (l : Launch) (dC : Nat → ClassId) (dI : Nat → Nat → Nat) (n : Nat) (k : Nat) (wk : Bool) (fl : Bool) (cm : Nat) (bl : Int32) (sd : Int32) (sm : Int64) (co : Int32) (cf : Bool) (hm : Nat) (a1 : Nat) (a2 : Nat) (a3 : Nat) (a4 : Nat) (a5 : Nat) (a6 : Nat) (a7 : Nat) (a8 : Nat) (a9 : Nat) (a10 : Nat) (a11 : Nat) (a12 : Nat) (a13 : Nat) (a14 : Nat) (cI : ClassId) : Met l y_M_edges (.code y_M_edges k_M_edges 1 (.some FieldType.int) :: gw) rm_M_edges (roP [.ref hm] (dC, dI) [(hm, .inr (5, [.int (nI n), .int (nI k), .ref a1, .ref a2, .int (bI wk), .int (bI fl), .int (nI cm), .ref a3, .ref a4, .int bl, .int sd, .long sm, .int co, .ref a5, .ref a6, .ref a7, .ref a8, .ref a9, .ref a10, .ref a11, .ref a12, .ref a13, .int (bI cf), .ref a14]))] []) (vp_Si (fun r => r = nI k)) 0 0 (fun _ => False) := by
  refine ro_met (by decide) ⟨rfl, rfl⟩ rfl (Nat.le_of_ble_eq_true rfl) ?_
  intro p e s m args below meth c Q ls Sx hP hK hl hret
  have hx := Sx.1
  have hb := Sx.2.1
  have hl : lv_has ls 1 [(0, .ref hm)] := hl
  refine lv_aload_n hx hb d_M_edges_0 rfl (lv_at hl 0 rfl) ?_
  refine g_get Sx gf_M hK hP 0 rfl rfl 1 (by decide) gm_420 rfl d_M_edges_1 ?_
  exact hret _ _ d_M_edges_4
