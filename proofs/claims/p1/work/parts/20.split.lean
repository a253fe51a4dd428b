def pm_spW (k : Nat) (E : Nat → Nat) (w : Nat → Int32) (c : Int32) : Int64 := fo (pm_wo w (fo (pm_cb E c) k 0)) k 0
/-- best set of crossing edges, sides, sum -/
def pm_sp1 (n k : Nat) (E : Nat → Nat) (w Cp : Nat → Int32) : Nat → Int32 × Int32 × Int64 → Int32 × Int32 × Int64 := fun i s =>
  if (0 < lg_cmp (fo (pm_wo w (fo (pm_cb E (nI (1 + i))) k 0)) k 0) s.2.2 ∨ (lg_cmp (fo (pm_wo w (fo (pm_cb E (nI (1 + i))) k 0)) k 0) s.2.2 = 0 ∧ ¬ (fo (pm_cb E (nI (1 + i))) k 0) ^^^ s.1 = 0 ∧ pm_has (fo (pm_cb E (nI (1 + i))) k 0) (nI (pm_least ((fo (pm_cb E (nI (1 + i))) k 0) ^^^ s.1))) = true)) ∧ fo (pm_bg2 Cp (nI (1 + i))) n true = true
  then (fo (pm_cb E (nI (1 + i))) k 0, nI (1 + i), fo (pm_wo w (fo (pm_cb E (nI (1 + i))) k 0)) k 0) else s
def pm_sp (n k : Nat) (E : Nat → Nat) (w Cp : Nat → Int32) : Int32 × Int32 × Int64 := fo (pm_sp1 n k E w Cp) (2 ^ n - 1) (fo (pm_cb E 0) k 0, 0, fo (pm_wo w (fo (pm_cb E 0) k 0)) k 0)
theorem d_M_split_0 : decode k_M_split 0 = .ok (.aload_n 0, 1) := by decide +kernel
theorem d_M_split_1 : decode k_M_split 1 = .ok (.iconst 0, 1) := by decide +kernel
theorem d_M_split_2 : decode k_M_split 2 = .ok (.putfield 137, 3) := by decide +kernel
theorem d_M_split_5 : decode k_M_split 5 = .ok (.aload_n 0, 1) := by decide +kernel
theorem d_M_split_6 : decode k_M_split 6 = .ok (.iconst 0, 1) := by decide +kernel
theorem d_M_split_7 : decode k_M_split 7 = .ok (.invokevirtual 140, 3) := by decide +kernel
theorem d_M_split_10 : decode k_M_split 10 = .ok (.istore_n 1, 1) := by decide +kernel
theorem d_M_split_11 : decode k_M_split 11 = .ok (.aload_n 0, 1) := by decide +kernel
theorem d_M_split_12 : decode k_M_split 12 = .ok (.aload_n 0, 1) := by decide +kernel
theorem d_M_split_13 : decode k_M_split 13 = .ok (.iload_n 1, 1) := by decide +kernel
theorem d_M_split_14 : decode k_M_split 14 = .ok (.invokevirtual 143, 3) := by decide +kernel
theorem d_M_split_17 : decode k_M_split 17 = .ok (.putfield 147, 3) := by decide +kernel
theorem d_M_split_20 : decode k_M_split 20 = .ok (.iconst 1, 1) := by decide +kernel
theorem d_M_split_21 : decode k_M_split 21 = .ok (.istore_n 2, 1) := by decide +kernel
theorem d_M_split_22 : decode k_M_split 22 = .ok (.iload_n 2, 1) := by decide +kernel
theorem d_M_split_23 : decode k_M_split 23 = .ok (.iconst 1, 1) := by decide +kernel
theorem d_M_split_24 : decode k_M_split 24 = .ok (.aload_n 0, 1) := by decide +kernel
theorem d_M_split_25 : decode k_M_split 25 = .ok (.getfield 52, 3) := by decide +kernel
theorem d_M_split_28 : decode k_M_split 28 = .ok (.ishl, 1) := by decide +kernel
theorem d_M_split_29 : decode k_M_split 29 = .ok (.if_icmp .ge 97, 3) := by decide +kernel
theorem d_M_split_32 : decode k_M_split 32 = .ok (.aload_n 0, 1) := by decide +kernel
theorem d_M_split_33 : decode k_M_split 33 = .ok (.iload_n 2, 1) := by decide +kernel
theorem d_M_split_34 : decode k_M_split 34 = .ok (.invokevirtual 140, 3) := by decide +kernel
theorem d_M_split_37 : decode k_M_split 37 = .ok (.istore_n 3, 1) := by decide +kernel
theorem d_M_split_38 : decode k_M_split 38 = .ok (.aload_n 0, 1) := by decide +kernel
theorem d_M_split_39 : decode k_M_split 39 = .ok (.iload_n 3, 1) := by decide +kernel
theorem d_M_split_40 : decode k_M_split 40 = .ok (.invokevirtual 143, 3) := by decide +kernel
theorem d_M_split_43 : decode k_M_split 43 = .ok (.lstore 4, 2) := by decide +kernel
theorem d_M_split_45 : decode k_M_split 45 = .ok (.iload_n 3, 1) := by decide +kernel
theorem d_M_split_46 : decode k_M_split 46 = .ok (.iload_n 1, 1) := by decide +kernel
theorem d_M_split_47 : decode k_M_split 47 = .ok (.ixor, 1) := by decide +kernel
theorem d_M_split_48 : decode k_M_split 48 = .ok (.istore 6, 2) := by decide +kernel
theorem d_M_split_50 : decode k_M_split 50 = .ok (.lload 4, 2) := by decide +kernel
theorem d_M_split_52 : decode k_M_split 52 = .ok (.aload_n 0, 1) := by decide +kernel
theorem d_M_split_53 : decode k_M_split 53 = .ok (.getfield 147, 3) := by decide +kernel
theorem d_M_split_56 : decode k_M_split 56 = .ok (.lcmp, 1) := by decide +kernel
theorem d_M_split_57 : decode k_M_split 57 = .ok (.ifCond .gt 30, 3) := by decide +kernel
theorem d_M_split_60 : decode k_M_split 60 = .ok (.lload 4, 2) := by decide +kernel
theorem d_M_split_62 : decode k_M_split 62 = .ok (.aload_n 0, 1) := by decide +kernel
theorem d_M_split_63 : decode k_M_split 63 = .ok (.getfield 147, 3) := by decide +kernel
theorem d_M_split_66 : decode k_M_split 66 = .ok (.lcmp, 1) := by decide +kernel
theorem d_M_split_67 : decode k_M_split 67 = .ok (.ifCond .ne 24, 3) := by decide +kernel
theorem d_M_split_70 : decode k_M_split 70 = .ok (.iload 6, 2) := by decide +kernel
theorem d_M_split_72 : decode k_M_split 72 = .ok (.ifCond .eq 19, 3) := by decide +kernel
theorem d_M_split_75 : decode k_M_split 75 = .ok (.iload_n 3, 1) := by decide +kernel
theorem d_M_split_76 : decode k_M_split 76 = .ok (.iload 6, 2) := by decide +kernel
theorem d_M_split_78 : decode k_M_split 78 = .ok (.invokestatic 97, 3) := by decide +kernel
theorem d_M_split_81 : decode k_M_split 81 = .ok (.invokestatic 70, 3) := by decide +kernel
theorem d_M_split_84 : decode k_M_split 84 = .ok (.ifCond .eq 7, 3) := by decide +kernel
theorem d_M_split_87 : decode k_M_split 87 = .ok (.iconst 1, 1) := by decide +kernel
theorem d_M_split_88 : decode k_M_split 88 = .ok (.goto 4, 3) := by decide +kernel
theorem d_M_split_91 : decode k_M_split 91 = .ok (.iconst 0, 1) := by decide +kernel
theorem d_M_split_92 : decode k_M_split 92 = .ok (.istore 7, 2) := by decide +kernel
theorem d_M_split_94 : decode k_M_split 94 = .ok (.iload 7, 2) := by decide +kernel
theorem d_M_split_96 : decode k_M_split 96 = .ok (.ifCond .eq 24, 3) := by decide +kernel
theorem d_M_split_99 : decode k_M_split 99 = .ok (.aload_n 0, 1) := by decide +kernel
theorem d_M_split_100 : decode k_M_split 100 = .ok (.iload_n 2, 1) := by decide +kernel
theorem d_M_split_101 : decode k_M_split 101 = .ok (.invokevirtual 151, 3) := by decide +kernel
theorem d_M_split_104 : decode k_M_split 104 = .ok (.ifCond .eq 16, 3) := by decide +kernel
theorem d_M_split_107 : decode k_M_split 107 = .ok (.aload_n 0, 1) := by decide +kernel
theorem d_M_split_108 : decode k_M_split 108 = .ok (.iload_n 2, 1) := by decide +kernel
theorem d_M_split_109 : decode k_M_split 109 = .ok (.putfield 137, 3) := by decide +kernel
theorem d_M_split_112 : decode k_M_split 112 = .ok (.iload_n 3, 1) := by decide +kernel
theorem d_M_split_113 : decode k_M_split 113 = .ok (.istore_n 1, 1) := by decide +kernel
theorem d_M_split_114 : decode k_M_split 114 = .ok (.aload_n 0, 1) := by decide +kernel
theorem d_M_split_115 : decode k_M_split 115 = .ok (.lload 4, 2) := by decide +kernel
theorem d_M_split_117 : decode k_M_split 117 = .ok (.putfield 147, 3) := by decide +kernel
theorem d_M_split_120 : decode k_M_split 120 = .ok (.iinc 2 1, 3) := by decide +kernel
theorem d_M_split_123 : decode k_M_split 123 = .ok (.goto (-101), 3) := by decide +kernel
theorem d_M_split_126 : decode k_M_split 126 = .ok (.return_, 1) := by decide +kernel
abbrev rm_M_split : Room := { frames := 2, cells := 0, slots := 0, locals := 46 }
theorem hd_M_split : y_M_split.cls = n_M ∧ y_M_split.cls ≠ "java/lang/invoke/MethodHandle" ∧ y_M_split.cls ≠ "java/lang/invoke/VarHandle" ∧ (parseMethodDescriptor y_M_split.desc).map (fun d => d.parameters.length) = some 0 := by decide +kernel
set_option maxHeartbeats 4000000 in
set_option maxRecDepth 100000 in
theorem c_M_split (l : Launch) (dC : Nat → ClassId) (dI : Nat → Nat → Nat) (n : Nat) (k : Nat) (wk : Bool) (fl : Bool) (cm : Nat) (bl : Int32) (sd : Int32) (sm : Int64) (co : Int32) (cf : Bool) (hm : Nat) (a1 : Nat) (a2 : Nat) (a3 : Nat) (a4 : Nat) (a5 : Nat) (a6 : Nat) (a7 : Nat) (a8 : Nat) (a9 : Nat) (a10 : Nat) (a11 : Nat) (a12 : Nat) (a13 : Nat) (a14 : Nat) (cI : ClassId) (E : Nat → Nat) (w : Nat → Int32) (Cp : Nat → Int32) (sz : Nat) (hn : n ≤ 10) (hk : k ≤ 18) (hlx : ∀ y : Int32, ¬ y = 0 → pm_leD y (pm_least y) = true) : Met l y_M_split (.code y_M_split k_M_split 8 none :: gw) rm_M_split (rwP [.ref hm] (dC, dI) [(hm, .inr (5, [.int (nI n), .int (nI k), .ref a1, .ref a2, .int (bI wk), .int (bI fl), .int (nI cm), .ref a3, .ref a4, .int bl, .int sd, .long sm, .int co, .ref a5, .ref a6, .ref a7, .ref a8, .ref a9, .ref a10, .ref a11, .ref a12, .ref a13, .int (bI cf), .ref a14])), (a1, .inl (cI, 36, .inl (fun i9 => nI (E i9)))), (a2, .inl (cI, 18, .inl w)), (a3, .inl (cI, 10, .inl Cp))] [(cI, .int)] sz) (va_Qv (fun _ : Unit => True) (rwB (dC, dI) [(hm, .inr (5, [.int (nI n), .int (nI k), .ref a1, .ref a2, .int (bI wk), .int (bI fl), .int (nI cm), .ref a3, .ref a4, .int bl, .int ((pm_sp n k E w Cp).2.1), .long ((pm_sp n k E w Cp).2.2), .int co, .ref a5, .ref a6, .ref a7, .ref a8, .ref a9, .ref a10, .ref a11, .ref a12, .ref a13, .int (bI cf), .ref a14])), (a1, .inl (cI, 36, .inl (fun i9 => nI (E i9)))), (a2, .inl (cI, 18, .inl w)), (a3, .inl (cI, 10, .inl Cp))] [(cI, .int)] (va_A [(hm, .inr (5, [.int (nI n), .int (nI k), .ref a1, .ref a2, .int (bI wk), .int (bI fl), .int (nI cm), .ref a3, .ref a4, .int bl, .int sd, .long sm, .int co, .ref a5, .ref a6, .ref a7, .ref a8, .ref a9, .ref a10, .ref a11, .ref a12, .ref a13, .int (bI cf), .ref a14])), (a1, .inl (cI, 36, .inl (fun i9 => nI (E i9)))), (a2, .inl (cI, 18, .inl w)), (a3, .inl (cI, 10, .inl Cp))] sz)) (va_A [(hm, .inr (5, [.int (nI n), .int (nI k), .ref a1, .ref a2, .int (bI wk), .int (bI fl), .int (nI cm), .ref a3, .ref a4, .int bl, .int sd, .long sm, .int co, .ref a5, .ref a6, .ref a7, .ref a8, .ref a9, .ref a10, .ref a11, .ref a12, .ref a13, .int (bI cf), .ref a14])), (a1, .inl (cI, 36, .inl (fun i9 => nI (E i9)))), (a2, .inl (cI, 18, .inl w)), (a3, .inl (cI, 10, .inl Cp))] sz)) 0 0 (va_A [(hm, .inr (5, [.int (nI n), .int (nI k), .ref a1, .ref a2, .int (bI wk), .int (bI fl), .int (nI cm), .ref a3, .ref a4, .int bl, .int sd, .long sm, .int co, .ref a5, .ref a6, .ref a7, .ref a8, .ref a9, .ref a10, .ref a11, .ref a12, .ref a13, .int (bI cf), .ref a14])), (a1, .inl (cI, 36, .inl (fun i9 => nI (E i9)))), (a2, .inl (cI, 18, .inl w)), (a3, .inl (cI, 10, .inl Cp))] sz) := by
  refine rw_met (by decide) ⟨rfl, rfl⟩ (Nat.le_of_ble_eq_true rfl) ?_
  intro p e s m args below meth c Q A ls Sx hP hK hD hA hl hret
  have hx := Sx.1
  have hb := Sx.2.1
  have hl : lv_has ls 8 [(0, .ref hm)] := hl
  have hS : va_S A s.heap s.heap [] := va_S.rf
  obtain ⟨M, hM⟩ : ∃ M, M = 2 ^ n := ⟨_, rfl⟩
  have hM2 : M ≤ 1024 := by rw [hM]; exact Nat.le_trans (Nat.pow_le_pow_right (n := 2) (by decide) hn) (by decide)
  have hM1 : 1 ≤ M := by rw [hM]; exact Nat.one_le_two_pow
  obtain ⟨H, hH⟩ : ∃ H, H = s.heap := ⟨_, rfl⟩
  obtain ⟨locs, hlo⟩ : ∃ locs : List Loc, locs = [] := ⟨_, rfl⟩
  rw [← hlo]
  rw [← hlo] at hS
  have hP : va_P (dC, dI) pcl [(hm, .inr (5, [.int (nI n), .int (nI k), .ref a1, .ref a2, .int (bI wk), .int (bI fl), .int (nI cm), .ref a3, .ref a4, .int bl, .int sd, .long sm, .int co, .ref a5, .ref a6, .ref a7, .ref a8, .ref a9, .ref a10, .ref a11, .ref a12, .ref a13, .int (bI cf), .ref a14])), (a1, .inl (cI, 36, .inl (fun i9 => nI (E i9)))), (a2, .inl (cI, 18, .inl w)), (a3, .inl (cI, 10, .inl Cp))] H := by rw [hH]; exact hP
  have hS : va_S A s.heap H locs := by rw [hH]; exact hS
  suffices hgo : W p l e rm_M_split s m args below meth c H locs 0 0 Q (F0 m 0 ls []) by rw [hH] at hgo; exact hgo
  refine lv_aload_n hx hb d_M_split_0 rfl (lv_at hl 0 rfl) ?_
  refine lv_iconst (v := 0) hx hb d_M_split_1 (by decide) ?_
  refine g_put Sx gf_M fk_M fn_M hK hP hD hS 0 rfl rfl 10 (by decide) gm_429 rfl rfl rfl (Nat.le_of_ble_eq_true rfl) d_M_split_2 (fun H locs hP hD hS => ?_)
  have hP : va_P (dC, dI) pcl [(hm, .inr (5, [.int (nI n), .int (nI k), .ref a1, .ref a2, .int (bI wk), .int (bI fl), .int (nI cm), .ref a3, .ref a4, .int bl, .int 0, .long sm, .int co, .ref a5, .ref a6, .ref a7, .ref a8, .ref a9, .ref a10, .ref a11, .ref a12, .ref a13, .int (bI cf), .ref a14])), (a1, .inl (cI, 36, .inl (fun i9 => nI (E i9)))), (a2, .inl (cI, 18, .inl w)), (a3, .inl (cI, 10, .inl Cp))] H := hP
  have hD : va_D A [(hm, .inr (5, [.int (nI n), .int (nI k), .ref a1, .ref a2, .int (bI wk), .int (bI fl), .int (nI cm), .ref a3, .ref a4, .int bl, .int 0, .long sm, .int co, .ref a5, .ref a6, .ref a7, .ref a8, .ref a9, .ref a10, .ref a11, .ref a12, .ref a13, .int (bI cf), .ref a14])), (a1, .inl (cI, 36, .inl (fun i9 => nI (E i9)))), (a2, .inl (cI, 18, .inl w)), (a3, .inl (cI, 10, .inl Cp))] := hD
  refine lv_aload_n hx hb d_M_split_5 rfl (lv_at hl 0 rfl) ?_
  refine lv_iconst (v := 0) hx hb d_M_split_6 (by decide) ?_
  refine ro_V (As := [.int 0]) (rest := []) Sx (c_M_crossingBy l dC dI n k wk fl cm bl 0 sm co cf hm a1 a2 a3 a4 a5 a6 a7 a8 a9 a10 a11 a12 a13 a14 cI E 0 hk) (gw_callV gm_563 gm_564 gm_47 gm_56 gm_565) hd_M_crossingBy ⟨rfl, rfl⟩ ⟨Nat.le_of_ble_eq_true rfl, Nat.le_of_ble_eq_true rfl⟩ (va_P_map hP [0, 1] rfl) (hK.sub (tys' := [(cI, .int)]) [0] rfl) rfl 0 rfl rfl hl.1 rfl (Nat.le_of_ble_eq_true rfl) d_M_split_7 ⟨Nat.zero_le _, Nat.zero_le _⟩ ?_
  refine lv_istore_n hx hb d_M_split_10 rfl hl (Nat.le_of_ble_eq_true rfl) rfl (fun ls hl => ?_)
  have hl : lv_has ls 8 [(1, .int (fo (pm_cb E 0) k 0)), (0, .ref hm)] := hl
  refine lv_aload_n hx hb d_M_split_11 rfl (lv_at hl 1 rfl) ?_
  refine lv_aload_n hx hb d_M_split_12 rfl (lv_at hl 1 rfl) ?_
  refine lv_iload_n hx hb d_M_split_13 rfl (lv_at hl 0 rfl) ?_
  refine ro_VL (As := [.int (fo (pm_cb E 0) k 0)]) (rest := [.ref hm]) Sx (c_M_weightOf l dC dI n k wk fl cm bl 0 sm co cf hm a1 a2 a3 a4 a5 a6 a7 a8 a9 a10 a11 a12 a13 a14 cI w (fo (pm_cb E 0) k 0) hk) (gw_callV gm_566 gm_567 gm_48 gm_56 gm_568) hd_M_weightOf ⟨rfl, rfl⟩ ⟨Nat.le_of_ble_eq_true rfl, Nat.le_of_ble_eq_true rfl⟩ (va_P_map hP [0, 2] rfl) (hK.sub (tys' := [(cI, .int)]) [0] rfl) rfl 0 rfl rfl hl.1 rfl (Nat.le_of_ble_eq_true rfl) d_M_split_14 ⟨Nat.zero_le _, Nat.zero_le _⟩ ?_
  refine g_put Sx gf_M fk_M fn_M hK hP hD hS 0 rfl rfl 11 (by decide) gm_430 rfl rfl rfl (Nat.le_of_ble_eq_true rfl) d_M_split_17 (fun H locs hP hD hS => ?_)
  have hP : va_P (dC, dI) pcl [(hm, .inr (5, [.int (nI n), .int (nI k), .ref a1, .ref a2, .int (bI wk), .int (bI fl), .int (nI cm), .ref a3, .ref a4, .int bl, .int 0, .long (fo (pm_wo w (fo (pm_cb E 0) k 0)) k 0), .int co, .ref a5, .ref a6, .ref a7, .ref a8, .ref a9, .ref a10, .ref a11, .ref a12, .ref a13, .int (bI cf), .ref a14])), (a1, .inl (cI, 36, .inl (fun i9 => nI (E i9)))), (a2, .inl (cI, 18, .inl w)), (a3, .inl (cI, 10, .inl Cp))] H := hP
  have hD : va_D A [(hm, .inr (5, [.int (nI n), .int (nI k), .ref a1, .ref a2, .int (bI wk), .int (bI fl), .int (nI cm), .ref a3, .ref a4, .int bl, .int 0, .long (fo (pm_wo w (fo (pm_cb E 0) k 0)) k 0), .int co, .ref a5, .ref a6, .ref a7, .ref a8, .ref a9, .ref a10, .ref a11, .ref a12, .ref a13, .int (bI cf), .ref a14])), (a1, .inl (cI, 36, .inl (fun i9 => nI (E i9)))), (a2, .inl (cI, 18, .inl w)), (a3, .inl (cI, 10, .inl Cp))] := hD
  refine lv_iconst (v := nI 1) hx hb d_M_split_20 (by decide) ?_
  refine lv_istore_n hx hb d_M_split_21 rfl hl (Nat.le_of_ble_eq_true rfl) rfl (fun ls hl => ?_)
  have hl : lv_has ls 8 [(2, .int (nI 1)), (1, .int (fo (pm_cb E 0) k 0)), (0, .ref hm)] := hl
  have hL22 : ∀ (kk i : Nat), i + kk = (M - 1) → ∀ (b1 : Int32) (sd1 : Int32) (sm1 : Int64) (H : Heap) (locs : List Loc) (ls : Array Slot), (b1, sd1, sm1) = fo (pm_sp1 n k E w Cp) i (fo (pm_cb E 0) k 0, 0, fo (pm_wo w (fo (pm_cb E 0) k 0)) k 0) → va_P (dC, dI) pcl [(hm, .inr (5, [.int (nI n), .int (nI k), .ref a1, .ref a2, .int (bI wk), .int (bI fl), .int (nI cm), .ref a3, .ref a4, .int bl, .int sd1, .long sm1, .int co, .ref a5, .ref a6, .ref a7, .ref a8, .ref a9, .ref a10, .ref a11, .ref a12, .ref a13, .int (bI cf), .ref a14])), (a1, .inl (cI, 36, .inl (fun i9 => nI (E i9)))), (a2, .inl (cI, 18, .inl w)), (a3, .inl (cI, 10, .inl Cp))] H → va_D A [(hm, .inr (5, [.int (nI n), .int (nI k), .ref a1, .ref a2, .int (bI wk), .int (bI fl), .int (nI cm), .ref a3, .ref a4, .int bl, .int sd1, .long sm1, .int co, .ref a5, .ref a6, .ref a7, .ref a8, .ref a9, .ref a10, .ref a11, .ref a12, .ref a13, .int (bI cf), .ref a14])), (a1, .inl (cI, 36, .inl (fun i9 => nI (E i9)))), (a2, .inl (cI, 18, .inl w)), (a3, .inl (cI, 10, .inl Cp))] → va_S A s.heap H locs → lv_has ls 8 [(2, .int (nI (1 + i))), (1, .int b1), (0, .ref hm)] → W p l e rm_M_split s m args below meth c H locs 0 0 Q (F0 m 22 ls []) := by
    intro kk
    induction kk with
    | zero =>
      intro i hi22 b1 sd1 sm1 H locs ls he22 hP hD hS hl
      have hj22 : i = M - 1 := by omega
      rw [hj22] at hl he22
      have e_b1 : b1 = (fo (pm_sp1 n k E w Cp) (M - 1) (fo (pm_cb E 0) k 0, 0, fo (pm_wo w (fo (pm_cb E 0) k 0)) k 0)).1 := by rw [← he22]
      subst e_b1
      have e_sd1 : sd1 = (fo (pm_sp1 n k E w Cp) (M - 1) (fo (pm_cb E 0) k 0, 0, fo (pm_wo w (fo (pm_cb E 0) k 0)) k 0)).2.1 := by rw [← he22]
      subst e_sd1
      have e_sm1 : sm1 = (fo (pm_sp1 n k E w Cp) (M - 1) (fo (pm_cb E 0) k 0, 0, fo (pm_wo w (fo (pm_cb E 0) k 0)) k 0)).2.2 := by rw [← he22]
      subst e_sm1
      have hl : lv_has ls 8 [(2, .int (nI (1 + (M - 1)))), (1, .int ((fo (pm_sp1 n k E w Cp) (M - 1) (fo (pm_cb E 0) k 0, 0, fo (pm_wo w (fo (pm_cb E 0) k 0)) k 0)).1)), (0, .ref hm)] := hl
      have hP : va_P (dC, dI) pcl [(hm, .inr (5, [.int (nI n), .int (nI k), .ref a1, .ref a2, .int (bI wk), .int (bI fl), .int (nI cm), .ref a3, .ref a4, .int bl, .int ((fo (pm_sp1 n k E w Cp) (M - 1) (fo (pm_cb E 0) k 0, 0, fo (pm_wo w (fo (pm_cb E 0) k 0)) k 0)).2.1), .long ((fo (pm_sp1 n k E w Cp) (M - 1) (fo (pm_cb E 0) k 0, 0, fo (pm_wo w (fo (pm_cb E 0) k 0)) k 0)).2.2), .int co, .ref a5, .ref a6, .ref a7, .ref a8, .ref a9, .ref a10, .ref a11, .ref a12, .ref a13, .int (bI cf), .ref a14])), (a1, .inl (cI, 36, .inl (fun i9 => nI (E i9)))), (a2, .inl (cI, 18, .inl w)), (a3, .inl (cI, 10, .inl Cp))] H := hP
      have hD : va_D A [(hm, .inr (5, [.int (nI n), .int (nI k), .ref a1, .ref a2, .int (bI wk), .int (bI fl), .int (nI cm), .ref a3, .ref a4, .int bl, .int ((fo (pm_sp1 n k E w Cp) (M - 1) (fo (pm_cb E 0) k 0, 0, fo (pm_wo w (fo (pm_cb E 0) k 0)) k 0)).2.1), .long ((fo (pm_sp1 n k E w Cp) (M - 1) (fo (pm_cb E 0) k 0, 0, fo (pm_wo w (fo (pm_cb E 0) k 0)) k 0)).2.2), .int co, .ref a5, .ref a6, .ref a7, .ref a8, .ref a9, .ref a10, .ref a11, .ref a12, .ref a13, .int (bI cf), .ref a14])), (a1, .inl (cI, 36, .inl (fun i9 => nI (E i9)))), (a2, .inl (cI, 18, .inl w)), (a3, .inl (cI, 10, .inl Cp))] := hD
      refine lv_iload_n hx hb d_M_split_22 rfl (lv_at hl 0 rfl) ?_
      refine lv_iconst (v := 1) hx hb d_M_split_23 (by decide) ?_
      refine lv_aload_n hx hb d_M_split_24 rfl (lv_at hl 2 rfl) ?_
      refine g_get Sx gf_M hK hP 0 rfl rfl 0 (by decide) gm_419 rfl d_M_split_25 ?_
      refine lv_ishl hx hb d_M_split_28 ?_
      rw [show ((1 <<< ((nI n) &&& 31)) : Int32) = nI M from (by rw [hM]; exact sh_pow n (by omega))]
      refine lv_icmp_ge hx hb d_M_split_29 (tgt := 126) rfl (fun q1 => ?_) (fun q1 => ?_)
      · have q1 : M ≤ (1 + (M - 1)) := nq_le (by omega) (by omega) q1
        subst hM
        exact hret _ H locs _ d_M_split_126 hP hD hS
      · have q1 : (1 + (M - 1)) < M := nq_nle (by omega) (by omega) q1
        exact absurd q1 (by omega)
    | succ kk ih22 =>
      intro i hi22 b1 sd1 sm1 H locs ls he22 hP hD hS hl
      refine lv_iload_n hx hb d_M_split_22 rfl (lv_at hl 0 rfl) ?_
      refine lv_iconst (v := 1) hx hb d_M_split_23 (by decide) ?_
      refine lv_aload_n hx hb d_M_split_24 rfl (lv_at hl 2 rfl) ?_
      refine g_get Sx gf_M hK hP 0 rfl rfl 0 (by decide) gm_419 rfl d_M_split_25 ?_
      refine lv_ishl hx hb d_M_split_28 ?_
      rw [show ((1 <<< ((nI n) &&& 31)) : Int32) = nI M from (by rw [hM]; exact sh_pow n (by omega))]
      refine lv_icmp_ge hx hb d_M_split_29 (tgt := 126) rfl (fun q2 => ?_) (fun q2 => ?_)
      · have q2 : M ≤ (1 + i) := nq_le (by omega) (by omega) q2
        exact absurd q2 (by omega)
      · have q2 : (1 + i) < M := nq_nle (by omega) (by omega) q2
        refine lv_aload_n hx hb d_M_split_32 rfl (lv_at hl 2 rfl) ?_
        refine lv_iload_n hx hb d_M_split_33 rfl (lv_at hl 0 rfl) ?_
        refine ro_V (As := [.int (nI (1 + i))]) (rest := []) Sx (c_M_crossingBy l dC dI n k wk fl cm bl sd1 sm1 co cf hm a1 a2 a3 a4 a5 a6 a7 a8 a9 a10 a11 a12 a13 a14 cI E (nI (1 + i)) hk) (gw_callV gm_563 gm_564 gm_47 gm_56 gm_565) hd_M_crossingBy ⟨rfl, rfl⟩ ⟨Nat.le_of_ble_eq_true rfl, Nat.le_of_ble_eq_true rfl⟩ (va_P_map hP [0, 1] rfl) (hK.sub (tys' := [(cI, .int)]) [0] rfl) rfl 0 rfl rfl hl.1 rfl (Nat.le_of_ble_eq_true rfl) d_M_split_34 ⟨Nat.zero_le _, Nat.zero_le _⟩ ?_
        refine lv_istore_n hx hb d_M_split_37 rfl hl (Nat.le_of_ble_eq_true rfl) rfl (fun ls hl => ?_)
        have hl : lv_has ls 8 [(3, .int (fo (pm_cb E (nI (1 + i))) k 0)), (2, .int (nI (1 + i))), (1, .int b1), (0, .ref hm)] := hl
        refine lv_aload_n hx hb d_M_split_38 rfl (lv_at hl 3 rfl) ?_
        refine lv_iload_n hx hb d_M_split_39 rfl (lv_at hl 0 rfl) ?_
        refine ro_VL (As := [.int (fo (pm_cb E (nI (1 + i))) k 0)]) (rest := []) Sx (c_M_weightOf l dC dI n k wk fl cm bl sd1 sm1 co cf hm a1 a2 a3 a4 a5 a6 a7 a8 a9 a10 a11 a12 a13 a14 cI w (fo (pm_cb E (nI (1 + i))) k 0) hk) (gw_callV gm_566 gm_567 gm_48 gm_56 gm_568) hd_M_weightOf ⟨rfl, rfl⟩ ⟨Nat.le_of_ble_eq_true rfl, Nat.le_of_ble_eq_true rfl⟩ (va_P_map hP [0, 2] rfl) (hK.sub (tys' := [(cI, .int)]) [0] rfl) rfl 0 rfl rfl hl.1 rfl (Nat.le_of_ble_eq_true rfl) d_M_split_40 ⟨Nat.zero_le _, Nat.zero_le _⟩ ?_
        refine lv_lstore hx hb d_M_split_43 hl (Nat.le_of_ble_eq_true rfl) rfl (fun ls hl => ?_)
        have hl : lv_has ls 8 [(4, .long (fo (pm_wo w (fo (pm_cb E (nI (1 + i))) k 0)) k 0)), (3, .int (fo (pm_cb E (nI (1 + i))) k 0)), (2, .int (nI (1 + i))), (1, .int b1), (0, .ref hm)] := hl
        refine lv_iload_n hx hb d_M_split_45 rfl (lv_at hl 1 rfl) ?_
        refine lv_iload_n hx hb d_M_split_46 rfl (lv_at hl 3 rfl) ?_
        refine lv_ixor hx hb d_M_split_47 ?_
        refine lv_istore hx hb d_M_split_48 hl (Nat.le_of_ble_eq_true rfl) rfl (fun ls hl => ?_)
        have hl : lv_has ls 8 [(6, .int ((fo (pm_cb E (nI (1 + i))) k 0) ^^^ b1)), (4, .long (fo (pm_wo w (fo (pm_cb E (nI (1 + i))) k 0)) k 0)), (3, .int (fo (pm_cb E (nI (1 + i))) k 0)), (2, .int (nI (1 + i))), (1, .int b1), (0, .ref hm)] := hl
        refine lv_lload hx hb d_M_split_50 (lv_at hl 1 rfl) ?_
        refine lv_aload_n hx hb d_M_split_52 rfl (lv_at hl 5 rfl) ?_
        refine g_get Sx gf_M hK hP 0 rfl rfl 11 (by decide) gm_430 rfl d_M_split_53 ?_
        refine W.lcmp hx hb d_M_split_56 ?_
        refine lv_if_gt hx hb d_M_split_57 (tgt := 87) rfl (fun q3 => ?_) (fun q3 => ?_)
        · skip
          refine lv_iconst (v := 1) hx hb d_M_split_87 (by decide) ?_
          refine lv_goto hx hb d_M_split_88 (tgt := 92) rfl ?_
          refine lv_istore hx hb d_M_split_92 hl (Nat.le_of_ble_eq_true rfl) rfl (fun ls hl => ?_)
          have hl : lv_has ls 8 [(7, .int 1), (6, .int ((fo (pm_cb E (nI (1 + i))) k 0) ^^^ b1)), (4, .long (fo (pm_wo w (fo (pm_cb E (nI (1 + i))) k 0)) k 0)), (3, .int (fo (pm_cb E (nI (1 + i))) k 0)), (2, .int (nI (1 + i))), (1, .int b1), (0, .ref hm)] := hl
          refine lv_iload hx hb d_M_split_94 (lv_at hl 0 rfl) ?_
          refine lv_if_eq hx hb d_M_split_96 (tgt := 120) rfl (fun q4 => ?_) (fun q4 => ?_)
          · skip
            exact absurd q4 (by decide)
          · skip
            refine lv_aload_n hx hb d_M_split_99 rfl (lv_at hl 6 rfl) ?_
            refine lv_iload_n hx hb d_M_split_100 rfl (lv_at hl 4 rfl) ?_
            refine ro_V (As := [.int (nI (1 + i))]) (rest := []) Sx (c_M_begins l dC dI n k wk fl cm bl sd1 sm1 co cf hm a1 a2 a3 a4 a5 a6 a7 a8 a9 a10 a11 a12 a13 a14 cI Cp (nI (1 + i)) hn) (gw_callV gm_569 gm_570 gm_49 gm_56 gm_571) hd_M_begins ⟨rfl, rfl⟩ ⟨Nat.le_of_ble_eq_true rfl, Nat.le_of_ble_eq_true rfl⟩ (va_P_map hP [0, 3] rfl) (hK.sub (tys' := [(cI, .int)]) [0] rfl) rfl 0 rfl rfl hl.1 rfl (Nat.le_of_ble_eq_true rfl) d_M_split_101 ⟨Nat.zero_le _, Nat.zero_le _⟩ ?_
            refine lv_if_eq hx hb d_M_split_104 (tgt := 120) rfl (fun q5 => ?_) (fun q5 => ?_)
            · have q5 : (fo (pm_bg2 Cp (nI (1 + i))) n true) = false := bI_0.mp q5
              refine lv_iinc (k := 4) (v := nI (1 + i + 1)) hx hb d_M_split_120 hl rfl (inc_nI _) (Nat.le_of_ble_eq_true rfl) rfl (fun ls hl => ?_)
              have hl : lv_has ls 8 [(2, .int (nI (1 + i + 1))), (7, .int 1), (6, .int ((fo (pm_cb E (nI (1 + i))) k 0) ^^^ b1)), (4, .long (fo (pm_wo w (fo (pm_cb E (nI (1 + i))) k 0)) k 0)), (3, .int (fo (pm_cb E (nI (1 + i))) k 0)), (1, .int b1), (0, .ref hm)] := hl
              refine lv_goto hx hb d_M_split_123 (tgt := 22) rfl ?_
              have he2 : (b1, sd1, sm1) = fo (pm_sp1 n k E w Cp) (i + 1) (fo (pm_cb E 0) k 0, 0, fo (pm_wo w (fo (pm_cb E 0) k 0)) k 0) := by
                rw [fo_s, ← he22]
                simp [pm_sp1, q2, q3, q4, q5]
              exact ih22 (i + 1) (by omega) b1 sd1 sm1 H locs ls he2 hP hD hS (lv_sub hl [0, 5, 6] rfl)
            · have q5 : (fo (pm_bg2 Cp (nI (1 + i))) n true) = true := bI_1.mp q5
              refine lv_aload_n hx hb d_M_split_107 rfl (lv_at hl 6 rfl) ?_
              refine lv_iload_n hx hb d_M_split_108 rfl (lv_at hl 4 rfl) ?_
              refine g_put Sx gf_M fk_M fn_M hK hP hD hS 0 rfl rfl 10 (by decide) gm_429 rfl rfl rfl (Nat.le_of_ble_eq_true rfl) d_M_split_109 (fun H locs hP hD hS => ?_)
              have hP : va_P (dC, dI) pcl [(hm, .inr (5, [.int (nI n), .int (nI k), .ref a1, .ref a2, .int (bI wk), .int (bI fl), .int (nI cm), .ref a3, .ref a4, .int bl, .int (nI (1 + i)), .long sm1, .int co, .ref a5, .ref a6, .ref a7, .ref a8, .ref a9, .ref a10, .ref a11, .ref a12, .ref a13, .int (bI cf), .ref a14])), (a1, .inl (cI, 36, .inl (fun i9 => nI (E i9)))), (a2, .inl (cI, 18, .inl w)), (a3, .inl (cI, 10, .inl Cp))] H := hP
              have hD : va_D A [(hm, .inr (5, [.int (nI n), .int (nI k), .ref a1, .ref a2, .int (bI wk), .int (bI fl), .int (nI cm), .ref a3, .ref a4, .int bl, .int (nI (1 + i)), .long sm1, .int co, .ref a5, .ref a6, .ref a7, .ref a8, .ref a9, .ref a10, .ref a11, .ref a12, .ref a13, .int (bI cf), .ref a14])), (a1, .inl (cI, 36, .inl (fun i9 => nI (E i9)))), (a2, .inl (cI, 18, .inl w)), (a3, .inl (cI, 10, .inl Cp))] := hD
              refine lv_iload_n hx hb d_M_split_112 rfl (lv_at hl 3 rfl) ?_
              refine lv_istore_n hx hb d_M_split_113 rfl hl (Nat.le_of_ble_eq_true rfl) rfl (fun ls hl => ?_)
              have hl : lv_has ls 8 [(1, .int (fo (pm_cb E (nI (1 + i))) k 0)), (7, .int 1), (6, .int ((fo (pm_cb E (nI (1 + i))) k 0) ^^^ b1)), (4, .long (fo (pm_wo w (fo (pm_cb E (nI (1 + i))) k 0)) k 0)), (3, .int (fo (pm_cb E (nI (1 + i))) k 0)), (2, .int (nI (1 + i))), (0, .ref hm)] := hl
              refine lv_aload_n hx hb d_M_split_114 rfl (lv_at hl 6 rfl) ?_
              refine lv_lload hx hb d_M_split_115 (lv_at hl 3 rfl) ?_
              refine g_put Sx gf_M fk_M fn_M hK hP hD hS 0 rfl rfl 11 (by decide) gm_430 rfl rfl rfl (Nat.le_of_ble_eq_true rfl) d_M_split_117 (fun H locs hP hD hS => ?_)
              have hP : va_P (dC, dI) pcl [(hm, .inr (5, [.int (nI n), .int (nI k), .ref a1, .ref a2, .int (bI wk), .int (bI fl), .int (nI cm), .ref a3, .ref a4, .int bl, .int (nI (1 + i)), .long (fo (pm_wo w (fo (pm_cb E (nI (1 + i))) k 0)) k 0), .int co, .ref a5, .ref a6, .ref a7, .ref a8, .ref a9, .ref a10, .ref a11, .ref a12, .ref a13, .int (bI cf), .ref a14])), (a1, .inl (cI, 36, .inl (fun i9 => nI (E i9)))), (a2, .inl (cI, 18, .inl w)), (a3, .inl (cI, 10, .inl Cp))] H := hP
              have hD : va_D A [(hm, .inr (5, [.int (nI n), .int (nI k), .ref a1, .ref a2, .int (bI wk), .int (bI fl), .int (nI cm), .ref a3, .ref a4, .int bl, .int (nI (1 + i)), .long (fo (pm_wo w (fo (pm_cb E (nI (1 + i))) k 0)) k 0), .int co, .ref a5, .ref a6, .ref a7, .ref a8, .ref a9, .ref a10, .ref a11, .ref a12, .ref a13, .int (bI cf), .ref a14])), (a1, .inl (cI, 36, .inl (fun i9 => nI (E i9)))), (a2, .inl (cI, 18, .inl w)), (a3, .inl (cI, 10, .inl Cp))] := hD
              refine lv_iinc (k := 5) (v := nI (1 + i + 1)) hx hb d_M_split_120 hl rfl (inc_nI _) (Nat.le_of_ble_eq_true rfl) rfl (fun ls hl => ?_)
              have hl : lv_has ls 8 [(2, .int (nI (1 + i + 1))), (1, .int (fo (pm_cb E (nI (1 + i))) k 0)), (7, .int 1), (6, .int ((fo (pm_cb E (nI (1 + i))) k 0) ^^^ b1)), (4, .long (fo (pm_wo w (fo (pm_cb E (nI (1 + i))) k 0)) k 0)), (3, .int (fo (pm_cb E (nI (1 + i))) k 0)), (0, .ref hm)] := hl
              refine lv_goto hx hb d_M_split_123 (tgt := 22) rfl ?_
              have he2 : (fo (pm_cb E (nI (1 + i))) k 0, nI (1 + i), fo (pm_wo w (fo (pm_cb E (nI (1 + i))) k 0)) k 0) = fo (pm_sp1 n k E w Cp) (i + 1) (fo (pm_cb E 0) k 0, 0, fo (pm_wo w (fo (pm_cb E 0) k 0)) k 0) := by
                rw [fo_s, ← he22]
                simp [pm_sp1, q2, q3, q4, q5]
              exact ih22 (i + 1) (by omega) (fo (pm_cb E (nI (1 + i))) k 0) (nI (1 + i)) (fo (pm_wo w (fo (pm_cb E (nI (1 + i))) k 0)) k 0) H locs ls he2 hP hD hS (lv_sub hl [0, 1, 6] rfl)
        · skip
          refine lv_lload hx hb d_M_split_60 (lv_at hl 1 rfl) ?_
          refine lv_aload_n hx hb d_M_split_62 rfl (lv_at hl 5 rfl) ?_
          refine g_get Sx gf_M hK hP 0 rfl rfl 11 (by decide) gm_430 rfl d_M_split_63 ?_
          refine W.lcmp hx hb d_M_split_66 ?_
          refine lv_if_ne hx hb d_M_split_67 (tgt := 91) rfl (fun q6 => ?_) (fun q6 => ?_)
          · skip
            refine lv_iconst (v := 0) hx hb d_M_split_91 (by decide) ?_
            refine lv_istore hx hb d_M_split_92 hl (Nat.le_of_ble_eq_true rfl) rfl (fun ls hl => ?_)
            have hl : lv_has ls 8 [(7, .int 0), (6, .int ((fo (pm_cb E (nI (1 + i))) k 0) ^^^ b1)), (4, .long (fo (pm_wo w (fo (pm_cb E (nI (1 + i))) k 0)) k 0)), (3, .int (fo (pm_cb E (nI (1 + i))) k 0)), (2, .int (nI (1 + i))), (1, .int b1), (0, .ref hm)] := hl
            refine lv_iload hx hb d_M_split_94 (lv_at hl 0 rfl) ?_
            refine lv_if_eq hx hb d_M_split_96 (tgt := 120) rfl (fun q7 => ?_) (fun q7 => ?_)
            · skip
              refine lv_iinc (k := 4) (v := nI (1 + i + 1)) hx hb d_M_split_120 hl rfl (inc_nI _) (Nat.le_of_ble_eq_true rfl) rfl (fun ls hl => ?_)
              have hl : lv_has ls 8 [(2, .int (nI (1 + i + 1))), (7, .int 0), (6, .int ((fo (pm_cb E (nI (1 + i))) k 0) ^^^ b1)), (4, .long (fo (pm_wo w (fo (pm_cb E (nI (1 + i))) k 0)) k 0)), (3, .int (fo (pm_cb E (nI (1 + i))) k 0)), (1, .int b1), (0, .ref hm)] := hl
              refine lv_goto hx hb d_M_split_123 (tgt := 22) rfl ?_
              have he2 : (b1, sd1, sm1) = fo (pm_sp1 n k E w Cp) (i + 1) (fo (pm_cb E 0) k 0, 0, fo (pm_wo w (fo (pm_cb E 0) k 0)) k 0) := by
                rw [fo_s, ← he22]
                simp [pm_sp1, q2, q3, q6, q7]
              exact ih22 (i + 1) (by omega) b1 sd1 sm1 H locs ls he2 hP hD hS (lv_sub hl [0, 5, 6] rfl)
            · skip
              exact absurd rfl q7
          · skip
            refine lv_iload hx hb d_M_split_70 (lv_at hl 0 rfl) ?_
            refine lv_if_eq hx hb d_M_split_72 (tgt := 91) rfl (fun q8 => ?_) (fun q8 => ?_)
            · skip
              refine lv_iconst (v := 0) hx hb d_M_split_91 (by decide) ?_
              refine lv_istore hx hb d_M_split_92 hl (Nat.le_of_ble_eq_true rfl) rfl (fun ls hl => ?_)
              have hl : lv_has ls 8 [(7, .int 0), (6, .int ((fo (pm_cb E (nI (1 + i))) k 0) ^^^ b1)), (4, .long (fo (pm_wo w (fo (pm_cb E (nI (1 + i))) k 0)) k 0)), (3, .int (fo (pm_cb E (nI (1 + i))) k 0)), (2, .int (nI (1 + i))), (1, .int b1), (0, .ref hm)] := hl
              refine lv_iload hx hb d_M_split_94 (lv_at hl 0 rfl) ?_
              refine lv_if_eq hx hb d_M_split_96 (tgt := 120) rfl (fun q9 => ?_) (fun q9 => ?_)
              · skip
                refine lv_iinc (k := 4) (v := nI (1 + i + 1)) hx hb d_M_split_120 hl rfl (inc_nI _) (Nat.le_of_ble_eq_true rfl) rfl (fun ls hl => ?_)
                have hl : lv_has ls 8 [(2, .int (nI (1 + i + 1))), (7, .int 0), (6, .int ((fo (pm_cb E (nI (1 + i))) k 0) ^^^ b1)), (4, .long (fo (pm_wo w (fo (pm_cb E (nI (1 + i))) k 0)) k 0)), (3, .int (fo (pm_cb E (nI (1 + i))) k 0)), (1, .int b1), (0, .ref hm)] := hl
                refine lv_goto hx hb d_M_split_123 (tgt := 22) rfl ?_
                have he2 : (b1, sd1, sm1) = fo (pm_sp1 n k E w Cp) (i + 1) (fo (pm_cb E 0) k 0, 0, fo (pm_wo w (fo (pm_cb E 0) k 0)) k 0) := by
                  rw [fo_s, ← he22]
                  simp [pm_sp1, q2, q3, q6, q8, q9]
                exact ih22 (i + 1) (by omega) b1 sd1 sm1 H locs ls he2 hP hD hS (lv_sub hl [0, 5, 6] rfl)
              · skip
                exact absurd rfl q9
            · skip
              refine lv_iload_n hx hb d_M_split_75 rfl (lv_at hl 2 rfl) ?_
              refine lv_iload hx hb d_M_split_76 (lv_at hl 0 rfl) ?_
              refine ro_S (As := [.int ((fo (pm_cb E (nI (1 + i))) k 0) ^^^ b1)]) (rest := [.int (fo (pm_cb E (nI (1 + i))) k 0)]) Sx (c_M_least l dC dI ((fo (pm_cb E (nI (1 + i))) k 0) ^^^ b1) (hlx _ (by assumption))) (gw_callS gm_542 gm_543 gm_56 gm_544) hd_M_least ⟨rfl, rfl⟩ ⟨Nat.le_of_ble_eq_true rfl, Nat.le_of_ble_eq_true rfl⟩ (va_P_map hP [] rfl) (hK.sub (tys' := []) [] rfl) rfl hl.1 rfl (Nat.le_of_ble_eq_true rfl) d_M_split_78 ⟨Nat.zero_le _, Nat.zero_le _⟩ ?_
              refine ro_S (As := [.int (fo (pm_cb E (nI (1 + i))) k 0), .int (nI (pm_least ((fo (pm_cb E (nI (1 + i))) k 0) ^^^ b1)))]) (rest := []) Sx (c_M_has l dC dI (fo (pm_cb E (nI (1 + i))) k 0) (nI (pm_least ((fo (pm_cb E (nI (1 + i))) k 0) ^^^ b1)))) (gw_callS gm_509 gm_510 gm_56 gm_511) hd_M_has ⟨rfl, rfl⟩ ⟨Nat.le_of_ble_eq_true rfl, Nat.le_of_ble_eq_true rfl⟩ (va_P_map hP [] rfl) (hK.sub (tys' := []) [] rfl) rfl hl.1 rfl (Nat.le_of_ble_eq_true rfl) d_M_split_81 ⟨Nat.zero_le _, Nat.zero_le _⟩ ?_
              refine lv_if_eq hx hb d_M_split_84 (tgt := 91) rfl (fun q10 => ?_) (fun q10 => ?_)
              · have q10 : (pm_has (fo (pm_cb E (nI (1 + i))) k 0) (nI (pm_least ((fo (pm_cb E (nI (1 + i))) k 0) ^^^ b1)))) = false := bI_0.mp q10
                refine lv_iconst (v := 0) hx hb d_M_split_91 (by decide) ?_
                refine lv_istore hx hb d_M_split_92 hl (Nat.le_of_ble_eq_true rfl) rfl (fun ls hl => ?_)
                have hl : lv_has ls 8 [(7, .int 0), (6, .int ((fo (pm_cb E (nI (1 + i))) k 0) ^^^ b1)), (4, .long (fo (pm_wo w (fo (pm_cb E (nI (1 + i))) k 0)) k 0)), (3, .int (fo (pm_cb E (nI (1 + i))) k 0)), (2, .int (nI (1 + i))), (1, .int b1), (0, .ref hm)] := hl
                refine lv_iload hx hb d_M_split_94 (lv_at hl 0 rfl) ?_
                refine lv_if_eq hx hb d_M_split_96 (tgt := 120) rfl (fun q11 => ?_) (fun q11 => ?_)
                · skip
                  refine lv_iinc (k := 4) (v := nI (1 + i + 1)) hx hb d_M_split_120 hl rfl (inc_nI _) (Nat.le_of_ble_eq_true rfl) rfl (fun ls hl => ?_)
                  have hl : lv_has ls 8 [(2, .int (nI (1 + i + 1))), (7, .int 0), (6, .int ((fo (pm_cb E (nI (1 + i))) k 0) ^^^ b1)), (4, .long (fo (pm_wo w (fo (pm_cb E (nI (1 + i))) k 0)) k 0)), (3, .int (fo (pm_cb E (nI (1 + i))) k 0)), (1, .int b1), (0, .ref hm)] := hl
                  refine lv_goto hx hb d_M_split_123 (tgt := 22) rfl ?_
                  have he2 : (b1, sd1, sm1) = fo (pm_sp1 n k E w Cp) (i + 1) (fo (pm_cb E 0) k 0, 0, fo (pm_wo w (fo (pm_cb E 0) k 0)) k 0) := by
                    rw [fo_s, ← he22]
                    simp [pm_sp1, q2, q3, q6, q8, q10, q11]
                  exact ih22 (i + 1) (by omega) b1 sd1 sm1 H locs ls he2 hP hD hS (lv_sub hl [0, 5, 6] rfl)
                · skip
                  exact absurd rfl q11
              · have q10 : (pm_has (fo (pm_cb E (nI (1 + i))) k 0) (nI (pm_least ((fo (pm_cb E (nI (1 + i))) k 0) ^^^ b1)))) = true := bI_1.mp q10
                refine lv_iconst (v := 1) hx hb d_M_split_87 (by decide) ?_
                refine lv_goto hx hb d_M_split_88 (tgt := 92) rfl ?_
                refine lv_istore hx hb d_M_split_92 hl (Nat.le_of_ble_eq_true rfl) rfl (fun ls hl => ?_)
                have hl : lv_has ls 8 [(7, .int 1), (6, .int ((fo (pm_cb E (nI (1 + i))) k 0) ^^^ b1)), (4, .long (fo (pm_wo w (fo (pm_cb E (nI (1 + i))) k 0)) k 0)), (3, .int (fo (pm_cb E (nI (1 + i))) k 0)), (2, .int (nI (1 + i))), (1, .int b1), (0, .ref hm)] := hl
                refine lv_iload hx hb d_M_split_94 (lv_at hl 0 rfl) ?_
                refine lv_if_eq hx hb d_M_split_96 (tgt := 120) rfl (fun q12 => ?_) (fun q12 => ?_)
                · skip
                  exact absurd q12 (by decide)
                · skip
                  refine lv_aload_n hx hb d_M_split_99 rfl (lv_at hl 6 rfl) ?_
                  refine lv_iload_n hx hb d_M_split_100 rfl (lv_at hl 4 rfl) ?_
                  refine ro_V (As := [.int (nI (1 + i))]) (rest := []) Sx (c_M_begins l dC dI n k wk fl cm bl sd1 sm1 co cf hm a1 a2 a3 a4 a5 a6 a7 a8 a9 a10 a11 a12 a13 a14 cI Cp (nI (1 + i)) hn) (gw_callV gm_569 gm_570 gm_49 gm_56 gm_571) hd_M_begins ⟨rfl, rfl⟩ ⟨Nat.le_of_ble_eq_true rfl, Nat.le_of_ble_eq_true rfl⟩ (va_P_map hP [0, 3] rfl) (hK.sub (tys' := [(cI, .int)]) [0] rfl) rfl 0 rfl rfl hl.1 rfl (Nat.le_of_ble_eq_true rfl) d_M_split_101 ⟨Nat.zero_le _, Nat.zero_le _⟩ ?_
                  refine lv_if_eq hx hb d_M_split_104 (tgt := 120) rfl (fun q13 => ?_) (fun q13 => ?_)
                  · have q13 : (fo (pm_bg2 Cp (nI (1 + i))) n true) = false := bI_0.mp q13
                    refine lv_iinc (k := 4) (v := nI (1 + i + 1)) hx hb d_M_split_120 hl rfl (inc_nI _) (Nat.le_of_ble_eq_true rfl) rfl (fun ls hl => ?_)
                    have hl : lv_has ls 8 [(2, .int (nI (1 + i + 1))), (7, .int 1), (6, .int ((fo (pm_cb E (nI (1 + i))) k 0) ^^^ b1)), (4, .long (fo (pm_wo w (fo (pm_cb E (nI (1 + i))) k 0)) k 0)), (3, .int (fo (pm_cb E (nI (1 + i))) k 0)), (1, .int b1), (0, .ref hm)] := hl
                    refine lv_goto hx hb d_M_split_123 (tgt := 22) rfl ?_
                    have he2 : (b1, sd1, sm1) = fo (pm_sp1 n k E w Cp) (i + 1) (fo (pm_cb E 0) k 0, 0, fo (pm_wo w (fo (pm_cb E 0) k 0)) k 0) := by
                      rw [fo_s, ← he22]
                      simp [pm_sp1, q2, q3, q6, q8, q10, q12, q13]
                    exact ih22 (i + 1) (by omega) b1 sd1 sm1 H locs ls he2 hP hD hS (lv_sub hl [0, 5, 6] rfl)
                  · have q13 : (fo (pm_bg2 Cp (nI (1 + i))) n true) = true := bI_1.mp q13
                    refine lv_aload_n hx hb d_M_split_107 rfl (lv_at hl 6 rfl) ?_
                    refine lv_iload_n hx hb d_M_split_108 rfl (lv_at hl 4 rfl) ?_
                    refine g_put Sx gf_M fk_M fn_M hK hP hD hS 0 rfl rfl 10 (by decide) gm_429 rfl rfl rfl (Nat.le_of_ble_eq_true rfl) d_M_split_109 (fun H locs hP hD hS => ?_)
                    have hP : va_P (dC, dI) pcl [(hm, .inr (5, [.int (nI n), .int (nI k), .ref a1, .ref a2, .int (bI wk), .int (bI fl), .int (nI cm), .ref a3, .ref a4, .int bl, .int (nI (1 + i)), .long sm1, .int co, .ref a5, .ref a6, .ref a7, .ref a8, .ref a9, .ref a10, .ref a11, .ref a12, .ref a13, .int (bI cf), .ref a14])), (a1, .inl (cI, 36, .inl (fun i9 => nI (E i9)))), (a2, .inl (cI, 18, .inl w)), (a3, .inl (cI, 10, .inl Cp))] H := hP
                    have hD : va_D A [(hm, .inr (5, [.int (nI n), .int (nI k), .ref a1, .ref a2, .int (bI wk), .int (bI fl), .int (nI cm), .ref a3, .ref a4, .int bl, .int (nI (1 + i)), .long sm1, .int co, .ref a5, .ref a6, .ref a7, .ref a8, .ref a9, .ref a10, .ref a11, .ref a12, .ref a13, .int (bI cf), .ref a14])), (a1, .inl (cI, 36, .inl (fun i9 => nI (E i9)))), (a2, .inl (cI, 18, .inl w)), (a3, .inl (cI, 10, .inl Cp))] := hD
                    refine lv_iload_n hx hb d_M_split_112 rfl (lv_at hl 3 rfl) ?_
                    refine lv_istore_n hx hb d_M_split_113 rfl hl (Nat.le_of_ble_eq_true rfl) rfl (fun ls hl => ?_)
                    have hl : lv_has ls 8 [(1, .int (fo (pm_cb E (nI (1 + i))) k 0)), (7, .int 1), (6, .int ((fo (pm_cb E (nI (1 + i))) k 0) ^^^ b1)), (4, .long (fo (pm_wo w (fo (pm_cb E (nI (1 + i))) k 0)) k 0)), (3, .int (fo (pm_cb E (nI (1 + i))) k 0)), (2, .int (nI (1 + i))), (0, .ref hm)] := hl
                    refine lv_aload_n hx hb d_M_split_114 rfl (lv_at hl 6 rfl) ?_
                    refine lv_lload hx hb d_M_split_115 (lv_at hl 3 rfl) ?_
                    refine g_put Sx gf_M fk_M fn_M hK hP hD hS 0 rfl rfl 11 (by decide) gm_430 rfl rfl rfl (Nat.le_of_ble_eq_true rfl) d_M_split_117 (fun H locs hP hD hS => ?_)
                    have hP : va_P (dC, dI) pcl [(hm, .inr (5, [.int (nI n), .int (nI k), .ref a1, .ref a2, .int (bI wk), .int (bI fl), .int (nI cm), .ref a3, .ref a4, .int bl, .int (nI (1 + i)), .long (fo (pm_wo w (fo (pm_cb E (nI (1 + i))) k 0)) k 0), .int co, .ref a5, .ref a6, .ref a7, .ref a8, .ref a9, .ref a10, .ref a11, .ref a12, .ref a13, .int (bI cf), .ref a14])), (a1, .inl (cI, 36, .inl (fun i9 => nI (E i9)))), (a2, .inl (cI, 18, .inl w)), (a3, .inl (cI, 10, .inl Cp))] H := hP
                    have hD : va_D A [(hm, .inr (5, [.int (nI n), .int (nI k), .ref a1, .ref a2, .int (bI wk), .int (bI fl), .int (nI cm), .ref a3, .ref a4, .int bl, .int (nI (1 + i)), .long (fo (pm_wo w (fo (pm_cb E (nI (1 + i))) k 0)) k 0), .int co, .ref a5, .ref a6, .ref a7, .ref a8, .ref a9, .ref a10, .ref a11, .ref a12, .ref a13, .int (bI cf), .ref a14])), (a1, .inl (cI, 36, .inl (fun i9 => nI (E i9)))), (a2, .inl (cI, 18, .inl w)), (a3, .inl (cI, 10, .inl Cp))] := hD
                    refine lv_iinc (k := 5) (v := nI (1 + i + 1)) hx hb d_M_split_120 hl rfl (inc_nI _) (Nat.le_of_ble_eq_true rfl) rfl (fun ls hl => ?_)
                    have hl : lv_has ls 8 [(2, .int (nI (1 + i + 1))), (1, .int (fo (pm_cb E (nI (1 + i))) k 0)), (7, .int 1), (6, .int ((fo (pm_cb E (nI (1 + i))) k 0) ^^^ b1)), (4, .long (fo (pm_wo w (fo (pm_cb E (nI (1 + i))) k 0)) k 0)), (3, .int (fo (pm_cb E (nI (1 + i))) k 0)), (0, .ref hm)] := hl
                    refine lv_goto hx hb d_M_split_123 (tgt := 22) rfl ?_
                    have he2 : (fo (pm_cb E (nI (1 + i))) k 0, nI (1 + i), fo (pm_wo w (fo (pm_cb E (nI (1 + i))) k 0)) k 0) = fo (pm_sp1 n k E w Cp) (i + 1) (fo (pm_cb E 0) k 0, 0, fo (pm_wo w (fo (pm_cb E 0) k 0)) k 0) := by
                      rw [fo_s, ← he22]
                      simp [pm_sp1, q2, q3, q6, q8, q10, q12, q13]
                    exact ih22 (i + 1) (by omega) (fo (pm_cb E (nI (1 + i))) k 0) (nI (1 + i)) (fo (pm_wo w (fo (pm_cb E (nI (1 + i))) k 0)) k 0) H locs ls he2 hP hD hS (lv_sub hl [0, 1, 6] rfl)
  exact hL22 (M - 1) 0 (by omega) (fo (pm_cb E 0) k 0) 0 (fo (pm_wo w (fo (pm_cb E 0) k 0)) k 0) H locs ls rfl hP hD hS (lv_sub hl [0, 1, 2] rfl)
