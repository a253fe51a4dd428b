theorem d_X_components_0 : decode k_X_components 0 = .ok (.aload_n 0, 1) := by decide +kernel
theorem d_X_components_1 : decode k_X_components 1 = .ok (.invokevirtual 73, 3) := by decide +kernel
theorem d_X_components_4 : decode k_X_components 4 = .ok (.aload_n 0, 1) := by decide +kernel
theorem d_X_components_5 : decode k_X_components 5 = .ok (.getfield 21, 3) := by decide +kernel
theorem d_X_components_8 : decode k_X_components 8 = .ok (.getfield 76, 3) := by decide +kernel
theorem d_X_components_11 : decode k_X_components 11 = .ok (.invokestatic 79, 3) := by decide +kernel
theorem d_X_components_14 : decode k_X_components 14 = .ok (.ireturn, 1) := by decide +kernel
abbrev rm_X_components : Room := { frames := 5, cells := 0, slots := 0, locals := 111 }
theorem hd_X_components : y_X_components.cls = n_X ∧ y_X_components.cls ≠ "java/lang/invoke/MethodHandle" ∧ y_X_components.cls ≠ "java/lang/invoke/VarHandle" ∧ (parseMethodDescriptor y_X_components.desc).map (fun d => d.parameters.length) = some 0 := by decide +kernel
set_option maxHeartbeats 4000000 in
set_option maxRecDepth 100000 in
theorem c_X_components (l : Launch) (dC : Nat → ClassId) (dI : Nat → Nat → Nat) (hx9 : Nat) (hp : Nat) (hp2 : Nat) (hd : Nat) (hs : Nat) (pk : Bool) (tk : Bool) (sk9 : Bool) (wk : Bool) (tg : Int32) (ws9 : Int32) (C : Nat → Int32) (B : Nat → Int32) (Y : Nat → Int32) (ch : Int32) (bh : Int32) (p1 : Nat) (p2 : Nat) (p3 : Nat) (n : Nat) (k : Nat) (F : Nat → Nat) (S : Nat → Nat) (w : Nat → Int32) (hg : Nat) (g1 : Nat) (g2 : Nat) (g3 : Nat) (cI : ClassId) (sC : Nat → Int32) (sB : Nat → Int32) (sY : Nat → Int32) (sch : Int32) (sbh : Int32) (sz : Nat) (hn : n ≤ 10) (hk : k ≤ 18) (hFS : ∀ e, e < k → F e < n ∧ S e < n) (hP0 : (sC, sB, sY, sch, sbh) = xs_ps pk n k F S C B Y ch bh) : Met l y_X_components (.code y_X_components k_X_components 1 (.some FieldType.int) :: gw) rm_X_components (rwP [.ref hx9] (dC, dI) [(hx9, .inr (4, [.ref hg, .ref hp, .ref hp2, .ref hd, .ref hs, .int (bI pk), .int (bI tk), .int (bI sk9), .int (bI wk), .int tg, .int ws9])), (hp, .inr (2, [.ref hg, .ref p1, .ref p2, .int ch, .int bh, .ref p3])), (p1, .inl (cI, 10, .inl C)), (p2, .inl (cI, 18, .inl B)), (p3, .inl (cI, 10, .inl Y)), (hg, .inr (1, [.int (nI n), .int (nI k), .ref g1, .ref g2, .ref g3])), (g1, .inl (cI, 18, .inl (fun i9 => nI (F i9)))), (g2, .inl (cI, 18, .inl (fun i9 => nI (S i9)))), (g3, .inl (cI, 18, .inl w))] [(cI, .int)] sz) (va_Qi (fun (r : Int32) (_ : Unit) => r = nI (jbN sch)) (rwB (dC, dI) [(hx9, .inr (4, [.ref hg, .ref hp, .ref hp2, .ref hd, .ref hs, .int (bI true), .int (bI tk), .int (bI sk9), .int (bI wk), .int tg, .int ws9])), (hp, .inr (2, [.ref hg, .ref p1, .ref p2, .int sch, .int sbh, .ref p3])), (p1, .inl (cI, 10, .inl sC)), (p2, .inl (cI, 18, .inl sB)), (p3, .inl (cI, 10, .inl sY)), (hg, .inr (1, [.int (nI n), .int (nI k), .ref g1, .ref g2, .ref g3])), (g1, .inl (cI, 18, .inl (fun i9 => nI (F i9)))), (g2, .inl (cI, 18, .inl (fun i9 => nI (S i9)))), (g3, .inl (cI, 18, .inl w))] [(cI, .int)] (va_A [(hx9, .inr (4, [.ref hg, .ref hp, .ref hp2, .ref hd, .ref hs, .int (bI pk), .int (bI tk), .int (bI sk9), .int (bI wk), .int tg, .int ws9])), (hp, .inr (2, [.ref hg, .ref p1, .ref p2, .int ch, .int bh, .ref p3])), (p1, .inl (cI, 10, .inl C)), (p2, .inl (cI, 18, .inl B)), (p3, .inl (cI, 10, .inl Y)), (hg, .inr (1, [.int (nI n), .int (nI k), .ref g1, .ref g2, .ref g3])), (g1, .inl (cI, 18, .inl (fun i9 => nI (F i9)))), (g2, .inl (cI, 18, .inl (fun i9 => nI (S i9)))), (g3, .inl (cI, 18, .inl w))] sz)) (va_A [(hx9, .inr (4, [.ref hg, .ref hp, .ref hp2, .ref hd, .ref hs, .int (bI pk), .int (bI tk), .int (bI sk9), .int (bI wk), .int tg, .int ws9])), (hp, .inr (2, [.ref hg, .ref p1, .ref p2, .int ch, .int bh, .ref p3])), (p1, .inl (cI, 10, .inl C)), (p2, .inl (cI, 18, .inl B)), (p3, .inl (cI, 10, .inl Y)), (hg, .inr (1, [.int (nI n), .int (nI k), .ref g1, .ref g2, .ref g3])), (g1, .inl (cI, 18, .inl (fun i9 => nI (F i9)))), (g2, .inl (cI, 18, .inl (fun i9 => nI (S i9)))), (g3, .inl (cI, 18, .inl w))] sz)) 0 0 (va_A [(hx9, .inr (4, [.ref hg, .ref hp, .ref hp2, .ref hd, .ref hs, .int (bI pk), .int (bI tk), .int (bI sk9), .int (bI wk), .int tg, .int ws9])), (hp, .inr (2, [.ref hg, .ref p1, .ref p2, .int ch, .int bh, .ref p3])), (p1, .inl (cI, 10, .inl C)), (p2, .inl (cI, 18, .inl B)), (p3, .inl (cI, 10, .inl Y)), (hg, .inr (1, [.int (nI n), .int (nI k), .ref g1, .ref g2, .ref g3])), (g1, .inl (cI, 18, .inl (fun i9 => nI (F i9)))), (g2, .inl (cI, 18, .inl (fun i9 => nI (S i9)))), (g3, .inl (cI, 18, .inl w))] sz) := by
  refine rw_metI (by decide) ⟨rfl, rfl⟩ rfl (Nat.le_of_ble_eq_true rfl) ?_
  intro p e s m args below meth c Q A ls Sx hP hK hD hA hl hret
  have hx := Sx.1
  have hb := Sx.2.1
  have hl : lv_has ls 1 [(0, .ref hx9)] := hl
  have hS : va_S A s.heap s.heap [] := va_S.rf
  obtain ⟨H, hH⟩ : ∃ H, H = s.heap := ⟨_, rfl⟩
  obtain ⟨locs, hlo⟩ : ∃ locs : List Loc, locs = [] := ⟨_, rfl⟩
  rw [← hlo]
  rw [← hlo] at hS
  have hP : va_P (dC, dI) pcl [(hx9, .inr (4, [.ref hg, .ref hp, .ref hp2, .ref hd, .ref hs, .int (bI pk), .int (bI tk), .int (bI sk9), .int (bI wk), .int tg, .int ws9])), (hp, .inr (2, [.ref hg, .ref p1, .ref p2, .int ch, .int bh, .ref p3])), (p1, .inl (cI, 10, .inl C)), (p2, .inl (cI, 18, .inl B)), (p3, .inl (cI, 10, .inl Y)), (hg, .inr (1, [.int (nI n), .int (nI k), .ref g1, .ref g2, .ref g3])), (g1, .inl (cI, 18, .inl (fun i9 => nI (F i9)))), (g2, .inl (cI, 18, .inl (fun i9 => nI (S i9)))), (g3, .inl (cI, 18, .inl w))] H := by rw [hH]; exact hP
  have hS : va_S A s.heap H locs := by rw [hH]; exact hS
  suffices hgo : W p l e rm_X_components s m args below meth c H locs 0 0 Q (F0 m 0 ls []) by rw [hH] at hgo; exact hgo
  refine lv_aload_n hx hb d_X_components_0 rfl (lv_at hl 0 rfl) ?_
  refine rw_V (As := []) (rest := []) (wr := []) Sx (c_X_sortPieces l dC dI hx9 hp hp2 hd hs pk tk sk9 wk tg ws9 C B Y ch bh p1 p2 p3 n k F S w hg g1 g2 g3 cI sC sB sY sch sbh H.size hn hk hFS hP0) (gw_callV gm_238 gm_239 gm_1 gm_51 gm_240) hd_X_sortPieces ⟨rfl, rfl⟩ ⟨Nat.le_of_ble_eq_true rfl, Nat.le_of_ble_eq_true rfl⟩ hP hD hS hA (hK.sub (tys' := [(cI, .int)]) [0] rfl) [0, 1, 2, 3, 4, 5, 6, 7, 8] [] rfl rfl (by decide) (by decide) (by decide) rfl 0 rfl rfl hl.1 rfl (Nat.le_of_ble_eq_true rfl) d_X_components_1 ⟨Nat.zero_le _, Nat.zero_le _⟩ (fun H locs hP hD hS => ?_)
  have hP : va_P (dC, dI) pcl [(hx9, .inr (4, [.ref hg, .ref hp, .ref hp2, .ref hd, .ref hs, .int (bI true), .int (bI tk), .int (bI sk9), .int (bI wk), .int tg, .int ws9])), (hp, .inr (2, [.ref hg, .ref p1, .ref p2, .int sch, .int sbh, .ref p3])), (p1, .inl (cI, 10, .inl sC)), (p2, .inl (cI, 18, .inl sB)), (p3, .inl (cI, 10, .inl sY)), (hg, .inr (1, [.int (nI n), .int (nI k), .ref g1, .ref g2, .ref g3])), (g1, .inl (cI, 18, .inl (fun i9 => nI (F i9)))), (g2, .inl (cI, 18, .inl (fun i9 => nI (S i9)))), (g3, .inl (cI, 18, .inl w))] H := hP
  have hD : va_D A [(hx9, .inr (4, [.ref hg, .ref hp, .ref hp2, .ref hd, .ref hs, .int (bI true), .int (bI tk), .int (bI sk9), .int (bI wk), .int tg, .int ws9])), (hp, .inr (2, [.ref hg, .ref p1, .ref p2, .int sch, .int sbh, .ref p3])), (p1, .inl (cI, 10, .inl sC)), (p2, .inl (cI, 18, .inl sB)), (p3, .inl (cI, 10, .inl sY)), (hg, .inr (1, [.int (nI n), .int (nI k), .ref g1, .ref g2, .ref g3])), (g1, .inl (cI, 18, .inl (fun i9 => nI (F i9)))), (g2, .inl (cI, 18, .inl (fun i9 => nI (S i9)))), (g3, .inl (cI, 18, .inl w))] := hD
  refine lv_aload_n hx hb d_X_components_4 rfl (lv_at hl 0 rfl) ?_
  refine g_get Sx gf_X hK hP 0 rfl rfl 1 (by decide) gm_182 rfl d_X_components_5 ?_
  refine g_get Sx gf_P hK hP 1 rfl rfl 3 (by decide) gm_113 rfl d_X_components_8 ?_
  refine ro_S (As := [.int sch]) (rest := []) Sx (c_J_bitCount l dC dI sch) (gw_callS gm_264 gm_265 gm_58 gm_266) hd_J_bitCount ⟨rfl, rfl⟩ ⟨Nat.le_of_ble_eq_true rfl, Nat.le_of_ble_eq_true rfl⟩ (va_P_map hP [] rfl) (hK.sub (tys' := []) [] rfl) rfl hl.1 rfl (Nat.le_of_ble_eq_true rfl) d_X_components_11 ⟨Nat.zero_le _, Nat.zero_le _⟩ ?_
  rw [show (nI (jbN sch) : Int32) = (nI (jbN sch)) from rfl]
  exact hret _ H locs _ d_X_components_14 hP hD hS
theorem d_X_component_0 : decode k_X_component 0 = .ok (.aload_n 0, 1) := by decide +kernel
theorem d_X_component_1 : decode k_X_component 1 = .ok (.getfield 10, 3) := by decide +kernel
theorem d_X_component_4 : decode k_X_component 4 = .ok (.iload_n 1, 1) := by decide +kernel
theorem d_X_component_5 : decode k_X_component 5 = .ok (.invokevirtual 52, 3) := by decide +kernel
theorem d_X_component_8 : decode k_X_component 8 = .ok (.ifCond .ne 5, 3) := by decide +kernel
theorem d_X_component_11 : decode k_X_component 11 = .ok (.iconst (-1), 1) := by decide +kernel
theorem d_X_component_12 : decode k_X_component 12 = .ok (.ireturn, 1) := by decide +kernel
theorem d_X_component_13 : decode k_X_component 13 = .ok (.aload_n 0, 1) := by decide +kernel
theorem d_X_component_14 : decode k_X_component 14 = .ok (.invokevirtual 73, 3) := by decide +kernel
theorem d_X_component_17 : decode k_X_component 17 = .ok (.aload_n 0, 1) := by decide +kernel
theorem d_X_component_18 : decode k_X_component 18 = .ok (.getfield 21, 3) := by decide +kernel
theorem d_X_component_21 : decode k_X_component 21 = .ok (.getfield 76, 3) := by decide +kernel
theorem d_X_component_24 : decode k_X_component 24 = .ok (.aload_n 0, 1) := by decide +kernel
theorem d_X_component_25 : decode k_X_component 25 = .ok (.getfield 21, 3) := by decide +kernel
theorem d_X_component_28 : decode k_X_component 28 = .ok (.getfield 85, 3) := by decide +kernel
theorem d_X_component_31 : decode k_X_component 31 = .ok (.iload_n 1, 1) := by decide +kernel
theorem d_X_component_32 : decode k_X_component 32 = .ok (.iaload, 1) := by decide +kernel
theorem d_X_component_33 : decode k_X_component 33 = .ok (.invokestatic 88, 3) := by decide +kernel
theorem d_X_component_36 : decode k_X_component 36 = .ok (.ireturn, 1) := by decide +kernel
abbrev rm_X_component : Room := { frames := 5, cells := 0, slots := 0, locals := 111 }
theorem hd_X_component : y_X_component.cls = n_X ∧ y_X_component.cls ≠ "java/lang/invoke/MethodHandle" ∧ y_X_component.cls ≠ "java/lang/invoke/VarHandle" ∧ (parseMethodDescriptor y_X_component.desc).map (fun d => d.parameters.length) = some 1 := by decide +kernel
set_option maxHeartbeats 4000000 in
set_option maxRecDepth 100000 in
theorem c_X_component_ok (l : Launch) (dC : Nat → ClassId) (dI : Nat → Nat → Nat) (hx9 : Nat) (hp : Nat) (hp2 : Nat) (hd : Nat) (hs : Nat) (pk : Bool) (tk : Bool) (sk9 : Bool) (wk : Bool) (tg : Int32) (ws9 : Int32) (C : Nat → Int32) (B : Nat → Int32) (Y : Nat → Int32) (ch : Int32) (bh : Int32) (p1 : Nat) (p2 : Nat) (p3 : Nat) (n : Nat) (k : Nat) (F : Nat → Nat) (S : Nat → Nat) (w : Nat → Int32) (hg : Nat) (g1 : Nat) (g2 : Nat) (g3 : Nat) (cI : ClassId) (v : Nat) (sC : Nat → Int32) (sB : Nat → Int32) (sY : Nat → Int32) (sch : Int32) (sbh : Int32) (sz : Nat) (hn : n ≤ 10) (hk : k ≤ 18) (hFS : ∀ e, e < k → F e < n ∧ S e < n) (hP0 : (sC, sB, sY, sch, sbh) = xs_ps pk n k F S C B Y ch bh) (hv : v < n) : Met l y_X_component (.code y_X_component k_X_component 2 (.some FieldType.int) :: gw) rm_X_component (rwP [.ref hx9, .int (nI v)] (dC, dI) [(hx9, .inr (4, [.ref hg, .ref hp, .ref hp2, .ref hd, .ref hs, .int (bI pk), .int (bI tk), .int (bI sk9), .int (bI wk), .int tg, .int ws9])), (hp, .inr (2, [.ref hg, .ref p1, .ref p2, .int ch, .int bh, .ref p3])), (p1, .inl (cI, 10, .inl C)), (p2, .inl (cI, 18, .inl B)), (p3, .inl (cI, 10, .inl Y)), (hg, .inr (1, [.int (nI n), .int (nI k), .ref g1, .ref g2, .ref g3])), (g1, .inl (cI, 18, .inl (fun i9 => nI (F i9)))), (g2, .inl (cI, 18, .inl (fun i9 => nI (S i9)))), (g3, .inl (cI, 18, .inl w))] [(cI, .int)] sz) (va_Qi (fun (r : Int32) (_ : Unit) => r = nI (ps_below sch (sC v))) (rwB (dC, dI) [(hx9, .inr (4, [.ref hg, .ref hp, .ref hp2, .ref hd, .ref hs, .int (bI true), .int (bI tk), .int (bI sk9), .int (bI wk), .int tg, .int ws9])), (hp, .inr (2, [.ref hg, .ref p1, .ref p2, .int sch, .int sbh, .ref p3])), (p1, .inl (cI, 10, .inl sC)), (p2, .inl (cI, 18, .inl sB)), (p3, .inl (cI, 10, .inl sY)), (hg, .inr (1, [.int (nI n), .int (nI k), .ref g1, .ref g2, .ref g3])), (g1, .inl (cI, 18, .inl (fun i9 => nI (F i9)))), (g2, .inl (cI, 18, .inl (fun i9 => nI (S i9)))), (g3, .inl (cI, 18, .inl w))] [(cI, .int)] (va_A [(hx9, .inr (4, [.ref hg, .ref hp, .ref hp2, .ref hd, .ref hs, .int (bI pk), .int (bI tk), .int (bI sk9), .int (bI wk), .int tg, .int ws9])), (hp, .inr (2, [.ref hg, .ref p1, .ref p2, .int ch, .int bh, .ref p3])), (p1, .inl (cI, 10, .inl C)), (p2, .inl (cI, 18, .inl B)), (p3, .inl (cI, 10, .inl Y)), (hg, .inr (1, [.int (nI n), .int (nI k), .ref g1, .ref g2, .ref g3])), (g1, .inl (cI, 18, .inl (fun i9 => nI (F i9)))), (g2, .inl (cI, 18, .inl (fun i9 => nI (S i9)))), (g3, .inl (cI, 18, .inl w))] sz)) (va_A [(hx9, .inr (4, [.ref hg, .ref hp, .ref hp2, .ref hd, .ref hs, .int (bI pk), .int (bI tk), .int (bI sk9), .int (bI wk), .int tg, .int ws9])), (hp, .inr (2, [.ref hg, .ref p1, .ref p2, .int ch, .int bh, .ref p3])), (p1, .inl (cI, 10, .inl C)), (p2, .inl (cI, 18, .inl B)), (p3, .inl (cI, 10, .inl Y)), (hg, .inr (1, [.int (nI n), .int (nI k), .ref g1, .ref g2, .ref g3])), (g1, .inl (cI, 18, .inl (fun i9 => nI (F i9)))), (g2, .inl (cI, 18, .inl (fun i9 => nI (S i9)))), (g3, .inl (cI, 18, .inl w))] sz)) 0 0 (va_A [(hx9, .inr (4, [.ref hg, .ref hp, .ref hp2, .ref hd, .ref hs, .int (bI pk), .int (bI tk), .int (bI sk9), .int (bI wk), .int tg, .int ws9])), (hp, .inr (2, [.ref hg, .ref p1, .ref p2, .int ch, .int bh, .ref p3])), (p1, .inl (cI, 10, .inl C)), (p2, .inl (cI, 18, .inl B)), (p3, .inl (cI, 10, .inl Y)), (hg, .inr (1, [.int (nI n), .int (nI k), .ref g1, .ref g2, .ref g3])), (g1, .inl (cI, 18, .inl (fun i9 => nI (F i9)))), (g2, .inl (cI, 18, .inl (fun i9 => nI (S i9)))), (g3, .inl (cI, 18, .inl w))] sz) := by
  refine rw_metI (by decide) ⟨rfl, rfl⟩ rfl (Nat.le_of_ble_eq_true rfl) ?_
  intro p e s m args below meth c Q A ls Sx hP hK hD hA hl hret
  have hx := Sx.1
  have hb := Sx.2.1
  have hl : lv_has ls 2 [(0, .ref hx9), (1, .int (nI v))] := hl
  have hS : va_S A s.heap s.heap [] := va_S.rf
  obtain ⟨H, hH⟩ : ∃ H, H = s.heap := ⟨_, rfl⟩
  obtain ⟨locs, hlo⟩ : ∃ locs : List Loc, locs = [] := ⟨_, rfl⟩
  rw [← hlo]
  rw [← hlo] at hS
  have hP : va_P (dC, dI) pcl [(hx9, .inr (4, [.ref hg, .ref hp, .ref hp2, .ref hd, .ref hs, .int (bI pk), .int (bI tk), .int (bI sk9), .int (bI wk), .int tg, .int ws9])), (hp, .inr (2, [.ref hg, .ref p1, .ref p2, .int ch, .int bh, .ref p3])), (p1, .inl (cI, 10, .inl C)), (p2, .inl (cI, 18, .inl B)), (p3, .inl (cI, 10, .inl Y)), (hg, .inr (1, [.int (nI n), .int (nI k), .ref g1, .ref g2, .ref g3])), (g1, .inl (cI, 18, .inl (fun i9 => nI (F i9)))), (g2, .inl (cI, 18, .inl (fun i9 => nI (S i9)))), (g3, .inl (cI, 18, .inl w))] H := by rw [hH]; exact hP
  have hS : va_S A s.heap H locs := by rw [hH]; exact hS
  suffices hgo : W p l e rm_X_component s m args below meth c H locs 0 0 Q (F0 m 0 ls []) by rw [hH] at hgo; exact hgo
  refine lv_aload_n hx hb d_X_component_0 rfl (lv_at hl 0 rfl) ?_
  refine g_get Sx gf_X hK hP 0 rfl rfl 0 (by decide) gm_181 rfl d_X_component_1 ?_
  refine lv_iload_n hx hb d_X_component_4 rfl (lv_at hl 1 rfl) ?_
  refine ro_V (As := [.int (nI v)]) (rest := []) Sx (c_G_hasVertex l dC dI n k F S w hg g1 g2 g3 cI (nI v)) (gw_callV gm_214 gm_215 gm_216 gm_52 gm_217) hd_G_hasVertex ⟨rfl, rfl⟩ ⟨Nat.le_of_ble_eq_true rfl, Nat.le_of_ble_eq_true rfl⟩ (va_P_map hP [5, 6, 7, 8] rfl) (hK.sub (tys' := [(cI, .int)]) [0] rfl) rfl 0 rfl rfl hl.1 rfl (Nat.le_of_ble_eq_true rfl) d_X_component_5 ⟨Nat.zero_le _, Nat.zero_le _⟩ ?_
  refine lv_if_ne hx hb d_X_component_8 (tgt := 13) rfl (fun q1 => ?_) (fun q1 => ?_)
  · have q1 : (ps_in (nI v) (nI n)) = true := bI_1.mp q1
    refine lv_aload_n hx hb d_X_component_13 rfl (lv_at hl 0 rfl) ?_
    refine rw_V (As := []) (rest := []) (wr := []) Sx (c_X_sortPieces l dC dI hx9 hp hp2 hd hs pk tk sk9 wk tg ws9 C B Y ch bh p1 p2 p3 n k F S w hg g1 g2 g3 cI sC sB sY sch sbh H.size hn hk hFS hP0) (gw_callV gm_238 gm_239 gm_1 gm_51 gm_240) hd_X_sortPieces ⟨rfl, rfl⟩ ⟨Nat.le_of_ble_eq_true rfl, Nat.le_of_ble_eq_true rfl⟩ hP hD hS hA (hK.sub (tys' := [(cI, .int)]) [0] rfl) [0, 1, 2, 3, 4, 5, 6, 7, 8] [] rfl rfl (by decide) (by decide) (by decide) rfl 0 rfl rfl hl.1 rfl (Nat.le_of_ble_eq_true rfl) d_X_component_14 ⟨Nat.zero_le _, Nat.zero_le _⟩ (fun H locs hP hD hS => ?_)
    have hP : va_P (dC, dI) pcl [(hx9, .inr (4, [.ref hg, .ref hp, .ref hp2, .ref hd, .ref hs, .int (bI true), .int (bI tk), .int (bI sk9), .int (bI wk), .int tg, .int ws9])), (hp, .inr (2, [.ref hg, .ref p1, .ref p2, .int sch, .int sbh, .ref p3])), (p1, .inl (cI, 10, .inl sC)), (p2, .inl (cI, 18, .inl sB)), (p3, .inl (cI, 10, .inl sY)), (hg, .inr (1, [.int (nI n), .int (nI k), .ref g1, .ref g2, .ref g3])), (g1, .inl (cI, 18, .inl (fun i9 => nI (F i9)))), (g2, .inl (cI, 18, .inl (fun i9 => nI (S i9)))), (g3, .inl (cI, 18, .inl w))] H := hP
    have hD : va_D A [(hx9, .inr (4, [.ref hg, .ref hp, .ref hp2, .ref hd, .ref hs, .int (bI true), .int (bI tk), .int (bI sk9), .int (bI wk), .int tg, .int ws9])), (hp, .inr (2, [.ref hg, .ref p1, .ref p2, .int sch, .int sbh, .ref p3])), (p1, .inl (cI, 10, .inl sC)), (p2, .inl (cI, 18, .inl sB)), (p3, .inl (cI, 10, .inl sY)), (hg, .inr (1, [.int (nI n), .int (nI k), .ref g1, .ref g2, .ref g3])), (g1, .inl (cI, 18, .inl (fun i9 => nI (F i9)))), (g2, .inl (cI, 18, .inl (fun i9 => nI (S i9)))), (g3, .inl (cI, 18, .inl w))] := hD
    refine lv_aload_n hx hb d_X_component_17 rfl (lv_at hl 0 rfl) ?_
    refine g_get Sx gf_X hK hP 0 rfl rfl 1 (by decide) gm_182 rfl d_X_component_18 ?_
    refine g_get Sx gf_P hK hP 1 rfl rfl 3 (by decide) gm_113 rfl d_X_component_21 ?_
    refine lv_aload_n hx hb d_X_component_24 rfl (lv_at hl 0 rfl) ?_
    refine g_get Sx gf_X hK hP 0 rfl rfl 1 (by decide) gm_182 rfl d_X_component_25 ?_
    refine g_get Sx gf_P hK hP 1 rfl rfl 1 (by decide) gm_108 rfl d_X_component_28 ?_
    refine lv_iload_n hx hb d_X_component_31 rfl (lv_at hl 1 rfl) ?_
    refine g_ild (j := v) Sx hK hP 2 0 rfl rfl (by omega) (by decide) d_X_component_32 ?_
    refine ro_S (As := [.int sch, .int (sC v)]) (rest := []) Sx (c_B_countBelowLeast l dC dI sch (sC v)) (gw_callS gm_274 gm_275 gm_57 gm_276) hd_B_countBelowLeast ⟨rfl, rfl⟩ ⟨Nat.le_of_ble_eq_true rfl, Nat.le_of_ble_eq_true rfl⟩ (va_P_map hP [] rfl) (hK.sub (tys' := []) [] rfl) rfl hl.1 rfl (Nat.le_of_ble_eq_true rfl) d_X_component_33 ⟨Nat.zero_le _, Nat.zero_le _⟩ ?_
    rw [show (nI (ps_below sch (sC v)) : Int32) = (nI (ps_below sch (sC v))) from rfl]
    exact hret _ H locs _ d_X_component_36 hP hD hS
  · have q1 : (ps_in (nI v) (nI n)) = false := bI_0.mp q1
    rw [ps_in_nI hv (by omega)] at q1; cases q1
set_option maxHeartbeats 4000000 in
set_option maxRecDepth 100000 in
theorem c_X_component_no (l : Launch) (dC : Nat → ClassId) (dI : Nat → Nat → Nat) (hx9 : Nat) (hp : Nat) (hp2 : Nat) (hd : Nat) (hs : Nat) (pk : Bool) (tk : Bool) (sk9 : Bool) (wk : Bool) (tg : Int32) (ws9 : Int32) (C : Nat → Int32) (B : Nat → Int32) (Y : Nat → Int32) (ch : Int32) (bh : Int32) (p1 : Nat) (p2 : Nat) (p3 : Nat) (n : Nat) (k : Nat) (F : Nat → Nat) (S : Nat → Nat) (w : Nat → Int32) (hg : Nat) (g1 : Nat) (g2 : Nat) (g3 : Nat) (cI : ClassId) (v : Int32) (sz : Nat) (hv : ps_in v (nI n) = false) : Met l y_X_component (.code y_X_component k_X_component 2 (.some FieldType.int) :: gw) rm_X_component (rwP [.ref hx9, .int v] (dC, dI) [(hx9, .inr (4, [.ref hg, .ref hp, .ref hp2, .ref hd, .ref hs, .int (bI pk), .int (bI tk), .int (bI sk9), .int (bI wk), .int tg, .int ws9])), (hp, .inr (2, [.ref hg, .ref p1, .ref p2, .int ch, .int bh, .ref p3])), (p1, .inl (cI, 10, .inl C)), (p2, .inl (cI, 18, .inl B)), (p3, .inl (cI, 10, .inl Y)), (hg, .inr (1, [.int (nI n), .int (nI k), .ref g1, .ref g2, .ref g3])), (g1, .inl (cI, 18, .inl (fun i9 => nI (F i9)))), (g2, .inl (cI, 18, .inl (fun i9 => nI (S i9)))), (g3, .inl (cI, 18, .inl w))] [(cI, .int)] sz) (va_Qi (fun (r : Int32) (_ : Unit) => r = (-1)) (rwB (dC, dI) [(hx9, .inr (4, [.ref hg, .ref hp, .ref hp2, .ref hd, .ref hs, .int (bI pk), .int (bI tk), .int (bI sk9), .int (bI wk), .int tg, .int ws9])), (hp, .inr (2, [.ref hg, .ref p1, .ref p2, .int ch, .int bh, .ref p3])), (p1, .inl (cI, 10, .inl C)), (p2, .inl (cI, 18, .inl B)), (p3, .inl (cI, 10, .inl Y)), (hg, .inr (1, [.int (nI n), .int (nI k), .ref g1, .ref g2, .ref g3])), (g1, .inl (cI, 18, .inl (fun i9 => nI (F i9)))), (g2, .inl (cI, 18, .inl (fun i9 => nI (S i9)))), (g3, .inl (cI, 18, .inl w))] [(cI, .int)] (va_A [(hx9, .inr (4, [.ref hg, .ref hp, .ref hp2, .ref hd, .ref hs, .int (bI pk), .int (bI tk), .int (bI sk9), .int (bI wk), .int tg, .int ws9])), (hp, .inr (2, [.ref hg, .ref p1, .ref p2, .int ch, .int bh, .ref p3])), (p1, .inl (cI, 10, .inl C)), (p2, .inl (cI, 18, .inl B)), (p3, .inl (cI, 10, .inl Y)), (hg, .inr (1, [.int (nI n), .int (nI k), .ref g1, .ref g2, .ref g3])), (g1, .inl (cI, 18, .inl (fun i9 => nI (F i9)))), (g2, .inl (cI, 18, .inl (fun i9 => nI (S i9)))), (g3, .inl (cI, 18, .inl w))] sz)) (va_A [(hx9, .inr (4, [.ref hg, .ref hp, .ref hp2, .ref hd, .ref hs, .int (bI pk), .int (bI tk), .int (bI sk9), .int (bI wk), .int tg, .int ws9])), (hp, .inr (2, [.ref hg, .ref p1, .ref p2, .int ch, .int bh, .ref p3])), (p1, .inl (cI, 10, .inl C)), (p2, .inl (cI, 18, .inl B)), (p3, .inl (cI, 10, .inl Y)), (hg, .inr (1, [.int (nI n), .int (nI k), .ref g1, .ref g2, .ref g3])), (g1, .inl (cI, 18, .inl (fun i9 => nI (F i9)))), (g2, .inl (cI, 18, .inl (fun i9 => nI (S i9)))), (g3, .inl (cI, 18, .inl w))] sz)) 0 0 (va_A [(hx9, .inr (4, [.ref hg, .ref hp, .ref hp2, .ref hd, .ref hs, .int (bI pk), .int (bI tk), .int (bI sk9), .int (bI wk), .int tg, .int ws9])), (hp, .inr (2, [.ref hg, .ref p1, .ref p2, .int ch, .int bh, .ref p3])), (p1, .inl (cI, 10, .inl C)), (p2, .inl (cI, 18, .inl B)), (p3, .inl (cI, 10, .inl Y)), (hg, .inr (1, [.int (nI n), .int (nI k), .ref g1, .ref g2, .ref g3])), (g1, .inl (cI, 18, .inl (fun i9 => nI (F i9)))), (g2, .inl (cI, 18, .inl (fun i9 => nI (S i9)))), (g3, .inl (cI, 18, .inl w))] sz) := by
  refine rw_metI (by decide) ⟨rfl, rfl⟩ rfl (Nat.le_of_ble_eq_true rfl) ?_
  intro p e s m args below meth c Q A ls Sx hP hK hD hA hl hret
  have hx := Sx.1
  have hb := Sx.2.1
  have hl : lv_has ls 2 [(0, .ref hx9), (1, .int v)] := hl
  have hS : va_S A s.heap s.heap [] := va_S.rf
  obtain ⟨H, hH⟩ : ∃ H, H = s.heap := ⟨_, rfl⟩
  obtain ⟨locs, hlo⟩ : ∃ locs : List Loc, locs = [] := ⟨_, rfl⟩
  rw [← hlo]
  rw [← hlo] at hS
  have hP : va_P (dC, dI) pcl [(hx9, .inr (4, [.ref hg, .ref hp, .ref hp2, .ref hd, .ref hs, .int (bI pk), .int (bI tk), .int (bI sk9), .int (bI wk), .int tg, .int ws9])), (hp, .inr (2, [.ref hg, .ref p1, .ref p2, .int ch, .int bh, .ref p3])), (p1, .inl (cI, 10, .inl C)), (p2, .inl (cI, 18, .inl B)), (p3, .inl (cI, 10, .inl Y)), (hg, .inr (1, [.int (nI n), .int (nI k), .ref g1, .ref g2, .ref g3])), (g1, .inl (cI, 18, .inl (fun i9 => nI (F i9)))), (g2, .inl (cI, 18, .inl (fun i9 => nI (S i9)))), (g3, .inl (cI, 18, .inl w))] H := by rw [hH]; exact hP
  have hS : va_S A s.heap H locs := by rw [hH]; exact hS
  suffices hgo : W p l e rm_X_component s m args below meth c H locs 0 0 Q (F0 m 0 ls []) by rw [hH] at hgo; exact hgo
  refine lv_aload_n hx hb d_X_component_0 rfl (lv_at hl 0 rfl) ?_
  refine g_get Sx gf_X hK hP 0 rfl rfl 0 (by decide) gm_181 rfl d_X_component_1 ?_
  refine lv_iload_n hx hb d_X_component_4 rfl (lv_at hl 1 rfl) ?_
  refine ro_V (As := [.int v]) (rest := []) Sx (c_G_hasVertex l dC dI n k F S w hg g1 g2 g3 cI v) (gw_callV gm_214 gm_215 gm_216 gm_52 gm_217) hd_G_hasVertex ⟨rfl, rfl⟩ ⟨Nat.le_of_ble_eq_true rfl, Nat.le_of_ble_eq_true rfl⟩ (va_P_map hP [5, 6, 7, 8] rfl) (hK.sub (tys' := [(cI, .int)]) [0] rfl) rfl 0 rfl rfl hl.1 rfl (Nat.le_of_ble_eq_true rfl) d_X_component_5 ⟨Nat.zero_le _, Nat.zero_le _⟩ ?_
  refine lv_if_ne hx hb d_X_component_8 (tgt := 13) rfl (fun q1 => ?_) (fun q1 => ?_)
  · have q1 : (ps_in v (nI n)) = true := bI_1.mp q1
    rw [hv] at q1; cases q1
  · have q1 : (ps_in v (nI n)) = false := bI_0.mp q1
    refine lv_iconst (v := (-1)) hx hb d_X_component_11 (by decide) ?_
    rw [show ((-1) : Int32) = (-1) from rfl]
    exact hret _ H locs _ d_X_component_12 hP hD hS
theorem d_X_blocks_0 : decode k_X_blocks 0 = .ok (.aload_n 0, 1) := by decide +kernel
theorem d_X_blocks_1 : decode k_X_blocks 1 = .ok (.invokevirtual 73, 3) := by decide +kernel
theorem d_X_blocks_4 : decode k_X_blocks 4 = .ok (.aload_n 0, 1) := by decide +kernel
theorem d_X_blocks_5 : decode k_X_blocks 5 = .ok (.getfield 21, 3) := by decide +kernel
theorem d_X_blocks_8 : decode k_X_blocks 8 = .ok (.getfield 94, 3) := by decide +kernel
theorem d_X_blocks_11 : decode k_X_blocks 11 = .ok (.invokestatic 79, 3) := by decide +kernel
theorem d_X_blocks_14 : decode k_X_blocks 14 = .ok (.ireturn, 1) := by decide +kernel
abbrev rm_X_blocks : Room := { frames := 5, cells := 0, slots := 0, locals := 111 }
theorem hd_X_blocks : y_X_blocks.cls = n_X ∧ y_X_blocks.cls ≠ "java/lang/invoke/MethodHandle" ∧ y_X_blocks.cls ≠ "java/lang/invoke/VarHandle" ∧ (parseMethodDescriptor y_X_blocks.desc).map (fun d => d.parameters.length) = some 0 := by decide +kernel
set_option maxHeartbeats 4000000 in
set_option maxRecDepth 100000 in
theorem c_X_blocks (l : Launch) (dC : Nat → ClassId) (dI : Nat → Nat → Nat) (hx9 : Nat) (hp : Nat) (hp2 : Nat) (hd : Nat) (hs : Nat) (pk : Bool) (tk : Bool) (sk9 : Bool) (wk : Bool) (tg : Int32) (ws9 : Int32) (C : Nat → Int32) (B : Nat → Int32) (Y : Nat → Int32) (ch : Int32) (bh : Int32) (p1 : Nat) (p2 : Nat) (p3 : Nat) (n : Nat) (k : Nat) (F : Nat → Nat) (S : Nat → Nat) (w : Nat → Int32) (hg : Nat) (g1 : Nat) (g2 : Nat) (g3 : Nat) (cI : ClassId) (sC : Nat → Int32) (sB : Nat → Int32) (sY : Nat → Int32) (sch : Int32) (sbh : Int32) (sz : Nat) (hn : n ≤ 10) (hk : k ≤ 18) (hFS : ∀ e, e < k → F e < n ∧ S e < n) (hP0 : (sC, sB, sY, sch, sbh) = xs_ps pk n k F S C B Y ch bh) : Met l y_X_blocks (.code y_X_blocks k_X_blocks 1 (.some FieldType.int) :: gw) rm_X_blocks (rwP [.ref hx9] (dC, dI) [(hx9, .inr (4, [.ref hg, .ref hp, .ref hp2, .ref hd, .ref hs, .int (bI pk), .int (bI tk), .int (bI sk9), .int (bI wk), .int tg, .int ws9])), (hp, .inr (2, [.ref hg, .ref p1, .ref p2, .int ch, .int bh, .ref p3])), (p1, .inl (cI, 10, .inl C)), (p2, .inl (cI, 18, .inl B)), (p3, .inl (cI, 10, .inl Y)), (hg, .inr (1, [.int (nI n), .int (nI k), .ref g1, .ref g2, .ref g3])), (g1, .inl (cI, 18, .inl (fun i9 => nI (F i9)))), (g2, .inl (cI, 18, .inl (fun i9 => nI (S i9)))), (g3, .inl (cI, 18, .inl w))] [(cI, .int)] sz) (va_Qi (fun (r : Int32) (_ : Unit) => r = nI (jbN sbh)) (rwB (dC, dI) [(hx9, .inr (4, [.ref hg, .ref hp, .ref hp2, .ref hd, .ref hs, .int (bI true), .int (bI tk), .int (bI sk9), .int (bI wk), .int tg, .int ws9])), (hp, .inr (2, [.ref hg, .ref p1, .ref p2, .int sch, .int sbh, .ref p3])), (p1, .inl (cI, 10, .inl sC)), (p2, .inl (cI, 18, .inl sB)), (p3, .inl (cI, 10, .inl sY)), (hg, .inr (1, [.int (nI n), .int (nI k), .ref g1, .ref g2, .ref g3])), (g1, .inl (cI, 18, .inl (fun i9 => nI (F i9)))), (g2, .inl (cI, 18, .inl (fun i9 => nI (S i9)))), (g3, .inl (cI, 18, .inl w))] [(cI, .int)] (va_A [(hx9, .inr (4, [.ref hg, .ref hp, .ref hp2, .ref hd, .ref hs, .int (bI pk), .int (bI tk), .int (bI sk9), .int (bI wk), .int tg, .int ws9])), (hp, .inr (2, [.ref hg, .ref p1, .ref p2, .int ch, .int bh, .ref p3])), (p1, .inl (cI, 10, .inl C)), (p2, .inl (cI, 18, .inl B)), (p3, .inl (cI, 10, .inl Y)), (hg, .inr (1, [.int (nI n), .int (nI k), .ref g1, .ref g2, .ref g3])), (g1, .inl (cI, 18, .inl (fun i9 => nI (F i9)))), (g2, .inl (cI, 18, .inl (fun i9 => nI (S i9)))), (g3, .inl (cI, 18, .inl w))] sz)) (va_A [(hx9, .inr (4, [.ref hg, .ref hp, .ref hp2, .ref hd, .ref hs, .int (bI pk), .int (bI tk), .int (bI sk9), .int (bI wk), .int tg, .int ws9])), (hp, .inr (2, [.ref hg, .ref p1, .ref p2, .int ch, .int bh, .ref p3])), (p1, .inl (cI, 10, .inl C)), (p2, .inl (cI, 18, .inl B)), (p3, .inl (cI, 10, .inl Y)), (hg, .inr (1, [.int (nI n), .int (nI k), .ref g1, .ref g2, .ref g3])), (g1, .inl (cI, 18, .inl (fun i9 => nI (F i9)))), (g2, .inl (cI, 18, .inl (fun i9 => nI (S i9)))), (g3, .inl (cI, 18, .inl w))] sz)) 0 0 (va_A [(hx9, .inr (4, [.ref hg, .ref hp, .ref hp2, .ref hd, .ref hs, .int (bI pk), .int (bI tk), .int (bI sk9), .int (bI wk), .int tg, .int ws9])), (hp, .inr (2, [.ref hg, .ref p1, .ref p2, .int ch, .int bh, .ref p3])), (p1, .inl (cI, 10, .inl C)), (p2, .inl (cI, 18, .inl B)), (p3, .inl (cI, 10, .inl Y)), (hg, .inr (1, [.int (nI n), .int (nI k), .ref g1, .ref g2, .ref g3])), (g1, .inl (cI, 18, .inl (fun i9 => nI (F i9)))), (g2, .inl (cI, 18, .inl (fun i9 => nI (S i9)))), (g3, .inl (cI, 18, .inl w))] sz) := by
  refine rw_metI (by decide) ⟨rfl, rfl⟩ rfl (Nat.le_of_ble_eq_true rfl) ?_
  intro p e s m args below meth c Q A ls Sx hP hK hD hA hl hret
  have hx := Sx.1
  have hb := Sx.2.1
  have hl : lv_has ls 1 [(0, .ref hx9)] := hl
  have hS : va_S A s.heap s.heap [] := va_S.rf
  obtain ⟨H, hH⟩ : ∃ H, H = s.heap := ⟨_, rfl⟩
  obtain ⟨locs, hlo⟩ : ∃ locs : List Loc, locs = [] := ⟨_, rfl⟩
  rw [← hlo]
  rw [← hlo] at hS
  have hP : va_P (dC, dI) pcl [(hx9, .inr (4, [.ref hg, .ref hp, .ref hp2, .ref hd, .ref hs, .int (bI pk), .int (bI tk), .int (bI sk9), .int (bI wk), .int tg, .int ws9])), (hp, .inr (2, [.ref hg, .ref p1, .ref p2, .int ch, .int bh, .ref p3])), (p1, .inl (cI, 10, .inl C)), (p2, .inl (cI, 18, .inl B)), (p3, .inl (cI, 10, .inl Y)), (hg, .inr (1, [.int (nI n), .int (nI k), .ref g1, .ref g2, .ref g3])), (g1, .inl (cI, 18, .inl (fun i9 => nI (F i9)))), (g2, .inl (cI, 18, .inl (fun i9 => nI (S i9)))), (g3, .inl (cI, 18, .inl w))] H := by rw [hH]; exact hP
  have hS : va_S A s.heap H locs := by rw [hH]; exact hS
  suffices hgo : W p l e rm_X_blocks s m args below meth c H locs 0 0 Q (F0 m 0 ls []) by rw [hH] at hgo; exact hgo
  refine lv_aload_n hx hb d_X_blocks_0 rfl (lv_at hl 0 rfl) ?_
  refine rw_V (As := []) (rest := []) (wr := []) Sx (c_X_sortPieces l dC dI hx9 hp hp2 hd hs pk tk sk9 wk tg ws9 C B Y ch bh p1 p2 p3 n k F S w hg g1 g2 g3 cI sC sB sY sch sbh H.size hn hk hFS hP0) (gw_callV gm_238 gm_239 gm_1 gm_51 gm_240) hd_X_sortPieces ⟨rfl, rfl⟩ ⟨Nat.le_of_ble_eq_true rfl, Nat.le_of_ble_eq_true rfl⟩ hP hD hS hA (hK.sub (tys' := [(cI, .int)]) [0] rfl) [0, 1, 2, 3, 4, 5, 6, 7, 8] [] rfl rfl (by decide) (by decide) (by decide) rfl 0 rfl rfl hl.1 rfl (Nat.le_of_ble_eq_true rfl) d_X_blocks_1 ⟨Nat.zero_le _, Nat.zero_le _⟩ (fun H locs hP hD hS => ?_)
  have hP : va_P (dC, dI) pcl [(hx9, .inr (4, [.ref hg, .ref hp, .ref hp2, .ref hd, .ref hs, .int (bI true), .int (bI tk), .int (bI sk9), .int (bI wk), .int tg, .int ws9])), (hp, .inr (2, [.ref hg, .ref p1, .ref p2, .int sch, .int sbh, .ref p3])), (p1, .inl (cI, 10, .inl sC)), (p2, .inl (cI, 18, .inl sB)), (p3, .inl (cI, 10, .inl sY)), (hg, .inr (1, [.int (nI n), .int (nI k), .ref g1, .ref g2, .ref g3])), (g1, .inl (cI, 18, .inl (fun i9 => nI (F i9)))), (g2, .inl (cI, 18, .inl (fun i9 => nI (S i9)))), (g3, .inl (cI, 18, .inl w))] H := hP
  have hD : va_D A [(hx9, .inr (4, [.ref hg, .ref hp, .ref hp2, .ref hd, .ref hs, .int (bI true), .int (bI tk), .int (bI sk9), .int (bI wk), .int tg, .int ws9])), (hp, .inr (2, [.ref hg, .ref p1, .ref p2, .int sch, .int sbh, .ref p3])), (p1, .inl (cI, 10, .inl sC)), (p2, .inl (cI, 18, .inl sB)), (p3, .inl (cI, 10, .inl sY)), (hg, .inr (1, [.int (nI n), .int (nI k), .ref g1, .ref g2, .ref g3])), (g1, .inl (cI, 18, .inl (fun i9 => nI (F i9)))), (g2, .inl (cI, 18, .inl (fun i9 => nI (S i9)))), (g3, .inl (cI, 18, .inl w))] := hD
  refine lv_aload_n hx hb d_X_blocks_4 rfl (lv_at hl 0 rfl) ?_
  refine g_get Sx gf_X hK hP 0 rfl rfl 1 (by decide) gm_182 rfl d_X_blocks_5 ?_
  refine g_get Sx gf_P hK hP 1 rfl rfl 4 (by decide) gm_116 rfl d_X_blocks_8 ?_
  refine ro_S (As := [.int sbh]) (rest := []) Sx (c_J_bitCount l dC dI sbh) (gw_callS gm_264 gm_265 gm_58 gm_266) hd_J_bitCount ⟨rfl, rfl⟩ ⟨Nat.le_of_ble_eq_true rfl, Nat.le_of_ble_eq_true rfl⟩ (va_P_map hP [] rfl) (hK.sub (tys' := []) [] rfl) rfl hl.1 rfl (Nat.le_of_ble_eq_true rfl) d_X_blocks_11 ⟨Nat.zero_le _, Nat.zero_le _⟩ ?_
  rw [show (nI (jbN sbh) : Int32) = (nI (jbN sbh)) from rfl]
  exact hret _ H locs _ d_X_blocks_14 hP hD hS
theorem d_X_block_0 : decode k_X_block 0 = .ok (.aload_n 0, 1) := by decide +kernel
theorem d_X_block_1 : decode k_X_block 1 = .ok (.getfield 10, 3) := by decide +kernel
theorem d_X_block_4 : decode k_X_block 4 = .ok (.iload_n 1, 1) := by decide +kernel
theorem d_X_block_5 : decode k_X_block 5 = .ok (.invokevirtual 66, 3) := by decide +kernel
theorem d_X_block_8 : decode k_X_block 8 = .ok (.ifCond .ne 5, 3) := by decide +kernel
theorem d_X_block_11 : decode k_X_block 11 = .ok (.iconst (-1), 1) := by decide +kernel
theorem d_X_block_12 : decode k_X_block 12 = .ok (.ireturn, 1) := by decide +kernel
theorem d_X_block_13 : decode k_X_block 13 = .ok (.aload_n 0, 1) := by decide +kernel
theorem d_X_block_14 : decode k_X_block 14 = .ok (.invokevirtual 73, 3) := by decide +kernel
theorem d_X_block_17 : decode k_X_block 17 = .ok (.aload_n 0, 1) := by decide +kernel
theorem d_X_block_18 : decode k_X_block 18 = .ok (.getfield 21, 3) := by decide +kernel
theorem d_X_block_21 : decode k_X_block 21 = .ok (.getfield 94, 3) := by decide +kernel
theorem d_X_block_24 : decode k_X_block 24 = .ok (.aload_n 0, 1) := by decide +kernel
theorem d_X_block_25 : decode k_X_block 25 = .ok (.getfield 21, 3) := by decide +kernel
theorem d_X_block_28 : decode k_X_block 28 = .ok (.getfield 97, 3) := by decide +kernel
theorem d_X_block_31 : decode k_X_block 31 = .ok (.iload_n 1, 1) := by decide +kernel
theorem d_X_block_32 : decode k_X_block 32 = .ok (.iaload, 1) := by decide +kernel
theorem d_X_block_33 : decode k_X_block 33 = .ok (.invokestatic 88, 3) := by decide +kernel
theorem d_X_block_36 : decode k_X_block 36 = .ok (.ireturn, 1) := by decide +kernel
abbrev rm_X_block : Room := { frames := 5, cells := 0, slots := 0, locals := 111 }
theorem hd_X_block : y_X_block.cls = n_X ∧ y_X_block.cls ≠ "java/lang/invoke/MethodHandle" ∧ y_X_block.cls ≠ "java/lang/invoke/VarHandle" ∧ (parseMethodDescriptor y_X_block.desc).map (fun d => d.parameters.length) = some 1 := by decide +kernel
set_option maxHeartbeats 4000000 in
set_option maxRecDepth 100000 in
theorem c_X_block_ok (l : Launch) (dC : Nat → ClassId) (dI : Nat → Nat → Nat) (hx9 : Nat) (hp : Nat) (hp2 : Nat) (hd : Nat) (hs : Nat) (pk : Bool) (tk : Bool) (sk9 : Bool) (wk : Bool) (tg : Int32) (ws9 : Int32) (C : Nat → Int32) (B : Nat → Int32) (Y : Nat → Int32) (ch : Int32) (bh : Int32) (p1 : Nat) (p2 : Nat) (p3 : Nat) (n : Nat) (k : Nat) (F : Nat → Nat) (S : Nat → Nat) (w : Nat → Int32) (hg : Nat) (g1 : Nat) (g2 : Nat) (g3 : Nat) (cI : ClassId) (v : Nat) (sC : Nat → Int32) (sB : Nat → Int32) (sY : Nat → Int32) (sch : Int32) (sbh : Int32) (sz : Nat) (hn : n ≤ 10) (hk : k ≤ 18) (hFS : ∀ e, e < k → F e < n ∧ S e < n) (hP0 : (sC, sB, sY, sch, sbh) = xs_ps pk n k F S C B Y ch bh) (hv : v < k) : Met l y_X_block (.code y_X_block k_X_block 2 (.some FieldType.int) :: gw) rm_X_block (rwP [.ref hx9, .int (nI v)] (dC, dI) [(hx9, .inr (4, [.ref hg, .ref hp, .ref hp2, .ref hd, .ref hs, .int (bI pk), .int (bI tk), .int (bI sk9), .int (bI wk), .int tg, .int ws9])), (hp, .inr (2, [.ref hg, .ref p1, .ref p2, .int ch, .int bh, .ref p3])), (p1, .inl (cI, 10, .inl C)), (p2, .inl (cI, 18, .inl B)), (p3, .inl (cI, 10, .inl Y)), (hg, .inr (1, [.int (nI n), .int (nI k), .ref g1, .ref g2, .ref g3])), (g1, .inl (cI, 18, .inl (fun i9 => nI (F i9)))), (g2, .inl (cI, 18, .inl (fun i9 => nI (S i9)))), (g3, .inl (cI, 18, .inl w))] [(cI, .int)] sz) (va_Qi (fun (r : Int32) (_ : Unit) => r = nI (ps_below sbh (sB v))) (rwB (dC, dI) [(hx9, .inr (4, [.ref hg, .ref hp, .ref hp2, .ref hd, .ref hs, .int (bI true), .int (bI tk), .int (bI sk9), .int (bI wk), .int tg, .int ws9])), (hp, .inr (2, [.ref hg, .ref p1, .ref p2, .int sch, .int sbh, .ref p3])), (p1, .inl (cI, 10, .inl sC)), (p2, .inl (cI, 18, .inl sB)), (p3, .inl (cI, 10, .inl sY)), (hg, .inr (1, [.int (nI n), .int (nI k), .ref g1, .ref g2, .ref g3])), (g1, .inl (cI, 18, .inl (fun i9 => nI (F i9)))), (g2, .inl (cI, 18, .inl (fun i9 => nI (S i9)))), (g3, .inl (cI, 18, .inl w))] [(cI, .int)] (va_A [(hx9, .inr (4, [.ref hg, .ref hp, .ref hp2, .ref hd, .ref hs, .int (bI pk), .int (bI tk), .int (bI sk9), .int (bI wk), .int tg, .int ws9])), (hp, .inr (2, [.ref hg, .ref p1, .ref p2, .int ch, .int bh, .ref p3])), (p1, .inl (cI, 10, .inl C)), (p2, .inl (cI, 18, .inl B)), (p3, .inl (cI, 10, .inl Y)), (hg, .inr (1, [.int (nI n), .int (nI k), .ref g1, .ref g2, .ref g3])), (g1, .inl (cI, 18, .inl (fun i9 => nI (F i9)))), (g2, .inl (cI, 18, .inl (fun i9 => nI (S i9)))), (g3, .inl (cI, 18, .inl w))] sz)) (va_A [(hx9, .inr (4, [.ref hg, .ref hp, .ref hp2, .ref hd, .ref hs, .int (bI pk), .int (bI tk), .int (bI sk9), .int (bI wk), .int tg, .int ws9])), (hp, .inr (2, [.ref hg, .ref p1, .ref p2, .int ch, .int bh, .ref p3])), (p1, .inl (cI, 10, .inl C)), (p2, .inl (cI, 18, .inl B)), (p3, .inl (cI, 10, .inl Y)), (hg, .inr (1, [.int (nI n), .int (nI k), .ref g1, .ref g2, .ref g3])), (g1, .inl (cI, 18, .inl (fun i9 => nI (F i9)))), (g2, .inl (cI, 18, .inl (fun i9 => nI (S i9)))), (g3, .inl (cI, 18, .inl w))] sz)) 0 0 (va_A [(hx9, .inr (4, [.ref hg, .ref hp, .ref hp2, .ref hd, .ref hs, .int (bI pk), .int (bI tk), .int (bI sk9), .int (bI wk), .int tg, .int ws9])), (hp, .inr (2, [.ref hg, .ref p1, .ref p2, .int ch, .int bh, .ref p3])), (p1, .inl (cI, 10, .inl C)), (p2, .inl (cI, 18, .inl B)), (p3, .inl (cI, 10, .inl Y)), (hg, .inr (1, [.int (nI n), .int (nI k), .ref g1, .ref g2, .ref g3])), (g1, .inl (cI, 18, .inl (fun i9 => nI (F i9)))), (g2, .inl (cI, 18, .inl (fun i9 => nI (S i9)))), (g3, .inl (cI, 18, .inl w))] sz) := by
  refine rw_metI (by decide) ⟨rfl, rfl⟩ rfl (Nat.le_of_ble_eq_true rfl) ?_
  intro p e s m args below meth c Q A ls Sx hP hK hD hA hl hret
  have hx := Sx.1
  have hb := Sx.2.1
  have hl : lv_has ls 2 [(0, .ref hx9), (1, .int (nI v))] := hl
  have hS : va_S A s.heap s.heap [] := va_S.rf
  obtain ⟨H, hH⟩ : ∃ H, H = s.heap := ⟨_, rfl⟩
  obtain ⟨locs, hlo⟩ : ∃ locs : List Loc, locs = [] := ⟨_, rfl⟩
  rw [← hlo]
  rw [← hlo] at hS
  have hP : va_P (dC, dI) pcl [(hx9, .inr (4, [.ref hg, .ref hp, .ref hp2, .ref hd, .ref hs, .int (bI pk), .int (bI tk), .int (bI sk9), .int (bI wk), .int tg, .int ws9])), (hp, .inr (2, [.ref hg, .ref p1, .ref p2, .int ch, .int bh, .ref p3])), (p1, .inl (cI, 10, .inl C)), (p2, .inl (cI, 18, .inl B)), (p3, .inl (cI, 10, .inl Y)), (hg, .inr (1, [.int (nI n), .int (nI k), .ref g1, .ref g2, .ref g3])), (g1, .inl (cI, 18, .inl (fun i9 => nI (F i9)))), (g2, .inl (cI, 18, .inl (fun i9 => nI (S i9)))), (g3, .inl (cI, 18, .inl w))] H := by rw [hH]; exact hP
  have hS : va_S A s.heap H locs := by rw [hH]; exact hS
  suffices hgo : W p l e rm_X_block s m args below meth c H locs 0 0 Q (F0 m 0 ls []) by rw [hH] at hgo; exact hgo
  refine lv_aload_n hx hb d_X_block_0 rfl (lv_at hl 0 rfl) ?_
  refine g_get Sx gf_X hK hP 0 rfl rfl 0 (by decide) gm_181 rfl d_X_block_1 ?_
  refine lv_iload_n hx hb d_X_block_4 rfl (lv_at hl 1 rfl) ?_
  refine ro_V (As := [.int (nI v)]) (rest := []) Sx (c_G_hasEdge l dC dI n k F S w hg g1 g2 g3 cI (nI v)) (gw_callV gm_226 gm_227 gm_228 gm_52 gm_229) hd_G_hasEdge ⟨rfl, rfl⟩ ⟨Nat.le_of_ble_eq_true rfl, Nat.le_of_ble_eq_true rfl⟩ (va_P_map hP [5, 6, 7, 8] rfl) (hK.sub (tys' := [(cI, .int)]) [0] rfl) rfl 0 rfl rfl hl.1 rfl (Nat.le_of_ble_eq_true rfl) d_X_block_5 ⟨Nat.zero_le _, Nat.zero_le _⟩ ?_
  refine lv_if_ne hx hb d_X_block_8 (tgt := 13) rfl (fun q1 => ?_) (fun q1 => ?_)
  · have q1 : (ps_in (nI v) (nI k)) = true := bI_1.mp q1
    refine lv_aload_n hx hb d_X_block_13 rfl (lv_at hl 0 rfl) ?_
    refine rw_V (As := []) (rest := []) (wr := []) Sx (c_X_sortPieces l dC dI hx9 hp hp2 hd hs pk tk sk9 wk tg ws9 C B Y ch bh p1 p2 p3 n k F S w hg g1 g2 g3 cI sC sB sY sch sbh H.size hn hk hFS hP0) (gw_callV gm_238 gm_239 gm_1 gm_51 gm_240) hd_X_sortPieces ⟨rfl, rfl⟩ ⟨Nat.le_of_ble_eq_true rfl, Nat.le_of_ble_eq_true rfl⟩ hP hD hS hA (hK.sub (tys' := [(cI, .int)]) [0] rfl) [0, 1, 2, 3, 4, 5, 6, 7, 8] [] rfl rfl (by decide) (by decide) (by decide) rfl 0 rfl rfl hl.1 rfl (Nat.le_of_ble_eq_true rfl) d_X_block_14 ⟨Nat.zero_le _, Nat.zero_le _⟩ (fun H locs hP hD hS => ?_)
    have hP : va_P (dC, dI) pcl [(hx9, .inr (4, [.ref hg, .ref hp, .ref hp2, .ref hd, .ref hs, .int (bI true), .int (bI tk), .int (bI sk9), .int (bI wk), .int tg, .int ws9])), (hp, .inr (2, [.ref hg, .ref p1, .ref p2, .int sch, .int sbh, .ref p3])), (p1, .inl (cI, 10, .inl sC)), (p2, .inl (cI, 18, .inl sB)), (p3, .inl (cI, 10, .inl sY)), (hg, .inr (1, [.int (nI n), .int (nI k), .ref g1, .ref g2, .ref g3])), (g1, .inl (cI, 18, .inl (fun i9 => nI (F i9)))), (g2, .inl (cI, 18, .inl (fun i9 => nI (S i9)))), (g3, .inl (cI, 18, .inl w))] H := hP
    have hD : va_D A [(hx9, .inr (4, [.ref hg, .ref hp, .ref hp2, .ref hd, .ref hs, .int (bI true), .int (bI tk), .int (bI sk9), .int (bI wk), .int tg, .int ws9])), (hp, .inr (2, [.ref hg, .ref p1, .ref p2, .int sch, .int sbh, .ref p3])), (p1, .inl (cI, 10, .inl sC)), (p2, .inl (cI, 18, .inl sB)), (p3, .inl (cI, 10, .inl sY)), (hg, .inr (1, [.int (nI n), .int (nI k), .ref g1, .ref g2, .ref g3])), (g1, .inl (cI, 18, .inl (fun i9 => nI (F i9)))), (g2, .inl (cI, 18, .inl (fun i9 => nI (S i9)))), (g3, .inl (cI, 18, .inl w))] := hD
    refine lv_aload_n hx hb d_X_block_17 rfl (lv_at hl 0 rfl) ?_
    refine g_get Sx gf_X hK hP 0 rfl rfl 1 (by decide) gm_182 rfl d_X_block_18 ?_
    refine g_get Sx gf_P hK hP 1 rfl rfl 4 (by decide) gm_116 rfl d_X_block_21 ?_
    refine lv_aload_n hx hb d_X_block_24 rfl (lv_at hl 0 rfl) ?_
    refine g_get Sx gf_X hK hP 0 rfl rfl 1 (by decide) gm_182 rfl d_X_block_25 ?_
    refine g_get Sx gf_P hK hP 1 rfl rfl 2 (by decide) gm_111 rfl d_X_block_28 ?_
    refine lv_iload_n hx hb d_X_block_31 rfl (lv_at hl 1 rfl) ?_
    refine g_ild (j := v) Sx hK hP 3 0 rfl rfl (by omega) (by decide) d_X_block_32 ?_
    refine ro_S (As := [.int sbh, .int (sB v)]) (rest := []) Sx (c_B_countBelowLeast l dC dI sbh (sB v)) (gw_callS gm_274 gm_275 gm_57 gm_276) hd_B_countBelowLeast ⟨rfl, rfl⟩ ⟨Nat.le_of_ble_eq_true rfl, Nat.le_of_ble_eq_true rfl⟩ (va_P_map hP [] rfl) (hK.sub (tys' := []) [] rfl) rfl hl.1 rfl (Nat.le_of_ble_eq_true rfl) d_X_block_33 ⟨Nat.zero_le _, Nat.zero_le _⟩ ?_
    rw [show (nI (ps_below sbh (sB v)) : Int32) = (nI (ps_below sbh (sB v))) from rfl]
    exact hret _ H locs _ d_X_block_36 hP hD hS
  · have q1 : (ps_in (nI v) (nI k)) = false := bI_0.mp q1
    rw [ps_in_nI hv (by omega)] at q1; cases q1
set_option maxHeartbeats 4000000 in
set_option maxRecDepth 100000 in
theorem c_X_block_no (l : Launch) (dC : Nat → ClassId) (dI : Nat → Nat → Nat) (hx9 : Nat) (hp : Nat) (hp2 : Nat) (hd : Nat) (hs : Nat) (pk : Bool) (tk : Bool) (sk9 : Bool) (wk : Bool) (tg : Int32) (ws9 : Int32) (C : Nat → Int32) (B : Nat → Int32) (Y : Nat → Int32) (ch : Int32) (bh : Int32) (p1 : Nat) (p2 : Nat) (p3 : Nat) (n : Nat) (k : Nat) (F : Nat → Nat) (S : Nat → Nat) (w : Nat → Int32) (hg : Nat) (g1 : Nat) (g2 : Nat) (g3 : Nat) (cI : ClassId) (v : Int32) (sz : Nat) (hv : ps_in v (nI k) = false) : Met l y_X_block (.code y_X_block k_X_block 2 (.some FieldType.int) :: gw) rm_X_block (rwP [.ref hx9, .int v] (dC, dI) [(hx9, .inr (4, [.ref hg, .ref hp, .ref hp2, .ref hd, .ref hs, .int (bI pk), .int (bI tk), .int (bI sk9), .int (bI wk), .int tg, .int ws9])), (hp, .inr (2, [.ref hg, .ref p1, .ref p2, .int ch, .int bh, .ref p3])), (p1, .inl (cI, 10, .inl C)), (p2, .inl (cI, 18, .inl B)), (p3, .inl (cI, 10, .inl Y)), (hg, .inr (1, [.int (nI n), .int (nI k), .ref g1, .ref g2, .ref g3])), (g1, .inl (cI, 18, .inl (fun i9 => nI (F i9)))), (g2, .inl (cI, 18, .inl (fun i9 => nI (S i9)))), (g3, .inl (cI, 18, .inl w))] [(cI, .int)] sz) (va_Qi (fun (r : Int32) (_ : Unit) => r = (-1)) (rwB (dC, dI) [(hx9, .inr (4, [.ref hg, .ref hp, .ref hp2, .ref hd, .ref hs, .int (bI pk), .int (bI tk), .int (bI sk9), .int (bI wk), .int tg, .int ws9])), (hp, .inr (2, [.ref hg, .ref p1, .ref p2, .int ch, .int bh, .ref p3])), (p1, .inl (cI, 10, .inl C)), (p2, .inl (cI, 18, .inl B)), (p3, .inl (cI, 10, .inl Y)), (hg, .inr (1, [.int (nI n), .int (nI k), .ref g1, .ref g2, .ref g3])), (g1, .inl (cI, 18, .inl (fun i9 => nI (F i9)))), (g2, .inl (cI, 18, .inl (fun i9 => nI (S i9)))), (g3, .inl (cI, 18, .inl w))] [(cI, .int)] (va_A [(hx9, .inr (4, [.ref hg, .ref hp, .ref hp2, .ref hd, .ref hs, .int (bI pk), .int (bI tk), .int (bI sk9), .int (bI wk), .int tg, .int ws9])), (hp, .inr (2, [.ref hg, .ref p1, .ref p2, .int ch, .int bh, .ref p3])), (p1, .inl (cI, 10, .inl C)), (p2, .inl (cI, 18, .inl B)), (p3, .inl (cI, 10, .inl Y)), (hg, .inr (1, [.int (nI n), .int (nI k), .ref g1, .ref g2, .ref g3])), (g1, .inl (cI, 18, .inl (fun i9 => nI (F i9)))), (g2, .inl (cI, 18, .inl (fun i9 => nI (S i9)))), (g3, .inl (cI, 18, .inl w))] sz)) (va_A [(hx9, .inr (4, [.ref hg, .ref hp, .ref hp2, .ref hd, .ref hs, .int (bI pk), .int (bI tk), .int (bI sk9), .int (bI wk), .int tg, .int ws9])), (hp, .inr (2, [.ref hg, .ref p1, .ref p2, .int ch, .int bh, .ref p3])), (p1, .inl (cI, 10, .inl C)), (p2, .inl (cI, 18, .inl B)), (p3, .inl (cI, 10, .inl Y)), (hg, .inr (1, [.int (nI n), .int (nI k), .ref g1, .ref g2, .ref g3])), (g1, .inl (cI, 18, .inl (fun i9 => nI (F i9)))), (g2, .inl (cI, 18, .inl (fun i9 => nI (S i9)))), (g3, .inl (cI, 18, .inl w))] sz)) 0 0 (va_A [(hx9, .inr (4, [.ref hg, .ref hp, .ref hp2, .ref hd, .ref hs, .int (bI pk), .int (bI tk), .int (bI sk9), .int (bI wk), .int tg, .int ws9])), (hp, .inr (2, [.ref hg, .ref p1, .ref p2, .int ch, .int bh, .ref p3])), (p1, .inl (cI, 10, .inl C)), (p2, .inl (cI, 18, .inl B)), (p3, .inl (cI, 10, .inl Y)), (hg, .inr (1, [.int (nI n), .int (nI k), .ref g1, .ref g2, .ref g3])), (g1, .inl (cI, 18, .inl (fun i9 => nI (F i9)))), (g2, .inl (cI, 18, .inl (fun i9 => nI (S i9)))), (g3, .inl (cI, 18, .inl w))] sz) := by
  refine rw_metI (by decide) ⟨rfl, rfl⟩ rfl (Nat.le_of_ble_eq_true rfl) ?_
  intro p e s m args below meth c Q A ls Sx hP hK hD hA hl hret
  have hx := Sx.1
  have hb := Sx.2.1
  have hl : lv_has ls 2 [(0, .ref hx9), (1, .int v)] := hl
  have hS : va_S A s.heap s.heap [] := va_S.rf
  obtain ⟨H, hH⟩ : ∃ H, H = s.heap := ⟨_, rfl⟩
  obtain ⟨locs, hlo⟩ : ∃ locs : List Loc, locs = [] := ⟨_, rfl⟩
  rw [← hlo]
  rw [← hlo] at hS
  have hP : va_P (dC, dI) pcl [(hx9, .inr (4, [.ref hg, .ref hp, .ref hp2, .ref hd, .ref hs, .int (bI pk), .int (bI tk), .int (bI sk9), .int (bI wk), .int tg, .int ws9])), (hp, .inr (2, [.ref hg, .ref p1, .ref p2, .int ch, .int bh, .ref p3])), (p1, .inl (cI, 10, .inl C)), (p2, .inl (cI, 18, .inl B)), (p3, .inl (cI, 10, .inl Y)), (hg, .inr (1, [.int (nI n), .int (nI k), .ref g1, .ref g2, .ref g3])), (g1, .inl (cI, 18, .inl (fun i9 => nI (F i9)))), (g2, .inl (cI, 18, .inl (fun i9 => nI (S i9)))), (g3, .inl (cI, 18, .inl w))] H := by rw [hH]; exact hP
  have hS : va_S A s.heap H locs := by rw [hH]; exact hS
  suffices hgo : W p l e rm_X_block s m args below meth c H locs 0 0 Q (F0 m 0 ls []) by rw [hH] at hgo; exact hgo
  refine lv_aload_n hx hb d_X_block_0 rfl (lv_at hl 0 rfl) ?_
  refine g_get Sx gf_X hK hP 0 rfl rfl 0 (by decide) gm_181 rfl d_X_block_1 ?_
  refine lv_iload_n hx hb d_X_block_4 rfl (lv_at hl 1 rfl) ?_
  refine ro_V (As := [.int v]) (rest := []) Sx (c_G_hasEdge l dC dI n k F S w hg g1 g2 g3 cI v) (gw_callV gm_226 gm_227 gm_228 gm_52 gm_229) hd_G_hasEdge ⟨rfl, rfl⟩ ⟨Nat.le_of_ble_eq_true rfl, Nat.le_of_ble_eq_true rfl⟩ (va_P_map hP [5, 6, 7, 8] rfl) (hK.sub (tys' := [(cI, .int)]) [0] rfl) rfl 0 rfl rfl hl.1 rfl (Nat.le_of_ble_eq_true rfl) d_X_block_5 ⟨Nat.zero_le _, Nat.zero_le _⟩ ?_
  refine lv_if_ne hx hb d_X_block_8 (tgt := 13) rfl (fun q1 => ?_) (fun q1 => ?_)
  · have q1 : (ps_in v (nI k)) = true := bI_1.mp q1
    rw [hv] at q1; cases q1
  · have q1 : (ps_in v (nI k)) = false := bI_0.mp q1
    refine lv_iconst (v := (-1)) hx hb d_X_block_11 (by decide) ?_
    rw [show ((-1) : Int32) = (-1) from rfl]
    exact hret _ H locs _ d_X_block_12 hP hD hS
