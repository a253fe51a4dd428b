/-! a fragment: visits, still to visit, visited, its edges, its vertices -/
def dr_gD (s : (Nat × Int32 × Int32 × Int32 × Int32)) : Bool := decide (10 ≤ s.1) || decide (s.2.1 = 0)
def dr_gS (eA nb : Nat → Int32) (dV : Int32) (s : (Nat × Int32 × Int32 × Int32 × Int32)) : (Nat × Int32 × Int32 × Int32 × Int32) := (s.1 + 1, ((s.2.2.2.2 ||| nb (ps_least s.2.1)) &&& (dV ^^^ (-1 : Int32))) &&& ((s.2.2.1 ||| ((1 : Int32) <<< (nI (ps_least s.2.1) &&& 31))) ^^^ (-1 : Int32)), s.2.2.1 ||| (1 <<< (nI (ps_least s.2.1) &&& 31)), s.2.2.2.1 ||| eA (ps_least s.2.1), s.2.2.2.2 ||| nb (ps_least s.2.1))
def dr_g0 (F S : Nat → Nat) (dV : Int32) (e : Nat) : (Nat × Int32 × Int32 × Int32 × Int32) := (0, (ps_ends F S e) &&& (dV ^^^ (-1 : Int32)), 0, (1 : Int32) <<< (nI e &&& 31), ps_ends F S e)
def dr_gf (F S : Nat → Nat) (eA nb : Nat → Int32) (dV : Int32) (e : Nat) : (Nat × Int32 × Int32 × Int32 × Int32) := wl dr_gD (dr_gS eA nb dV) 10 (dr_g0 F S dV e)
theorem dr_gf_dn (F S : Nat → Nat) (eA nb : Nat → Int32) (dV : Int32) (e : Nat) : dr_gD (dr_gf F S eA nb dV e) = true := wl_cnt (e := 10) (fun s h => by simp [dr_gD, h]) (fun s => rfl) 10 _ (by show 10 ≤ 0 + 10; omega)
/-- what it visits are vertices -/
def dr_gfOK (F S : Nat → Nat) (eA nb : Nat → Int32) (dV : Int32) (e : Nat) : Prop := ∃ Inv : (Nat × Int32 × Int32 × Int32 × Int32) → Prop, Inv (dr_g0 F S dV e) ∧ ∀ s, Inv s → dr_gD s = false → ps_least s.2.1 < 10 ∧ Inv (dr_gS eA nb dV s)
theorem ps_in_lt {v n : Nat} (hv : v < 2 ^ 31) (hn : n < 2 ^ 31) (h : ps_in (nI v) (nI n) = true) : v < n := by
  have h2 : ¬ nI n ≤ nI v := by
    simp [ps_in] at h
    exact Int32.not_le.mpr h.2
  exact nq_nle hn hv h2
theorem d_D_gatherFragment_0 : decode k_D_gatherFragment 0 = .ok (.aload_n 0, 1) := by decide +kernel
theorem d_D_gatherFragment_1 : decode k_D_gatherFragment 1 = .ok (.iconst 1, 1) := by decide +kernel
theorem d_D_gatherFragment_2 : decode k_D_gatherFragment 2 = .ok (.iload_n 1, 1) := by decide +kernel
theorem d_D_gatherFragment_3 : decode k_D_gatherFragment 3 = .ok (.ishl, 1) := by decide +kernel
theorem d_D_gatherFragment_4 : decode k_D_gatherFragment 4 = .ok (.putfield 121, 3) := by decide +kernel
theorem d_D_gatherFragment_7 : decode k_D_gatherFragment 7 = .ok (.aload_n 0, 1) := by decide +kernel
theorem d_D_gatherFragment_8 : decode k_D_gatherFragment 8 = .ok (.aload_n 0, 1) := by decide +kernel
theorem d_D_gatherFragment_9 : decode k_D_gatherFragment 9 = .ok (.getfield 38, 3) := by decide +kernel
theorem d_D_gatherFragment_12 : decode k_D_gatherFragment 12 = .ok (.iload_n 1, 1) := by decide +kernel
theorem d_D_gatherFragment_13 : decode k_D_gatherFragment 13 = .ok (.invokevirtual 109, 3) := by decide +kernel
theorem d_D_gatherFragment_16 : decode k_D_gatherFragment 16 = .ok (.putfield 124, 3) := by decide +kernel
theorem d_D_gatherFragment_19 : decode k_D_gatherFragment 19 = .ok (.aload_n 0, 1) := by decide +kernel
theorem d_D_gatherFragment_20 : decode k_D_gatherFragment 20 = .ok (.getfield 124, 3) := by decide +kernel
theorem d_D_gatherFragment_23 : decode k_D_gatherFragment 23 = .ok (.aload_n 0, 1) := by decide +kernel
theorem d_D_gatherFragment_24 : decode k_D_gatherFragment 24 = .ok (.getfield 112, 3) := by decide +kernel
theorem d_D_gatherFragment_27 : decode k_D_gatherFragment 27 = .ok (.iconst (-1), 1) := by decide +kernel
theorem d_D_gatherFragment_28 : decode k_D_gatherFragment 28 = .ok (.ixor, 1) := by decide +kernel
theorem d_D_gatherFragment_29 : decode k_D_gatherFragment 29 = .ok (.iand, 1) := by decide +kernel
theorem d_D_gatherFragment_30 : decode k_D_gatherFragment 30 = .ok (.istore_n 2, 1) := by decide +kernel
theorem d_D_gatherFragment_31 : decode k_D_gatherFragment 31 = .ok (.iconst 0, 1) := by decide +kernel
theorem d_D_gatherFragment_32 : decode k_D_gatherFragment 32 = .ok (.istore_n 3, 1) := by decide +kernel
theorem d_D_gatherFragment_33 : decode k_D_gatherFragment 33 = .ok (.iconst 0, 1) := by decide +kernel
theorem d_D_gatherFragment_34 : decode k_D_gatherFragment 34 = .ok (.istore 4, 2) := by decide +kernel
theorem d_D_gatherFragment_36 : decode k_D_gatherFragment 36 = .ok (.iload 4, 2) := by decide +kernel
theorem d_D_gatherFragment_38 : decode k_D_gatherFragment 38 = .ok (.bipush 10, 2) := by decide +kernel
theorem d_D_gatherFragment_40 : decode k_D_gatherFragment 40 = .ok (.if_icmp .ge 74, 3) := by decide +kernel
theorem d_D_gatherFragment_43 : decode k_D_gatherFragment 43 = .ok (.iload_n 2, 1) := by decide +kernel
theorem d_D_gatherFragment_44 : decode k_D_gatherFragment 44 = .ok (.ifCond .eq 70, 3) := by decide +kernel
theorem d_D_gatherFragment_47 : decode k_D_gatherFragment 47 = .ok (.iload_n 2, 1) := by decide +kernel
theorem d_D_gatherFragment_48 : decode k_D_gatherFragment 48 = .ok (.invokestatic 76, 3) := by decide +kernel
theorem d_D_gatherFragment_51 : decode k_D_gatherFragment 51 = .ok (.istore 5, 2) := by decide +kernel
theorem d_D_gatherFragment_53 : decode k_D_gatherFragment 53 = .ok (.iload_n 3, 1) := by decide +kernel
theorem d_D_gatherFragment_54 : decode k_D_gatherFragment 54 = .ok (.iconst 1, 1) := by decide +kernel
theorem d_D_gatherFragment_55 : decode k_D_gatherFragment 55 = .ok (.iload 5, 2) := by decide +kernel
theorem d_D_gatherFragment_57 : decode k_D_gatherFragment 57 = .ok (.ishl, 1) := by decide +kernel
theorem d_D_gatherFragment_58 : decode k_D_gatherFragment 58 = .ok (.ior, 1) := by decide +kernel
theorem d_D_gatherFragment_59 : decode k_D_gatherFragment 59 = .ok (.istore_n 3, 1) := by decide +kernel
theorem d_D_gatherFragment_60 : decode k_D_gatherFragment 60 = .ok (.aload_n 0, 1) := by decide +kernel
theorem d_D_gatherFragment_61 : decode k_D_gatherFragment 61 = .ok (.dup, 1) := by decide +kernel
theorem d_D_gatherFragment_62 : decode k_D_gatherFragment 62 = .ok (.getfield 121, 3) := by decide +kernel
theorem d_D_gatherFragment_65 : decode k_D_gatherFragment 65 = .ok (.aload_n 0, 1) := by decide +kernel
theorem d_D_gatherFragment_66 : decode k_D_gatherFragment 66 = .ok (.getfield 9, 3) := by decide +kernel
theorem d_D_gatherFragment_69 : decode k_D_gatherFragment 69 = .ok (.iload 5, 2) := by decide +kernel
theorem d_D_gatherFragment_71 : decode k_D_gatherFragment 71 = .ok (.iaload, 1) := by decide +kernel
theorem d_D_gatherFragment_72 : decode k_D_gatherFragment 72 = .ok (.ior, 1) := by decide +kernel
theorem d_D_gatherFragment_73 : decode k_D_gatherFragment 73 = .ok (.putfield 121, 3) := by decide +kernel
theorem d_D_gatherFragment_76 : decode k_D_gatherFragment 76 = .ok (.aload_n 0, 1) := by decide +kernel
theorem d_D_gatherFragment_77 : decode k_D_gatherFragment 77 = .ok (.dup, 1) := by decide +kernel
theorem d_D_gatherFragment_78 : decode k_D_gatherFragment 78 = .ok (.getfield 124, 3) := by decide +kernel
theorem d_D_gatherFragment_81 : decode k_D_gatherFragment 81 = .ok (.aload_n 0, 1) := by decide +kernel
theorem d_D_gatherFragment_82 : decode k_D_gatherFragment 82 = .ok (.getfield 15, 3) := by decide +kernel
theorem d_D_gatherFragment_85 : decode k_D_gatherFragment 85 = .ok (.iload 5, 2) := by decide +kernel
theorem d_D_gatherFragment_87 : decode k_D_gatherFragment 87 = .ok (.iaload, 1) := by decide +kernel
theorem d_D_gatherFragment_88 : decode k_D_gatherFragment 88 = .ok (.ior, 1) := by decide +kernel
theorem d_D_gatherFragment_89 : decode k_D_gatherFragment 89 = .ok (.putfield 124, 3) := by decide +kernel
theorem d_D_gatherFragment_92 : decode k_D_gatherFragment 92 = .ok (.aload_n 0, 1) := by decide +kernel
theorem d_D_gatherFragment_93 : decode k_D_gatherFragment 93 = .ok (.getfield 124, 3) := by decide +kernel
theorem d_D_gatherFragment_96 : decode k_D_gatherFragment 96 = .ok (.aload_n 0, 1) := by decide +kernel
theorem d_D_gatherFragment_97 : decode k_D_gatherFragment 97 = .ok (.getfield 112, 3) := by decide +kernel
theorem d_D_gatherFragment_100 : decode k_D_gatherFragment 100 = .ok (.iconst (-1), 1) := by decide +kernel
theorem d_D_gatherFragment_101 : decode k_D_gatherFragment 101 = .ok (.ixor, 1) := by decide +kernel
theorem d_D_gatherFragment_102 : decode k_D_gatherFragment 102 = .ok (.iand, 1) := by decide +kernel
theorem d_D_gatherFragment_103 : decode k_D_gatherFragment 103 = .ok (.iload_n 3, 1) := by decide +kernel
theorem d_D_gatherFragment_104 : decode k_D_gatherFragment 104 = .ok (.iconst (-1), 1) := by decide +kernel
theorem d_D_gatherFragment_105 : decode k_D_gatherFragment 105 = .ok (.ixor, 1) := by decide +kernel
theorem d_D_gatherFragment_106 : decode k_D_gatherFragment 106 = .ok (.iand, 1) := by decide +kernel
theorem d_D_gatherFragment_107 : decode k_D_gatherFragment 107 = .ok (.istore_n 2, 1) := by decide +kernel
theorem d_D_gatherFragment_108 : decode k_D_gatherFragment 108 = .ok (.iinc 4 1, 3) := by decide +kernel
theorem d_D_gatherFragment_111 : decode k_D_gatherFragment 111 = .ok (.goto (-75), 3) := by decide +kernel
theorem d_D_gatherFragment_114 : decode k_D_gatherFragment 114 = .ok (.return_, 1) := by decide +kernel
abbrev rm_D_gatherFragment : Room := { frames := 2, cells := 0, slots := 0, locals := 40 }
theorem hd_D_gatherFragment : y_D_gatherFragment.cls = n_D ∧ y_D_gatherFragment.cls ≠ "java/lang/invoke/MethodHandle" ∧ y_D_gatherFragment.cls ≠ "java/lang/invoke/VarHandle" ∧ (parseMethodDescriptor y_D_gatherFragment.desc).map (fun d => d.parameters.length) = some 1 := by decide +kernel
set_option maxHeartbeats 4000000 in
set_option maxRecDepth 100000 in
theorem c_D_gatherFragment (l : Launch) (dC : Nat → ClassId) (dI : Nat → Nat → Nat) (hd : Nat) (hg : Nat) (dE : Int32) (dV : Int32) (fc : Nat) (fE : Int32) (fV : Int32) (cE : Int32) (cC : Int32) (pn : Nat) (d1 : Nat) (d2 : Nat) (d3 : Nat) (d4 : Nat) (d5 : Nat) (d6 : Nat) (d7 : Nat) (d8 : Nat) (cI : ClassId) (cQ : ClassId) (eA : Nat → Int32) (nb : Nat → Int32) (n : Nat) (k : Nat) (F : Nat → Nat) (S : Nat → Nat) (w : Nat → Int32) (g1 : Nat) (g2 : Nat) (g3 : Nat) (ee : Nat) (sz : Nat) (hee : ee < 18) (hgf : dr_gfOK F S eA nb dV ee) : Met l y_D_gatherFragment (.code y_D_gatherFragment k_D_gatherFragment 6 none :: gw) rm_D_gatherFragment (rwP [.ref hd, .int (nI ee)] (dC, dI) [(hd, .inr (0, [.ref hg, .ref d1, .ref d2, .int dE, .int dV, .ref d3, .ref d4, .ref d5, .int (nI fc), .int fE, .int fV, .int cE, .int cC, .ref d6, .ref d7, .int (nI pn), .ref d8])), (d1, .inl (cI, 10, .inl eA)), (d2, .inl (cI, 10, .inl nb)), (hg, .inr (1, [.int (nI n), .int (nI k), .ref g1, .ref g2, .ref g3])), (g1, .inl (cI, 18, .inl (fun i9 => nI (F i9)))), (g2, .inl (cI, 18, .inl (fun i9 => nI (S i9)))), (g3, .inl (cI, 18, .inl w))] [(cI, .int)] sz) (va_Qv (fun _ : Unit => True) (rwB (dC, dI) [(hd, .inr (0, [.ref hg, .ref d1, .ref d2, .int dE, .int dV, .ref d3, .ref d4, .ref d5, .int (nI fc), .int ((dr_gf F S eA nb dV ee).2.2.2.1), .int ((dr_gf F S eA nb dV ee).2.2.2.2), .int cE, .int cC, .ref d6, .ref d7, .int (nI pn), .ref d8])), (d1, .inl (cI, 10, .inl eA)), (d2, .inl (cI, 10, .inl nb)), (hg, .inr (1, [.int (nI n), .int (nI k), .ref g1, .ref g2, .ref g3])), (g1, .inl (cI, 18, .inl (fun i9 => nI (F i9)))), (g2, .inl (cI, 18, .inl (fun i9 => nI (S i9)))), (g3, .inl (cI, 18, .inl w))] [(cI, .int)] (va_A [(hd, .inr (0, [.ref hg, .ref d1, .ref d2, .int dE, .int dV, .ref d3, .ref d4, .ref d5, .int (nI fc), .int fE, .int fV, .int cE, .int cC, .ref d6, .ref d7, .int (nI pn), .ref d8])), (d1, .inl (cI, 10, .inl eA)), (d2, .inl (cI, 10, .inl nb)), (hg, .inr (1, [.int (nI n), .int (nI k), .ref g1, .ref g2, .ref g3])), (g1, .inl (cI, 18, .inl (fun i9 => nI (F i9)))), (g2, .inl (cI, 18, .inl (fun i9 => nI (S i9)))), (g3, .inl (cI, 18, .inl w))] sz)) (va_A [(hd, .inr (0, [.ref hg, .ref d1, .ref d2, .int dE, .int dV, .ref d3, .ref d4, .ref d5, .int (nI fc), .int fE, .int fV, .int cE, .int cC, .ref d6, .ref d7, .int (nI pn), .ref d8])), (d1, .inl (cI, 10, .inl eA)), (d2, .inl (cI, 10, .inl nb)), (hg, .inr (1, [.int (nI n), .int (nI k), .ref g1, .ref g2, .ref g3])), (g1, .inl (cI, 18, .inl (fun i9 => nI (F i9)))), (g2, .inl (cI, 18, .inl (fun i9 => nI (S i9)))), (g3, .inl (cI, 18, .inl w))] sz)) 0 0 (va_A [(hd, .inr (0, [.ref hg, .ref d1, .ref d2, .int dE, .int dV, .ref d3, .ref d4, .ref d5, .int (nI fc), .int fE, .int fV, .int cE, .int cC, .ref d6, .ref d7, .int (nI pn), .ref d8])), (d1, .inl (cI, 10, .inl eA)), (d2, .inl (cI, 10, .inl nb)), (hg, .inr (1, [.int (nI n), .int (nI k), .ref g1, .ref g2, .ref g3])), (g1, .inl (cI, 18, .inl (fun i9 => nI (F i9)))), (g2, .inl (cI, 18, .inl (fun i9 => nI (S i9)))), (g3, .inl (cI, 18, .inl w))] sz) := by
  refine rw_met (by decide) ⟨rfl, rfl⟩ (Nat.le_of_ble_eq_true rfl) ?_
  intro p e s m args below meth c Q A ls Sx hP hK hD hA hl hret
  have hx := Sx.1
  have hb := Sx.2.1
  have hl : lv_has ls 6 [(0, .ref hd), (1, .int (nI ee))] := hl
  have hS : va_S A s.heap s.heap [] := va_S.rf
  obtain ⟨Inv, hI0, hI1⟩ := hgf
  obtain ⟨H, hH⟩ : ∃ H, H = s.heap := ⟨_, rfl⟩
  obtain ⟨locs, hlo⟩ : ∃ locs : List Loc, locs = [] := ⟨_, rfl⟩
  rw [← hlo]
  rw [← hlo] at hS
  have hP : va_P (dC, dI) pcl [(hd, .inr (0, [.ref hg, .ref d1, .ref d2, .int dE, .int dV, .ref d3, .ref d4, .ref d5, .int (nI fc), .int fE, .int fV, .int cE, .int cC, .ref d6, .ref d7, .int (nI pn), .ref d8])), (d1, .inl (cI, 10, .inl eA)), (d2, .inl (cI, 10, .inl nb)), (hg, .inr (1, [.int (nI n), .int (nI k), .ref g1, .ref g2, .ref g3])), (g1, .inl (cI, 18, .inl (fun i9 => nI (F i9)))), (g2, .inl (cI, 18, .inl (fun i9 => nI (S i9)))), (g3, .inl (cI, 18, .inl w))] H := by rw [hH]; exact hP
  have hS : va_S A s.heap H locs := by rw [hH]; exact hS
  suffices hgo : W p l e rm_D_gatherFragment s m args below meth c H locs 0 0 Q (F0 m 0 ls []) by rw [hH] at hgo; exact hgo
  refine lv_aload_n hx hb d_D_gatherFragment_0 rfl (lv_at hl 0 rfl) ?_
  refine lv_iconst (v := 1) hx hb d_D_gatherFragment_1 (by decide) ?_
  refine lv_iload_n hx hb d_D_gatherFragment_2 rfl (lv_at hl 1 rfl) ?_
  refine lv_ishl hx hb d_D_gatherFragment_3 ?_
  refine g_put Sx gf_D fk_D fn_D hK hP hD hS 0 rfl rfl 9 (by decide) gm_140 rfl rfl rfl (Nat.le_of_ble_eq_true rfl) d_D_gatherFragment_4 (fun H locs hP hD hS => ?_)
  have hP : va_P (dC, dI) pcl [(hd, .inr (0, [.ref hg, .ref d1, .ref d2, .int dE, .int dV, .ref d3, .ref d4, .ref d5, .int (nI fc), .int (1 <<< ((nI ee) &&& 31)), .int fV, .int cE, .int cC, .ref d6, .ref d7, .int (nI pn), .ref d8])), (d1, .inl (cI, 10, .inl eA)), (d2, .inl (cI, 10, .inl nb)), (hg, .inr (1, [.int (nI n), .int (nI k), .ref g1, .ref g2, .ref g3])), (g1, .inl (cI, 18, .inl (fun i9 => nI (F i9)))), (g2, .inl (cI, 18, .inl (fun i9 => nI (S i9)))), (g3, .inl (cI, 18, .inl w))] H := hP
  have hD : va_D A [(hd, .inr (0, [.ref hg, .ref d1, .ref d2, .int dE, .int dV, .ref d3, .ref d4, .ref d5, .int (nI fc), .int (1 <<< ((nI ee) &&& 31)), .int fV, .int cE, .int cC, .ref d6, .ref d7, .int (nI pn), .ref d8])), (d1, .inl (cI, 10, .inl eA)), (d2, .inl (cI, 10, .inl nb)), (hg, .inr (1, [.int (nI n), .int (nI k), .ref g1, .ref g2, .ref g3])), (g1, .inl (cI, 18, .inl (fun i9 => nI (F i9)))), (g2, .inl (cI, 18, .inl (fun i9 => nI (S i9)))), (g3, .inl (cI, 18, .inl w))] := hD
  refine lv_aload_n hx hb d_D_gatherFragment_7 rfl (lv_at hl 0 rfl) ?_
  refine lv_aload_n hx hb d_D_gatherFragment_8 rfl (lv_at hl 0 rfl) ?_
  refine g_get Sx gf_D hK hP 0 rfl rfl 0 (by decide) gm_131 rfl d_D_gatherFragment_9 ?_
  refine lv_iload_n hx hb d_D_gatherFragment_12 rfl (lv_at hl 1 rfl) ?_
  refine ro_V (As := [.int (nI ee)]) (rest := [.ref hd]) Sx (c_G_ends l dC dI n k F S w hg g1 g2 g3 cI ee (by omega)) (gw_callV gm_311 gm_312 gm_313 gm_52 gm_314) hd_G_ends ⟨rfl, rfl⟩ ⟨Nat.le_of_ble_eq_true rfl, Nat.le_of_ble_eq_true rfl⟩ (va_P_map hP [3, 4, 5, 6] rfl) (hK.sub (tys' := [(cI, .int)]) [0] rfl) rfl 0 rfl rfl hl.1 rfl (Nat.le_of_ble_eq_true rfl) d_D_gatherFragment_13 ⟨Nat.zero_le _, Nat.zero_le _⟩ ?_
  refine g_put Sx gf_D fk_D fn_D hK hP hD hS 0 rfl rfl 10 (by decide) gm_141 rfl rfl rfl (Nat.le_of_ble_eq_true rfl) d_D_gatherFragment_16 (fun H locs hP hD hS => ?_)
  have hP : va_P (dC, dI) pcl [(hd, .inr (0, [.ref hg, .ref d1, .ref d2, .int dE, .int dV, .ref d3, .ref d4, .ref d5, .int (nI fc), .int (1 <<< ((nI ee) &&& 31)), .int (ps_ends F S ee), .int cE, .int cC, .ref d6, .ref d7, .int (nI pn), .ref d8])), (d1, .inl (cI, 10, .inl eA)), (d2, .inl (cI, 10, .inl nb)), (hg, .inr (1, [.int (nI n), .int (nI k), .ref g1, .ref g2, .ref g3])), (g1, .inl (cI, 18, .inl (fun i9 => nI (F i9)))), (g2, .inl (cI, 18, .inl (fun i9 => nI (S i9)))), (g3, .inl (cI, 18, .inl w))] H := hP
  have hD : va_D A [(hd, .inr (0, [.ref hg, .ref d1, .ref d2, .int dE, .int dV, .ref d3, .ref d4, .ref d5, .int (nI fc), .int (1 <<< ((nI ee) &&& 31)), .int (ps_ends F S ee), .int cE, .int cC, .ref d6, .ref d7, .int (nI pn), .ref d8])), (d1, .inl (cI, 10, .inl eA)), (d2, .inl (cI, 10, .inl nb)), (hg, .inr (1, [.int (nI n), .int (nI k), .ref g1, .ref g2, .ref g3])), (g1, .inl (cI, 18, .inl (fun i9 => nI (F i9)))), (g2, .inl (cI, 18, .inl (fun i9 => nI (S i9)))), (g3, .inl (cI, 18, .inl w))] := hD
  refine lv_aload_n hx hb d_D_gatherFragment_19 rfl (lv_at hl 0 rfl) ?_
  refine g_get Sx gf_D hK hP 0 rfl rfl 10 (by decide) gm_141 rfl d_D_gatherFragment_20 ?_
  refine lv_aload_n hx hb d_D_gatherFragment_23 rfl (lv_at hl 0 rfl) ?_
  refine g_get Sx gf_D hK hP 0 rfl rfl 4 (by decide) gm_135 rfl d_D_gatherFragment_24 ?_
  refine lv_iconst (v := (-1 : Int32)) hx hb d_D_gatherFragment_27 (by decide) ?_
  refine lv_ixor hx hb d_D_gatherFragment_28 ?_
  refine lv_iand hx hb d_D_gatherFragment_29 ?_
  refine lv_istore_n hx hb d_D_gatherFragment_30 rfl hl (Nat.le_of_ble_eq_true rfl) rfl (fun ls hl => ?_)
  have hl : lv_has ls 6 [(2, .int ((ps_ends F S ee) &&& (dV ^^^ (-1 : Int32)))), (0, .ref hd), (1, .int (nI ee))] := hl
  refine lv_iconst (v := 0) hx hb d_D_gatherFragment_31 (by decide) ?_
  refine lv_istore_n hx hb d_D_gatherFragment_32 rfl hl (Nat.le_of_ble_eq_true rfl) rfl (fun ls hl => ?_)
  have hl : lv_has ls 6 [(3, .int 0), (2, .int ((ps_ends F S ee) &&& (dV ^^^ (-1 : Int32)))), (0, .ref hd), (1, .int (nI ee))] := hl
  refine lv_iconst (v := nI 0) hx hb d_D_gatherFragment_33 (by decide) ?_
  refine lv_istore hx hb d_D_gatherFragment_34 hl (Nat.le_of_ble_eq_true rfl) rfl (fun ls hl => ?_)
  have hl : lv_has ls 6 [(4, .int (nI 0)), (3, .int 0), (2, .int ((ps_ends F S ee) &&& (dV ^^^ (-1 : Int32)))), (0, .ref hd), (1, .int (nI ee))] := hl
  have hL36 : ∀ (fu36 : Nat) (ct : Nat) (tv : Int32) (vs1 : Int32) (fE1 : Int32) (fV1 : Int32) (H : Heap) (locs : List Loc) (ls : Array Slot), wl dr_gD (dr_gS eA nb dV) fu36 (ct, tv, vs1, fE1, fV1) = (dr_gf F S eA nb dV ee) → Inv (ct, tv, vs1, fE1, fV1) → ct ≤ 10 → va_P (dC, dI) pcl [(hd, .inr (0, [.ref hg, .ref d1, .ref d2, .int dE, .int dV, .ref d3, .ref d4, .ref d5, .int (nI fc), .int fE1, .int fV1, .int cE, .int cC, .ref d6, .ref d7, .int (nI pn), .ref d8])), (d1, .inl (cI, 10, .inl eA)), (d2, .inl (cI, 10, .inl nb)), (hg, .inr (1, [.int (nI n), .int (nI k), .ref g1, .ref g2, .ref g3])), (g1, .inl (cI, 18, .inl (fun i9 => nI (F i9)))), (g2, .inl (cI, 18, .inl (fun i9 => nI (S i9)))), (g3, .inl (cI, 18, .inl w))] H → va_D A [(hd, .inr (0, [.ref hg, .ref d1, .ref d2, .int dE, .int dV, .ref d3, .ref d4, .ref d5, .int (nI fc), .int fE1, .int fV1, .int cE, .int cC, .ref d6, .ref d7, .int (nI pn), .ref d8])), (d1, .inl (cI, 10, .inl eA)), (d2, .inl (cI, 10, .inl nb)), (hg, .inr (1, [.int (nI n), .int (nI k), .ref g1, .ref g2, .ref g3])), (g1, .inl (cI, 18, .inl (fun i9 => nI (F i9)))), (g2, .inl (cI, 18, .inl (fun i9 => nI (S i9)))), (g3, .inl (cI, 18, .inl w))] → va_S A s.heap H locs → lv_has ls 6 [(4, .int (nI ct)), (3, .int vs1), (2, .int tv), (0, .ref hd), (1, .int (nI ee))] → W p l e rm_D_gatherFragment s m args below meth c H locs 0 0 Q (F0 m 36 ls []) := by
    intro fu36
    induction fu36 with
    | zero =>
      intro ct tv vs1 fE1 fV1 H locs ls ht36 hI hct hP hD hS hl
      refine lv_iload hx hb d_D_gatherFragment_36 (lv_at hl 0 rfl) ?_
      refine lv_bipush (v := nI 10) hx hb d_D_gatherFragment_38 (by decide) ?_
      refine lv_icmp_ge hx hb d_D_gatherFragment_40 (tgt := 114) rfl (fun q1 => ?_) (fun q1 => ?_)
      · have q1 : 10 ≤ ct := nq_le (by omega) (by omega) q1
        have q1n := Nat.not_lt.mpr q1
        have hd9 : dr_gD (ct, tv, vs1, fE1, fV1) = true := by simp [dr_gD, dr_gS, q1, q1n]
        have e9 : (ct, tv, vs1, fE1, fV1) = (dr_gf F S eA nb dV ee) := by rw [← ht36]; exact (wl_dn hd9 _).symm
        have e_ct : ct = ((dr_gf F S eA nb dV ee)).1 := by rw [← e9]
        have e_tv : tv = ((dr_gf F S eA nb dV ee)).2.1 := by rw [← e9]
        have e_vs1 : vs1 = ((dr_gf F S eA nb dV ee)).2.2.1 := by rw [← e9]
        have e_fE1 : fE1 = ((dr_gf F S eA nb dV ee)).2.2.2.1 := by rw [← e9]
        have e_fV1 : fV1 = ((dr_gf F S eA nb dV ee)).2.2.2.2 := by rw [← e9]
        subst e_ct
        subst e_tv
        subst e_vs1
        subst e_fE1
        subst e_fV1
        have hl : lv_has ls 6 [(4, .int (nI (((dr_gf F S eA nb dV ee)).1))), (3, .int (((dr_gf F S eA nb dV ee)).2.2.1)), (2, .int (((dr_gf F S eA nb dV ee)).2.1)), (0, .ref hd), (1, .int (nI ee))] := hl
        have hP : va_P (dC, dI) pcl [(hd, .inr (0, [.ref hg, .ref d1, .ref d2, .int dE, .int dV, .ref d3, .ref d4, .ref d5, .int (nI fc), .int (((dr_gf F S eA nb dV ee)).2.2.2.1), .int (((dr_gf F S eA nb dV ee)).2.2.2.2), .int cE, .int cC, .ref d6, .ref d7, .int (nI pn), .ref d8])), (d1, .inl (cI, 10, .inl eA)), (d2, .inl (cI, 10, .inl nb)), (hg, .inr (1, [.int (nI n), .int (nI k), .ref g1, .ref g2, .ref g3])), (g1, .inl (cI, 18, .inl (fun i9 => nI (F i9)))), (g2, .inl (cI, 18, .inl (fun i9 => nI (S i9)))), (g3, .inl (cI, 18, .inl w))] H := hP
        have hD : va_D A [(hd, .inr (0, [.ref hg, .ref d1, .ref d2, .int dE, .int dV, .ref d3, .ref d4, .ref d5, .int (nI fc), .int (((dr_gf F S eA nb dV ee)).2.2.2.1), .int (((dr_gf F S eA nb dV ee)).2.2.2.2), .int cE, .int cC, .ref d6, .ref d7, .int (nI pn), .ref d8])), (d1, .inl (cI, 10, .inl eA)), (d2, .inl (cI, 10, .inl nb)), (hg, .inr (1, [.int (nI n), .int (nI k), .ref g1, .ref g2, .ref g3])), (g1, .inl (cI, 18, .inl (fun i9 => nI (F i9)))), (g2, .inl (cI, 18, .inl (fun i9 => nI (S i9)))), (g3, .inl (cI, 18, .inl w))] := hD
        exact hret _ H locs _ d_D_gatherFragment_114 hP hD hS
      · have q1 : ct < 10 := nq_nle (by omega) (by omega) q1
        have q1n := Nat.not_le.mpr q1
        refine lv_iload_n hx hb d_D_gatherFragment_43 rfl (lv_at hl 2 rfl) ?_
        refine lv_if_eq hx hb d_D_gatherFragment_44 (tgt := 114) rfl (fun q2 => ?_) (fun q2 => ?_)
        · skip
          have hd9 : dr_gD (ct, tv, vs1, fE1, fV1) = true := by simp [dr_gD, dr_gS, q1, q1n, q2]
          have e9 : (ct, tv, vs1, fE1, fV1) = (dr_gf F S eA nb dV ee) := by rw [← ht36]; exact (wl_dn hd9 _).symm
          have e_ct : ct = ((dr_gf F S eA nb dV ee)).1 := by rw [← e9]
          have e_tv : tv = ((dr_gf F S eA nb dV ee)).2.1 := by rw [← e9]
          have e_vs1 : vs1 = ((dr_gf F S eA nb dV ee)).2.2.1 := by rw [← e9]
          have e_fE1 : fE1 = ((dr_gf F S eA nb dV ee)).2.2.2.1 := by rw [← e9]
          have e_fV1 : fV1 = ((dr_gf F S eA nb dV ee)).2.2.2.2 := by rw [← e9]
          subst e_ct
          subst e_tv
          subst e_vs1
          subst e_fE1
          subst e_fV1
          have hl : lv_has ls 6 [(4, .int (nI (((dr_gf F S eA nb dV ee)).1))), (3, .int (((dr_gf F S eA nb dV ee)).2.2.1)), (2, .int (((dr_gf F S eA nb dV ee)).2.1)), (0, .ref hd), (1, .int (nI ee))] := hl
          have hP : va_P (dC, dI) pcl [(hd, .inr (0, [.ref hg, .ref d1, .ref d2, .int dE, .int dV, .ref d3, .ref d4, .ref d5, .int (nI fc), .int (((dr_gf F S eA nb dV ee)).2.2.2.1), .int (((dr_gf F S eA nb dV ee)).2.2.2.2), .int cE, .int cC, .ref d6, .ref d7, .int (nI pn), .ref d8])), (d1, .inl (cI, 10, .inl eA)), (d2, .inl (cI, 10, .inl nb)), (hg, .inr (1, [.int (nI n), .int (nI k), .ref g1, .ref g2, .ref g3])), (g1, .inl (cI, 18, .inl (fun i9 => nI (F i9)))), (g2, .inl (cI, 18, .inl (fun i9 => nI (S i9)))), (g3, .inl (cI, 18, .inl w))] H := hP
          have hD : va_D A [(hd, .inr (0, [.ref hg, .ref d1, .ref d2, .int dE, .int dV, .ref d3, .ref d4, .ref d5, .int (nI fc), .int (((dr_gf F S eA nb dV ee)).2.2.2.1), .int (((dr_gf F S eA nb dV ee)).2.2.2.2), .int cE, .int cC, .ref d6, .ref d7, .int (nI pn), .ref d8])), (d1, .inl (cI, 10, .inl eA)), (d2, .inl (cI, 10, .inl nb)), (hg, .inr (1, [.int (nI n), .int (nI k), .ref g1, .ref g2, .ref g3])), (g1, .inl (cI, 18, .inl (fun i9 => nI (F i9)))), (g2, .inl (cI, 18, .inl (fun i9 => nI (S i9)))), (g3, .inl (cI, 18, .inl w))] := hD
          exact hret _ H locs _ d_D_gatherFragment_114 hP hD hS
        · skip
          have h1 : ¬ 10 ≤ ct := by omega
          have hd8 : dr_gD (ct, tv, vs1, fE1, fV1) = false := by simp [dr_gD, h1, q2]
          obtain ⟨hb1, hI9⟩ := hI1 _ hI hd8
          dsimp only at hb1
          have hd9 : dr_gD (ct, tv, vs1, fE1, fV1) = false := by simp [dr_gD, dr_gS, q1, q1n, q2]
          have ht9 : (ct, tv, vs1, fE1, fV1) = (dr_gf F S eA nb dV ee) := ht36
          rw [ht9, (dr_gf_dn F S eA nb dV ee)] at hd9
          cases hd9
    | succ fu36 ih36 =>
      intro ct tv vs1 fE1 fV1 H locs ls ht36 hI hct hP hD hS hl
      refine lv_iload hx hb d_D_gatherFragment_36 (lv_at hl 0 rfl) ?_
      refine lv_bipush (v := nI 10) hx hb d_D_gatherFragment_38 (by decide) ?_
      refine lv_icmp_ge hx hb d_D_gatherFragment_40 (tgt := 114) rfl (fun q3 => ?_) (fun q3 => ?_)
      · have q3 : 10 ≤ ct := nq_le (by omega) (by omega) q3
        have q3n := Nat.not_lt.mpr q3
        have hd9 : dr_gD (ct, tv, vs1, fE1, fV1) = true := by simp [dr_gD, dr_gS, q3, q3n]
        have e9 : (ct, tv, vs1, fE1, fV1) = (dr_gf F S eA nb dV ee) := by rw [← ht36]; exact (wl_dn hd9 _).symm
        have e_ct : ct = ((dr_gf F S eA nb dV ee)).1 := by rw [← e9]
        have e_tv : tv = ((dr_gf F S eA nb dV ee)).2.1 := by rw [← e9]
        have e_vs1 : vs1 = ((dr_gf F S eA nb dV ee)).2.2.1 := by rw [← e9]
        have e_fE1 : fE1 = ((dr_gf F S eA nb dV ee)).2.2.2.1 := by rw [← e9]
        have e_fV1 : fV1 = ((dr_gf F S eA nb dV ee)).2.2.2.2 := by rw [← e9]
        subst e_ct
        subst e_tv
        subst e_vs1
        subst e_fE1
        subst e_fV1
        have hl : lv_has ls 6 [(4, .int (nI (((dr_gf F S eA nb dV ee)).1))), (3, .int (((dr_gf F S eA nb dV ee)).2.2.1)), (2, .int (((dr_gf F S eA nb dV ee)).2.1)), (0, .ref hd), (1, .int (nI ee))] := hl
        have hP : va_P (dC, dI) pcl [(hd, .inr (0, [.ref hg, .ref d1, .ref d2, .int dE, .int dV, .ref d3, .ref d4, .ref d5, .int (nI fc), .int (((dr_gf F S eA nb dV ee)).2.2.2.1), .int (((dr_gf F S eA nb dV ee)).2.2.2.2), .int cE, .int cC, .ref d6, .ref d7, .int (nI pn), .ref d8])), (d1, .inl (cI, 10, .inl eA)), (d2, .inl (cI, 10, .inl nb)), (hg, .inr (1, [.int (nI n), .int (nI k), .ref g1, .ref g2, .ref g3])), (g1, .inl (cI, 18, .inl (fun i9 => nI (F i9)))), (g2, .inl (cI, 18, .inl (fun i9 => nI (S i9)))), (g3, .inl (cI, 18, .inl w))] H := hP
        have hD : va_D A [(hd, .inr (0, [.ref hg, .ref d1, .ref d2, .int dE, .int dV, .ref d3, .ref d4, .ref d5, .int (nI fc), .int (((dr_gf F S eA nb dV ee)).2.2.2.1), .int (((dr_gf F S eA nb dV ee)).2.2.2.2), .int cE, .int cC, .ref d6, .ref d7, .int (nI pn), .ref d8])), (d1, .inl (cI, 10, .inl eA)), (d2, .inl (cI, 10, .inl nb)), (hg, .inr (1, [.int (nI n), .int (nI k), .ref g1, .ref g2, .ref g3])), (g1, .inl (cI, 18, .inl (fun i9 => nI (F i9)))), (g2, .inl (cI, 18, .inl (fun i9 => nI (S i9)))), (g3, .inl (cI, 18, .inl w))] := hD
        exact hret _ H locs _ d_D_gatherFragment_114 hP hD hS
      · have q3 : ct < 10 := nq_nle (by omega) (by omega) q3
        have q3n := Nat.not_le.mpr q3
        refine lv_iload_n hx hb d_D_gatherFragment_43 rfl (lv_at hl 2 rfl) ?_
        refine lv_if_eq hx hb d_D_gatherFragment_44 (tgt := 114) rfl (fun q4 => ?_) (fun q4 => ?_)
        · skip
          have hd9 : dr_gD (ct, tv, vs1, fE1, fV1) = true := by simp [dr_gD, dr_gS, q3, q3n, q4]
          have e9 : (ct, tv, vs1, fE1, fV1) = (dr_gf F S eA nb dV ee) := by rw [← ht36]; exact (wl_dn hd9 _).symm
          have e_ct : ct = ((dr_gf F S eA nb dV ee)).1 := by rw [← e9]
          have e_tv : tv = ((dr_gf F S eA nb dV ee)).2.1 := by rw [← e9]
          have e_vs1 : vs1 = ((dr_gf F S eA nb dV ee)).2.2.1 := by rw [← e9]
          have e_fE1 : fE1 = ((dr_gf F S eA nb dV ee)).2.2.2.1 := by rw [← e9]
          have e_fV1 : fV1 = ((dr_gf F S eA nb dV ee)).2.2.2.2 := by rw [← e9]
          subst e_ct
          subst e_tv
          subst e_vs1
          subst e_fE1
          subst e_fV1
          have hl : lv_has ls 6 [(4, .int (nI (((dr_gf F S eA nb dV ee)).1))), (3, .int (((dr_gf F S eA nb dV ee)).2.2.1)), (2, .int (((dr_gf F S eA nb dV ee)).2.1)), (0, .ref hd), (1, .int (nI ee))] := hl
          have hP : va_P (dC, dI) pcl [(hd, .inr (0, [.ref hg, .ref d1, .ref d2, .int dE, .int dV, .ref d3, .ref d4, .ref d5, .int (nI fc), .int (((dr_gf F S eA nb dV ee)).2.2.2.1), .int (((dr_gf F S eA nb dV ee)).2.2.2.2), .int cE, .int cC, .ref d6, .ref d7, .int (nI pn), .ref d8])), (d1, .inl (cI, 10, .inl eA)), (d2, .inl (cI, 10, .inl nb)), (hg, .inr (1, [.int (nI n), .int (nI k), .ref g1, .ref g2, .ref g3])), (g1, .inl (cI, 18, .inl (fun i9 => nI (F i9)))), (g2, .inl (cI, 18, .inl (fun i9 => nI (S i9)))), (g3, .inl (cI, 18, .inl w))] H := hP
          have hD : va_D A [(hd, .inr (0, [.ref hg, .ref d1, .ref d2, .int dE, .int dV, .ref d3, .ref d4, .ref d5, .int (nI fc), .int (((dr_gf F S eA nb dV ee)).2.2.2.1), .int (((dr_gf F S eA nb dV ee)).2.2.2.2), .int cE, .int cC, .ref d6, .ref d7, .int (nI pn), .ref d8])), (d1, .inl (cI, 10, .inl eA)), (d2, .inl (cI, 10, .inl nb)), (hg, .inr (1, [.int (nI n), .int (nI k), .ref g1, .ref g2, .ref g3])), (g1, .inl (cI, 18, .inl (fun i9 => nI (F i9)))), (g2, .inl (cI, 18, .inl (fun i9 => nI (S i9)))), (g3, .inl (cI, 18, .inl w))] := hD
          exact hret _ H locs _ d_D_gatherFragment_114 hP hD hS
        · skip
          have h1 : ¬ 10 ≤ ct := by omega
          have hd8 : dr_gD (ct, tv, vs1, fE1, fV1) = false := by simp [dr_gD, h1, q4]
          obtain ⟨hb1, hI9⟩ := hI1 _ hI hd8
          dsimp only at hb1
          refine lv_iload_n hx hb d_D_gatherFragment_47 rfl (lv_at hl 2 rfl) ?_
          refine ro_S (As := [.int tv]) (rest := []) Sx (c_B_least l dC dI tv) (gw_callS gm_305 gm_306 gm_57 gm_307) hd_B_least ⟨rfl, rfl⟩ ⟨Nat.le_of_ble_eq_true rfl, Nat.le_of_ble_eq_true rfl⟩ (va_P_map hP [] rfl) (hK.sub (tys' := []) [] rfl) rfl hl.1 rfl (Nat.le_of_ble_eq_true rfl) d_D_gatherFragment_48 ⟨Nat.zero_le _, Nat.zero_le _⟩ ?_
          refine lv_istore hx hb d_D_gatherFragment_51 hl (Nat.le_of_ble_eq_true rfl) rfl (fun ls hl => ?_)
          have hl : lv_has ls 6 [(5, .int (nI (ps_least tv))), (4, .int (nI ct)), (3, .int vs1), (2, .int tv), (0, .ref hd), (1, .int (nI ee))] := hl
          refine lv_iload_n hx hb d_D_gatherFragment_53 rfl (lv_at hl 2 rfl) ?_
          refine lv_iconst (v := 1) hx hb d_D_gatherFragment_54 (by decide) ?_
          refine lv_iload hx hb d_D_gatherFragment_55 (lv_at hl 0 rfl) ?_
          refine lv_ishl hx hb d_D_gatherFragment_57 ?_
          refine lv_ior hx hb d_D_gatherFragment_58 ?_
          refine lv_istore_n hx hb d_D_gatherFragment_59 rfl hl (Nat.le_of_ble_eq_true rfl) rfl (fun ls hl => ?_)
          have hl : lv_has ls 6 [(3, .int (vs1 ||| (1 <<< ((nI (ps_least tv)) &&& 31)))), (5, .int (nI (ps_least tv))), (4, .int (nI ct)), (2, .int tv), (0, .ref hd), (1, .int (nI ee))] := hl
          refine lv_aload_n hx hb d_D_gatherFragment_60 rfl (lv_at hl 4 rfl) ?_
          refine lv_dup hx hb d_D_gatherFragment_61 rfl ?_
          refine g_get Sx gf_D hK hP 0 rfl rfl 9 (by decide) gm_140 rfl d_D_gatherFragment_62 ?_
          refine lv_aload_n hx hb d_D_gatherFragment_65 rfl (lv_at hl 4 rfl) ?_
          refine g_get Sx gf_D hK hP 0 rfl rfl 1 (by decide) gm_132 rfl d_D_gatherFragment_66 ?_
          refine lv_iload hx hb d_D_gatherFragment_69 (lv_at hl 1 rfl) ?_
          refine g_ild (j := (ps_least tv)) Sx hK hP 1 0 rfl rfl hb1 (by decide) d_D_gatherFragment_71 ?_
          refine lv_ior hx hb d_D_gatherFragment_72 ?_
          refine g_put Sx gf_D fk_D fn_D hK hP hD hS 0 rfl rfl 9 (by decide) gm_140 rfl rfl rfl (Nat.le_of_ble_eq_true rfl) d_D_gatherFragment_73 (fun H locs hP hD hS => ?_)
          have hP : va_P (dC, dI) pcl [(hd, .inr (0, [.ref hg, .ref d1, .ref d2, .int dE, .int dV, .ref d3, .ref d4, .ref d5, .int (nI fc), .int (fE1 ||| (eA (ps_least tv))), .int fV1, .int cE, .int cC, .ref d6, .ref d7, .int (nI pn), .ref d8])), (d1, .inl (cI, 10, .inl eA)), (d2, .inl (cI, 10, .inl nb)), (hg, .inr (1, [.int (nI n), .int (nI k), .ref g1, .ref g2, .ref g3])), (g1, .inl (cI, 18, .inl (fun i9 => nI (F i9)))), (g2, .inl (cI, 18, .inl (fun i9 => nI (S i9)))), (g3, .inl (cI, 18, .inl w))] H := hP
          have hD : va_D A [(hd, .inr (0, [.ref hg, .ref d1, .ref d2, .int dE, .int dV, .ref d3, .ref d4, .ref d5, .int (nI fc), .int (fE1 ||| (eA (ps_least tv))), .int fV1, .int cE, .int cC, .ref d6, .ref d7, .int (nI pn), .ref d8])), (d1, .inl (cI, 10, .inl eA)), (d2, .inl (cI, 10, .inl nb)), (hg, .inr (1, [.int (nI n), .int (nI k), .ref g1, .ref g2, .ref g3])), (g1, .inl (cI, 18, .inl (fun i9 => nI (F i9)))), (g2, .inl (cI, 18, .inl (fun i9 => nI (S i9)))), (g3, .inl (cI, 18, .inl w))] := hD
          refine lv_aload_n hx hb d_D_gatherFragment_76 rfl (lv_at hl 4 rfl) ?_
          refine lv_dup hx hb d_D_gatherFragment_77 rfl ?_
          refine g_get Sx gf_D hK hP 0 rfl rfl 10 (by decide) gm_141 rfl d_D_gatherFragment_78 ?_
          refine lv_aload_n hx hb d_D_gatherFragment_81 rfl (lv_at hl 4 rfl) ?_
          refine g_get Sx gf_D hK hP 0 rfl rfl 2 (by decide) gm_133 rfl d_D_gatherFragment_82 ?_
          refine lv_iload hx hb d_D_gatherFragment_85 (lv_at hl 1 rfl) ?_
          refine g_ild (j := (ps_least tv)) Sx hK hP 2 0 rfl rfl hb1 (by decide) d_D_gatherFragment_87 ?_
          refine lv_ior hx hb d_D_gatherFragment_88 ?_
          refine g_put Sx gf_D fk_D fn_D hK hP hD hS 0 rfl rfl 10 (by decide) gm_141 rfl rfl rfl (Nat.le_of_ble_eq_true rfl) d_D_gatherFragment_89 (fun H locs hP hD hS => ?_)
          have hP : va_P (dC, dI) pcl [(hd, .inr (0, [.ref hg, .ref d1, .ref d2, .int dE, .int dV, .ref d3, .ref d4, .ref d5, .int (nI fc), .int (fE1 ||| (eA (ps_least tv))), .int (fV1 ||| (nb (ps_least tv))), .int cE, .int cC, .ref d6, .ref d7, .int (nI pn), .ref d8])), (d1, .inl (cI, 10, .inl eA)), (d2, .inl (cI, 10, .inl nb)), (hg, .inr (1, [.int (nI n), .int (nI k), .ref g1, .ref g2, .ref g3])), (g1, .inl (cI, 18, .inl (fun i9 => nI (F i9)))), (g2, .inl (cI, 18, .inl (fun i9 => nI (S i9)))), (g3, .inl (cI, 18, .inl w))] H := hP
          have hD : va_D A [(hd, .inr (0, [.ref hg, .ref d1, .ref d2, .int dE, .int dV, .ref d3, .ref d4, .ref d5, .int (nI fc), .int (fE1 ||| (eA (ps_least tv))), .int (fV1 ||| (nb (ps_least tv))), .int cE, .int cC, .ref d6, .ref d7, .int (nI pn), .ref d8])), (d1, .inl (cI, 10, .inl eA)), (d2, .inl (cI, 10, .inl nb)), (hg, .inr (1, [.int (nI n), .int (nI k), .ref g1, .ref g2, .ref g3])), (g1, .inl (cI, 18, .inl (fun i9 => nI (F i9)))), (g2, .inl (cI, 18, .inl (fun i9 => nI (S i9)))), (g3, .inl (cI, 18, .inl w))] := hD
          refine lv_aload_n hx hb d_D_gatherFragment_92 rfl (lv_at hl 4 rfl) ?_
          refine g_get Sx gf_D hK hP 0 rfl rfl 10 (by decide) gm_141 rfl d_D_gatherFragment_93 ?_
          refine lv_aload_n hx hb d_D_gatherFragment_96 rfl (lv_at hl 4 rfl) ?_
          refine g_get Sx gf_D hK hP 0 rfl rfl 4 (by decide) gm_135 rfl d_D_gatherFragment_97 ?_
          refine lv_iconst (v := (-1 : Int32)) hx hb d_D_gatherFragment_100 (by decide) ?_
          refine lv_ixor hx hb d_D_gatherFragment_101 ?_
          refine lv_iand hx hb d_D_gatherFragment_102 ?_
          refine lv_iload_n hx hb d_D_gatherFragment_103 rfl (lv_at hl 0 rfl) ?_
          refine lv_iconst (v := (-1 : Int32)) hx hb d_D_gatherFragment_104 (by decide) ?_
          refine lv_ixor hx hb d_D_gatherFragment_105 ?_
          refine lv_iand hx hb d_D_gatherFragment_106 ?_
          refine lv_istore_n hx hb d_D_gatherFragment_107 rfl hl (Nat.le_of_ble_eq_true rfl) rfl (fun ls hl => ?_)
          have hl : lv_has ls 6 [(2, .int (((fV1 ||| (nb (ps_least tv))) &&& (dV ^^^ (-1 : Int32))) &&& ((vs1 ||| (1 <<< ((nI (ps_least tv)) &&& 31))) ^^^ (-1 : Int32)))), (3, .int (vs1 ||| (1 <<< ((nI (ps_least tv)) &&& 31)))), (5, .int (nI (ps_least tv))), (4, .int (nI ct)), (0, .ref hd), (1, .int (nI ee))] := hl
          refine lv_iinc (k := 3) (v := nI (ct + 1)) hx hb d_D_gatherFragment_108 hl rfl (inc_nI _) (Nat.le_of_ble_eq_true rfl) rfl (fun ls hl => ?_)
          have hl : lv_has ls 6 [(4, .int (nI (ct + 1))), (2, .int (((fV1 ||| (nb (ps_least tv))) &&& (dV ^^^ (-1 : Int32))) &&& ((vs1 ||| (1 <<< ((nI (ps_least tv)) &&& 31))) ^^^ (-1 : Int32)))), (3, .int (vs1 ||| (1 <<< ((nI (ps_least tv)) &&& 31)))), (5, .int (nI (ps_least tv))), (0, .ref hd), (1, .int (nI ee))] := hl
          refine lv_goto hx hb d_D_gatherFragment_111 (tgt := 36) rfl ?_
          have hd9 : dr_gD (ct, tv, vs1, fE1, fV1) = false := by simp [dr_gD, dr_gS, q3, q3n, q4]
          have hs9 : (dr_gS eA nb dV) (ct, tv, vs1, fE1, fV1) = (ct + 1, (((fV1 ||| (nb (ps_least tv))) &&& (dV ^^^ (-1 : Int32))) &&& ((vs1 ||| (1 <<< ((nI (ps_least tv)) &&& 31))) ^^^ (-1 : Int32))), (vs1 ||| (1 <<< ((nI (ps_least tv)) &&& 31))), (fE1 ||| (eA (ps_least tv))), (fV1 ||| (nb (ps_least tv)))) := by simp [dr_gD, dr_gS, q3, q3n, q4]
          have ht9 : wl dr_gD (dr_gS eA nb dV) fu36 (ct + 1, (((fV1 ||| (nb (ps_least tv))) &&& (dV ^^^ (-1 : Int32))) &&& ((vs1 ||| (1 <<< ((nI (ps_least tv)) &&& 31))) ^^^ (-1 : Int32))), (vs1 ||| (1 <<< ((nI (ps_least tv)) &&& 31))), (fE1 ||| (eA (ps_least tv))), (fV1 ||| (nb (ps_least tv)))) = (dr_gf F S eA nb dV ee) := by rw [← ht36, wl_st hd9, hs9]
          exact ih36 (ct + 1) (((fV1 ||| (nb (ps_least tv))) &&& (dV ^^^ (-1 : Int32))) &&& ((vs1 ||| (1 <<< ((nI (ps_least tv)) &&& 31))) ^^^ (-1 : Int32))) (vs1 ||| (1 <<< ((nI (ps_least tv)) &&& 31))) (fE1 ||| (eA (ps_least tv))) (fV1 ||| (nb (ps_least tv))) H locs ls ht9 (hs9 ▸ hI9) (by omega) hP hD hS (lv_sub hl [0, 2, 1, 4, 5] rfl)
  exact hL36 10 0 ((ps_ends F S ee) &&& (dV ^^^ (-1 : Int32))) 0 (1 <<< ((nI ee) &&& 31)) (ps_ends F S ee) H locs ls rfl hI0 (by omega) hP hD hS (lv_sub hl [0, 1, 2, 3, 4] rfl)
