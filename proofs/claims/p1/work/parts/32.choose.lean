theorem fo_stop {σ : Type} {f : Nat → σ → σ} {s0 s : σ} (ok : σ → Bool) (hs : ∀ j s, ok s = false → f j s = s) {i : Nat} (h : fo f i s0 = s) (hk : ok s = false) : ∀ n, i ≤ n → fo f n s0 = s := by
  intro n hn
  induction n with
  | zero => rw [← h, Nat.le_zero.mp hn]
  | succ n ih =>
    by_cases e : i = n + 1
    · rw [← e]; exact h
    · rw [fo_s, ih (by omega)]; exact hs n s hk
/-- choosing: what is left, fewest fitting faces, the fragment's edges and vertices, the chosen one's edges and contacts, not failed -/
def dr_c1 (F S : Nat → Nat) (eA nb WS : Nat → Int32) (dV : Int32) (fc : Nat) : Nat → (Int32 × Int32 × Int32 × Int32 × Int32 × Int32 × Bool) → (Int32 × Int32 × Int32 × Int32 × Int32 × Int32 × Bool) := fun e s =>
  if s.2.2.2.2.2.2 = true ∧ ps_has s.1 (nI e) = true then
    (if fo (dr_cf WS ((dr_gf F S eA nb dV e).2.2.2.2 &&& dV)) fc 0 = 0 then (s.1 &&& ((dr_gf F S eA nb dV e).2.2.2.1 ^^^ (-1 : Int32)), s.2.1, (dr_gf F S eA nb dV e).2.2.2.1, (dr_gf F S eA nb dV e).2.2.2.2, s.2.2.2.2.1, s.2.2.2.2.2.1, false)
     else (if s.2.1 ≤ fo (dr_cf WS ((dr_gf F S eA nb dV e).2.2.2.2 &&& dV)) fc 0 then (s.1 &&& ((dr_gf F S eA nb dV e).2.2.2.1 ^^^ (-1 : Int32)), s.2.1, (dr_gf F S eA nb dV e).2.2.2.1, (dr_gf F S eA nb dV e).2.2.2.2, s.2.2.2.2.1, s.2.2.2.2.2.1, true)
       else (s.1 &&& ((dr_gf F S eA nb dV e).2.2.2.1 ^^^ (-1 : Int32)), fo (dr_cf WS ((dr_gf F S eA nb dV e).2.2.2.2 &&& dV)) fc 0, (dr_gf F S eA nb dV e).2.2.2.1, (dr_gf F S eA nb dV e).2.2.2.2, (dr_gf F S eA nb dV e).2.2.2.1, (dr_gf F S eA nb dV e).2.2.2.2 &&& dV, true)))
  else s
def dr_ch (k : Nat) (F S : Nat → Nat) (eA nb WS : Nat → Int32) (dE dV : Int32) (fc : Nat) (x fE fV cE cC : Int32) : (Int32 × Int32 × Int32 × Int32 × Int32 × Int32 × Bool) := fo (dr_c1 F S eA nb WS dV fc) k (x &&& (dE ^^^ (-1 : Int32)), 19, fE, fV, cE, cC, true)
theorem d_D_chooseFragment_0 : decode k_D_chooseFragment 0 = .ok (.iload_n 1, 1) := by decide +kernel
theorem d_D_chooseFragment_1 : decode k_D_chooseFragment 1 = .ok (.aload_n 0, 1) := by decide +kernel
theorem d_D_chooseFragment_2 : decode k_D_chooseFragment 2 = .ok (.getfield 82, 3) := by decide +kernel
theorem d_D_chooseFragment_5 : decode k_D_chooseFragment 5 = .ok (.iconst (-1), 1) := by decide +kernel
theorem d_D_chooseFragment_6 : decode k_D_chooseFragment 6 = .ok (.ixor, 1) := by decide +kernel
theorem d_D_chooseFragment_7 : decode k_D_chooseFragment 7 = .ok (.iand, 1) := by decide +kernel
theorem d_D_chooseFragment_8 : decode k_D_chooseFragment 8 = .ok (.istore_n 2, 1) := by decide +kernel
theorem d_D_chooseFragment_9 : decode k_D_chooseFragment 9 = .ok (.bipush 19, 2) := by decide +kernel
theorem d_D_chooseFragment_11 : decode k_D_chooseFragment 11 = .ok (.istore_n 3, 1) := by decide +kernel
theorem d_D_chooseFragment_12 : decode k_D_chooseFragment 12 = .ok (.iconst 0, 1) := by decide +kernel
theorem d_D_chooseFragment_13 : decode k_D_chooseFragment 13 = .ok (.istore 4, 2) := by decide +kernel
theorem d_D_chooseFragment_15 : decode k_D_chooseFragment 15 = .ok (.iload 4, 2) := by decide +kernel
theorem d_D_chooseFragment_17 : decode k_D_chooseFragment 17 = .ok (.aload_n 0, 1) := by decide +kernel
theorem d_D_chooseFragment_18 : decode k_D_chooseFragment 18 = .ok (.getfield 38, 3) := by decide +kernel
theorem d_D_chooseFragment_21 : decode k_D_chooseFragment 21 = .ok (.getfield 42, 3) := by decide +kernel
theorem d_D_chooseFragment_24 : decode k_D_chooseFragment 24 = .ok (.if_icmp .ge 82, 3) := by decide +kernel
theorem d_D_chooseFragment_27 : decode k_D_chooseFragment 27 = .ok (.iload_n 2, 1) := by decide +kernel
theorem d_D_chooseFragment_28 : decode k_D_chooseFragment 28 = .ok (.iload 4, 2) := by decide +kernel
theorem d_D_chooseFragment_30 : decode k_D_chooseFragment 30 = .ok (.invokestatic 53, 3) := by decide +kernel
theorem d_D_chooseFragment_33 : decode k_D_chooseFragment 33 = .ok (.ifCond .eq 67, 3) := by decide +kernel
theorem d_D_chooseFragment_36 : decode k_D_chooseFragment 36 = .ok (.aload_n 0, 1) := by decide +kernel
theorem d_D_chooseFragment_37 : decode k_D_chooseFragment 37 = .ok (.iload 4, 2) := by decide +kernel
theorem d_D_chooseFragment_39 : decode k_D_chooseFragment 39 = .ok (.invokevirtual 118, 3) := by decide +kernel
theorem d_D_chooseFragment_42 : decode k_D_chooseFragment 42 = .ok (.iload_n 2, 1) := by decide +kernel
theorem d_D_chooseFragment_43 : decode k_D_chooseFragment 43 = .ok (.aload_n 0, 1) := by decide +kernel
theorem d_D_chooseFragment_44 : decode k_D_chooseFragment 44 = .ok (.getfield 121, 3) := by decide +kernel
theorem d_D_chooseFragment_47 : decode k_D_chooseFragment 47 = .ok (.iconst (-1), 1) := by decide +kernel
theorem d_D_chooseFragment_48 : decode k_D_chooseFragment 48 = .ok (.ixor, 1) := by decide +kernel
theorem d_D_chooseFragment_49 : decode k_D_chooseFragment 49 = .ok (.iand, 1) := by decide +kernel
theorem d_D_chooseFragment_50 : decode k_D_chooseFragment 50 = .ok (.istore_n 2, 1) := by decide +kernel
theorem d_D_chooseFragment_51 : decode k_D_chooseFragment 51 = .ok (.aload_n 0, 1) := by decide +kernel
theorem d_D_chooseFragment_52 : decode k_D_chooseFragment 52 = .ok (.getfield 124, 3) := by decide +kernel
theorem d_D_chooseFragment_55 : decode k_D_chooseFragment 55 = .ok (.aload_n 0, 1) := by decide +kernel
theorem d_D_chooseFragment_56 : decode k_D_chooseFragment 56 = .ok (.getfield 112, 3) := by decide +kernel
theorem d_D_chooseFragment_59 : decode k_D_chooseFragment 59 = .ok (.iand, 1) := by decide +kernel
theorem d_D_chooseFragment_60 : decode k_D_chooseFragment 60 = .ok (.istore 5, 2) := by decide +kernel
theorem d_D_chooseFragment_62 : decode k_D_chooseFragment 62 = .ok (.aload_n 0, 1) := by decide +kernel
theorem d_D_chooseFragment_63 : decode k_D_chooseFragment 63 = .ok (.iload 5, 2) := by decide +kernel
theorem d_D_chooseFragment_65 : decode k_D_chooseFragment 65 = .ok (.invokevirtual 127, 3) := by decide +kernel
theorem d_D_chooseFragment_68 : decode k_D_chooseFragment 68 = .ok (.istore 6, 2) := by decide +kernel
theorem d_D_chooseFragment_70 : decode k_D_chooseFragment 70 = .ok (.iload 6, 2) := by decide +kernel
theorem d_D_chooseFragment_72 : decode k_D_chooseFragment 72 = .ok (.ifCond .ne 5, 3) := by decide +kernel
theorem d_D_chooseFragment_75 : decode k_D_chooseFragment 75 = .ok (.iconst 0, 1) := by decide +kernel
theorem d_D_chooseFragment_76 : decode k_D_chooseFragment 76 = .ok (.ireturn, 1) := by decide +kernel
theorem d_D_chooseFragment_77 : decode k_D_chooseFragment 77 = .ok (.iload 6, 2) := by decide +kernel
theorem d_D_chooseFragment_79 : decode k_D_chooseFragment 79 = .ok (.iload_n 3, 1) := by decide +kernel
theorem d_D_chooseFragment_80 : decode k_D_chooseFragment 80 = .ok (.if_icmp .ge 20, 3) := by decide +kernel
theorem d_D_chooseFragment_83 : decode k_D_chooseFragment 83 = .ok (.iload 6, 2) := by decide +kernel
theorem d_D_chooseFragment_85 : decode k_D_chooseFragment 85 = .ok (.istore_n 3, 1) := by decide +kernel
theorem d_D_chooseFragment_86 : decode k_D_chooseFragment 86 = .ok (.aload_n 0, 1) := by decide +kernel
theorem d_D_chooseFragment_87 : decode k_D_chooseFragment 87 = .ok (.aload_n 0, 1) := by decide +kernel
theorem d_D_chooseFragment_88 : decode k_D_chooseFragment 88 = .ok (.getfield 121, 3) := by decide +kernel
theorem d_D_chooseFragment_91 : decode k_D_chooseFragment 91 = .ok (.putfield 130, 3) := by decide +kernel
theorem d_D_chooseFragment_94 : decode k_D_chooseFragment 94 = .ok (.aload_n 0, 1) := by decide +kernel
theorem d_D_chooseFragment_95 : decode k_D_chooseFragment 95 = .ok (.iload 5, 2) := by decide +kernel
theorem d_D_chooseFragment_97 : decode k_D_chooseFragment 97 = .ok (.putfield 91, 3) := by decide +kernel
theorem d_D_chooseFragment_100 : decode k_D_chooseFragment 100 = .ok (.iinc 4 1, 3) := by decide +kernel
theorem d_D_chooseFragment_103 : decode k_D_chooseFragment 103 = .ok (.goto (-88), 3) := by decide +kernel
theorem d_D_chooseFragment_106 : decode k_D_chooseFragment 106 = .ok (.iconst 1, 1) := by decide +kernel
theorem d_D_chooseFragment_107 : decode k_D_chooseFragment 107 = .ok (.ireturn, 1) := by decide +kernel
abbrev rm_D_chooseFragment : Room := { frames := 3, cells := 0, slots := 0, locals := 65 }
theorem hd_D_chooseFragment : y_D_chooseFragment.cls = n_D ∧ y_D_chooseFragment.cls ≠ "java/lang/invoke/MethodHandle" ∧ y_D_chooseFragment.cls ≠ "java/lang/invoke/VarHandle" ∧ (parseMethodDescriptor y_D_chooseFragment.desc).map (fun d => d.parameters.length) = some 1 := by decide +kernel
set_option maxHeartbeats 4000000 in
set_option maxRecDepth 100000 in
theorem c_D_chooseFragment (l : Launch) (dC : Nat → ClassId) (dI : Nat → Nat → Nat) (hd : Nat) (hg : Nat) (dE : Int32) (dV : Int32) (fc : Nat) (fE : Int32) (fV : Int32) (cE : Int32) (cC : Int32) (pn : Nat) (d1 : Nat) (d2 : Nat) (d3 : Nat) (d4 : Nat) (d5 : Nat) (d6 : Nat) (d7 : Nat) (d8 : Nat) (cI : ClassId) (cQ : ClassId) (eA : Nat → Int32) (nb : Nat → Int32) (WS : Nat → Int32) (n : Nat) (k : Nat) (F : Nat → Nat) (S : Nat → Nat) (w : Nat → Int32) (g1 : Nat) (g2 : Nat) (g3 : Nat) (x : Int32) (sz : Nat) (hk : k ≤ 18) (hfc : fc ≤ 18) (hgf : ∀ e, e < k → dr_gfOK F S eA nb dV e) : Met l y_D_chooseFragment (.code y_D_chooseFragment k_D_chooseFragment 7 (.some FieldType.boolean) :: gw) rm_D_chooseFragment (rwP [.ref hd, .int x] (dC, dI) [(hd, .inr (0, [.ref hg, .ref d1, .ref d2, .int dE, .int dV, .ref d3, .ref d4, .ref d5, .int (nI fc), .int fE, .int fV, .int cE, .int cC, .ref d6, .ref d7, .int (nI pn), .ref d8])), (d1, .inl (cI, 10, .inl eA)), (d2, .inl (cI, 10, .inl nb)), (d5, .inl (cI, 18, .inl WS)), (hg, .inr (1, [.int (nI n), .int (nI k), .ref g1, .ref g2, .ref g3])), (g1, .inl (cI, 18, .inl (fun i9 => nI (F i9)))), (g2, .inl (cI, 18, .inl (fun i9 => nI (S i9)))), (g3, .inl (cI, 18, .inl w))] [(cI, .int)] sz) (va_Qi (fun (r : Int32) (_ : Unit) => r = bI (dr_ch k F S eA nb WS dE dV fc x fE fV cE cC).2.2.2.2.2.2) (rwB (dC, dI) [(hd, .inr (0, [.ref hg, .ref d1, .ref d2, .int dE, .int dV, .ref d3, .ref d4, .ref d5, .int (nI fc), .int ((dr_ch k F S eA nb WS dE dV fc x fE fV cE cC).2.2.1), .int ((dr_ch k F S eA nb WS dE dV fc x fE fV cE cC).2.2.2.1), .int ((dr_ch k F S eA nb WS dE dV fc x fE fV cE cC).2.2.2.2.1), .int ((dr_ch k F S eA nb WS dE dV fc x fE fV cE cC).2.2.2.2.2.1), .ref d6, .ref d7, .int (nI pn), .ref d8])), (d1, .inl (cI, 10, .inl eA)), (d2, .inl (cI, 10, .inl nb)), (d5, .inl (cI, 18, .inl WS)), (hg, .inr (1, [.int (nI n), .int (nI k), .ref g1, .ref g2, .ref g3])), (g1, .inl (cI, 18, .inl (fun i9 => nI (F i9)))), (g2, .inl (cI, 18, .inl (fun i9 => nI (S i9)))), (g3, .inl (cI, 18, .inl w))] [(cI, .int)] (va_A [(hd, .inr (0, [.ref hg, .ref d1, .ref d2, .int dE, .int dV, .ref d3, .ref d4, .ref d5, .int (nI fc), .int fE, .int fV, .int cE, .int cC, .ref d6, .ref d7, .int (nI pn), .ref d8])), (d1, .inl (cI, 10, .inl eA)), (d2, .inl (cI, 10, .inl nb)), (d5, .inl (cI, 18, .inl WS)), (hg, .inr (1, [.int (nI n), .int (nI k), .ref g1, .ref g2, .ref g3])), (g1, .inl (cI, 18, .inl (fun i9 => nI (F i9)))), (g2, .inl (cI, 18, .inl (fun i9 => nI (S i9)))), (g3, .inl (cI, 18, .inl w))] sz)) (va_A [(hd, .inr (0, [.ref hg, .ref d1, .ref d2, .int dE, .int dV, .ref d3, .ref d4, .ref d5, .int (nI fc), .int fE, .int fV, .int cE, .int cC, .ref d6, .ref d7, .int (nI pn), .ref d8])), (d1, .inl (cI, 10, .inl eA)), (d2, .inl (cI, 10, .inl nb)), (d5, .inl (cI, 18, .inl WS)), (hg, .inr (1, [.int (nI n), .int (nI k), .ref g1, .ref g2, .ref g3])), (g1, .inl (cI, 18, .inl (fun i9 => nI (F i9)))), (g2, .inl (cI, 18, .inl (fun i9 => nI (S i9)))), (g3, .inl (cI, 18, .inl w))] sz)) 0 0 (va_A [(hd, .inr (0, [.ref hg, .ref d1, .ref d2, .int dE, .int dV, .ref d3, .ref d4, .ref d5, .int (nI fc), .int fE, .int fV, .int cE, .int cC, .ref d6, .ref d7, .int (nI pn), .ref d8])), (d1, .inl (cI, 10, .inl eA)), (d2, .inl (cI, 10, .inl nb)), (d5, .inl (cI, 18, .inl WS)), (hg, .inr (1, [.int (nI n), .int (nI k), .ref g1, .ref g2, .ref g3])), (g1, .inl (cI, 18, .inl (fun i9 => nI (F i9)))), (g2, .inl (cI, 18, .inl (fun i9 => nI (S i9)))), (g3, .inl (cI, 18, .inl w))] sz) := by
  refine rw_metI (by decide) ⟨rfl, rfl⟩ (bI_nar _) (Nat.le_of_ble_eq_true rfl) ?_
  intro p e s m args below meth c Q A ls Sx hP hK hD hA hl hret
  have hx := Sx.1
  have hb := Sx.2.1
  have hl : lv_has ls 7 [(0, .ref hd), (1, .int x)] := hl
  have hS : va_S A s.heap s.heap [] := va_S.rf
  obtain ⟨H, hH⟩ : ∃ H, H = s.heap := ⟨_, rfl⟩
  obtain ⟨locs, hlo⟩ : ∃ locs : List Loc, locs = [] := ⟨_, rfl⟩
  rw [← hlo]
  rw [← hlo] at hS
  have hP : va_P (dC, dI) pcl [(hd, .inr (0, [.ref hg, .ref d1, .ref d2, .int dE, .int dV, .ref d3, .ref d4, .ref d5, .int (nI fc), .int fE, .int fV, .int cE, .int cC, .ref d6, .ref d7, .int (nI pn), .ref d8])), (d1, .inl (cI, 10, .inl eA)), (d2, .inl (cI, 10, .inl nb)), (d5, .inl (cI, 18, .inl WS)), (hg, .inr (1, [.int (nI n), .int (nI k), .ref g1, .ref g2, .ref g3])), (g1, .inl (cI, 18, .inl (fun i9 => nI (F i9)))), (g2, .inl (cI, 18, .inl (fun i9 => nI (S i9)))), (g3, .inl (cI, 18, .inl w))] H := by rw [hH]; exact hP
  have hS : va_S A s.heap H locs := by rw [hH]; exact hS
  suffices hgo : W p l e rm_D_chooseFragment s m args below meth c H locs 0 0 Q (F0 m 0 ls []) by rw [hH] at hgo; exact hgo
  refine lv_iload_n hx hb d_D_chooseFragment_0 rfl (lv_at hl 1 rfl) ?_
  refine lv_aload_n hx hb d_D_chooseFragment_1 rfl (lv_at hl 0 rfl) ?_
  refine g_get Sx gf_D hK hP 0 rfl rfl 3 (by decide) gm_134 rfl d_D_chooseFragment_2 ?_
  refine lv_iconst (v := (-1 : Int32)) hx hb d_D_chooseFragment_5 (by decide) ?_
  refine lv_ixor hx hb d_D_chooseFragment_6 ?_
  refine lv_iand hx hb d_D_chooseFragment_7 ?_
  refine lv_istore_n hx hb d_D_chooseFragment_8 rfl hl (Nat.le_of_ble_eq_true rfl) rfl (fun ls hl => ?_)
  have hl : lv_has ls 7 [(2, .int (x &&& (dE ^^^ (-1 : Int32)))), (0, .ref hd), (1, .int x)] := hl
  refine lv_bipush (v := 19) hx hb d_D_chooseFragment_9 (by decide) ?_
  refine lv_istore_n hx hb d_D_chooseFragment_11 rfl hl (Nat.le_of_ble_eq_true rfl) rfl (fun ls hl => ?_)
  have hl : lv_has ls 7 [(3, .int 19), (2, .int (x &&& (dE ^^^ (-1 : Int32)))), (0, .ref hd), (1, .int x)] := hl
  refine lv_iconst (v := nI 0) hx hb d_D_chooseFragment_12 (by decide) ?_
  refine lv_istore hx hb d_D_chooseFragment_13 hl (Nat.le_of_ble_eq_true rfl) rfl (fun ls hl => ?_)
  have hl : lv_has ls 7 [(4, .int (nI 0)), (3, .int 19), (2, .int (x &&& (dE ^^^ (-1 : Int32)))), (0, .ref hd), (1, .int x)] := hl
  have hL15 : ∀ (kk i : Nat), i + kk = k → ∀ (lf1 : Int32) (fw1 : Int32) (fE1 : Int32) (fV1 : Int32) (cE1 : Int32) (cC1 : Int32) (H : Heap) (locs : List Loc) (ls : Array Slot), (lf1, fw1, fE1, fV1, cE1, cC1, true) = fo (dr_c1 F S eA nb WS dV fc) i ((x &&& (dE ^^^ (-1 : Int32))), 19, fE, fV, cE, cC, true) → va_P (dC, dI) pcl [(hd, .inr (0, [.ref hg, .ref d1, .ref d2, .int dE, .int dV, .ref d3, .ref d4, .ref d5, .int (nI fc), .int fE1, .int fV1, .int cE1, .int cC1, .ref d6, .ref d7, .int (nI pn), .ref d8])), (d1, .inl (cI, 10, .inl eA)), (d2, .inl (cI, 10, .inl nb)), (d5, .inl (cI, 18, .inl WS)), (hg, .inr (1, [.int (nI n), .int (nI k), .ref g1, .ref g2, .ref g3])), (g1, .inl (cI, 18, .inl (fun i9 => nI (F i9)))), (g2, .inl (cI, 18, .inl (fun i9 => nI (S i9)))), (g3, .inl (cI, 18, .inl w))] H → va_D A [(hd, .inr (0, [.ref hg, .ref d1, .ref d2, .int dE, .int dV, .ref d3, .ref d4, .ref d5, .int (nI fc), .int fE1, .int fV1, .int cE1, .int cC1, .ref d6, .ref d7, .int (nI pn), .ref d8])), (d1, .inl (cI, 10, .inl eA)), (d2, .inl (cI, 10, .inl nb)), (d5, .inl (cI, 18, .inl WS)), (hg, .inr (1, [.int (nI n), .int (nI k), .ref g1, .ref g2, .ref g3])), (g1, .inl (cI, 18, .inl (fun i9 => nI (F i9)))), (g2, .inl (cI, 18, .inl (fun i9 => nI (S i9)))), (g3, .inl (cI, 18, .inl w))] → va_S A s.heap H locs → lv_has ls 7 [(4, .int (nI i)), (3, .int fw1), (2, .int lf1), (0, .ref hd), (1, .int x)] → W p l e rm_D_chooseFragment s m args below meth c H locs 0 0 Q (F0 m 15 ls []) := by
    intro kk
    induction kk with
    | zero =>
      intro i hi15 lf1 fw1 fE1 fV1 cE1 cC1 H locs ls he15 hP hD hS hl
      have hj15 : i = k := by omega
      rw [hj15] at hl he15
      have e_lf1 : lf1 = (fo (dr_c1 F S eA nb WS dV fc) k ((x &&& (dE ^^^ (-1 : Int32))), 19, fE, fV, cE, cC, true)).1 := by rw [← he15]
      subst e_lf1
      have e_fw1 : fw1 = (fo (dr_c1 F S eA nb WS dV fc) k ((x &&& (dE ^^^ (-1 : Int32))), 19, fE, fV, cE, cC, true)).2.1 := by rw [← he15]
      subst e_fw1
      have e_fE1 : fE1 = (fo (dr_c1 F S eA nb WS dV fc) k ((x &&& (dE ^^^ (-1 : Int32))), 19, fE, fV, cE, cC, true)).2.2.1 := by rw [← he15]
      subst e_fE1
      have e_fV1 : fV1 = (fo (dr_c1 F S eA nb WS dV fc) k ((x &&& (dE ^^^ (-1 : Int32))), 19, fE, fV, cE, cC, true)).2.2.2.1 := by rw [← he15]
      subst e_fV1
      have e_cE1 : cE1 = (fo (dr_c1 F S eA nb WS dV fc) k ((x &&& (dE ^^^ (-1 : Int32))), 19, fE, fV, cE, cC, true)).2.2.2.2.1 := by rw [← he15]
      subst e_cE1
      have e_cC1 : cC1 = (fo (dr_c1 F S eA nb WS dV fc) k ((x &&& (dE ^^^ (-1 : Int32))), 19, fE, fV, cE, cC, true)).2.2.2.2.2.1 := by rw [← he15]
      subst e_cC1
      have hl : lv_has ls 7 [(4, .int (nI k)), (3, .int ((fo (dr_c1 F S eA nb WS dV fc) k ((x &&& (dE ^^^ (-1 : Int32))), 19, fE, fV, cE, cC, true)).2.1)), (2, .int ((fo (dr_c1 F S eA nb WS dV fc) k ((x &&& (dE ^^^ (-1 : Int32))), 19, fE, fV, cE, cC, true)).1)), (0, .ref hd), (1, .int x)] := hl
      have hP : va_P (dC, dI) pcl [(hd, .inr (0, [.ref hg, .ref d1, .ref d2, .int dE, .int dV, .ref d3, .ref d4, .ref d5, .int (nI fc), .int ((fo (dr_c1 F S eA nb WS dV fc) k ((x &&& (dE ^^^ (-1 : Int32))), 19, fE, fV, cE, cC, true)).2.2.1), .int ((fo (dr_c1 F S eA nb WS dV fc) k ((x &&& (dE ^^^ (-1 : Int32))), 19, fE, fV, cE, cC, true)).2.2.2.1), .int ((fo (dr_c1 F S eA nb WS dV fc) k ((x &&& (dE ^^^ (-1 : Int32))), 19, fE, fV, cE, cC, true)).2.2.2.2.1), .int ((fo (dr_c1 F S eA nb WS dV fc) k ((x &&& (dE ^^^ (-1 : Int32))), 19, fE, fV, cE, cC, true)).2.2.2.2.2.1), .ref d6, .ref d7, .int (nI pn), .ref d8])), (d1, .inl (cI, 10, .inl eA)), (d2, .inl (cI, 10, .inl nb)), (d5, .inl (cI, 18, .inl WS)), (hg, .inr (1, [.int (nI n), .int (nI k), .ref g1, .ref g2, .ref g3])), (g1, .inl (cI, 18, .inl (fun i9 => nI (F i9)))), (g2, .inl (cI, 18, .inl (fun i9 => nI (S i9)))), (g3, .inl (cI, 18, .inl w))] H := hP
      have hD : va_D A [(hd, .inr (0, [.ref hg, .ref d1, .ref d2, .int dE, .int dV, .ref d3, .ref d4, .ref d5, .int (nI fc), .int ((fo (dr_c1 F S eA nb WS dV fc) k ((x &&& (dE ^^^ (-1 : Int32))), 19, fE, fV, cE, cC, true)).2.2.1), .int ((fo (dr_c1 F S eA nb WS dV fc) k ((x &&& (dE ^^^ (-1 : Int32))), 19, fE, fV, cE, cC, true)).2.2.2.1), .int ((fo (dr_c1 F S eA nb WS dV fc) k ((x &&& (dE ^^^ (-1 : Int32))), 19, fE, fV, cE, cC, true)).2.2.2.2.1), .int ((fo (dr_c1 F S eA nb WS dV fc) k ((x &&& (dE ^^^ (-1 : Int32))), 19, fE, fV, cE, cC, true)).2.2.2.2.2.1), .ref d6, .ref d7, .int (nI pn), .ref d8])), (d1, .inl (cI, 10, .inl eA)), (d2, .inl (cI, 10, .inl nb)), (d5, .inl (cI, 18, .inl WS)), (hg, .inr (1, [.int (nI n), .int (nI k), .ref g1, .ref g2, .ref g3])), (g1, .inl (cI, 18, .inl (fun i9 => nI (F i9)))), (g2, .inl (cI, 18, .inl (fun i9 => nI (S i9)))), (g3, .inl (cI, 18, .inl w))] := hD
      refine lv_iload hx hb d_D_chooseFragment_15 (lv_at hl 0 rfl) ?_
      refine lv_aload_n hx hb d_D_chooseFragment_17 rfl (lv_at hl 3 rfl) ?_
      refine g_get Sx gf_D hK hP 0 rfl rfl 0 (by decide) gm_131 rfl d_D_chooseFragment_18 ?_
      refine g_get Sx gf_G hK hP 4 rfl rfl 1 (by decide) gm_78 rfl d_D_chooseFragment_21 ?_
      refine lv_icmp_ge hx hb d_D_chooseFragment_24 (tgt := 106) rfl (fun q1 => ?_) (fun q1 => ?_)
      · have q1 : k ≤ k := nq_le (by omega) (by omega) q1
        refine lv_iconst (v := 1) hx hb d_D_chooseFragment_106 (by decide) ?_
        have hok : (fo (dr_c1 F S eA nb WS dV fc) k ((x &&& (dE ^^^ (-1 : Int32))), 19, fE, fV, cE, cC, true)).2.2.2.2.2.2 = true := congrArg (fun s => s.2.2.2.2.2.2) he15.symm
        unfold dr_ch at hret
        rw [hok] at hret
        exact hret _ H locs _ d_D_chooseFragment_107 hP hD hS
      · have q1 : k < k := nq_nle (by omega) (by omega) q1
        exact absurd q1 (by omega)
    | succ kk ih15 =>
      intro i hi15 lf1 fw1 fE1 fV1 cE1 cC1 H locs ls he15 hP hD hS hl
      refine lv_iload hx hb d_D_chooseFragment_15 (lv_at hl 0 rfl) ?_
      refine lv_aload_n hx hb d_D_chooseFragment_17 rfl (lv_at hl 3 rfl) ?_
      refine g_get Sx gf_D hK hP 0 rfl rfl 0 (by decide) gm_131 rfl d_D_chooseFragment_18 ?_
      refine g_get Sx gf_G hK hP 4 rfl rfl 1 (by decide) gm_78 rfl d_D_chooseFragment_21 ?_
      refine lv_icmp_ge hx hb d_D_chooseFragment_24 (tgt := 106) rfl (fun q2 => ?_) (fun q2 => ?_)
      · have q2 : k ≤ i := nq_le (by omega) (by omega) q2
        exact absurd q2 (by omega)
      · have q2 : i < k := nq_nle (by omega) (by omega) q2
        refine lv_iload_n hx hb d_D_chooseFragment_27 rfl (lv_at hl 2 rfl) ?_
        refine lv_iload hx hb d_D_chooseFragment_28 (lv_at hl 0 rfl) ?_
        refine ro_S (As := [.int lf1, .int (nI i)]) (rest := []) Sx (c_B_has l dC dI lf1 (nI i)) (gw_callS gm_297 gm_250 gm_57 gm_251) hd_B_has ⟨rfl, rfl⟩ ⟨Nat.le_of_ble_eq_true rfl, Nat.le_of_ble_eq_true rfl⟩ (va_P_map hP [] rfl) (hK.sub (tys' := []) [] rfl) rfl hl.1 rfl (Nat.le_of_ble_eq_true rfl) d_D_chooseFragment_30 ⟨Nat.zero_le _, Nat.zero_le _⟩ ?_
        refine lv_if_eq hx hb d_D_chooseFragment_33 (tgt := 100) rfl (fun q3 => ?_) (fun q3 => ?_)
        · have q3 : (ps_has lf1 (nI i)) = false := bI_0.mp q3
          refine lv_iinc (k := 0) (v := nI (i + 1)) hx hb d_D_chooseFragment_100 hl rfl (inc_nI _) (Nat.le_of_ble_eq_true rfl) rfl (fun ls hl => ?_)
          have hl : lv_has ls 7 [(4, .int (nI (i + 1))), (3, .int fw1), (2, .int lf1), (0, .ref hd), (1, .int x)] := hl
          refine lv_goto hx hb d_D_chooseFragment_103 (tgt := 15) rfl ?_
          have he2 : (lf1, fw1, fE1, fV1, cE1, cC1, true) = fo (dr_c1 F S eA nb WS dV fc) (i + 1) ((x &&& (dE ^^^ (-1 : Int32))), 19, fE, fV, cE, cC, true) := by
            rw [fo_s, ← he15]
            simp [dr_c1, q2, q3]
          exact ih15 (i + 1) (by omega) lf1 fw1 fE1 fV1 cE1 cC1 H locs ls he2 hP hD hS (lv_sub hl [0, 1, 2, 3, 4] rfl)
        · have q3 : (ps_has lf1 (nI i)) = true := bI_1.mp q3
          refine lv_aload_n hx hb d_D_chooseFragment_36 rfl (lv_at hl 3 rfl) ?_
          refine lv_iload hx hb d_D_chooseFragment_37 (lv_at hl 0 rfl) ?_
          refine rw_V (As := [.int (nI i)]) (rest := []) (wr := [(d5, .inl (cI, 18, .inl WS))]) Sx (c_D_gatherFragment l dC dI hd hg dE dV fc fE1 fV1 cE1 cC1 pn d1 d2 d3 d4 d5 d6 d7 d8 cI cQ eA nb n k F S w g1 g2 g3 i H.size (by omega) (hgf _ (by omega))) (gw_callV gm_318 gm_319 gm_10 gm_54 gm_320) hd_D_gatherFragment ⟨rfl, rfl⟩ ⟨Nat.le_of_ble_eq_true rfl, Nat.le_of_ble_eq_true rfl⟩ hP hD hS hA (hK.sub (tys' := [(cI, .int)]) [0] rfl) [0, 1, 2, 4, 5, 6, 7] [3] rfl rfl (by decide) (by decide) (by decide) rfl 0 rfl rfl hl.1 rfl (Nat.le_of_ble_eq_true rfl) d_D_chooseFragment_39 ⟨Nat.zero_le _, Nat.zero_le _⟩ (fun H locs hP hD hS => ?_)
          have hP : va_P (dC, dI) pcl [(d5, .inl (cI, 18, .inl WS)), (hd, .inr (0, [.ref hg, .ref d1, .ref d2, .int dE, .int dV, .ref d3, .ref d4, .ref d5, .int (nI fc), .int ((dr_gf F S eA nb dV i).2.2.2.1), .int ((dr_gf F S eA nb dV i).2.2.2.2), .int cE1, .int cC1, .ref d6, .ref d7, .int (nI pn), .ref d8])), (d1, .inl (cI, 10, .inl eA)), (d2, .inl (cI, 10, .inl nb)), (hg, .inr (1, [.int (nI n), .int (nI k), .ref g1, .ref g2, .ref g3])), (g1, .inl (cI, 18, .inl (fun i9 => nI (F i9)))), (g2, .inl (cI, 18, .inl (fun i9 => nI (S i9)))), (g3, .inl (cI, 18, .inl w))] H := hP
          have hD : va_D A [(d5, .inl (cI, 18, .inl WS)), (hd, .inr (0, [.ref hg, .ref d1, .ref d2, .int dE, .int dV, .ref d3, .ref d4, .ref d5, .int (nI fc), .int ((dr_gf F S eA nb dV i).2.2.2.1), .int ((dr_gf F S eA nb dV i).2.2.2.2), .int cE1, .int cC1, .ref d6, .ref d7, .int (nI pn), .ref d8])), (d1, .inl (cI, 10, .inl eA)), (d2, .inl (cI, 10, .inl nb)), (hg, .inr (1, [.int (nI n), .int (nI k), .ref g1, .ref g2, .ref g3])), (g1, .inl (cI, 18, .inl (fun i9 => nI (F i9)))), (g2, .inl (cI, 18, .inl (fun i9 => nI (S i9)))), (g3, .inl (cI, 18, .inl w))] := hD
          refine lv_iload_n hx hb d_D_chooseFragment_42 rfl (lv_at hl 2 rfl) ?_
          refine lv_aload_n hx hb d_D_chooseFragment_43 rfl (lv_at hl 3 rfl) ?_
          refine g_get Sx gf_D hK hP 1 rfl rfl 9 (by decide) gm_140 rfl d_D_chooseFragment_44 ?_
          refine lv_iconst (v := (-1 : Int32)) hx hb d_D_chooseFragment_47 (by decide) ?_
          refine lv_ixor hx hb d_D_chooseFragment_48 ?_
          refine lv_iand hx hb d_D_chooseFragment_49 ?_
          refine lv_istore_n hx hb d_D_chooseFragment_50 rfl hl (Nat.le_of_ble_eq_true rfl) rfl (fun ls hl => ?_)
          have hl : lv_has ls 7 [(2, .int (lf1 &&& (((dr_gf F S eA nb dV i).2.2.2.1) ^^^ (-1 : Int32)))), (4, .int (nI i)), (3, .int fw1), (0, .ref hd), (1, .int x)] := hl
          refine lv_aload_n hx hb d_D_chooseFragment_51 rfl (lv_at hl 3 rfl) ?_
          refine g_get Sx gf_D hK hP 1 rfl rfl 10 (by decide) gm_141 rfl d_D_chooseFragment_52 ?_
          refine lv_aload_n hx hb d_D_chooseFragment_55 rfl (lv_at hl 3 rfl) ?_
          refine g_get Sx gf_D hK hP 1 rfl rfl 4 (by decide) gm_135 rfl d_D_chooseFragment_56 ?_
          refine lv_iand hx hb d_D_chooseFragment_59 ?_
          refine lv_istore hx hb d_D_chooseFragment_60 hl (Nat.le_of_ble_eq_true rfl) rfl (fun ls hl => ?_)
          have hl : lv_has ls 7 [(5, .int (((dr_gf F S eA nb dV i).2.2.2.2) &&& dV)), (2, .int (lf1 &&& (((dr_gf F S eA nb dV i).2.2.2.1) ^^^ (-1 : Int32)))), (4, .int (nI i)), (3, .int fw1), (0, .ref hd), (1, .int x)] := hl
          refine lv_aload_n hx hb d_D_chooseFragment_62 rfl (lv_at hl 4 rfl) ?_
          refine lv_iload hx hb d_D_chooseFragment_63 (lv_at hl 0 rfl) ?_
          refine ro_V (As := [.int (((dr_gf F S eA nb dV i).2.2.2.2) &&& dV)]) (rest := []) Sx (c_D_countFacesWith l dC dI hd hg dE dV fc ((dr_gf F S eA nb dV i).2.2.2.1) ((dr_gf F S eA nb dV i).2.2.2.2) cE1 cC1 pn d1 d2 d3 d4 d5 d6 d7 d8 cI cQ WS (((dr_gf F S eA nb dV i).2.2.2.2) &&& dV) hfc) (gw_callV gm_321 gm_322 gm_11 gm_54 gm_323) hd_D_countFacesWith ⟨rfl, rfl⟩ ⟨Nat.le_of_ble_eq_true rfl, Nat.le_of_ble_eq_true rfl⟩ (va_P_map hP [1, 0] rfl) (hK.sub (tys' := [(cI, .int)]) [0] rfl) rfl 0 rfl rfl hl.1 rfl (Nat.le_of_ble_eq_true rfl) d_D_chooseFragment_65 ⟨Nat.zero_le _, Nat.zero_le _⟩ ?_
          refine lv_istore hx hb d_D_chooseFragment_68 hl (Nat.le_of_ble_eq_true rfl) rfl (fun ls hl => ?_)
          have hl : lv_has ls 7 [(6, .int (fo (dr_cf WS (((dr_gf F S eA nb dV i).2.2.2.2) &&& dV)) fc 0)), (5, .int (((dr_gf F S eA nb dV i).2.2.2.2) &&& dV)), (2, .int (lf1 &&& (((dr_gf F S eA nb dV i).2.2.2.1) ^^^ (-1 : Int32)))), (4, .int (nI i)), (3, .int fw1), (0, .ref hd), (1, .int x)] := hl
          refine lv_iload hx hb d_D_chooseFragment_70 (lv_at hl 0 rfl) ?_
          refine lv_if_ne hx hb d_D_chooseFragment_72 (tgt := 77) rfl (fun q4 => ?_) (fun q4 => ?_)
          · skip
            refine lv_iload hx hb d_D_chooseFragment_77 (lv_at hl 0 rfl) ?_
            refine lv_iload_n hx hb d_D_chooseFragment_79 rfl (lv_at hl 4 rfl) ?_
            refine lv_icmp_ge hx hb d_D_chooseFragment_80 (tgt := 100) rfl (fun q5 => ?_) (fun q5 => ?_)
            · skip
              refine lv_iinc (k := 3) (v := nI (i + 1)) hx hb d_D_chooseFragment_100 hl rfl (inc_nI _) (Nat.le_of_ble_eq_true rfl) rfl (fun ls hl => ?_)
              have hl : lv_has ls 7 [(4, .int (nI (i + 1))), (6, .int (fo (dr_cf WS (((dr_gf F S eA nb dV i).2.2.2.2) &&& dV)) fc 0)), (5, .int (((dr_gf F S eA nb dV i).2.2.2.2) &&& dV)), (2, .int (lf1 &&& (((dr_gf F S eA nb dV i).2.2.2.1) ^^^ (-1 : Int32)))), (3, .int fw1), (0, .ref hd), (1, .int x)] := hl
              refine lv_goto hx hb d_D_chooseFragment_103 (tgt := 15) rfl ?_
              have he2 : ((lf1 &&& (((dr_gf F S eA nb dV i).2.2.2.1) ^^^ (-1 : Int32))), fw1, (dr_gf F S eA nb dV i).2.2.2.1, (dr_gf F S eA nb dV i).2.2.2.2, cE1, cC1, true) = fo (dr_c1 F S eA nb WS dV fc) (i + 1) ((x &&& (dE ^^^ (-1 : Int32))), 19, fE, fV, cE, cC, true) := by
                rw [fo_s, ← he15]
                simp [dr_c1, q2, q3, q4, q5]
              exact ih15 (i + 1) (by omega) (lf1 &&& (((dr_gf F S eA nb dV i).2.2.2.1) ^^^ (-1 : Int32))) fw1 ((dr_gf F S eA nb dV i).2.2.2.1) ((dr_gf F S eA nb dV i).2.2.2.2) cE1 cC1 H locs ls he2 (va_P_map hP [1, 2, 3, 0, 4, 5, 6, 7] rfl) (hD.sub [1, 2, 3, 0, 4, 5, 6, 7] (by decide) rfl) hS (lv_sub hl [0, 4, 3, 5, 6] rfl)
            · skip
              refine lv_iload hx hb d_D_chooseFragment_83 (lv_at hl 0 rfl) ?_
              refine lv_istore_n hx hb d_D_chooseFragment_85 rfl hl (Nat.le_of_ble_eq_true rfl) rfl (fun ls hl => ?_)
              have hl : lv_has ls 7 [(3, .int (fo (dr_cf WS (((dr_gf F S eA nb dV i).2.2.2.2) &&& dV)) fc 0)), (6, .int (fo (dr_cf WS (((dr_gf F S eA nb dV i).2.2.2.2) &&& dV)) fc 0)), (5, .int (((dr_gf F S eA nb dV i).2.2.2.2) &&& dV)), (2, .int (lf1 &&& (((dr_gf F S eA nb dV i).2.2.2.1) ^^^ (-1 : Int32)))), (4, .int (nI i)), (0, .ref hd), (1, .int x)] := hl
              refine lv_aload_n hx hb d_D_chooseFragment_86 rfl (lv_at hl 5 rfl) ?_
              refine lv_aload_n hx hb d_D_chooseFragment_87 rfl (lv_at hl 5 rfl) ?_
              refine g_get Sx gf_D hK hP 1 rfl rfl 9 (by decide) gm_140 rfl d_D_chooseFragment_88 ?_
              refine g_put Sx gf_D fk_D fn_D hK hP hD hS 1 rfl rfl 11 (by decide) gm_142 rfl rfl rfl (Nat.le_of_ble_eq_true rfl) d_D_chooseFragment_91 (fun H locs hP hD hS => ?_)
              have hP : va_P (dC, dI) pcl [(d5, .inl (cI, 18, .inl WS)), (hd, .inr (0, [.ref hg, .ref d1, .ref d2, .int dE, .int dV, .ref d3, .ref d4, .ref d5, .int (nI fc), .int ((dr_gf F S eA nb dV i).2.2.2.1), .int ((dr_gf F S eA nb dV i).2.2.2.2), .int ((dr_gf F S eA nb dV i).2.2.2.1), .int cC1, .ref d6, .ref d7, .int (nI pn), .ref d8])), (d1, .inl (cI, 10, .inl eA)), (d2, .inl (cI, 10, .inl nb)), (hg, .inr (1, [.int (nI n), .int (nI k), .ref g1, .ref g2, .ref g3])), (g1, .inl (cI, 18, .inl (fun i9 => nI (F i9)))), (g2, .inl (cI, 18, .inl (fun i9 => nI (S i9)))), (g3, .inl (cI, 18, .inl w))] H := hP
              have hD : va_D A [(d5, .inl (cI, 18, .inl WS)), (hd, .inr (0, [.ref hg, .ref d1, .ref d2, .int dE, .int dV, .ref d3, .ref d4, .ref d5, .int (nI fc), .int ((dr_gf F S eA nb dV i).2.2.2.1), .int ((dr_gf F S eA nb dV i).2.2.2.2), .int ((dr_gf F S eA nb dV i).2.2.2.1), .int cC1, .ref d6, .ref d7, .int (nI pn), .ref d8])), (d1, .inl (cI, 10, .inl eA)), (d2, .inl (cI, 10, .inl nb)), (hg, .inr (1, [.int (nI n), .int (nI k), .ref g1, .ref g2, .ref g3])), (g1, .inl (cI, 18, .inl (fun i9 => nI (F i9)))), (g2, .inl (cI, 18, .inl (fun i9 => nI (S i9)))), (g3, .inl (cI, 18, .inl w))] := hD
              refine lv_aload_n hx hb d_D_chooseFragment_94 rfl (lv_at hl 5 rfl) ?_
              refine lv_iload hx hb d_D_chooseFragment_95 (lv_at hl 2 rfl) ?_
              refine g_put Sx gf_D fk_D fn_D hK hP hD hS 1 rfl rfl 12 (by decide) gm_143 rfl rfl rfl (Nat.le_of_ble_eq_true rfl) d_D_chooseFragment_97 (fun H locs hP hD hS => ?_)
              have hP : va_P (dC, dI) pcl [(d5, .inl (cI, 18, .inl WS)), (hd, .inr (0, [.ref hg, .ref d1, .ref d2, .int dE, .int dV, .ref d3, .ref d4, .ref d5, .int (nI fc), .int ((dr_gf F S eA nb dV i).2.2.2.1), .int ((dr_gf F S eA nb dV i).2.2.2.2), .int ((dr_gf F S eA nb dV i).2.2.2.1), .int (((dr_gf F S eA nb dV i).2.2.2.2) &&& dV), .ref d6, .ref d7, .int (nI pn), .ref d8])), (d1, .inl (cI, 10, .inl eA)), (d2, .inl (cI, 10, .inl nb)), (hg, .inr (1, [.int (nI n), .int (nI k), .ref g1, .ref g2, .ref g3])), (g1, .inl (cI, 18, .inl (fun i9 => nI (F i9)))), (g2, .inl (cI, 18, .inl (fun i9 => nI (S i9)))), (g3, .inl (cI, 18, .inl w))] H := hP
              have hD : va_D A [(d5, .inl (cI, 18, .inl WS)), (hd, .inr (0, [.ref hg, .ref d1, .ref d2, .int dE, .int dV, .ref d3, .ref d4, .ref d5, .int (nI fc), .int ((dr_gf F S eA nb dV i).2.2.2.1), .int ((dr_gf F S eA nb dV i).2.2.2.2), .int ((dr_gf F S eA nb dV i).2.2.2.1), .int (((dr_gf F S eA nb dV i).2.2.2.2) &&& dV), .ref d6, .ref d7, .int (nI pn), .ref d8])), (d1, .inl (cI, 10, .inl eA)), (d2, .inl (cI, 10, .inl nb)), (hg, .inr (1, [.int (nI n), .int (nI k), .ref g1, .ref g2, .ref g3])), (g1, .inl (cI, 18, .inl (fun i9 => nI (F i9)))), (g2, .inl (cI, 18, .inl (fun i9 => nI (S i9)))), (g3, .inl (cI, 18, .inl w))] := hD
              refine lv_iinc (k := 4) (v := nI (i + 1)) hx hb d_D_chooseFragment_100 hl rfl (inc_nI _) (Nat.le_of_ble_eq_true rfl) rfl (fun ls hl => ?_)
              have hl : lv_has ls 7 [(4, .int (nI (i + 1))), (3, .int (fo (dr_cf WS (((dr_gf F S eA nb dV i).2.2.2.2) &&& dV)) fc 0)), (6, .int (fo (dr_cf WS (((dr_gf F S eA nb dV i).2.2.2.2) &&& dV)) fc 0)), (5, .int (((dr_gf F S eA nb dV i).2.2.2.2) &&& dV)), (2, .int (lf1 &&& (((dr_gf F S eA nb dV i).2.2.2.1) ^^^ (-1 : Int32)))), (0, .ref hd), (1, .int x)] := hl
              refine lv_goto hx hb d_D_chooseFragment_103 (tgt := 15) rfl ?_
              have he2 : ((lf1 &&& (((dr_gf F S eA nb dV i).2.2.2.1) ^^^ (-1 : Int32))), fo (dr_cf WS (((dr_gf F S eA nb dV i).2.2.2.2) &&& dV)) fc 0, (dr_gf F S eA nb dV i).2.2.2.1, (dr_gf F S eA nb dV i).2.2.2.2, (dr_gf F S eA nb dV i).2.2.2.1, (((dr_gf F S eA nb dV i).2.2.2.2) &&& dV), true) = fo (dr_c1 F S eA nb WS dV fc) (i + 1) ((x &&& (dE ^^^ (-1 : Int32))), 19, fE, fV, cE, cC, true) := by
                rw [fo_s, ← he15]
                simp [dr_c1, q2, q3, q4, q5]
              exact ih15 (i + 1) (by omega) (lf1 &&& (((dr_gf F S eA nb dV i).2.2.2.1) ^^^ (-1 : Int32))) (fo (dr_cf WS (((dr_gf F S eA nb dV i).2.2.2.2) &&& dV)) fc 0) ((dr_gf F S eA nb dV i).2.2.2.1) ((dr_gf F S eA nb dV i).2.2.2.2) ((dr_gf F S eA nb dV i).2.2.2.1) (((dr_gf F S eA nb dV i).2.2.2.2) &&& dV) H locs ls he2 (va_P_map hP [1, 2, 3, 0, 4, 5, 6, 7] rfl) (hD.sub [1, 2, 3, 0, 4, 5, 6, 7] (by decide) rfl) hS (lv_sub hl [0, 1, 4, 5, 6] rfl)
          · skip
            refine lv_iconst (v := 0) hx hb d_D_chooseFragment_75 (by decide) ?_
            have he9 : ((lf1 &&& (((dr_gf F S eA nb dV i).2.2.2.1) ^^^ (-1 : Int32))), fw1, (dr_gf F S eA nb dV i).2.2.2.1, (dr_gf F S eA nb dV i).2.2.2.2, cE1, cC1, false) = fo (dr_c1 F S eA nb WS dV fc) (i + 1) ((x &&& (dE ^^^ (-1 : Int32))), 19, fE, fV, cE, cC, true) := by
              rw [fo_s, ← he15]
              simp [dr_c1, q2, q3, q4]
            unfold dr_ch at hret
            rw [fo_stop (fun s => s.2.2.2.2.2.2) (fun j s h => by have h : s.2.2.2.2.2.2 = false := h; simp [dr_c1, h]) he9.symm rfl k (by omega)] at hret
            exact hret _ H locs _ d_D_chooseFragment_76 (va_P_map hP [1, 2, 3, 0, 4, 5, 6, 7] rfl) (hD.sub [1, 2, 3, 0, 4, 5, 6, 7] (by decide) rfl) hS
  exact hL15 k 0 (by omega) (x &&& (dE ^^^ (-1 : Int32))) 19 fE fV cE cC H locs ls rfl hP hD hS (lv_sub hl [0, 1, 2, 3, 4] rfl)
