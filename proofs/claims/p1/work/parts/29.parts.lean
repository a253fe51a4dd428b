def dr_l1 : Nat → (Nat → Int32) × (Nat → Int32) → (Nat → Int32) × (Nat → Int32) := fun v s => (upd s.1 v 0, upd s.2 v 0)
def dr_l2 (F S : Nat → Nat) (x : Int32) : Nat → (Nat → Int32) × (Nat → Int32) → (Nat → Int32) × (Nat → Int32) := fun e s => if ps_has x (nI e) = true then (upd (upd s.1 (F e) (s.1 (F e) ||| (1 <<< (nI e &&& 31)))) (S e) (upd s.1 (F e) (s.1 (F e) ||| (1 <<< (nI e &&& 31))) (S e) ||| (1 <<< (nI e &&& 31))), upd (upd s.2 (F e) (s.2 (F e) ||| (1 <<< (nI (S e) &&& 31)))) (S e) (upd s.2 (F e) (s.2 (F e) ||| (1 <<< (nI (S e) &&& 31))) (S e) ||| (1 <<< (nI (F e) &&& 31)))) else s
def dr_e (M : Nat → Nat → Nat) (a b : Nat) : Nat → Nat → Nat := va_up (va_up M 0 (va_up (M 0) 0 a)) 0 (va_up (va_up M 0 (va_up (M 0) 0 a) 0) 1 b)
def dr_cf (WS : Nat → Int32) (x : Int32) : Nat → Int32 → Int32 := fun f d => if x &&& (WS f ^^^ (-1)) = 0 then d + 1 else d
def dr_fwD (WS : Nat → Int32) (x : Int32) (fc j : Nat) : Bool := decide (fc - 1 ≤ j) || decide (x &&& (WS j ^^^ (-1)) = 0)
def dr_fw (WS : Nat → Int32) (x : Int32) (fc : Nat) : Nat := wl (dr_fwD WS x fc) pm_leS 18 0
theorem dr_fw_dn (WS : Nat → Int32) (x : Int32) (fc : Nat) (h : fc ≤ 18) : dr_fwD WS x fc (dr_fw WS x fc) = true := wl_cntN (e := fc - 1) (fun s h => by simp [dr_fwD, h]) (fun s => rfl) 18 0 (by omega)
def dr_far (F S : Nat → Nat) (x : Int32) (e : Nat) : Nat := if ps_has x (nI (F e)) = true then S e else F e
def dr_s1 (F S : Nat → Nat) (cE x : Int32) : Nat → Int32 × (Nat → Nat) → Int32 × (Nat → Nat) := fun e s => if ps_has cE (nI e) = true ∧ ps_betw F S e x = true then (s.1 ||| (1 <<< (nI (dr_far F S x e) &&& 31)), va_up s.2 (dr_far F S x e) e) else s
theorem d_D_lookAround_0 : decode k_D_lookAround 0 = .ok (.iconst 0, 1) := by decide +kernel
theorem d_D_lookAround_1 : decode k_D_lookAround 1 = .ok (.istore_n 2, 1) := by decide +kernel
theorem d_D_lookAround_2 : decode k_D_lookAround 2 = .ok (.iload_n 2, 1) := by decide +kernel
theorem d_D_lookAround_3 : decode k_D_lookAround 3 = .ok (.aload_n 0, 1) := by decide +kernel
theorem d_D_lookAround_4 : decode k_D_lookAround 4 = .ok (.getfield 38, 3) := by decide +kernel
theorem d_D_lookAround_7 : decode k_D_lookAround 7 = .ok (.getfield 100, 3) := by decide +kernel
theorem d_D_lookAround_10 : decode k_D_lookAround 10 = .ok (.if_icmp .ge 23, 3) := by decide +kernel
theorem d_D_lookAround_13 : decode k_D_lookAround 13 = .ok (.aload_n 0, 1) := by decide +kernel
theorem d_D_lookAround_14 : decode k_D_lookAround 14 = .ok (.getfield 9, 3) := by decide +kernel
theorem d_D_lookAround_17 : decode k_D_lookAround 17 = .ok (.iload_n 2, 1) := by decide +kernel
theorem d_D_lookAround_18 : decode k_D_lookAround 18 = .ok (.iconst 0, 1) := by decide +kernel
theorem d_D_lookAround_19 : decode k_D_lookAround 19 = .ok (.iastore, 1) := by decide +kernel
theorem d_D_lookAround_20 : decode k_D_lookAround 20 = .ok (.aload_n 0, 1) := by decide +kernel
theorem d_D_lookAround_21 : decode k_D_lookAround 21 = .ok (.getfield 15, 3) := by decide +kernel
theorem d_D_lookAround_24 : decode k_D_lookAround 24 = .ok (.iload_n 2, 1) := by decide +kernel
theorem d_D_lookAround_25 : decode k_D_lookAround 25 = .ok (.iconst 0, 1) := by decide +kernel
theorem d_D_lookAround_26 : decode k_D_lookAround 26 = .ok (.iastore, 1) := by decide +kernel
theorem d_D_lookAround_27 : decode k_D_lookAround 27 = .ok (.iinc 2 1, 3) := by decide +kernel
theorem d_D_lookAround_30 : decode k_D_lookAround 30 = .ok (.goto (-28), 3) := by decide +kernel
theorem d_D_lookAround_33 : decode k_D_lookAround 33 = .ok (.iconst 0, 1) := by decide +kernel
theorem d_D_lookAround_34 : decode k_D_lookAround 34 = .ok (.istore_n 2, 1) := by decide +kernel
theorem d_D_lookAround_35 : decode k_D_lookAround 35 = .ok (.iload_n 2, 1) := by decide +kernel
theorem d_D_lookAround_36 : decode k_D_lookAround 36 = .ok (.aload_n 0, 1) := by decide +kernel
theorem d_D_lookAround_37 : decode k_D_lookAround 37 = .ok (.getfield 38, 3) := by decide +kernel
theorem d_D_lookAround_40 : decode k_D_lookAround 40 = .ok (.getfield 42, 3) := by decide +kernel
theorem d_D_lookAround_43 : decode k_D_lookAround 43 = .ok (.if_icmp .ge 89, 3) := by decide +kernel
theorem d_D_lookAround_46 : decode k_D_lookAround 46 = .ok (.iload_n 1, 1) := by decide +kernel
theorem d_D_lookAround_47 : decode k_D_lookAround 47 = .ok (.iload_n 2, 1) := by decide +kernel
theorem d_D_lookAround_48 : decode k_D_lookAround 48 = .ok (.invokestatic 53, 3) := by decide +kernel
theorem d_D_lookAround_51 : decode k_D_lookAround 51 = .ok (.ifCond .eq 75, 3) := by decide +kernel
theorem d_D_lookAround_54 : decode k_D_lookAround 54 = .ok (.aload_n 0, 1) := by decide +kernel
theorem d_D_lookAround_55 : decode k_D_lookAround 55 = .ok (.getfield 38, 3) := by decide +kernel
theorem d_D_lookAround_58 : decode k_D_lookAround 58 = .ok (.getfield 103, 3) := by decide +kernel
theorem d_D_lookAround_61 : decode k_D_lookAround 61 = .ok (.iload_n 2, 1) := by decide +kernel
theorem d_D_lookAround_62 : decode k_D_lookAround 62 = .ok (.iaload, 1) := by decide +kernel
theorem d_D_lookAround_63 : decode k_D_lookAround 63 = .ok (.istore_n 3, 1) := by decide +kernel
theorem d_D_lookAround_64 : decode k_D_lookAround 64 = .ok (.aload_n 0, 1) := by decide +kernel
theorem d_D_lookAround_65 : decode k_D_lookAround 65 = .ok (.getfield 38, 3) := by decide +kernel
theorem d_D_lookAround_68 : decode k_D_lookAround 68 = .ok (.getfield 106, 3) := by decide +kernel
theorem d_D_lookAround_71 : decode k_D_lookAround 71 = .ok (.iload_n 2, 1) := by decide +kernel
theorem d_D_lookAround_72 : decode k_D_lookAround 72 = .ok (.iaload, 1) := by decide +kernel
theorem d_D_lookAround_73 : decode k_D_lookAround 73 = .ok (.istore 4, 2) := by decide +kernel
theorem d_D_lookAround_75 : decode k_D_lookAround 75 = .ok (.aload_n 0, 1) := by decide +kernel
theorem d_D_lookAround_76 : decode k_D_lookAround 76 = .ok (.getfield 9, 3) := by decide +kernel
theorem d_D_lookAround_79 : decode k_D_lookAround 79 = .ok (.iload_n 3, 1) := by decide +kernel
theorem d_D_lookAround_80 : decode k_D_lookAround 80 = .ok (.dup2, 1) := by decide +kernel
theorem d_D_lookAround_81 : decode k_D_lookAround 81 = .ok (.iaload, 1) := by decide +kernel
theorem d_D_lookAround_82 : decode k_D_lookAround 82 = .ok (.iconst 1, 1) := by decide +kernel
theorem d_D_lookAround_83 : decode k_D_lookAround 83 = .ok (.iload_n 2, 1) := by decide +kernel
theorem d_D_lookAround_84 : decode k_D_lookAround 84 = .ok (.ishl, 1) := by decide +kernel
theorem d_D_lookAround_85 : decode k_D_lookAround 85 = .ok (.ior, 1) := by decide +kernel
theorem d_D_lookAround_86 : decode k_D_lookAround 86 = .ok (.iastore, 1) := by decide +kernel
theorem d_D_lookAround_87 : decode k_D_lookAround 87 = .ok (.aload_n 0, 1) := by decide +kernel
theorem d_D_lookAround_88 : decode k_D_lookAround 88 = .ok (.getfield 9, 3) := by decide +kernel
theorem d_D_lookAround_91 : decode k_D_lookAround 91 = .ok (.iload 4, 2) := by decide +kernel
theorem d_D_lookAround_93 : decode k_D_lookAround 93 = .ok (.dup2, 1) := by decide +kernel
theorem d_D_lookAround_94 : decode k_D_lookAround 94 = .ok (.iaload, 1) := by decide +kernel
theorem d_D_lookAround_95 : decode k_D_lookAround 95 = .ok (.iconst 1, 1) := by decide +kernel
theorem d_D_lookAround_96 : decode k_D_lookAround 96 = .ok (.iload_n 2, 1) := by decide +kernel
theorem d_D_lookAround_97 : decode k_D_lookAround 97 = .ok (.ishl, 1) := by decide +kernel
theorem d_D_lookAround_98 : decode k_D_lookAround 98 = .ok (.ior, 1) := by decide +kernel
theorem d_D_lookAround_99 : decode k_D_lookAround 99 = .ok (.iastore, 1) := by decide +kernel
theorem d_D_lookAround_100 : decode k_D_lookAround 100 = .ok (.aload_n 0, 1) := by decide +kernel
theorem d_D_lookAround_101 : decode k_D_lookAround 101 = .ok (.getfield 15, 3) := by decide +kernel
theorem d_D_lookAround_104 : decode k_D_lookAround 104 = .ok (.iload_n 3, 1) := by decide +kernel
theorem d_D_lookAround_105 : decode k_D_lookAround 105 = .ok (.dup2, 1) := by decide +kernel
theorem d_D_lookAround_106 : decode k_D_lookAround 106 = .ok (.iaload, 1) := by decide +kernel
theorem d_D_lookAround_107 : decode k_D_lookAround 107 = .ok (.iconst 1, 1) := by decide +kernel
theorem d_D_lookAround_108 : decode k_D_lookAround 108 = .ok (.iload 4, 2) := by decide +kernel
theorem d_D_lookAround_110 : decode k_D_lookAround 110 = .ok (.ishl, 1) := by decide +kernel
theorem d_D_lookAround_111 : decode k_D_lookAround 111 = .ok (.ior, 1) := by decide +kernel
theorem d_D_lookAround_112 : decode k_D_lookAround 112 = .ok (.iastore, 1) := by decide +kernel
theorem d_D_lookAround_113 : decode k_D_lookAround 113 = .ok (.aload_n 0, 1) := by decide +kernel
theorem d_D_lookAround_114 : decode k_D_lookAround 114 = .ok (.getfield 15, 3) := by decide +kernel
theorem d_D_lookAround_117 : decode k_D_lookAround 117 = .ok (.iload 4, 2) := by decide +kernel
theorem d_D_lookAround_119 : decode k_D_lookAround 119 = .ok (.dup2, 1) := by decide +kernel
theorem d_D_lookAround_120 : decode k_D_lookAround 120 = .ok (.iaload, 1) := by decide +kernel
theorem d_D_lookAround_121 : decode k_D_lookAround 121 = .ok (.iconst 1, 1) := by decide +kernel
theorem d_D_lookAround_122 : decode k_D_lookAround 122 = .ok (.iload_n 3, 1) := by decide +kernel
theorem d_D_lookAround_123 : decode k_D_lookAround 123 = .ok (.ishl, 1) := by decide +kernel
theorem d_D_lookAround_124 : decode k_D_lookAround 124 = .ok (.ior, 1) := by decide +kernel
theorem d_D_lookAround_125 : decode k_D_lookAround 125 = .ok (.iastore, 1) := by decide +kernel
theorem d_D_lookAround_126 : decode k_D_lookAround 126 = .ok (.iinc 2 1, 3) := by decide +kernel
theorem d_D_lookAround_129 : decode k_D_lookAround 129 = .ok (.goto (-94), 3) := by decide +kernel
theorem d_D_lookAround_132 : decode k_D_lookAround 132 = .ok (.return_, 1) := by decide +kernel
abbrev rm_D_lookAround : Room := { frames := 1, cells := 0, slots := 0, locals := 21 }
theorem hd_D_lookAround : y_D_lookAround.cls = n_D ∧ y_D_lookAround.cls ≠ "java/lang/invoke/MethodHandle" ∧ y_D_lookAround.cls ≠ "java/lang/invoke/VarHandle" ∧ (parseMethodDescriptor y_D_lookAround.desc).map (fun d => d.parameters.length) = some 1 := by decide +kernel
set_option maxHeartbeats 4000000 in
set_option maxRecDepth 100000 in
theorem c_D_lookAround (l : Launch) (dC : Nat → ClassId) (dI : Nat → Nat → Nat) (hd : Nat) (hg : Nat) (dE : Int32) (dV : Int32) (fc : Nat) (fE : Int32) (fV : Int32) (cE : Int32) (cC : Int32) (pn : Nat) (d1 : Nat) (d2 : Nat) (d3 : Nat) (d4 : Nat) (d5 : Nat) (d6 : Nat) (d7 : Nat) (d8 : Nat) (cI : ClassId) (cQ : ClassId) (eA : Nat → Int32) (nb : Nat → Int32) (n : Nat) (k : Nat) (F : Nat → Nat) (S : Nat → Nat) (w : Nat → Int32) (g1 : Nat) (g2 : Nat) (g3 : Nat) (x : Int32) (sz : Nat) (hn : n ≤ 10) (hk : k ≤ 18) (hFS : ∀ e, e < k → F e < n ∧ S e < n) : Met l y_D_lookAround (.code y_D_lookAround k_D_lookAround 5 none :: gw) rm_D_lookAround (rwP [.ref hd, .int x] (dC, dI) [(hd, .inr (0, [.ref hg, .ref d1, .ref d2, .int dE, .int dV, .ref d3, .ref d4, .ref d5, .int (nI fc), .int fE, .int fV, .int cE, .int cC, .ref d6, .ref d7, .int (nI pn), .ref d8])), (d1, .inl (cI, 10, .inl eA)), (d2, .inl (cI, 10, .inl nb)), (hg, .inr (1, [.int (nI n), .int (nI k), .ref g1, .ref g2, .ref g3])), (g1, .inl (cI, 18, .inl (fun i9 => nI (F i9)))), (g2, .inl (cI, 18, .inl (fun i9 => nI (S i9)))), (g3, .inl (cI, 18, .inl w))] [(cI, .int)] sz) (va_Qv (fun _ : Unit => True) (rwB (dC, dI) [(hd, .inr (0, [.ref hg, .ref d1, .ref d2, .int dE, .int dV, .ref d3, .ref d4, .ref d5, .int (nI fc), .int fE, .int fV, .int cE, .int cC, .ref d6, .ref d7, .int (nI pn), .ref d8])), (d1, .inl (cI, 10, .inl ((fo (dr_l2 F S x) k (fo dr_l1 n (eA, nb))).1))), (d2, .inl (cI, 10, .inl ((fo (dr_l2 F S x) k (fo dr_l1 n (eA, nb))).2))), (hg, .inr (1, [.int (nI n), .int (nI k), .ref g1, .ref g2, .ref g3])), (g1, .inl (cI, 18, .inl (fun i9 => nI (F i9)))), (g2, .inl (cI, 18, .inl (fun i9 => nI (S i9)))), (g3, .inl (cI, 18, .inl w))] [(cI, .int)] (va_A [(hd, .inr (0, [.ref hg, .ref d1, .ref d2, .int dE, .int dV, .ref d3, .ref d4, .ref d5, .int (nI fc), .int fE, .int fV, .int cE, .int cC, .ref d6, .ref d7, .int (nI pn), .ref d8])), (d1, .inl (cI, 10, .inl eA)), (d2, .inl (cI, 10, .inl nb)), (hg, .inr (1, [.int (nI n), .int (nI k), .ref g1, .ref g2, .ref g3])), (g1, .inl (cI, 18, .inl (fun i9 => nI (F i9)))), (g2, .inl (cI, 18, .inl (fun i9 => nI (S i9)))), (g3, .inl (cI, 18, .inl w))] sz)) (va_A [(hd, .inr (0, [.ref hg, .ref d1, .ref d2, .int dE, .int dV, .ref d3, .ref d4, .ref d5, .int (nI fc), .int fE, .int fV, .int cE, .int cC, .ref d6, .ref d7, .int (nI pn), .ref d8])), (d1, .inl (cI, 10, .inl eA)), (d2, .inl (cI, 10, .inl nb)), (hg, .inr (1, [.int (nI n), .int (nI k), .ref g1, .ref g2, .ref g3])), (g1, .inl (cI, 18, .inl (fun i9 => nI (F i9)))), (g2, .inl (cI, 18, .inl (fun i9 => nI (S i9)))), (g3, .inl (cI, 18, .inl w))] sz)) 0 0 (va_A [(hd, .inr (0, [.ref hg, .ref d1, .ref d2, .int dE, .int dV, .ref d3, .ref d4, .ref d5, .int (nI fc), .int fE, .int fV, .int cE, .int cC, .ref d6, .ref d7, .int (nI pn), .ref d8])), (d1, .inl (cI, 10, .inl eA)), (d2, .inl (cI, 10, .inl nb)), (hg, .inr (1, [.int (nI n), .int (nI k), .ref g1, .ref g2, .ref g3])), (g1, .inl (cI, 18, .inl (fun i9 => nI (F i9)))), (g2, .inl (cI, 18, .inl (fun i9 => nI (S i9)))), (g3, .inl (cI, 18, .inl w))] sz) := by
  refine rw_met (by decide) ⟨rfl, rfl⟩ (Nat.le_of_ble_eq_true rfl) ?_
  intro p e s m args below meth c Q A ls Sx hP hK hD hA hl hret
  have hx := Sx.1
  have hb := Sx.2.1
  have hl : lv_has ls 5 [(0, .ref hd), (1, .int x)] := hl
  have hS : va_S A s.heap s.heap [] := va_S.rf
  obtain ⟨H, hH⟩ : ∃ H, H = s.heap := ⟨_, rfl⟩
  obtain ⟨locs, hlo⟩ : ∃ locs : List Loc, locs = [] := ⟨_, rfl⟩
  rw [← hlo]
  rw [← hlo] at hS
  have hP : va_P (dC, dI) pcl [(hd, .inr (0, [.ref hg, .ref d1, .ref d2, .int dE, .int dV, .ref d3, .ref d4, .ref d5, .int (nI fc), .int fE, .int fV, .int cE, .int cC, .ref d6, .ref d7, .int (nI pn), .ref d8])), (d1, .inl (cI, 10, .inl eA)), (d2, .inl (cI, 10, .inl nb)), (hg, .inr (1, [.int (nI n), .int (nI k), .ref g1, .ref g2, .ref g3])), (g1, .inl (cI, 18, .inl (fun i9 => nI (F i9)))), (g2, .inl (cI, 18, .inl (fun i9 => nI (S i9)))), (g3, .inl (cI, 18, .inl w))] H := by rw [hH]; exact hP
  have hS : va_S A s.heap H locs := by rw [hH]; exact hS
  suffices hgo : W p l e rm_D_lookAround s m args below meth c H locs 0 0 Q (F0 m 0 ls []) by rw [hH] at hgo; exact hgo
  refine lv_iconst (v := nI 0) hx hb d_D_lookAround_0 (by decide) ?_
  refine lv_istore_n hx hb d_D_lookAround_1 rfl hl (Nat.le_of_ble_eq_true rfl) rfl (fun ls hl => ?_)
  have hl : lv_has ls 5 [(2, .int (nI 0)), (0, .ref hd), (1, .int x)] := hl
  have hL2 : ∀ (kk i : Nat), i + kk = n → ∀ (eA1 : Nat → Int32) (nb1 : Nat → Int32) (H : Heap) (locs : List Loc) (ls : Array Slot), (eA1, nb1) = fo dr_l1 i (eA, nb) → va_P (dC, dI) pcl [(hd, .inr (0, [.ref hg, .ref d1, .ref d2, .int dE, .int dV, .ref d3, .ref d4, .ref d5, .int (nI fc), .int fE, .int fV, .int cE, .int cC, .ref d6, .ref d7, .int (nI pn), .ref d8])), (d1, .inl (cI, 10, .inl eA1)), (d2, .inl (cI, 10, .inl nb1)), (hg, .inr (1, [.int (nI n), .int (nI k), .ref g1, .ref g2, .ref g3])), (g1, .inl (cI, 18, .inl (fun i9 => nI (F i9)))), (g2, .inl (cI, 18, .inl (fun i9 => nI (S i9)))), (g3, .inl (cI, 18, .inl w))] H → va_D A [(hd, .inr (0, [.ref hg, .ref d1, .ref d2, .int dE, .int dV, .ref d3, .ref d4, .ref d5, .int (nI fc), .int fE, .int fV, .int cE, .int cC, .ref d6, .ref d7, .int (nI pn), .ref d8])), (d1, .inl (cI, 10, .inl eA1)), (d2, .inl (cI, 10, .inl nb1)), (hg, .inr (1, [.int (nI n), .int (nI k), .ref g1, .ref g2, .ref g3])), (g1, .inl (cI, 18, .inl (fun i9 => nI (F i9)))), (g2, .inl (cI, 18, .inl (fun i9 => nI (S i9)))), (g3, .inl (cI, 18, .inl w))] → va_S A s.heap H locs → lv_has ls 5 [(2, .int (nI i)), (0, .ref hd), (1, .int x)] → W p l e rm_D_lookAround s m args below meth c H locs 0 0 Q (F0 m 2 ls []) := by
    intro kk
    induction kk with
    | zero =>
      intro i hi2 eA1 nb1 H locs ls he2 hP hD hS hl
      have hj2 : i = n := by omega
      rw [hj2] at hl he2
      have e_eA1 : eA1 = (fo dr_l1 n (eA, nb)).1 := by rw [← he2]
      subst e_eA1
      have e_nb1 : nb1 = (fo dr_l1 n (eA, nb)).2 := by rw [← he2]
      subst e_nb1
      have hl : lv_has ls 5 [(2, .int (nI n)), (0, .ref hd), (1, .int x)] := hl
      have hP : va_P (dC, dI) pcl [(hd, .inr (0, [.ref hg, .ref d1, .ref d2, .int dE, .int dV, .ref d3, .ref d4, .ref d5, .int (nI fc), .int fE, .int fV, .int cE, .int cC, .ref d6, .ref d7, .int (nI pn), .ref d8])), (d1, .inl (cI, 10, .inl ((fo dr_l1 n (eA, nb)).1))), (d2, .inl (cI, 10, .inl ((fo dr_l1 n (eA, nb)).2))), (hg, .inr (1, [.int (nI n), .int (nI k), .ref g1, .ref g2, .ref g3])), (g1, .inl (cI, 18, .inl (fun i9 => nI (F i9)))), (g2, .inl (cI, 18, .inl (fun i9 => nI (S i9)))), (g3, .inl (cI, 18, .inl w))] H := hP
      have hD : va_D A [(hd, .inr (0, [.ref hg, .ref d1, .ref d2, .int dE, .int dV, .ref d3, .ref d4, .ref d5, .int (nI fc), .int fE, .int fV, .int cE, .int cC, .ref d6, .ref d7, .int (nI pn), .ref d8])), (d1, .inl (cI, 10, .inl ((fo dr_l1 n (eA, nb)).1))), (d2, .inl (cI, 10, .inl ((fo dr_l1 n (eA, nb)).2))), (hg, .inr (1, [.int (nI n), .int (nI k), .ref g1, .ref g2, .ref g3])), (g1, .inl (cI, 18, .inl (fun i9 => nI (F i9)))), (g2, .inl (cI, 18, .inl (fun i9 => nI (S i9)))), (g3, .inl (cI, 18, .inl w))] := hD
      refine lv_iload_n hx hb d_D_lookAround_2 rfl (lv_at hl 0 rfl) ?_
      refine lv_aload_n hx hb d_D_lookAround_3 rfl (lv_at hl 1 rfl) ?_
      refine g_get Sx gf_D hK hP 0 rfl rfl 0 (by decide) gm_131 rfl d_D_lookAround_4 ?_
      refine g_get Sx gf_G hK hP 3 rfl rfl 0 (by decide) gm_77 rfl d_D_lookAround_7 ?_
      refine lv_icmp_ge hx hb d_D_lookAround_10 (tgt := 33) rfl (fun q1 => ?_) (fun q1 => ?_)
      · have q1 : n ≤ n := nq_le (by omega) (by omega) q1
        refine lv_iconst (v := nI 0) hx hb d_D_lookAround_33 (by decide) ?_
        refine lv_istore_n hx hb d_D_lookAround_34 rfl hl (Nat.le_of_ble_eq_true rfl) rfl (fun ls hl => ?_)
        have hl : lv_has ls 5 [(2, .int (nI 0)), (0, .ref hd), (1, .int x)] := hl
        have hL35 : ∀ (kk i : Nat), i + kk = k → ∀ (eA2 : Nat → Int32) (nb2 : Nat → Int32) (H : Heap) (locs : List Loc) (ls : Array Slot), (eA2, nb2) = fo (dr_l2 F S x) i (fo dr_l1 n (eA, nb)) → va_P (dC, dI) pcl [(hd, .inr (0, [.ref hg, .ref d1, .ref d2, .int dE, .int dV, .ref d3, .ref d4, .ref d5, .int (nI fc), .int fE, .int fV, .int cE, .int cC, .ref d6, .ref d7, .int (nI pn), .ref d8])), (d1, .inl (cI, 10, .inl eA2)), (d2, .inl (cI, 10, .inl nb2)), (hg, .inr (1, [.int (nI n), .int (nI k), .ref g1, .ref g2, .ref g3])), (g1, .inl (cI, 18, .inl (fun i9 => nI (F i9)))), (g2, .inl (cI, 18, .inl (fun i9 => nI (S i9)))), (g3, .inl (cI, 18, .inl w))] H → va_D A [(hd, .inr (0, [.ref hg, .ref d1, .ref d2, .int dE, .int dV, .ref d3, .ref d4, .ref d5, .int (nI fc), .int fE, .int fV, .int cE, .int cC, .ref d6, .ref d7, .int (nI pn), .ref d8])), (d1, .inl (cI, 10, .inl eA2)), (d2, .inl (cI, 10, .inl nb2)), (hg, .inr (1, [.int (nI n), .int (nI k), .ref g1, .ref g2, .ref g3])), (g1, .inl (cI, 18, .inl (fun i9 => nI (F i9)))), (g2, .inl (cI, 18, .inl (fun i9 => nI (S i9)))), (g3, .inl (cI, 18, .inl w))] → va_S A s.heap H locs → lv_has ls 5 [(2, .int (nI i)), (0, .ref hd), (1, .int x)] → W p l e rm_D_lookAround s m args below meth c H locs 0 0 Q (F0 m 35 ls []) := by
          intro kk
          induction kk with
          | zero =>
            intro i hi35 eA2 nb2 H locs ls he35 hP hD hS hl
            have hj35 : i = k := by omega
            rw [hj35] at hl he35
            have e_eA2 : eA2 = (fo (dr_l2 F S x) k (fo dr_l1 n (eA, nb))).1 := by rw [← he35]
            subst e_eA2
            have e_nb2 : nb2 = (fo (dr_l2 F S x) k (fo dr_l1 n (eA, nb))).2 := by rw [← he35]
            subst e_nb2
            have hl : lv_has ls 5 [(2, .int (nI k)), (0, .ref hd), (1, .int x)] := hl
            have hP : va_P (dC, dI) pcl [(hd, .inr (0, [.ref hg, .ref d1, .ref d2, .int dE, .int dV, .ref d3, .ref d4, .ref d5, .int (nI fc), .int fE, .int fV, .int cE, .int cC, .ref d6, .ref d7, .int (nI pn), .ref d8])), (d1, .inl (cI, 10, .inl ((fo (dr_l2 F S x) k (fo dr_l1 n (eA, nb))).1))), (d2, .inl (cI, 10, .inl ((fo (dr_l2 F S x) k (fo dr_l1 n (eA, nb))).2))), (hg, .inr (1, [.int (nI n), .int (nI k), .ref g1, .ref g2, .ref g3])), (g1, .inl (cI, 18, .inl (fun i9 => nI (F i9)))), (g2, .inl (cI, 18, .inl (fun i9 => nI (S i9)))), (g3, .inl (cI, 18, .inl w))] H := hP
            have hD : va_D A [(hd, .inr (0, [.ref hg, .ref d1, .ref d2, .int dE, .int dV, .ref d3, .ref d4, .ref d5, .int (nI fc), .int fE, .int fV, .int cE, .int cC, .ref d6, .ref d7, .int (nI pn), .ref d8])), (d1, .inl (cI, 10, .inl ((fo (dr_l2 F S x) k (fo dr_l1 n (eA, nb))).1))), (d2, .inl (cI, 10, .inl ((fo (dr_l2 F S x) k (fo dr_l1 n (eA, nb))).2))), (hg, .inr (1, [.int (nI n), .int (nI k), .ref g1, .ref g2, .ref g3])), (g1, .inl (cI, 18, .inl (fun i9 => nI (F i9)))), (g2, .inl (cI, 18, .inl (fun i9 => nI (S i9)))), (g3, .inl (cI, 18, .inl w))] := hD
            refine lv_iload_n hx hb d_D_lookAround_35 rfl (lv_at hl 0 rfl) ?_
            refine lv_aload_n hx hb d_D_lookAround_36 rfl (lv_at hl 1 rfl) ?_
            refine g_get Sx gf_D hK hP 0 rfl rfl 0 (by decide) gm_131 rfl d_D_lookAround_37 ?_
            refine g_get Sx gf_G hK hP 3 rfl rfl 1 (by decide) gm_78 rfl d_D_lookAround_40 ?_
            refine lv_icmp_ge hx hb d_D_lookAround_43 (tgt := 132) rfl (fun q2 => ?_) (fun q2 => ?_)
            · have q2 : k ≤ k := nq_le (by omega) (by omega) q2
              exact hret _ H locs _ d_D_lookAround_132 hP hD hS
            · have q2 : k < k := nq_nle (by omega) (by omega) q2
              exact absurd q2 (by omega)
          | succ kk ih35 =>
            intro i hi35 eA2 nb2 H locs ls he35 hP hD hS hl
            refine lv_iload_n hx hb d_D_lookAround_35 rfl (lv_at hl 0 rfl) ?_
            refine lv_aload_n hx hb d_D_lookAround_36 rfl (lv_at hl 1 rfl) ?_
            refine g_get Sx gf_D hK hP 0 rfl rfl 0 (by decide) gm_131 rfl d_D_lookAround_37 ?_
            refine g_get Sx gf_G hK hP 3 rfl rfl 1 (by decide) gm_78 rfl d_D_lookAround_40 ?_
            refine lv_icmp_ge hx hb d_D_lookAround_43 (tgt := 132) rfl (fun q3 => ?_) (fun q3 => ?_)
            · have q3 : k ≤ i := nq_le (by omega) (by omega) q3
              exact absurd q3 (by omega)
            · have q3 : i < k := nq_nle (by omega) (by omega) q3
              refine lv_iload_n hx hb d_D_lookAround_46 rfl (lv_at hl 2 rfl) ?_
              refine lv_iload_n hx hb d_D_lookAround_47 rfl (lv_at hl 0 rfl) ?_
              refine ro_S (As := [.int x, .int (nI i)]) (rest := []) Sx (c_B_has l dC dI x (nI i)) (gw_callS gm_297 gm_250 gm_57 gm_251) hd_B_has ⟨rfl, rfl⟩ ⟨Nat.le_of_ble_eq_true rfl, Nat.le_of_ble_eq_true rfl⟩ (va_P_map hP [] rfl) (hK.sub (tys' := []) [] rfl) rfl hl.1 rfl (Nat.le_of_ble_eq_true rfl) d_D_lookAround_48 ⟨Nat.zero_le _, Nat.zero_le _⟩ ?_
              refine lv_if_eq hx hb d_D_lookAround_51 (tgt := 126) rfl (fun q4 => ?_) (fun q4 => ?_)
              · have q4 : (ps_has x (nI i)) = false := bI_0.mp q4
                refine lv_iinc (k := 0) (v := nI (i + 1)) hx hb d_D_lookAround_126 hl rfl (inc_nI _) (Nat.le_of_ble_eq_true rfl) rfl (fun ls hl => ?_)
                have hl : lv_has ls 5 [(2, .int (nI (i + 1))), (0, .ref hd), (1, .int x)] := hl
                refine lv_goto hx hb d_D_lookAround_129 (tgt := 35) rfl ?_
                have he2 : (eA2, nb2) = fo (dr_l2 F S x) (i + 1) (fo dr_l1 n (eA, nb)) := by
                  rw [fo_s, ← he35]
                  simp [dr_l2, q1, q3, q4]
                exact ih35 (i + 1) (by omega) eA2 nb2 H locs ls he2 hP hD hS (lv_sub hl [0, 1, 2] rfl)
              · have q4 : (ps_has x (nI i)) = true := bI_1.mp q4
                refine lv_aload_n hx hb d_D_lookAround_54 rfl (lv_at hl 1 rfl) ?_
                refine g_get Sx gf_D hK hP 0 rfl rfl 0 (by decide) gm_131 rfl d_D_lookAround_55 ?_
                refine g_get Sx gf_G hK hP 3 rfl rfl 2 (by decide) gm_86 rfl d_D_lookAround_58 ?_
                refine lv_iload_n hx hb d_D_lookAround_61 rfl (lv_at hl 0 rfl) ?_
                refine g_ild (j := i) Sx hK hP 4 0 rfl rfl (by omega) (by decide) d_D_lookAround_62 ?_
                refine lv_istore_n hx hb d_D_lookAround_63 rfl hl (Nat.le_of_ble_eq_true rfl) rfl (fun ls hl => ?_)
                have hl : lv_has ls 5 [(3, .int (nI (F i))), (2, .int (nI i)), (0, .ref hd), (1, .int x)] := hl
                refine lv_aload_n hx hb d_D_lookAround_64 rfl (lv_at hl 2 rfl) ?_
                refine g_get Sx gf_D hK hP 0 rfl rfl 0 (by decide) gm_131 rfl d_D_lookAround_65 ?_
                refine g_get Sx gf_G hK hP 3 rfl rfl 3 (by decide) gm_90 rfl d_D_lookAround_68 ?_
                refine lv_iload_n hx hb d_D_lookAround_71 rfl (lv_at hl 1 rfl) ?_
                refine g_ild (j := i) Sx hK hP 5 0 rfl rfl (by omega) (by decide) d_D_lookAround_72 ?_
                refine lv_istore hx hb d_D_lookAround_73 hl (Nat.le_of_ble_eq_true rfl) rfl (fun ls hl => ?_)
                have hl : lv_has ls 5 [(4, .int (nI (S i))), (3, .int (nI (F i))), (2, .int (nI i)), (0, .ref hd), (1, .int x)] := hl
                refine lv_aload_n hx hb d_D_lookAround_75 rfl (lv_at hl 3 rfl) ?_
                refine g_get Sx gf_D hK hP 0 rfl rfl 1 (by decide) gm_132 rfl d_D_lookAround_76 ?_
                refine lv_iload_n hx hb d_D_lookAround_79 rfl (lv_at hl 1 rfl) ?_
                refine lv_dup2_11 hx hb d_D_lookAround_80 rfl rfl ?_
                refine g_ild (j := (F i)) Sx hK hP 1 0 rfl rfl (Nat.lt_of_lt_of_le (hFS _ (by omega)).1 hn) (by decide) d_D_lookAround_81 ?_
                refine lv_iconst (v := 1) hx hb d_D_lookAround_82 (by decide) ?_
                refine lv_iload_n hx hb d_D_lookAround_83 rfl (lv_at hl 2 rfl) ?_
                refine lv_ishl hx hb d_D_lookAround_84 ?_
                refine lv_ior hx hb d_D_lookAround_85 ?_
                refine g_ist (j := (F i)) Sx hK hP hD hS 1 0 rfl rfl (Nat.lt_of_lt_of_le (hFS _ (by omega)).1 hn) (by decide) d_D_lookAround_86 (fun H locs hP hD hS => ?_)
                have hP : va_P (dC, dI) pcl [(hd, .inr (0, [.ref hg, .ref d1, .ref d2, .int dE, .int dV, .ref d3, .ref d4, .ref d5, .int (nI fc), .int fE, .int fV, .int cE, .int cC, .ref d6, .ref d7, .int (nI pn), .ref d8])), (d1, .inl (cI, 10, .inl (upd eA2 (F i) ((eA2 (F i)) ||| (1 <<< ((nI i) &&& 31)))))), (d2, .inl (cI, 10, .inl nb2)), (hg, .inr (1, [.int (nI n), .int (nI k), .ref g1, .ref g2, .ref g3])), (g1, .inl (cI, 18, .inl (fun i9 => nI (F i9)))), (g2, .inl (cI, 18, .inl (fun i9 => nI (S i9)))), (g3, .inl (cI, 18, .inl w))] H := hP
                have hD : va_D A [(hd, .inr (0, [.ref hg, .ref d1, .ref d2, .int dE, .int dV, .ref d3, .ref d4, .ref d5, .int (nI fc), .int fE, .int fV, .int cE, .int cC, .ref d6, .ref d7, .int (nI pn), .ref d8])), (d1, .inl (cI, 10, .inl (upd eA2 (F i) ((eA2 (F i)) ||| (1 <<< ((nI i) &&& 31)))))), (d2, .inl (cI, 10, .inl nb2)), (hg, .inr (1, [.int (nI n), .int (nI k), .ref g1, .ref g2, .ref g3])), (g1, .inl (cI, 18, .inl (fun i9 => nI (F i9)))), (g2, .inl (cI, 18, .inl (fun i9 => nI (S i9)))), (g3, .inl (cI, 18, .inl w))] := hD
                refine lv_aload_n hx hb d_D_lookAround_87 rfl (lv_at hl 3 rfl) ?_
                refine g_get Sx gf_D hK hP 0 rfl rfl 1 (by decide) gm_132 rfl d_D_lookAround_88 ?_
                refine lv_iload hx hb d_D_lookAround_91 (lv_at hl 0 rfl) ?_
                refine lv_dup2_11 hx hb d_D_lookAround_93 rfl rfl ?_
                refine g_ild (j := (S i)) Sx hK hP 1 0 rfl rfl (Nat.lt_of_lt_of_le (hFS _ (by omega)).2 hn) (by decide) d_D_lookAround_94 ?_
                refine lv_iconst (v := 1) hx hb d_D_lookAround_95 (by decide) ?_
                refine lv_iload_n hx hb d_D_lookAround_96 rfl (lv_at hl 2 rfl) ?_
                refine lv_ishl hx hb d_D_lookAround_97 ?_
                refine lv_ior hx hb d_D_lookAround_98 ?_
                refine g_ist (j := (S i)) Sx hK hP hD hS 1 0 rfl rfl (Nat.lt_of_lt_of_le (hFS _ (by omega)).2 hn) (by decide) d_D_lookAround_99 (fun H locs hP hD hS => ?_)
                have hP : va_P (dC, dI) pcl [(hd, .inr (0, [.ref hg, .ref d1, .ref d2, .int dE, .int dV, .ref d3, .ref d4, .ref d5, .int (nI fc), .int fE, .int fV, .int cE, .int cC, .ref d6, .ref d7, .int (nI pn), .ref d8])), (d1, .inl (cI, 10, .inl (upd (upd eA2 (F i) ((eA2 (F i)) ||| (1 <<< ((nI i) &&& 31)))) (S i) (((upd eA2 (F i) ((eA2 (F i)) ||| (1 <<< ((nI i) &&& 31)))) (S i)) ||| (1 <<< ((nI i) &&& 31)))))), (d2, .inl (cI, 10, .inl nb2)), (hg, .inr (1, [.int (nI n), .int (nI k), .ref g1, .ref g2, .ref g3])), (g1, .inl (cI, 18, .inl (fun i9 => nI (F i9)))), (g2, .inl (cI, 18, .inl (fun i9 => nI (S i9)))), (g3, .inl (cI, 18, .inl w))] H := hP
                have hD : va_D A [(hd, .inr (0, [.ref hg, .ref d1, .ref d2, .int dE, .int dV, .ref d3, .ref d4, .ref d5, .int (nI fc), .int fE, .int fV, .int cE, .int cC, .ref d6, .ref d7, .int (nI pn), .ref d8])), (d1, .inl (cI, 10, .inl (upd (upd eA2 (F i) ((eA2 (F i)) ||| (1 <<< ((nI i) &&& 31)))) (S i) (((upd eA2 (F i) ((eA2 (F i)) ||| (1 <<< ((nI i) &&& 31)))) (S i)) ||| (1 <<< ((nI i) &&& 31)))))), (d2, .inl (cI, 10, .inl nb2)), (hg, .inr (1, [.int (nI n), .int (nI k), .ref g1, .ref g2, .ref g3])), (g1, .inl (cI, 18, .inl (fun i9 => nI (F i9)))), (g2, .inl (cI, 18, .inl (fun i9 => nI (S i9)))), (g3, .inl (cI, 18, .inl w))] := hD
                refine lv_aload_n hx hb d_D_lookAround_100 rfl (lv_at hl 3 rfl) ?_
                refine g_get Sx gf_D hK hP 0 rfl rfl 2 (by decide) gm_133 rfl d_D_lookAround_101 ?_
                refine lv_iload_n hx hb d_D_lookAround_104 rfl (lv_at hl 1 rfl) ?_
                refine lv_dup2_11 hx hb d_D_lookAround_105 rfl rfl ?_
                refine g_ild (j := (F i)) Sx hK hP 2 0 rfl rfl (Nat.lt_of_lt_of_le (hFS _ (by omega)).1 hn) (by decide) d_D_lookAround_106 ?_
                refine lv_iconst (v := 1) hx hb d_D_lookAround_107 (by decide) ?_
                refine lv_iload hx hb d_D_lookAround_108 (lv_at hl 0 rfl) ?_
                refine lv_ishl hx hb d_D_lookAround_110 ?_
                refine lv_ior hx hb d_D_lookAround_111 ?_
                refine g_ist (j := (F i)) Sx hK hP hD hS 2 0 rfl rfl (Nat.lt_of_lt_of_le (hFS _ (by omega)).1 hn) (by decide) d_D_lookAround_112 (fun H locs hP hD hS => ?_)
                have hP : va_P (dC, dI) pcl [(hd, .inr (0, [.ref hg, .ref d1, .ref d2, .int dE, .int dV, .ref d3, .ref d4, .ref d5, .int (nI fc), .int fE, .int fV, .int cE, .int cC, .ref d6, .ref d7, .int (nI pn), .ref d8])), (d1, .inl (cI, 10, .inl (upd (upd eA2 (F i) ((eA2 (F i)) ||| (1 <<< ((nI i) &&& 31)))) (S i) (((upd eA2 (F i) ((eA2 (F i)) ||| (1 <<< ((nI i) &&& 31)))) (S i)) ||| (1 <<< ((nI i) &&& 31)))))), (d2, .inl (cI, 10, .inl (upd nb2 (F i) ((nb2 (F i)) ||| (1 <<< ((nI (S i)) &&& 31)))))), (hg, .inr (1, [.int (nI n), .int (nI k), .ref g1, .ref g2, .ref g3])), (g1, .inl (cI, 18, .inl (fun i9 => nI (F i9)))), (g2, .inl (cI, 18, .inl (fun i9 => nI (S i9)))), (g3, .inl (cI, 18, .inl w))] H := hP
                have hD : va_D A [(hd, .inr (0, [.ref hg, .ref d1, .ref d2, .int dE, .int dV, .ref d3, .ref d4, .ref d5, .int (nI fc), .int fE, .int fV, .int cE, .int cC, .ref d6, .ref d7, .int (nI pn), .ref d8])), (d1, .inl (cI, 10, .inl (upd (upd eA2 (F i) ((eA2 (F i)) ||| (1 <<< ((nI i) &&& 31)))) (S i) (((upd eA2 (F i) ((eA2 (F i)) ||| (1 <<< ((nI i) &&& 31)))) (S i)) ||| (1 <<< ((nI i) &&& 31)))))), (d2, .inl (cI, 10, .inl (upd nb2 (F i) ((nb2 (F i)) ||| (1 <<< ((nI (S i)) &&& 31)))))), (hg, .inr (1, [.int (nI n), .int (nI k), .ref g1, .ref g2, .ref g3])), (g1, .inl (cI, 18, .inl (fun i9 => nI (F i9)))), (g2, .inl (cI, 18, .inl (fun i9 => nI (S i9)))), (g3, .inl (cI, 18, .inl w))] := hD
                refine lv_aload_n hx hb d_D_lookAround_113 rfl (lv_at hl 3 rfl) ?_
                refine g_get Sx gf_D hK hP 0 rfl rfl 2 (by decide) gm_133 rfl d_D_lookAround_114 ?_
                refine lv_iload hx hb d_D_lookAround_117 (lv_at hl 0 rfl) ?_
                refine lv_dup2_11 hx hb d_D_lookAround_119 rfl rfl ?_
                refine g_ild (j := (S i)) Sx hK hP 2 0 rfl rfl (Nat.lt_of_lt_of_le (hFS _ (by omega)).2 hn) (by decide) d_D_lookAround_120 ?_
                refine lv_iconst (v := 1) hx hb d_D_lookAround_121 (by decide) ?_
                refine lv_iload_n hx hb d_D_lookAround_122 rfl (lv_at hl 1 rfl) ?_
                refine lv_ishl hx hb d_D_lookAround_123 ?_
                refine lv_ior hx hb d_D_lookAround_124 ?_
                refine g_ist (j := (S i)) Sx hK hP hD hS 2 0 rfl rfl (Nat.lt_of_lt_of_le (hFS _ (by omega)).2 hn) (by decide) d_D_lookAround_125 (fun H locs hP hD hS => ?_)
                have hP : va_P (dC, dI) pcl [(hd, .inr (0, [.ref hg, .ref d1, .ref d2, .int dE, .int dV, .ref d3, .ref d4, .ref d5, .int (nI fc), .int fE, .int fV, .int cE, .int cC, .ref d6, .ref d7, .int (nI pn), .ref d8])), (d1, .inl (cI, 10, .inl (upd (upd eA2 (F i) ((eA2 (F i)) ||| (1 <<< ((nI i) &&& 31)))) (S i) (((upd eA2 (F i) ((eA2 (F i)) ||| (1 <<< ((nI i) &&& 31)))) (S i)) ||| (1 <<< ((nI i) &&& 31)))))), (d2, .inl (cI, 10, .inl (upd (upd nb2 (F i) ((nb2 (F i)) ||| (1 <<< ((nI (S i)) &&& 31)))) (S i) (((upd nb2 (F i) ((nb2 (F i)) ||| (1 <<< ((nI (S i)) &&& 31)))) (S i)) ||| (1 <<< ((nI (F i)) &&& 31)))))), (hg, .inr (1, [.int (nI n), .int (nI k), .ref g1, .ref g2, .ref g3])), (g1, .inl (cI, 18, .inl (fun i9 => nI (F i9)))), (g2, .inl (cI, 18, .inl (fun i9 => nI (S i9)))), (g3, .inl (cI, 18, .inl w))] H := hP
                have hD : va_D A [(hd, .inr (0, [.ref hg, .ref d1, .ref d2, .int dE, .int dV, .ref d3, .ref d4, .ref d5, .int (nI fc), .int fE, .int fV, .int cE, .int cC, .ref d6, .ref d7, .int (nI pn), .ref d8])), (d1, .inl (cI, 10, .inl (upd (upd eA2 (F i) ((eA2 (F i)) ||| (1 <<< ((nI i) &&& 31)))) (S i) (((upd eA2 (F i) ((eA2 (F i)) ||| (1 <<< ((nI i) &&& 31)))) (S i)) ||| (1 <<< ((nI i) &&& 31)))))), (d2, .inl (cI, 10, .inl (upd (upd nb2 (F i) ((nb2 (F i)) ||| (1 <<< ((nI (S i)) &&& 31)))) (S i) (((upd nb2 (F i) ((nb2 (F i)) ||| (1 <<< ((nI (S i)) &&& 31)))) (S i)) ||| (1 <<< ((nI (F i)) &&& 31)))))), (hg, .inr (1, [.int (nI n), .int (nI k), .ref g1, .ref g2, .ref g3])), (g1, .inl (cI, 18, .inl (fun i9 => nI (F i9)))), (g2, .inl (cI, 18, .inl (fun i9 => nI (S i9)))), (g3, .inl (cI, 18, .inl w))] := hD
                refine lv_iinc (k := 2) (v := nI (i + 1)) hx hb d_D_lookAround_126 hl rfl (inc_nI _) (Nat.le_of_ble_eq_true rfl) rfl (fun ls hl => ?_)
                have hl : lv_has ls 5 [(2, .int (nI (i + 1))), (4, .int (nI (S i))), (3, .int (nI (F i))), (0, .ref hd), (1, .int x)] := hl
                refine lv_goto hx hb d_D_lookAround_129 (tgt := 35) rfl ?_
                have he2 : (upd (upd eA2 (F i) ((eA2 (F i)) ||| (1 <<< ((nI i) &&& 31)))) (S i) (((upd eA2 (F i) ((eA2 (F i)) ||| (1 <<< ((nI i) &&& 31)))) (S i)) ||| (1 <<< ((nI i) &&& 31))), upd (upd nb2 (F i) ((nb2 (F i)) ||| (1 <<< ((nI (S i)) &&& 31)))) (S i) (((upd nb2 (F i) ((nb2 (F i)) ||| (1 <<< ((nI (S i)) &&& 31)))) (S i)) ||| (1 <<< ((nI (F i)) &&& 31)))) = fo (dr_l2 F S x) (i + 1) (fo dr_l1 n (eA, nb)) := by
                  rw [fo_s, ← he35]
                  simp [dr_l2, q1, q3, q4]
                exact ih35 (i + 1) (by omega) (upd (upd eA2 (F i) ((eA2 (F i)) ||| (1 <<< ((nI i) &&& 31)))) (S i) (((upd eA2 (F i) ((eA2 (F i)) ||| (1 <<< ((nI i) &&& 31)))) (S i)) ||| (1 <<< ((nI i) &&& 31)))) (upd (upd nb2 (F i) ((nb2 (F i)) ||| (1 <<< ((nI (S i)) &&& 31)))) (S i) (((upd nb2 (F i) ((nb2 (F i)) ||| (1 <<< ((nI (S i)) &&& 31)))) (S i)) ||| (1 <<< ((nI (F i)) &&& 31)))) H locs ls he2 hP hD hS (lv_sub hl [0, 3, 4] rfl)
        exact hL35 k 0 (by omega) ((fo dr_l1 n (eA, nb)).1) ((fo dr_l1 n (eA, nb)).2) H locs ls rfl hP hD hS (lv_sub hl [0, 1, 2] rfl)
      · have q1 : n < n := nq_nle (by omega) (by omega) q1
        exact absurd q1 (by omega)
    | succ kk ih2 =>
      intro i hi2 eA1 nb1 H locs ls he2 hP hD hS hl
      refine lv_iload_n hx hb d_D_lookAround_2 rfl (lv_at hl 0 rfl) ?_
      refine lv_aload_n hx hb d_D_lookAround_3 rfl (lv_at hl 1 rfl) ?_
      refine g_get Sx gf_D hK hP 0 rfl rfl 0 (by decide) gm_131 rfl d_D_lookAround_4 ?_
      refine g_get Sx gf_G hK hP 3 rfl rfl 0 (by decide) gm_77 rfl d_D_lookAround_7 ?_
      refine lv_icmp_ge hx hb d_D_lookAround_10 (tgt := 33) rfl (fun q5 => ?_) (fun q5 => ?_)
      · have q5 : n ≤ i := nq_le (by omega) (by omega) q5
        exact absurd q5 (by omega)
      · have q5 : i < n := nq_nle (by omega) (by omega) q5
        refine lv_aload_n hx hb d_D_lookAround_13 rfl (lv_at hl 1 rfl) ?_
        refine g_get Sx gf_D hK hP 0 rfl rfl 1 (by decide) gm_132 rfl d_D_lookAround_14 ?_
        refine lv_iload_n hx hb d_D_lookAround_17 rfl (lv_at hl 0 rfl) ?_
        refine lv_iconst (v := 0) hx hb d_D_lookAround_18 (by decide) ?_
        refine g_ist (j := i) Sx hK hP hD hS 1 0 rfl rfl (by omega) (by decide) d_D_lookAround_19 (fun H locs hP hD hS => ?_)
        have hP : va_P (dC, dI) pcl [(hd, .inr (0, [.ref hg, .ref d1, .ref d2, .int dE, .int dV, .ref d3, .ref d4, .ref d5, .int (nI fc), .int fE, .int fV, .int cE, .int cC, .ref d6, .ref d7, .int (nI pn), .ref d8])), (d1, .inl (cI, 10, .inl (upd eA1 i 0))), (d2, .inl (cI, 10, .inl nb1)), (hg, .inr (1, [.int (nI n), .int (nI k), .ref g1, .ref g2, .ref g3])), (g1, .inl (cI, 18, .inl (fun i9 => nI (F i9)))), (g2, .inl (cI, 18, .inl (fun i9 => nI (S i9)))), (g3, .inl (cI, 18, .inl w))] H := hP
        have hD : va_D A [(hd, .inr (0, [.ref hg, .ref d1, .ref d2, .int dE, .int dV, .ref d3, .ref d4, .ref d5, .int (nI fc), .int fE, .int fV, .int cE, .int cC, .ref d6, .ref d7, .int (nI pn), .ref d8])), (d1, .inl (cI, 10, .inl (upd eA1 i 0))), (d2, .inl (cI, 10, .inl nb1)), (hg, .inr (1, [.int (nI n), .int (nI k), .ref g1, .ref g2, .ref g3])), (g1, .inl (cI, 18, .inl (fun i9 => nI (F i9)))), (g2, .inl (cI, 18, .inl (fun i9 => nI (S i9)))), (g3, .inl (cI, 18, .inl w))] := hD
        refine lv_aload_n hx hb d_D_lookAround_20 rfl (lv_at hl 1 rfl) ?_
        refine g_get Sx gf_D hK hP 0 rfl rfl 2 (by decide) gm_133 rfl d_D_lookAround_21 ?_
        refine lv_iload_n hx hb d_D_lookAround_24 rfl (lv_at hl 0 rfl) ?_
        refine lv_iconst (v := 0) hx hb d_D_lookAround_25 (by decide) ?_
        refine g_ist (j := i) Sx hK hP hD hS 2 0 rfl rfl (by omega) (by decide) d_D_lookAround_26 (fun H locs hP hD hS => ?_)
        have hP : va_P (dC, dI) pcl [(hd, .inr (0, [.ref hg, .ref d1, .ref d2, .int dE, .int dV, .ref d3, .ref d4, .ref d5, .int (nI fc), .int fE, .int fV, .int cE, .int cC, .ref d6, .ref d7, .int (nI pn), .ref d8])), (d1, .inl (cI, 10, .inl (upd eA1 i 0))), (d2, .inl (cI, 10, .inl (upd nb1 i 0))), (hg, .inr (1, [.int (nI n), .int (nI k), .ref g1, .ref g2, .ref g3])), (g1, .inl (cI, 18, .inl (fun i9 => nI (F i9)))), (g2, .inl (cI, 18, .inl (fun i9 => nI (S i9)))), (g3, .inl (cI, 18, .inl w))] H := hP
        have hD : va_D A [(hd, .inr (0, [.ref hg, .ref d1, .ref d2, .int dE, .int dV, .ref d3, .ref d4, .ref d5, .int (nI fc), .int fE, .int fV, .int cE, .int cC, .ref d6, .ref d7, .int (nI pn), .ref d8])), (d1, .inl (cI, 10, .inl (upd eA1 i 0))), (d2, .inl (cI, 10, .inl (upd nb1 i 0))), (hg, .inr (1, [.int (nI n), .int (nI k), .ref g1, .ref g2, .ref g3])), (g1, .inl (cI, 18, .inl (fun i9 => nI (F i9)))), (g2, .inl (cI, 18, .inl (fun i9 => nI (S i9)))), (g3, .inl (cI, 18, .inl w))] := hD
        refine lv_iinc (k := 0) (v := nI (i + 1)) hx hb d_D_lookAround_27 hl rfl (inc_nI _) (Nat.le_of_ble_eq_true rfl) rfl (fun ls hl => ?_)
        have hl : lv_has ls 5 [(2, .int (nI (i + 1))), (0, .ref hd), (1, .int x)] := hl
        refine lv_goto hx hb d_D_lookAround_30 (tgt := 2) rfl ?_
        have he2 : (upd eA1 i 0, upd nb1 i 0) = fo dr_l1 (i + 1) (eA, nb) := by
          rw [fo_s, ← he2]
          simp [dr_l1, q5]
        exact ih2 (i + 1) (by omega) (upd eA1 i 0) (upd nb1 i 0) H locs ls he2 hP hD hS (lv_sub hl [0, 1, 2] rfl)
  exact hL2 n 0 (by omega) eA nb H locs ls rfl hP hD hS (lv_sub hl [0, 1, 2] rfl)
theorem d_D_drawEdge_0 : decode k_D_drawEdge 0 = .ok (.aload_n 0, 1) := by decide +kernel
theorem d_D_drawEdge_1 : decode k_D_drawEdge 1 = .ok (.iconst 1, 1) := by decide +kernel
theorem d_D_drawEdge_2 : decode k_D_drawEdge 2 = .ok (.iload_n 1, 1) := by decide +kernel
theorem d_D_drawEdge_3 : decode k_D_drawEdge 3 = .ok (.ishl, 1) := by decide +kernel
theorem d_D_drawEdge_4 : decode k_D_drawEdge 4 = .ok (.putfield 82, 3) := by decide +kernel
theorem d_D_drawEdge_7 : decode k_D_drawEdge 7 = .ok (.aload_n 0, 1) := by decide +kernel
theorem d_D_drawEdge_8 : decode k_D_drawEdge 8 = .ok (.aload_n 0, 1) := by decide +kernel
theorem d_D_drawEdge_9 : decode k_D_drawEdge 9 = .ok (.getfield 38, 3) := by decide +kernel
theorem d_D_drawEdge_12 : decode k_D_drawEdge 12 = .ok (.iload_n 1, 1) := by decide +kernel
theorem d_D_drawEdge_13 : decode k_D_drawEdge 13 = .ok (.invokevirtual 109, 3) := by decide +kernel
theorem d_D_drawEdge_16 : decode k_D_drawEdge 16 = .ok (.putfield 112, 3) := by decide +kernel
theorem d_D_drawEdge_19 : decode k_D_drawEdge 19 = .ok (.aload_n 0, 1) := by decide +kernel
theorem d_D_drawEdge_20 : decode k_D_drawEdge 20 = .ok (.getfield 20, 3) := by decide +kernel
theorem d_D_drawEdge_23 : decode k_D_drawEdge 23 = .ok (.iconst 0, 1) := by decide +kernel
theorem d_D_drawEdge_24 : decode k_D_drawEdge 24 = .ok (.aaload, 1) := by decide +kernel
theorem d_D_drawEdge_25 : decode k_D_drawEdge 25 = .ok (.iconst 0, 1) := by decide +kernel
theorem d_D_drawEdge_26 : decode k_D_drawEdge 26 = .ok (.aload_n 0, 1) := by decide +kernel
theorem d_D_drawEdge_27 : decode k_D_drawEdge 27 = .ok (.getfield 38, 3) := by decide +kernel
theorem d_D_drawEdge_30 : decode k_D_drawEdge 30 = .ok (.getfield 103, 3) := by decide +kernel
theorem d_D_drawEdge_33 : decode k_D_drawEdge 33 = .ok (.iload_n 1, 1) := by decide +kernel
theorem d_D_drawEdge_34 : decode k_D_drawEdge 34 = .ok (.iaload, 1) := by decide +kernel
theorem d_D_drawEdge_35 : decode k_D_drawEdge 35 = .ok (.iastore, 1) := by decide +kernel
theorem d_D_drawEdge_36 : decode k_D_drawEdge 36 = .ok (.aload_n 0, 1) := by decide +kernel
theorem d_D_drawEdge_37 : decode k_D_drawEdge 37 = .ok (.getfield 20, 3) := by decide +kernel
theorem d_D_drawEdge_40 : decode k_D_drawEdge 40 = .ok (.iconst 0, 1) := by decide +kernel
theorem d_D_drawEdge_41 : decode k_D_drawEdge 41 = .ok (.aaload, 1) := by decide +kernel
theorem d_D_drawEdge_42 : decode k_D_drawEdge 42 = .ok (.iconst 1, 1) := by decide +kernel
theorem d_D_drawEdge_43 : decode k_D_drawEdge 43 = .ok (.aload_n 0, 1) := by decide +kernel
theorem d_D_drawEdge_44 : decode k_D_drawEdge 44 = .ok (.getfield 38, 3) := by decide +kernel
theorem d_D_drawEdge_47 : decode k_D_drawEdge 47 = .ok (.getfield 106, 3) := by decide +kernel
theorem d_D_drawEdge_50 : decode k_D_drawEdge 50 = .ok (.iload_n 1, 1) := by decide +kernel
theorem d_D_drawEdge_51 : decode k_D_drawEdge 51 = .ok (.iaload, 1) := by decide +kernel
theorem d_D_drawEdge_52 : decode k_D_drawEdge 52 = .ok (.iastore, 1) := by decide +kernel
theorem d_D_drawEdge_53 : decode k_D_drawEdge 53 = .ok (.aload_n 0, 1) := by decide +kernel
theorem d_D_drawEdge_54 : decode k_D_drawEdge 54 = .ok (.getfield 23, 3) := by decide +kernel
theorem d_D_drawEdge_57 : decode k_D_drawEdge 57 = .ok (.iconst 0, 1) := by decide +kernel
theorem d_D_drawEdge_58 : decode k_D_drawEdge 58 = .ok (.iconst 2, 1) := by decide +kernel
theorem d_D_drawEdge_59 : decode k_D_drawEdge 59 = .ok (.iastore, 1) := by decide +kernel
theorem d_D_drawEdge_60 : decode k_D_drawEdge 60 = .ok (.aload_n 0, 1) := by decide +kernel
theorem d_D_drawEdge_61 : decode k_D_drawEdge 61 = .ok (.getfield 26, 3) := by decide +kernel
theorem d_D_drawEdge_64 : decode k_D_drawEdge 64 = .ok (.iconst 0, 1) := by decide +kernel
theorem d_D_drawEdge_65 : decode k_D_drawEdge 65 = .ok (.aload_n 0, 1) := by decide +kernel
theorem d_D_drawEdge_66 : decode k_D_drawEdge 66 = .ok (.getfield 112, 3) := by decide +kernel
theorem d_D_drawEdge_69 : decode k_D_drawEdge 69 = .ok (.iastore, 1) := by decide +kernel
theorem d_D_drawEdge_70 : decode k_D_drawEdge 70 = .ok (.aload_n 0, 1) := by decide +kernel
theorem d_D_drawEdge_71 : decode k_D_drawEdge 71 = .ok (.iconst 1, 1) := by decide +kernel
theorem d_D_drawEdge_72 : decode k_D_drawEdge 72 = .ok (.putfield 115, 3) := by decide +kernel
theorem d_D_drawEdge_75 : decode k_D_drawEdge 75 = .ok (.return_, 1) := by decide +kernel
abbrev rm_D_drawEdge : Room := { frames := 1, cells := 0, slots := 0, locals := 21 }
theorem hd_D_drawEdge : y_D_drawEdge.cls = n_D ∧ y_D_drawEdge.cls ≠ "java/lang/invoke/MethodHandle" ∧ y_D_drawEdge.cls ≠ "java/lang/invoke/VarHandle" ∧ (parseMethodDescriptor y_D_drawEdge.desc).map (fun d => d.parameters.length) = some 1 := by decide +kernel
set_option maxHeartbeats 4000000 in
set_option maxRecDepth 100000 in
theorem c_D_drawEdge (l : Launch) (dC : Nat → ClassId) (dI : Nat → Nat → Nat) (hd : Nat) (hg : Nat) (dE : Int32) (dV : Int32) (fc : Nat) (fE : Int32) (fV : Int32) (cE : Int32) (cC : Int32) (pn : Nat) (d1 : Nat) (d2 : Nat) (d3 : Nat) (d4 : Nat) (d5 : Nat) (d6 : Nat) (d7 : Nat) (d8 : Nat) (cI : ClassId) (cQ : ClassId) (WL : Nat → Nat) (WS : Nat → Int32) (r : Nat → Nat) (M : Nat → Nat → Nat) (n : Nat) (k : Nat) (F : Nat → Nat) (S : Nat → Nat) (w : Nat → Int32) (g1 : Nat) (g2 : Nat) (g3 : Nat) (e9 : Nat) (sz : Nat) (he9 : e9 < 18) : Met l y_D_drawEdge (.code y_D_drawEdge k_D_drawEdge 2 none :: gw) rm_D_drawEdge (rwP [.ref hd, .int (nI e9)] (dC, dI) ([(hd, .inr (0, [.ref hg, .ref d1, .ref d2, .int dE, .int dV, .ref d3, .ref d4, .ref d5, .int (nI fc), .int fE, .int fV, .int cE, .int cC, .ref d6, .ref d7, .int (nI pn), .ref d8])), (d3, .inl (cQ, 18, .inr (.inr (.inr (.inr (fun i9 => if i9 < 18 then some (r i9) else none)))))), (d4, .inl (cI, 18, .inl (fun i9 => nI (WL i9)))), (d5, .inl (cI, 18, .inl WS)), (hg, .inr (1, [.int (nI n), .int (nI k), .ref g1, .ref g2, .ref g3])), (g1, .inl (cI, 18, .inl (fun i9 => nI (F i9)))), (g2, .inl (cI, 18, .inl (fun i9 => nI (S i9)))), (g3, .inl (cI, 18, .inl w))] ++ wkR r cI M) [(cI, .int), (cQ, .array .int)] sz) (va_Qv (fun _ : Unit => True) (rwB (dC, dI) ([(hd, .inr (0, [.ref hg, .ref d1, .ref d2, .int (1 <<< ((nI e9) &&& 31)), .int (ps_ends F S e9), .ref d3, .ref d4, .ref d5, .int (nI 1), .int fE, .int fV, .int cE, .int cC, .ref d6, .ref d7, .int (nI pn), .ref d8])), (d3, .inl (cQ, 18, .inr (.inr (.inr (.inr (fun i9 => if i9 < 18 then some (r i9) else none)))))), (d4, .inl (cI, 18, .inl (fun i9 => nI ((va_up WL 0 2) i9)))), (d5, .inl (cI, 18, .inl (upd WS 0 (ps_ends F S e9)))), (hg, .inr (1, [.int (nI n), .int (nI k), .ref g1, .ref g2, .ref g3])), (g1, .inl (cI, 18, .inl (fun i9 => nI (F i9)))), (g2, .inl (cI, 18, .inl (fun i9 => nI (S i9)))), (g3, .inl (cI, 18, .inl w))] ++ wkR r cI (dr_e M (F e9) (S e9))) [(cI, .int), (cQ, .array .int)] (va_A ([(hd, .inr (0, [.ref hg, .ref d1, .ref d2, .int dE, .int dV, .ref d3, .ref d4, .ref d5, .int (nI fc), .int fE, .int fV, .int cE, .int cC, .ref d6, .ref d7, .int (nI pn), .ref d8])), (d3, .inl (cQ, 18, .inr (.inr (.inr (.inr (fun i9 => if i9 < 18 then some (r i9) else none)))))), (d4, .inl (cI, 18, .inl (fun i9 => nI (WL i9)))), (d5, .inl (cI, 18, .inl WS)), (hg, .inr (1, [.int (nI n), .int (nI k), .ref g1, .ref g2, .ref g3])), (g1, .inl (cI, 18, .inl (fun i9 => nI (F i9)))), (g2, .inl (cI, 18, .inl (fun i9 => nI (S i9)))), (g3, .inl (cI, 18, .inl w))] ++ wkR r cI M) sz)) (va_A ([(hd, .inr (0, [.ref hg, .ref d1, .ref d2, .int dE, .int dV, .ref d3, .ref d4, .ref d5, .int (nI fc), .int fE, .int fV, .int cE, .int cC, .ref d6, .ref d7, .int (nI pn), .ref d8])), (d3, .inl (cQ, 18, .inr (.inr (.inr (.inr (fun i9 => if i9 < 18 then some (r i9) else none)))))), (d4, .inl (cI, 18, .inl (fun i9 => nI (WL i9)))), (d5, .inl (cI, 18, .inl WS)), (hg, .inr (1, [.int (nI n), .int (nI k), .ref g1, .ref g2, .ref g3])), (g1, .inl (cI, 18, .inl (fun i9 => nI (F i9)))), (g2, .inl (cI, 18, .inl (fun i9 => nI (S i9)))), (g3, .inl (cI, 18, .inl w))] ++ wkR r cI M) sz)) 0 0 (va_A ([(hd, .inr (0, [.ref hg, .ref d1, .ref d2, .int dE, .int dV, .ref d3, .ref d4, .ref d5, .int (nI fc), .int fE, .int fV, .int cE, .int cC, .ref d6, .ref d7, .int (nI pn), .ref d8])), (d3, .inl (cQ, 18, .inr (.inr (.inr (.inr (fun i9 => if i9 < 18 then some (r i9) else none)))))), (d4, .inl (cI, 18, .inl (fun i9 => nI (WL i9)))), (d5, .inl (cI, 18, .inl WS)), (hg, .inr (1, [.int (nI n), .int (nI k), .ref g1, .ref g2, .ref g3])), (g1, .inl (cI, 18, .inl (fun i9 => nI (F i9)))), (g2, .inl (cI, 18, .inl (fun i9 => nI (S i9)))), (g3, .inl (cI, 18, .inl w))] ++ wkR r cI M) sz) := by
  refine rw_met (by decide) ⟨rfl, rfl⟩ (Nat.le_of_ble_eq_true rfl) ?_
  intro p e s m args below meth c Q A ls Sx hP hK hD hA hl hret
  have hx := Sx.1
  have hb := Sx.2.1
  have hl : lv_has ls 2 [(0, .ref hd), (1, .int (nI e9))] := hl
  have hS : va_S A s.heap s.heap [] := va_S.rf
  obtain ⟨H, hH⟩ : ∃ H, H = s.heap := ⟨_, rfl⟩
  obtain ⟨locs, hlo⟩ : ∃ locs : List Loc, locs = [] := ⟨_, rfl⟩
  rw [← hlo]
  rw [← hlo] at hS
  have hP : va_P (dC, dI) pcl ([(hd, .inr (0, [.ref hg, .ref d1, .ref d2, .int dE, .int dV, .ref d3, .ref d4, .ref d5, .int (nI fc), .int fE, .int fV, .int cE, .int cC, .ref d6, .ref d7, .int (nI pn), .ref d8])), (d3, .inl (cQ, 18, .inr (.inr (.inr (.inr (fun i9 => if i9 < 18 then some (r i9) else none)))))), (d4, .inl (cI, 18, .inl (fun i9 => nI (WL i9)))), (d5, .inl (cI, 18, .inl WS)), (hg, .inr (1, [.int (nI n), .int (nI k), .ref g1, .ref g2, .ref g3])), (g1, .inl (cI, 18, .inl (fun i9 => nI (F i9)))), (g2, .inl (cI, 18, .inl (fun i9 => nI (S i9)))), (g3, .inl (cI, 18, .inl w))] ++ wkR r cI M) H := by rw [hH]; exact hP
  have hS : va_S A s.heap H locs := by rw [hH]; exact hS
  suffices hgo : W p l e rm_D_drawEdge s m args below meth c H locs 0 0 Q (F0 m 0 ls []) by rw [hH] at hgo; exact hgo
  refine lv_aload_n hx hb d_D_drawEdge_0 rfl (lv_at hl 0 rfl) ?_
  refine lv_iconst (v := 1) hx hb d_D_drawEdge_1 (by decide) ?_
  refine lv_iload_n hx hb d_D_drawEdge_2 rfl (lv_at hl 1 rfl) ?_
  refine lv_ishl hx hb d_D_drawEdge_3 ?_
  refine g_put Sx gf_D fk_D fn_D hK hP hD hS 0 rfl rfl 3 (by decide) gm_134 rfl rfl rfl (Nat.le_of_ble_eq_true rfl) d_D_drawEdge_4 (fun H locs hP hD hS => ?_)
  have hP : va_P (dC, dI) pcl ([(hd, .inr (0, [.ref hg, .ref d1, .ref d2, .int (1 <<< ((nI e9) &&& 31)), .int dV, .ref d3, .ref d4, .ref d5, .int (nI fc), .int fE, .int fV, .int cE, .int cC, .ref d6, .ref d7, .int (nI pn), .ref d8])), (d3, .inl (cQ, 18, .inr (.inr (.inr (.inr (fun i9 => if i9 < 18 then some (r i9) else none)))))), (d4, .inl (cI, 18, .inl (fun i9 => nI (WL i9)))), (d5, .inl (cI, 18, .inl WS)), (hg, .inr (1, [.int (nI n), .int (nI k), .ref g1, .ref g2, .ref g3])), (g1, .inl (cI, 18, .inl (fun i9 => nI (F i9)))), (g2, .inl (cI, 18, .inl (fun i9 => nI (S i9)))), (g3, .inl (cI, 18, .inl w))] ++ wkR r cI M) H := hP
  have hD : va_D A ([(hd, .inr (0, [.ref hg, .ref d1, .ref d2, .int (1 <<< ((nI e9) &&& 31)), .int dV, .ref d3, .ref d4, .ref d5, .int (nI fc), .int fE, .int fV, .int cE, .int cC, .ref d6, .ref d7, .int (nI pn), .ref d8])), (d3, .inl (cQ, 18, .inr (.inr (.inr (.inr (fun i9 => if i9 < 18 then some (r i9) else none)))))), (d4, .inl (cI, 18, .inl (fun i9 => nI (WL i9)))), (d5, .inl (cI, 18, .inl WS)), (hg, .inr (1, [.int (nI n), .int (nI k), .ref g1, .ref g2, .ref g3])), (g1, .inl (cI, 18, .inl (fun i9 => nI (F i9)))), (g2, .inl (cI, 18, .inl (fun i9 => nI (S i9)))), (g3, .inl (cI, 18, .inl w))] ++ wkR r cI M) := hD
  refine lv_aload_n hx hb d_D_drawEdge_7 rfl (lv_at hl 0 rfl) ?_
  refine lv_aload_n hx hb d_D_drawEdge_8 rfl (lv_at hl 0 rfl) ?_
  refine g_get Sx gf_D hK hP 0 rfl rfl 0 (by decide) gm_131 rfl d_D_drawEdge_9 ?_
  refine lv_iload_n hx hb d_D_drawEdge_12 rfl (lv_at hl 1 rfl) ?_
  refine ro_V (As := [.int (nI e9)]) (rest := [.ref hd]) Sx (c_G_ends l dC dI n k F S w hg g1 g2 g3 cI e9 (by omega)) (gw_callV gm_311 gm_312 gm_313 gm_52 gm_314) hd_G_ends ⟨rfl, rfl⟩ ⟨Nat.le_of_ble_eq_true rfl, Nat.le_of_ble_eq_true rfl⟩ (va_P_map (va_P_l hP) [4, 5, 6, 7] rfl) (hK.sub (tys' := [(cI, .int)]) [0] rfl) rfl 0 rfl rfl hl.1 rfl (Nat.le_of_ble_eq_true rfl) d_D_drawEdge_13 ⟨Nat.zero_le _, Nat.zero_le _⟩ ?_
  refine g_put Sx gf_D fk_D fn_D hK hP hD hS 0 rfl rfl 4 (by decide) gm_135 rfl rfl rfl (Nat.le_of_ble_eq_true rfl) d_D_drawEdge_16 (fun H locs hP hD hS => ?_)
  have hP : va_P (dC, dI) pcl ([(hd, .inr (0, [.ref hg, .ref d1, .ref d2, .int (1 <<< ((nI e9) &&& 31)), .int (ps_ends F S e9), .ref d3, .ref d4, .ref d5, .int (nI fc), .int fE, .int fV, .int cE, .int cC, .ref d6, .ref d7, .int (nI pn), .ref d8])), (d3, .inl (cQ, 18, .inr (.inr (.inr (.inr (fun i9 => if i9 < 18 then some (r i9) else none)))))), (d4, .inl (cI, 18, .inl (fun i9 => nI (WL i9)))), (d5, .inl (cI, 18, .inl WS)), (hg, .inr (1, [.int (nI n), .int (nI k), .ref g1, .ref g2, .ref g3])), (g1, .inl (cI, 18, .inl (fun i9 => nI (F i9)))), (g2, .inl (cI, 18, .inl (fun i9 => nI (S i9)))), (g3, .inl (cI, 18, .inl w))] ++ wkR r cI M) H := hP
  have hD : va_D A ([(hd, .inr (0, [.ref hg, .ref d1, .ref d2, .int (1 <<< ((nI e9) &&& 31)), .int (ps_ends F S e9), .ref d3, .ref d4, .ref d5, .int (nI fc), .int fE, .int fV, .int cE, .int cC, .ref d6, .ref d7, .int (nI pn), .ref d8])), (d3, .inl (cQ, 18, .inr (.inr (.inr (.inr (fun i9 => if i9 < 18 then some (r i9) else none)))))), (d4, .inl (cI, 18, .inl (fun i9 => nI (WL i9)))), (d5, .inl (cI, 18, .inl WS)), (hg, .inr (1, [.int (nI n), .int (nI k), .ref g1, .ref g2, .ref g3])), (g1, .inl (cI, 18, .inl (fun i9 => nI (F i9)))), (g2, .inl (cI, 18, .inl (fun i9 => nI (S i9)))), (g3, .inl (cI, 18, .inl w))] ++ wkR r cI M) := hD
  refine lv_aload_n hx hb d_D_drawEdge_19 rfl (lv_at hl 0 rfl) ?_
  refine g_get Sx gf_D hK hP 0 rfl rfl 5 (by decide) gm_136 rfl d_D_drawEdge_20 ?_
  refine lv_iconst (v := nI 0) hx hb d_D_drawEdge_23 (by decide) ?_
  refine g_ald (j := 0) Sx hK hP 1 1 rfl rfl (by omega) d_D_drawEdge_24 ?_
  refine lv_iconst (v := nI 0) hx hb d_D_drawEdge_25 (by decide) ?_
  refine lv_aload_n hx hb d_D_drawEdge_26 rfl (lv_at hl 0 rfl) ?_
  refine g_get Sx gf_D hK hP 0 rfl rfl 0 (by decide) gm_131 rfl d_D_drawEdge_27 ?_
  refine g_get Sx gf_G hK hP 4 rfl rfl 2 (by decide) gm_86 rfl d_D_drawEdge_30 ?_
  refine lv_iload_n hx hb d_D_drawEdge_33 rfl (lv_at hl 1 rfl) ?_
  refine g_ild (j := e9) Sx hK hP 5 0 rfl rfl (by omega) (by decide) d_D_drawEdge_34 ?_
  refine g_rst (f := 0) (j := 0) (x := (F e9)) Sx hK hP hD hS 0 rfl (by omega) (by omega) d_D_drawEdge_35 (fun H locs hP hD hS => ?_)
  have hP : va_P (dC, dI) pcl ([(hd, .inr (0, [.ref hg, .ref d1, .ref d2, .int (1 <<< ((nI e9) &&& 31)), .int (ps_ends F S e9), .ref d3, .ref d4, .ref d5, .int (nI fc), .int fE, .int fV, .int cE, .int cC, .ref d6, .ref d7, .int (nI pn), .ref d8])), (d3, .inl (cQ, 18, .inr (.inr (.inr (.inr (fun i9 => if i9 < 18 then some (r i9) else none)))))), (d4, .inl (cI, 18, .inl (fun i9 => nI (WL i9)))), (d5, .inl (cI, 18, .inl WS)), (hg, .inr (1, [.int (nI n), .int (nI k), .ref g1, .ref g2, .ref g3])), (g1, .inl (cI, 18, .inl (fun i9 => nI (F i9)))), (g2, .inl (cI, 18, .inl (fun i9 => nI (S i9)))), (g3, .inl (cI, 18, .inl w))] ++ wkR r cI (va_up M 0 (va_up (M 0) 0 (F e9)))) H := hP
  have hD : va_D A ([(hd, .inr (0, [.ref hg, .ref d1, .ref d2, .int (1 <<< ((nI e9) &&& 31)), .int (ps_ends F S e9), .ref d3, .ref d4, .ref d5, .int (nI fc), .int fE, .int fV, .int cE, .int cC, .ref d6, .ref d7, .int (nI pn), .ref d8])), (d3, .inl (cQ, 18, .inr (.inr (.inr (.inr (fun i9 => if i9 < 18 then some (r i9) else none)))))), (d4, .inl (cI, 18, .inl (fun i9 => nI (WL i9)))), (d5, .inl (cI, 18, .inl WS)), (hg, .inr (1, [.int (nI n), .int (nI k), .ref g1, .ref g2, .ref g3])), (g1, .inl (cI, 18, .inl (fun i9 => nI (F i9)))), (g2, .inl (cI, 18, .inl (fun i9 => nI (S i9)))), (g3, .inl (cI, 18, .inl w))] ++ wkR r cI (va_up M 0 (va_up (M 0) 0 (F e9)))) := hD
  refine lv_aload_n hx hb d_D_drawEdge_36 rfl (lv_at hl 0 rfl) ?_
  refine g_get Sx gf_D hK hP 0 rfl rfl 5 (by decide) gm_136 rfl d_D_drawEdge_37 ?_
  refine lv_iconst (v := nI 0) hx hb d_D_drawEdge_40 (by decide) ?_
  refine g_ald (j := 0) Sx hK hP 1 1 rfl rfl (by omega) d_D_drawEdge_41 ?_
  refine lv_iconst (v := nI 1) hx hb d_D_drawEdge_42 (by decide) ?_
  refine lv_aload_n hx hb d_D_drawEdge_43 rfl (lv_at hl 0 rfl) ?_
  refine g_get Sx gf_D hK hP 0 rfl rfl 0 (by decide) gm_131 rfl d_D_drawEdge_44 ?_
  refine g_get Sx gf_G hK hP 4 rfl rfl 3 (by decide) gm_90 rfl d_D_drawEdge_47 ?_
  refine lv_iload_n hx hb d_D_drawEdge_50 rfl (lv_at hl 1 rfl) ?_
  refine g_ild (j := e9) Sx hK hP 6 0 rfl rfl (by omega) (by decide) d_D_drawEdge_51 ?_
  refine g_rst (f := 0) (j := 1) (x := (S e9)) Sx hK hP hD hS 0 rfl (by omega) (by omega) d_D_drawEdge_52 (fun H locs hP hD hS => ?_)
  have hP : va_P (dC, dI) pcl ([(hd, .inr (0, [.ref hg, .ref d1, .ref d2, .int (1 <<< ((nI e9) &&& 31)), .int (ps_ends F S e9), .ref d3, .ref d4, .ref d5, .int (nI fc), .int fE, .int fV, .int cE, .int cC, .ref d6, .ref d7, .int (nI pn), .ref d8])), (d3, .inl (cQ, 18, .inr (.inr (.inr (.inr (fun i9 => if i9 < 18 then some (r i9) else none)))))), (d4, .inl (cI, 18, .inl (fun i9 => nI (WL i9)))), (d5, .inl (cI, 18, .inl WS)), (hg, .inr (1, [.int (nI n), .int (nI k), .ref g1, .ref g2, .ref g3])), (g1, .inl (cI, 18, .inl (fun i9 => nI (F i9)))), (g2, .inl (cI, 18, .inl (fun i9 => nI (S i9)))), (g3, .inl (cI, 18, .inl w))] ++ wkR r cI (va_up (va_up M 0 (va_up (M 0) 0 (F e9))) 0 (va_up ((va_up M 0 (va_up (M 0) 0 (F e9))) 0) 1 (S e9)))) H := hP
  have hD : va_D A ([(hd, .inr (0, [.ref hg, .ref d1, .ref d2, .int (1 <<< ((nI e9) &&& 31)), .int (ps_ends F S e9), .ref d3, .ref d4, .ref d5, .int (nI fc), .int fE, .int fV, .int cE, .int cC, .ref d6, .ref d7, .int (nI pn), .ref d8])), (d3, .inl (cQ, 18, .inr (.inr (.inr (.inr (fun i9 => if i9 < 18 then some (r i9) else none)))))), (d4, .inl (cI, 18, .inl (fun i9 => nI (WL i9)))), (d5, .inl (cI, 18, .inl WS)), (hg, .inr (1, [.int (nI n), .int (nI k), .ref g1, .ref g2, .ref g3])), (g1, .inl (cI, 18, .inl (fun i9 => nI (F i9)))), (g2, .inl (cI, 18, .inl (fun i9 => nI (S i9)))), (g3, .inl (cI, 18, .inl w))] ++ wkR r cI (va_up (va_up M 0 (va_up (M 0) 0 (F e9))) 0 (va_up ((va_up M 0 (va_up (M 0) 0 (F e9))) 0) 1 (S e9)))) := hD
  refine lv_aload_n hx hb d_D_drawEdge_53 rfl (lv_at hl 0 rfl) ?_
  refine g_get Sx gf_D hK hP 0 rfl rfl 6 (by decide) gm_137 rfl d_D_drawEdge_54 ?_
  refine lv_iconst (v := nI 0) hx hb d_D_drawEdge_57 (by decide) ?_
  refine lv_iconst (v := nI 2) hx hb d_D_drawEdge_58 (by decide) ?_
  refine g_istN (j := 0) Sx hK hP hD hS 2 0 rfl rfl (by omega) (by decide) d_D_drawEdge_59 (fun H locs hP hD hS => ?_)
  have hP : va_P (dC, dI) pcl ([(hd, .inr (0, [.ref hg, .ref d1, .ref d2, .int (1 <<< ((nI e9) &&& 31)), .int (ps_ends F S e9), .ref d3, .ref d4, .ref d5, .int (nI fc), .int fE, .int fV, .int cE, .int cC, .ref d6, .ref d7, .int (nI pn), .ref d8])), (d3, .inl (cQ, 18, .inr (.inr (.inr (.inr (fun i9 => if i9 < 18 then some (r i9) else none)))))), (d4, .inl (cI, 18, .inl (fun i9 => nI ((va_up WL 0 2) i9)))), (d5, .inl (cI, 18, .inl WS)), (hg, .inr (1, [.int (nI n), .int (nI k), .ref g1, .ref g2, .ref g3])), (g1, .inl (cI, 18, .inl (fun i9 => nI (F i9)))), (g2, .inl (cI, 18, .inl (fun i9 => nI (S i9)))), (g3, .inl (cI, 18, .inl w))] ++ wkR r cI (va_up (va_up M 0 (va_up (M 0) 0 (F e9))) 0 (va_up ((va_up M 0 (va_up (M 0) 0 (F e9))) 0) 1 (S e9)))) H := hP
  have hD : va_D A ([(hd, .inr (0, [.ref hg, .ref d1, .ref d2, .int (1 <<< ((nI e9) &&& 31)), .int (ps_ends F S e9), .ref d3, .ref d4, .ref d5, .int (nI fc), .int fE, .int fV, .int cE, .int cC, .ref d6, .ref d7, .int (nI pn), .ref d8])), (d3, .inl (cQ, 18, .inr (.inr (.inr (.inr (fun i9 => if i9 < 18 then some (r i9) else none)))))), (d4, .inl (cI, 18, .inl (fun i9 => nI ((va_up WL 0 2) i9)))), (d5, .inl (cI, 18, .inl WS)), (hg, .inr (1, [.int (nI n), .int (nI k), .ref g1, .ref g2, .ref g3])), (g1, .inl (cI, 18, .inl (fun i9 => nI (F i9)))), (g2, .inl (cI, 18, .inl (fun i9 => nI (S i9)))), (g3, .inl (cI, 18, .inl w))] ++ wkR r cI (va_up (va_up M 0 (va_up (M 0) 0 (F e9))) 0 (va_up ((va_up M 0 (va_up (M 0) 0 (F e9))) 0) 1 (S e9)))) := hD
  refine lv_aload_n hx hb d_D_drawEdge_60 rfl (lv_at hl 0 rfl) ?_
  refine g_get Sx gf_D hK hP 0 rfl rfl 7 (by decide) gm_138 rfl d_D_drawEdge_61 ?_
  refine lv_iconst (v := nI 0) hx hb d_D_drawEdge_64 (by decide) ?_
  refine lv_aload_n hx hb d_D_drawEdge_65 rfl (lv_at hl 0 rfl) ?_
  refine g_get Sx gf_D hK hP 0 rfl rfl 4 (by decide) gm_135 rfl d_D_drawEdge_66 ?_
  refine g_ist (j := 0) Sx hK hP hD hS 3 0 rfl rfl (by omega) (by decide) d_D_drawEdge_69 (fun H locs hP hD hS => ?_)
  have hP : va_P (dC, dI) pcl ([(hd, .inr (0, [.ref hg, .ref d1, .ref d2, .int (1 <<< ((nI e9) &&& 31)), .int (ps_ends F S e9), .ref d3, .ref d4, .ref d5, .int (nI fc), .int fE, .int fV, .int cE, .int cC, .ref d6, .ref d7, .int (nI pn), .ref d8])), (d3, .inl (cQ, 18, .inr (.inr (.inr (.inr (fun i9 => if i9 < 18 then some (r i9) else none)))))), (d4, .inl (cI, 18, .inl (fun i9 => nI ((va_up WL 0 2) i9)))), (d5, .inl (cI, 18, .inl (upd WS 0 (ps_ends F S e9)))), (hg, .inr (1, [.int (nI n), .int (nI k), .ref g1, .ref g2, .ref g3])), (g1, .inl (cI, 18, .inl (fun i9 => nI (F i9)))), (g2, .inl (cI, 18, .inl (fun i9 => nI (S i9)))), (g3, .inl (cI, 18, .inl w))] ++ wkR r cI (va_up (va_up M 0 (va_up (M 0) 0 (F e9))) 0 (va_up ((va_up M 0 (va_up (M 0) 0 (F e9))) 0) 1 (S e9)))) H := hP
  have hD : va_D A ([(hd, .inr (0, [.ref hg, .ref d1, .ref d2, .int (1 <<< ((nI e9) &&& 31)), .int (ps_ends F S e9), .ref d3, .ref d4, .ref d5, .int (nI fc), .int fE, .int fV, .int cE, .int cC, .ref d6, .ref d7, .int (nI pn), .ref d8])), (d3, .inl (cQ, 18, .inr (.inr (.inr (.inr (fun i9 => if i9 < 18 then some (r i9) else none)))))), (d4, .inl (cI, 18, .inl (fun i9 => nI ((va_up WL 0 2) i9)))), (d5, .inl (cI, 18, .inl (upd WS 0 (ps_ends F S e9)))), (hg, .inr (1, [.int (nI n), .int (nI k), .ref g1, .ref g2, .ref g3])), (g1, .inl (cI, 18, .inl (fun i9 => nI (F i9)))), (g2, .inl (cI, 18, .inl (fun i9 => nI (S i9)))), (g3, .inl (cI, 18, .inl w))] ++ wkR r cI (va_up (va_up M 0 (va_up (M 0) 0 (F e9))) 0 (va_up ((va_up M 0 (va_up (M 0) 0 (F e9))) 0) 1 (S e9)))) := hD
  refine lv_aload_n hx hb d_D_drawEdge_70 rfl (lv_at hl 0 rfl) ?_
  refine lv_iconst (v := nI 1) hx hb d_D_drawEdge_71 (by decide) ?_
  refine g_put Sx gf_D fk_D fn_D hK hP hD hS 0 rfl rfl 8 (by decide) gm_139 rfl rfl rfl (Nat.le_of_ble_eq_true rfl) d_D_drawEdge_72 (fun H locs hP hD hS => ?_)
  have hP : va_P (dC, dI) pcl ([(hd, .inr (0, [.ref hg, .ref d1, .ref d2, .int (1 <<< ((nI e9) &&& 31)), .int (ps_ends F S e9), .ref d3, .ref d4, .ref d5, .int (nI 1), .int fE, .int fV, .int cE, .int cC, .ref d6, .ref d7, .int (nI pn), .ref d8])), (d3, .inl (cQ, 18, .inr (.inr (.inr (.inr (fun i9 => if i9 < 18 then some (r i9) else none)))))), (d4, .inl (cI, 18, .inl (fun i9 => nI ((va_up WL 0 2) i9)))), (d5, .inl (cI, 18, .inl (upd WS 0 (ps_ends F S e9)))), (hg, .inr (1, [.int (nI n), .int (nI k), .ref g1, .ref g2, .ref g3])), (g1, .inl (cI, 18, .inl (fun i9 => nI (F i9)))), (g2, .inl (cI, 18, .inl (fun i9 => nI (S i9)))), (g3, .inl (cI, 18, .inl w))] ++ wkR r cI (va_up (va_up M 0 (va_up (M 0) 0 (F e9))) 0 (va_up ((va_up M 0 (va_up (M 0) 0 (F e9))) 0) 1 (S e9)))) H := hP
  have hD : va_D A ([(hd, .inr (0, [.ref hg, .ref d1, .ref d2, .int (1 <<< ((nI e9) &&& 31)), .int (ps_ends F S e9), .ref d3, .ref d4, .ref d5, .int (nI 1), .int fE, .int fV, .int cE, .int cC, .ref d6, .ref d7, .int (nI pn), .ref d8])), (d3, .inl (cQ, 18, .inr (.inr (.inr (.inr (fun i9 => if i9 < 18 then some (r i9) else none)))))), (d4, .inl (cI, 18, .inl (fun i9 => nI ((va_up WL 0 2) i9)))), (d5, .inl (cI, 18, .inl (upd WS 0 (ps_ends F S e9)))), (hg, .inr (1, [.int (nI n), .int (nI k), .ref g1, .ref g2, .ref g3])), (g1, .inl (cI, 18, .inl (fun i9 => nI (F i9)))), (g2, .inl (cI, 18, .inl (fun i9 => nI (S i9)))), (g3, .inl (cI, 18, .inl w))] ++ wkR r cI (va_up (va_up M 0 (va_up (M 0) 0 (F e9))) 0 (va_up ((va_up M 0 (va_up (M 0) 0 (F e9))) 0) 1 (S e9)))) := hD
  exact hret _ H locs _ d_D_drawEdge_75 hP hD hS
theorem d_D_countFacesWith_0 : decode k_D_countFacesWith 0 = .ok (.iconst 0, 1) := by decide +kernel
theorem d_D_countFacesWith_1 : decode k_D_countFacesWith 1 = .ok (.istore_n 2, 1) := by decide +kernel
theorem d_D_countFacesWith_2 : decode k_D_countFacesWith 2 = .ok (.iconst 0, 1) := by decide +kernel
theorem d_D_countFacesWith_3 : decode k_D_countFacesWith 3 = .ok (.istore_n 3, 1) := by decide +kernel
theorem d_D_countFacesWith_4 : decode k_D_countFacesWith 4 = .ok (.iload_n 3, 1) := by decide +kernel
theorem d_D_countFacesWith_5 : decode k_D_countFacesWith 5 = .ok (.aload_n 0, 1) := by decide +kernel
theorem d_D_countFacesWith_6 : decode k_D_countFacesWith 6 = .ok (.getfield 115, 3) := by decide +kernel
theorem d_D_countFacesWith_9 : decode k_D_countFacesWith 9 = .ok (.if_icmp .ge 25, 3) := by decide +kernel
theorem d_D_countFacesWith_12 : decode k_D_countFacesWith 12 = .ok (.iload_n 1, 1) := by decide +kernel
theorem d_D_countFacesWith_13 : decode k_D_countFacesWith 13 = .ok (.aload_n 0, 1) := by decide +kernel
theorem d_D_countFacesWith_14 : decode k_D_countFacesWith 14 = .ok (.getfield 26, 3) := by decide +kernel
theorem d_D_countFacesWith_17 : decode k_D_countFacesWith 17 = .ok (.iload_n 3, 1) := by decide +kernel
theorem d_D_countFacesWith_18 : decode k_D_countFacesWith 18 = .ok (.iaload, 1) := by decide +kernel
theorem d_D_countFacesWith_19 : decode k_D_countFacesWith 19 = .ok (.iconst (-1), 1) := by decide +kernel
theorem d_D_countFacesWith_20 : decode k_D_countFacesWith 20 = .ok (.ixor, 1) := by decide +kernel
theorem d_D_countFacesWith_21 : decode k_D_countFacesWith 21 = .ok (.iand, 1) := by decide +kernel
theorem d_D_countFacesWith_22 : decode k_D_countFacesWith 22 = .ok (.ifCond .ne 6, 3) := by decide +kernel
theorem d_D_countFacesWith_25 : decode k_D_countFacesWith 25 = .ok (.iinc 2 1, 3) := by decide +kernel
theorem d_D_countFacesWith_28 : decode k_D_countFacesWith 28 = .ok (.iinc 3 1, 3) := by decide +kernel
theorem d_D_countFacesWith_31 : decode k_D_countFacesWith 31 = .ok (.goto (-27), 3) := by decide +kernel
theorem d_D_countFacesWith_34 : decode k_D_countFacesWith 34 = .ok (.iload_n 2, 1) := by decide +kernel
theorem d_D_countFacesWith_35 : decode k_D_countFacesWith 35 = .ok (.ireturn, 1) := by decide +kernel
abbrev rm_D_countFacesWith : Room := { frames := 0, cells := 0, slots := 0, locals := 0 }
theorem hd_D_countFacesWith : y_D_countFacesWith.cls = n_D ∧ y_D_countFacesWith.cls ≠ "java/lang/invoke/MethodHandle" ∧ y_D_countFacesWith.cls ≠ "java/lang/invoke/VarHandle" ∧ (parseMethodDescriptor y_D_countFacesWith.desc).map (fun d => d.parameters.length) = some 1 := by decide +kernel
set_option maxHeartbeats 4000000 in
set_option maxRecDepth 100000 in
theorem c_D_countFacesWith (l : Launch) (dC : Nat → ClassId) (dI : Nat → Nat → Nat) (hd : Nat) (hg : Nat) (dE : Int32) (dV : Int32) (fc : Nat) (fE : Int32) (fV : Int32) (cE : Int32) (cC : Int32) (pn : Nat) (d1 : Nat) (d2 : Nat) (d3 : Nat) (d4 : Nat) (d5 : Nat) (d6 : Nat) (d7 : Nat) (d8 : Nat) (cI : ClassId) (cQ : ClassId) (WS : Nat → Int32) (x : Int32) (hfc : fc ≤ 18) : Met l y_D_countFacesWith (.code y_D_countFacesWith k_D_countFacesWith 4 (.some FieldType.int) :: gw) rm_D_countFacesWith (roP [.ref hd, .int x] (dC, dI) [(hd, .inr (0, [.ref hg, .ref d1, .ref d2, .int dE, .int dV, .ref d3, .ref d4, .ref d5, .int (nI fc), .int fE, .int fV, .int cE, .int cC, .ref d6, .ref d7, .int (nI pn), .ref d8])), (d5, .inl (cI, 18, .inl WS))] [(cI, .int)]) (vp_Si (fun r => r = fo (dr_cf WS x) fc 0)) 0 0 (fun _ => False) := by
  refine ro_met (by decide) ⟨rfl, rfl⟩ rfl (Nat.le_of_ble_eq_true rfl) ?_
  intro p e s m args below meth c Q ls Sx hP hK hl hret
  have hx := Sx.1
  have hb := Sx.2.1
  have hl : lv_has ls 4 [(0, .ref hd), (1, .int x)] := hl
  refine lv_iconst (v := 0) hx hb d_D_countFacesWith_0 (by decide) ?_
  refine lv_istore_n hx hb d_D_countFacesWith_1 rfl hl (Nat.le_of_ble_eq_true rfl) rfl (fun ls hl => ?_)
  have hl : lv_has ls 4 [(2, .int 0), (0, .ref hd), (1, .int x)] := hl
  refine lv_iconst (v := nI 0) hx hb d_D_countFacesWith_2 (by decide) ?_
  refine lv_istore_n hx hb d_D_countFacesWith_3 rfl hl (Nat.le_of_ble_eq_true rfl) rfl (fun ls hl => ?_)
  have hl : lv_has ls 4 [(3, .int (nI 0)), (2, .int 0), (0, .ref hd), (1, .int x)] := hl
  have hL4 : ∀ (kk i : Nat), i + kk = fc → ∀ (u1 : Int32) (ls : Array Slot), u1 = fo (dr_cf WS x) i 0 → lv_has ls 4 [(3, .int (nI i)), (2, .int u1), (0, .ref hd), (1, .int x)] → W p l e rm_D_countFacesWith s m args below meth c s.heap [] 0 0 Q (F0 m 4 ls []) := by
    intro kk
    induction kk with
    | zero =>
      intro i hi4 u1 ls he4 hl
      have hj4 : i = fc := by omega
      rw [hj4] at hl he4
      have e_u1 : u1 = (fo (dr_cf WS x) fc 0) := by rw [← he4]
      subst e_u1
      have hl : lv_has ls 4 [(3, .int (nI fc)), (2, .int (fo (dr_cf WS x) fc 0)), (0, .ref hd), (1, .int x)] := hl
      refine lv_iload_n hx hb d_D_countFacesWith_4 rfl (lv_at hl 0 rfl) ?_
      refine lv_aload_n hx hb d_D_countFacesWith_5 rfl (lv_at hl 2 rfl) ?_
      refine g_get Sx gf_D hK hP 0 rfl rfl 8 (by decide) gm_139 rfl d_D_countFacesWith_6 ?_
      refine lv_icmp_ge hx hb d_D_countFacesWith_9 (tgt := 34) rfl (fun q1 => ?_) (fun q1 => ?_)
      · have q1 : fc ≤ fc := nq_le (by omega) (by omega) q1
        refine lv_iload_n hx hb d_D_countFacesWith_34 rfl (lv_at hl 1 rfl) ?_
        exact hret _ _ d_D_countFacesWith_35
      · have q1 : fc < fc := nq_nle (by omega) (by omega) q1
        exact absurd q1 (by omega)
    | succ kk ih4 =>
      intro i hi4 u1 ls he4 hl
      refine lv_iload_n hx hb d_D_countFacesWith_4 rfl (lv_at hl 0 rfl) ?_
      refine lv_aload_n hx hb d_D_countFacesWith_5 rfl (lv_at hl 2 rfl) ?_
      refine g_get Sx gf_D hK hP 0 rfl rfl 8 (by decide) gm_139 rfl d_D_countFacesWith_6 ?_
      refine lv_icmp_ge hx hb d_D_countFacesWith_9 (tgt := 34) rfl (fun q2 => ?_) (fun q2 => ?_)
      · have q2 : fc ≤ i := nq_le (by omega) (by omega) q2
        exact absurd q2 (by omega)
      · have q2 : i < fc := nq_nle (by omega) (by omega) q2
        refine lv_iload_n hx hb d_D_countFacesWith_12 rfl (lv_at hl 3 rfl) ?_
        refine lv_aload_n hx hb d_D_countFacesWith_13 rfl (lv_at hl 2 rfl) ?_
        refine g_get Sx gf_D hK hP 0 rfl rfl 7 (by decide) gm_138 rfl d_D_countFacesWith_14 ?_
        refine lv_iload_n hx hb d_D_countFacesWith_17 rfl (lv_at hl 0 rfl) ?_
        refine g_ild (j := i) Sx hK hP 1 0 rfl rfl (by omega) (by decide) d_D_countFacesWith_18 ?_
        refine lv_iconst (v := (-1 : Int32)) hx hb d_D_countFacesWith_19 (by decide) ?_
        refine lv_ixor hx hb d_D_countFacesWith_20 ?_
        refine lv_iand hx hb d_D_countFacesWith_21 ?_
        refine lv_if_ne hx hb d_D_countFacesWith_22 (tgt := 28) rfl (fun q3 => ?_) (fun q3 => ?_)
        · skip
          refine lv_iinc (k := 0) (v := nI (i + 1)) hx hb d_D_countFacesWith_28 hl rfl (inc_nI _) (Nat.le_of_ble_eq_true rfl) rfl (fun ls hl => ?_)
          have hl : lv_has ls 4 [(3, .int (nI (i + 1))), (2, .int u1), (0, .ref hd), (1, .int x)] := hl
          refine lv_goto hx hb d_D_countFacesWith_31 (tgt := 4) rfl ?_
          have he2 : u1 = fo (dr_cf WS x) (i + 1) 0 := by
            rw [fo_s, ← he4]
            first | exact (if_pos (by assumption)).symm | exact (if_neg (by assumption)).symm -- dr_cf, q2, q3
          exact ih4 (i + 1) (by omega) u1  ls he2  (lv_sub hl [0, 1, 2, 3] rfl)
        · skip
          refine lv_iinc (k := 1) (v := (u1 + 1)) hx hb d_D_countFacesWith_25 hl rfl rfl (Nat.le_of_ble_eq_true rfl) rfl (fun ls hl => ?_)
          have hl : lv_has ls 4 [(2, .int (u1 + 1)), (3, .int (nI i)), (0, .ref hd), (1, .int x)] := hl
          refine lv_iinc (k := 1) (v := nI (i + 1)) hx hb d_D_countFacesWith_28 hl rfl (inc_nI _) (Nat.le_of_ble_eq_true rfl) rfl (fun ls hl => ?_)
          have hl : lv_has ls 4 [(3, .int (nI (i + 1))), (2, .int (u1 + 1)), (0, .ref hd), (1, .int x)] := hl
          refine lv_goto hx hb d_D_countFacesWith_31 (tgt := 4) rfl ?_
          have he2 : (u1 + 1) = fo (dr_cf WS x) (i + 1) 0 := by
            rw [fo_s, ← he4]
            first | exact (if_pos (by assumption)).symm | exact (if_neg (by assumption)).symm -- dr_cf, q2, q3
          exact ih4 (i + 1) (by omega) (u1 + 1)  ls he2  (lv_sub hl [0, 1, 2, 3] rfl)
  exact hL4 fc 0 (by omega) 0  ls rfl  (lv_sub hl [0, 1, 2, 3] rfl)
theorem d_D_faceWith_0 : decode k_D_faceWith 0 = .ok (.iconst 0, 1) := by decide +kernel
theorem d_D_faceWith_1 : decode k_D_faceWith 1 = .ok (.istore_n 2, 1) := by decide +kernel
theorem d_D_faceWith_2 : decode k_D_faceWith 2 = .ok (.iload_n 2, 1) := by decide +kernel
theorem d_D_faceWith_3 : decode k_D_faceWith 3 = .ok (.aload_n 0, 1) := by decide +kernel
theorem d_D_faceWith_4 : decode k_D_faceWith 4 = .ok (.getfield 115, 3) := by decide +kernel
theorem d_D_faceWith_7 : decode k_D_faceWith 7 = .ok (.iconst 1, 1) := by decide +kernel
theorem d_D_faceWith_8 : decode k_D_faceWith 8 = .ok (.isub, 1) := by decide +kernel
theorem d_D_faceWith_9 : decode k_D_faceWith 9 = .ok (.if_icmp .ge 22, 3) := by decide +kernel
theorem d_D_faceWith_12 : decode k_D_faceWith 12 = .ok (.iload_n 1, 1) := by decide +kernel
theorem d_D_faceWith_13 : decode k_D_faceWith 13 = .ok (.aload_n 0, 1) := by decide +kernel
theorem d_D_faceWith_14 : decode k_D_faceWith 14 = .ok (.getfield 26, 3) := by decide +kernel
theorem d_D_faceWith_17 : decode k_D_faceWith 17 = .ok (.iload_n 2, 1) := by decide +kernel
theorem d_D_faceWith_18 : decode k_D_faceWith 18 = .ok (.iaload, 1) := by decide +kernel
theorem d_D_faceWith_19 : decode k_D_faceWith 19 = .ok (.iconst (-1), 1) := by decide +kernel
theorem d_D_faceWith_20 : decode k_D_faceWith 20 = .ok (.ixor, 1) := by decide +kernel
theorem d_D_faceWith_21 : decode k_D_faceWith 21 = .ok (.iand, 1) := by decide +kernel
theorem d_D_faceWith_22 : decode k_D_faceWith 22 = .ok (.ifCond .eq 9, 3) := by decide +kernel
theorem d_D_faceWith_25 : decode k_D_faceWith 25 = .ok (.iinc 2 1, 3) := by decide +kernel
theorem d_D_faceWith_28 : decode k_D_faceWith 28 = .ok (.goto (-26), 3) := by decide +kernel
theorem d_D_faceWith_31 : decode k_D_faceWith 31 = .ok (.iload_n 2, 1) := by decide +kernel
theorem d_D_faceWith_32 : decode k_D_faceWith 32 = .ok (.ireturn, 1) := by decide +kernel
abbrev rm_D_faceWith : Room := { frames := 0, cells := 0, slots := 0, locals := 0 }
theorem hd_D_faceWith : y_D_faceWith.cls = n_D ∧ y_D_faceWith.cls ≠ "java/lang/invoke/MethodHandle" ∧ y_D_faceWith.cls ≠ "java/lang/invoke/VarHandle" ∧ (parseMethodDescriptor y_D_faceWith.desc).map (fun d => d.parameters.length) = some 1 := by decide +kernel
set_option maxHeartbeats 4000000 in
set_option maxRecDepth 100000 in
theorem c_D_faceWith (l : Launch) (dC : Nat → ClassId) (dI : Nat → Nat → Nat) (hd : Nat) (hg : Nat) (dE : Int32) (dV : Int32) (fc : Nat) (fE : Int32) (fV : Int32) (cE : Int32) (cC : Int32) (pn : Nat) (d1 : Nat) (d2 : Nat) (d3 : Nat) (d4 : Nat) (d5 : Nat) (d6 : Nat) (d7 : Nat) (d8 : Nat) (cI : ClassId) (cQ : ClassId) (WS : Nat → Int32) (x : Int32) (hf1 : 1 ≤ fc) (hfc : fc ≤ 18) : Met l y_D_faceWith (.code y_D_faceWith k_D_faceWith 3 (.some FieldType.int) :: gw) rm_D_faceWith (roP [.ref hd, .int x] (dC, dI) [(hd, .inr (0, [.ref hg, .ref d1, .ref d2, .int dE, .int dV, .ref d3, .ref d4, .ref d5, .int (nI fc), .int fE, .int fV, .int cE, .int cC, .ref d6, .ref d7, .int (nI pn), .ref d8])), (d5, .inl (cI, 18, .inl WS))] [(cI, .int)]) (vp_Si (fun r => r = nI (dr_fw WS x fc))) 0 0 (fun _ => False) := by
  refine ro_met (by decide) ⟨rfl, rfl⟩ rfl (Nat.le_of_ble_eq_true rfl) ?_
  intro p e s m args below meth c Q ls Sx hP hK hl hret
  have hx := Sx.1
  have hb := Sx.2.1
  have hl : lv_has ls 3 [(0, .ref hd), (1, .int x)] := hl
  refine lv_iconst (v := nI 0) hx hb d_D_faceWith_0 (by decide) ?_
  refine lv_istore_n hx hb d_D_faceWith_1 rfl hl (Nat.le_of_ble_eq_true rfl) rfl (fun ls hl => ?_)
  have hl : lv_has ls 3 [(2, .int (nI 0)), (0, .ref hd), (1, .int x)] := hl
  have hL2 : ∀ (fu2 : Nat) (j : Nat) (ls : Array Slot), wl (dr_fwD WS x fc) pm_leS fu2 j = (dr_fw WS x fc) → j ≤ 18 → lv_has ls 3 [(2, .int (nI j)), (0, .ref hd), (1, .int x)] → W p l e rm_D_faceWith s m args below meth c s.heap [] 0 0 Q (F0 m 2 ls []) := by
    intro fu2
    induction fu2 with
    | zero =>
      intro j ls ht2 hj hl
      refine lv_iload_n hx hb d_D_faceWith_2 rfl (lv_at hl 0 rfl) ?_
      refine lv_aload_n hx hb d_D_faceWith_3 rfl (lv_at hl 1 rfl) ?_
      refine g_get Sx gf_D hK hP 0 rfl rfl 8 (by decide) gm_139 rfl d_D_faceWith_4 ?_
      refine lv_iconst (v := nI 1) hx hb d_D_faceWith_7 (by decide) ?_
      refine lv_isub hx hb d_D_faceWith_8 ?_
      rw [show (((nI fc) - (nI 1)) : Int32) = nI (fc - 1) from pk_sub (by omega)]
      refine lv_icmp_ge hx hb d_D_faceWith_9 (tgt := 31) rfl (fun q1 => ?_) (fun q1 => ?_)
      · have q1 : (fc - 1) ≤ j := nq_le (by omega) (by omega) q1
        have q1n := Nat.not_lt.mpr q1
        have hd9 : (dr_fwD WS x fc) j = true := by simp_all [dr_fwD, pm_leS, q1, q1n]
        have e9 : j = (dr_fw WS x fc) := by rw [← ht2]; exact (wl_dn hd9 _).symm
        have e_j : j = (dr_fw WS x fc) := by rw [← e9]
        subst e_j
        have hl : lv_has ls 3 [(2, .int (nI (dr_fw WS x fc))), (0, .ref hd), (1, .int x)] := hl
        refine lv_iload_n hx hb d_D_faceWith_31 rfl (lv_at hl 0 rfl) ?_
        exact hret _ _ d_D_faceWith_32
      · have q1 : j < (fc - 1) := nq_nle (by omega) (by omega) q1
        have q1n := Nat.not_le.mpr q1
        refine lv_iload_n hx hb d_D_faceWith_12 rfl (lv_at hl 2 rfl) ?_
        refine lv_aload_n hx hb d_D_faceWith_13 rfl (lv_at hl 1 rfl) ?_
        refine g_get Sx gf_D hK hP 0 rfl rfl 7 (by decide) gm_138 rfl d_D_faceWith_14 ?_
        refine lv_iload_n hx hb d_D_faceWith_17 rfl (lv_at hl 0 rfl) ?_
        refine g_ild (j := j) Sx hK hP 1 0 rfl rfl (by omega) (by decide) d_D_faceWith_18 ?_
        refine lv_iconst (v := (-1 : Int32)) hx hb d_D_faceWith_19 (by decide) ?_
        refine lv_ixor hx hb d_D_faceWith_20 ?_
        refine lv_iand hx hb d_D_faceWith_21 ?_
        refine lv_if_eq hx hb d_D_faceWith_22 (tgt := 31) rfl (fun q2 => ?_) (fun q2 => ?_)
        · skip
          have hd9 : (dr_fwD WS x fc) j = true := by simp_all [dr_fwD, pm_leS, q1, q1n, q2]
          have e9 : j = (dr_fw WS x fc) := by rw [← ht2]; exact (wl_dn hd9 _).symm
          have e_j : j = (dr_fw WS x fc) := by rw [← e9]
          subst e_j
          have hl : lv_has ls 3 [(2, .int (nI (dr_fw WS x fc))), (0, .ref hd), (1, .int x)] := hl
          refine lv_iload_n hx hb d_D_faceWith_31 rfl (lv_at hl 0 rfl) ?_
          exact hret _ _ d_D_faceWith_32
        · skip
          have hd9 : (dr_fwD WS x fc) j = false := by simp_all [dr_fwD, pm_leS, q1, q1n, q2]
          have ht9 : j = (dr_fw WS x fc) := ht2
          rw [ht9, (dr_fw_dn WS x fc hfc)] at hd9
          cases hd9
    | succ fu2 ih2 =>
      intro j ls ht2 hj hl
      refine lv_iload_n hx hb d_D_faceWith_2 rfl (lv_at hl 0 rfl) ?_
      refine lv_aload_n hx hb d_D_faceWith_3 rfl (lv_at hl 1 rfl) ?_
      refine g_get Sx gf_D hK hP 0 rfl rfl 8 (by decide) gm_139 rfl d_D_faceWith_4 ?_
      refine lv_iconst (v := nI 1) hx hb d_D_faceWith_7 (by decide) ?_
      refine lv_isub hx hb d_D_faceWith_8 ?_
      rw [show (((nI fc) - (nI 1)) : Int32) = nI (fc - 1) from pk_sub (by omega)]
      refine lv_icmp_ge hx hb d_D_faceWith_9 (tgt := 31) rfl (fun q3 => ?_) (fun q3 => ?_)
      · have q3 : (fc - 1) ≤ j := nq_le (by omega) (by omega) q3
        have q3n := Nat.not_lt.mpr q3
        have hd9 : (dr_fwD WS x fc) j = true := by simp_all [dr_fwD, pm_leS, q3, q3n]
        have e9 : j = (dr_fw WS x fc) := by rw [← ht2]; exact (wl_dn hd9 _).symm
        have e_j : j = (dr_fw WS x fc) := by rw [← e9]
        subst e_j
        have hl : lv_has ls 3 [(2, .int (nI (dr_fw WS x fc))), (0, .ref hd), (1, .int x)] := hl
        refine lv_iload_n hx hb d_D_faceWith_31 rfl (lv_at hl 0 rfl) ?_
        exact hret _ _ d_D_faceWith_32
      · have q3 : j < (fc - 1) := nq_nle (by omega) (by omega) q3
        have q3n := Nat.not_le.mpr q3
        refine lv_iload_n hx hb d_D_faceWith_12 rfl (lv_at hl 2 rfl) ?_
        refine lv_aload_n hx hb d_D_faceWith_13 rfl (lv_at hl 1 rfl) ?_
        refine g_get Sx gf_D hK hP 0 rfl rfl 7 (by decide) gm_138 rfl d_D_faceWith_14 ?_
        refine lv_iload_n hx hb d_D_faceWith_17 rfl (lv_at hl 0 rfl) ?_
        refine g_ild (j := j) Sx hK hP 1 0 rfl rfl (by omega) (by decide) d_D_faceWith_18 ?_
        refine lv_iconst (v := (-1 : Int32)) hx hb d_D_faceWith_19 (by decide) ?_
        refine lv_ixor hx hb d_D_faceWith_20 ?_
        refine lv_iand hx hb d_D_faceWith_21 ?_
        refine lv_if_eq hx hb d_D_faceWith_22 (tgt := 31) rfl (fun q4 => ?_) (fun q4 => ?_)
        · skip
          have hd9 : (dr_fwD WS x fc) j = true := by simp_all [dr_fwD, pm_leS, q3, q3n, q4]
          have e9 : j = (dr_fw WS x fc) := by rw [← ht2]; exact (wl_dn hd9 _).symm
          have e_j : j = (dr_fw WS x fc) := by rw [← e9]
          subst e_j
          have hl : lv_has ls 3 [(2, .int (nI (dr_fw WS x fc))), (0, .ref hd), (1, .int x)] := hl
          refine lv_iload_n hx hb d_D_faceWith_31 rfl (lv_at hl 0 rfl) ?_
          exact hret _ _ d_D_faceWith_32
        · skip
          refine lv_iinc (k := 0) (v := nI (j + 1)) hx hb d_D_faceWith_25 hl rfl (inc_nI _) (Nat.le_of_ble_eq_true rfl) rfl (fun ls hl => ?_)
          have hl : lv_has ls 3 [(2, .int (nI (j + 1))), (0, .ref hd), (1, .int x)] := hl
          refine lv_goto hx hb d_D_faceWith_28 (tgt := 2) rfl ?_
          have hd9 : (dr_fwD WS x fc) j = false := by simp_all [dr_fwD, pm_leS, q3, q3n, q4]
          have hs9 : pm_leS j = (j + 1) := by simp [dr_fwD, pm_leS, q3, q3n, q4]
          have ht9 : wl (dr_fwD WS x fc) pm_leS fu2 (j + 1) = (dr_fw WS x fc) := by rw [← ht2, wl_st hd9, hs9]
          exact ih2 (j + 1)  ls ht9 (by omega)  (lv_sub hl [0, 1, 2] rfl)
  exact hL2 18 0  ls rfl (by omega)  (lv_sub hl [0, 1, 2] rfl)
theorem d_D_spread_0 : decode k_D_spread 0 = .ok (.iload_n 1, 1) := by decide +kernel
theorem d_D_spread_1 : decode k_D_spread 1 = .ok (.istore_n 2, 1) := by decide +kernel
theorem d_D_spread_2 : decode k_D_spread 2 = .ok (.iconst 0, 1) := by decide +kernel
theorem d_D_spread_3 : decode k_D_spread 3 = .ok (.istore_n 3, 1) := by decide +kernel
theorem d_D_spread_4 : decode k_D_spread 4 = .ok (.iload_n 3, 1) := by decide +kernel
theorem d_D_spread_5 : decode k_D_spread 5 = .ok (.aload_n 0, 1) := by decide +kernel
theorem d_D_spread_6 : decode k_D_spread 6 = .ok (.getfield 38, 3) := by decide +kernel
theorem d_D_spread_9 : decode k_D_spread 9 = .ok (.getfield 42, 3) := by decide +kernel
theorem d_D_spread_12 : decode k_D_spread 12 = .ok (.if_icmp .ge 83, 3) := by decide +kernel
theorem d_D_spread_15 : decode k_D_spread 15 = .ok (.aload_n 0, 1) := by decide +kernel
theorem d_D_spread_16 : decode k_D_spread 16 = .ok (.getfield 130, 3) := by decide +kernel
theorem d_D_spread_19 : decode k_D_spread 19 = .ok (.iload_n 3, 1) := by decide +kernel
theorem d_D_spread_20 : decode k_D_spread 20 = .ok (.invokestatic 53, 3) := by decide +kernel
theorem d_D_spread_23 : decode k_D_spread 23 = .ok (.ifCond .eq 66, 3) := by decide +kernel
theorem d_D_spread_26 : decode k_D_spread 26 = .ok (.aload_n 0, 1) := by decide +kernel
theorem d_D_spread_27 : decode k_D_spread 27 = .ok (.getfield 38, 3) := by decide +kernel
theorem d_D_spread_30 : decode k_D_spread 30 = .ok (.iload_n 3, 1) := by decide +kernel
theorem d_D_spread_31 : decode k_D_spread 31 = .ok (.iload_n 1, 1) := by decide +kernel
theorem d_D_spread_32 : decode k_D_spread 32 = .ok (.invokevirtual 142, 3) := by decide +kernel
theorem d_D_spread_35 : decode k_D_spread 35 = .ok (.ifCond .eq 54, 3) := by decide +kernel
theorem d_D_spread_38 : decode k_D_spread 38 = .ok (.aload_n 0, 1) := by decide +kernel
theorem d_D_spread_39 : decode k_D_spread 39 = .ok (.getfield 38, 3) := by decide +kernel
theorem d_D_spread_42 : decode k_D_spread 42 = .ok (.getfield 103, 3) := by decide +kernel
theorem d_D_spread_45 : decode k_D_spread 45 = .ok (.iload_n 3, 1) := by decide +kernel
theorem d_D_spread_46 : decode k_D_spread 46 = .ok (.iaload, 1) := by decide +kernel
theorem d_D_spread_47 : decode k_D_spread 47 = .ok (.istore 4, 2) := by decide +kernel
theorem d_D_spread_49 : decode k_D_spread 49 = .ok (.iload_n 1, 1) := by decide +kernel
theorem d_D_spread_50 : decode k_D_spread 50 = .ok (.iload 4, 2) := by decide +kernel
theorem d_D_spread_52 : decode k_D_spread 52 = .ok (.invokestatic 53, 3) := by decide +kernel
theorem d_D_spread_55 : decode k_D_spread 55 = .ok (.ifCond .eq 15, 3) := by decide +kernel
theorem d_D_spread_58 : decode k_D_spread 58 = .ok (.aload_n 0, 1) := by decide +kernel
theorem d_D_spread_59 : decode k_D_spread 59 = .ok (.getfield 38, 3) := by decide +kernel
theorem d_D_spread_62 : decode k_D_spread 62 = .ok (.getfield 106, 3) := by decide +kernel
theorem d_D_spread_65 : decode k_D_spread 65 = .ok (.iload_n 3, 1) := by decide +kernel
theorem d_D_spread_66 : decode k_D_spread 66 = .ok (.iaload, 1) := by decide +kernel
theorem d_D_spread_67 : decode k_D_spread 67 = .ok (.goto 5, 3) := by decide +kernel
theorem d_D_spread_70 : decode k_D_spread 70 = .ok (.iload 4, 2) := by decide +kernel
theorem d_D_spread_72 : decode k_D_spread 72 = .ok (.istore 5, 2) := by decide +kernel
theorem d_D_spread_74 : decode k_D_spread 74 = .ok (.aload_n 0, 1) := by decide +kernel
theorem d_D_spread_75 : decode k_D_spread 75 = .ok (.getfield 29, 3) := by decide +kernel
theorem d_D_spread_78 : decode k_D_spread 78 = .ok (.iload 5, 2) := by decide +kernel
theorem d_D_spread_80 : decode k_D_spread 80 = .ok (.iload_n 3, 1) := by decide +kernel
theorem d_D_spread_81 : decode k_D_spread 81 = .ok (.iastore, 1) := by decide +kernel
theorem d_D_spread_82 : decode k_D_spread 82 = .ok (.iload_n 2, 1) := by decide +kernel
theorem d_D_spread_83 : decode k_D_spread 83 = .ok (.iconst 1, 1) := by decide +kernel
theorem d_D_spread_84 : decode k_D_spread 84 = .ok (.iload 5, 2) := by decide +kernel
theorem d_D_spread_86 : decode k_D_spread 86 = .ok (.ishl, 1) := by decide +kernel
theorem d_D_spread_87 : decode k_D_spread 87 = .ok (.ior, 1) := by decide +kernel
theorem d_D_spread_88 : decode k_D_spread 88 = .ok (.istore_n 2, 1) := by decide +kernel
theorem d_D_spread_89 : decode k_D_spread 89 = .ok (.iinc 3 1, 3) := by decide +kernel
theorem d_D_spread_92 : decode k_D_spread 92 = .ok (.goto (-88), 3) := by decide +kernel
theorem d_D_spread_95 : decode k_D_spread 95 = .ok (.iload_n 2, 1) := by decide +kernel
theorem d_D_spread_96 : decode k_D_spread 96 = .ok (.ireturn, 1) := by decide +kernel
abbrev rm_D_spread : Room := { frames := 1, cells := 0, slots := 0, locals := 22 }
theorem hd_D_spread : y_D_spread.cls = n_D ∧ y_D_spread.cls ≠ "java/lang/invoke/MethodHandle" ∧ y_D_spread.cls ≠ "java/lang/invoke/VarHandle" ∧ (parseMethodDescriptor y_D_spread.desc).map (fun d => d.parameters.length) = some 1 := by decide +kernel
set_option maxHeartbeats 4000000 in
set_option maxRecDepth 100000 in
theorem c_D_spread (l : Launch) (dC : Nat → ClassId) (dI : Nat → Nat → Nat) (hd : Nat) (hg : Nat) (dE : Int32) (dV : Int32) (fc : Nat) (fE : Int32) (fV : Int32) (cE : Int32) (cC : Int32) (pn : Nat) (d1 : Nat) (d2 : Nat) (d3 : Nat) (d4 : Nat) (d5 : Nat) (d6 : Nat) (d7 : Nat) (d8 : Nat) (cI : ClassId) (cQ : ClassId) (cb : Nat → Nat) (n : Nat) (k : Nat) (F : Nat → Nat) (S : Nat → Nat) (w : Nat → Int32) (g1 : Nat) (g2 : Nat) (g3 : Nat) (x : Int32) (sz : Nat) (hn : n ≤ 10) (hk : k ≤ 18) (hFS : ∀ e, e < k → F e < n ∧ S e < n) : Met l y_D_spread (.code y_D_spread k_D_spread 6 (.some FieldType.int) :: gw) rm_D_spread (rwP [.ref hd, .int x] (dC, dI) [(hd, .inr (0, [.ref hg, .ref d1, .ref d2, .int dE, .int dV, .ref d3, .ref d4, .ref d5, .int (nI fc), .int fE, .int fV, .int cE, .int cC, .ref d6, .ref d7, .int (nI pn), .ref d8])), (d6, .inl (cI, 10, .inl (fun i9 => nI (cb i9)))), (hg, .inr (1, [.int (nI n), .int (nI k), .ref g1, .ref g2, .ref g3])), (g1, .inl (cI, 18, .inl (fun i9 => nI (F i9)))), (g2, .inl (cI, 18, .inl (fun i9 => nI (S i9)))), (g3, .inl (cI, 18, .inl w))] [(cI, .int)] sz) (va_Qi (fun (r : Int32) (_ : Unit) => r = (fo (dr_s1 F S cE x) k (x, cb)).1) (rwB (dC, dI) [(hd, .inr (0, [.ref hg, .ref d1, .ref d2, .int dE, .int dV, .ref d3, .ref d4, .ref d5, .int (nI fc), .int fE, .int fV, .int cE, .int cC, .ref d6, .ref d7, .int (nI pn), .ref d8])), (d6, .inl (cI, 10, .inl (fun i9 => nI (((fo (dr_s1 F S cE x) k (x, cb)).2) i9)))), (hg, .inr (1, [.int (nI n), .int (nI k), .ref g1, .ref g2, .ref g3])), (g1, .inl (cI, 18, .inl (fun i9 => nI (F i9)))), (g2, .inl (cI, 18, .inl (fun i9 => nI (S i9)))), (g3, .inl (cI, 18, .inl w))] [(cI, .int)] (va_A [(hd, .inr (0, [.ref hg, .ref d1, .ref d2, .int dE, .int dV, .ref d3, .ref d4, .ref d5, .int (nI fc), .int fE, .int fV, .int cE, .int cC, .ref d6, .ref d7, .int (nI pn), .ref d8])), (d6, .inl (cI, 10, .inl (fun i9 => nI (cb i9)))), (hg, .inr (1, [.int (nI n), .int (nI k), .ref g1, .ref g2, .ref g3])), (g1, .inl (cI, 18, .inl (fun i9 => nI (F i9)))), (g2, .inl (cI, 18, .inl (fun i9 => nI (S i9)))), (g3, .inl (cI, 18, .inl w))] sz)) (va_A [(hd, .inr (0, [.ref hg, .ref d1, .ref d2, .int dE, .int dV, .ref d3, .ref d4, .ref d5, .int (nI fc), .int fE, .int fV, .int cE, .int cC, .ref d6, .ref d7, .int (nI pn), .ref d8])), (d6, .inl (cI, 10, .inl (fun i9 => nI (cb i9)))), (hg, .inr (1, [.int (nI n), .int (nI k), .ref g1, .ref g2, .ref g3])), (g1, .inl (cI, 18, .inl (fun i9 => nI (F i9)))), (g2, .inl (cI, 18, .inl (fun i9 => nI (S i9)))), (g3, .inl (cI, 18, .inl w))] sz)) 0 0 (va_A [(hd, .inr (0, [.ref hg, .ref d1, .ref d2, .int dE, .int dV, .ref d3, .ref d4, .ref d5, .int (nI fc), .int fE, .int fV, .int cE, .int cC, .ref d6, .ref d7, .int (nI pn), .ref d8])), (d6, .inl (cI, 10, .inl (fun i9 => nI (cb i9)))), (hg, .inr (1, [.int (nI n), .int (nI k), .ref g1, .ref g2, .ref g3])), (g1, .inl (cI, 18, .inl (fun i9 => nI (F i9)))), (g2, .inl (cI, 18, .inl (fun i9 => nI (S i9)))), (g3, .inl (cI, 18, .inl w))] sz) := by
  refine rw_metI (by decide) ⟨rfl, rfl⟩ rfl (Nat.le_of_ble_eq_true rfl) ?_
  intro p e s m args below meth c Q A ls Sx hP hK hD hA hl hret
  have hx := Sx.1
  have hb := Sx.2.1
  have hl : lv_has ls 6 [(0, .ref hd), (1, .int x)] := hl
  have hS : va_S A s.heap s.heap [] := va_S.rf
  obtain ⟨H, hH⟩ : ∃ H, H = s.heap := ⟨_, rfl⟩
  obtain ⟨locs, hlo⟩ : ∃ locs : List Loc, locs = [] := ⟨_, rfl⟩
  rw [← hlo]
  rw [← hlo] at hS
  have hP : va_P (dC, dI) pcl [(hd, .inr (0, [.ref hg, .ref d1, .ref d2, .int dE, .int dV, .ref d3, .ref d4, .ref d5, .int (nI fc), .int fE, .int fV, .int cE, .int cC, .ref d6, .ref d7, .int (nI pn), .ref d8])), (d6, .inl (cI, 10, .inl (fun i9 => nI (cb i9)))), (hg, .inr (1, [.int (nI n), .int (nI k), .ref g1, .ref g2, .ref g3])), (g1, .inl (cI, 18, .inl (fun i9 => nI (F i9)))), (g2, .inl (cI, 18, .inl (fun i9 => nI (S i9)))), (g3, .inl (cI, 18, .inl w))] H := by rw [hH]; exact hP
  have hS : va_S A s.heap H locs := by rw [hH]; exact hS
  suffices hgo : W p l e rm_D_spread s m args below meth c H locs 0 0 Q (F0 m 0 ls []) by rw [hH] at hgo; exact hgo
  refine lv_iload_n hx hb d_D_spread_0 rfl (lv_at hl 1 rfl) ?_
  refine lv_istore_n hx hb d_D_spread_1 rfl hl (Nat.le_of_ble_eq_true rfl) rfl (fun ls hl => ?_)
  have hl : lv_has ls 6 [(2, .int x), (0, .ref hd), (1, .int x)] := hl
  refine lv_iconst (v := nI 0) hx hb d_D_spread_2 (by decide) ?_
  refine lv_istore_n hx hb d_D_spread_3 rfl hl (Nat.le_of_ble_eq_true rfl) rfl (fun ls hl => ?_)
  have hl : lv_has ls 6 [(3, .int (nI 0)), (2, .int x), (0, .ref hd), (1, .int x)] := hl
  have hL4 : ∀ (kk i : Nat), i + kk = k → ∀ (wd : Int32) (cb1 : Nat → Nat) (H : Heap) (locs : List Loc) (ls : Array Slot), (wd, cb1) = fo (dr_s1 F S cE x) i (x, cb) → va_P (dC, dI) pcl [(hd, .inr (0, [.ref hg, .ref d1, .ref d2, .int dE, .int dV, .ref d3, .ref d4, .ref d5, .int (nI fc), .int fE, .int fV, .int cE, .int cC, .ref d6, .ref d7, .int (nI pn), .ref d8])), (d6, .inl (cI, 10, .inl (fun i9 => nI (cb1 i9)))), (hg, .inr (1, [.int (nI n), .int (nI k), .ref g1, .ref g2, .ref g3])), (g1, .inl (cI, 18, .inl (fun i9 => nI (F i9)))), (g2, .inl (cI, 18, .inl (fun i9 => nI (S i9)))), (g3, .inl (cI, 18, .inl w))] H → va_D A [(hd, .inr (0, [.ref hg, .ref d1, .ref d2, .int dE, .int dV, .ref d3, .ref d4, .ref d5, .int (nI fc), .int fE, .int fV, .int cE, .int cC, .ref d6, .ref d7, .int (nI pn), .ref d8])), (d6, .inl (cI, 10, .inl (fun i9 => nI (cb1 i9)))), (hg, .inr (1, [.int (nI n), .int (nI k), .ref g1, .ref g2, .ref g3])), (g1, .inl (cI, 18, .inl (fun i9 => nI (F i9)))), (g2, .inl (cI, 18, .inl (fun i9 => nI (S i9)))), (g3, .inl (cI, 18, .inl w))] → va_S A s.heap H locs → lv_has ls 6 [(3, .int (nI i)), (2, .int wd), (0, .ref hd), (1, .int x)] → W p l e rm_D_spread s m args below meth c H locs 0 0 Q (F0 m 4 ls []) := by
    intro kk
    induction kk with
    | zero =>
      intro i hi4 wd cb1 H locs ls he4 hP hD hS hl
      have hj4 : i = k := by omega
      rw [hj4] at hl he4
      have e_wd : wd = (fo (dr_s1 F S cE x) k (x, cb)).1 := by rw [← he4]
      subst e_wd
      have e_cb1 : cb1 = (fo (dr_s1 F S cE x) k (x, cb)).2 := by rw [← he4]
      subst e_cb1
      have hl : lv_has ls 6 [(3, .int (nI k)), (2, .int ((fo (dr_s1 F S cE x) k (x, cb)).1)), (0, .ref hd), (1, .int x)] := hl
      have hP : va_P (dC, dI) pcl [(hd, .inr (0, [.ref hg, .ref d1, .ref d2, .int dE, .int dV, .ref d3, .ref d4, .ref d5, .int (nI fc), .int fE, .int fV, .int cE, .int cC, .ref d6, .ref d7, .int (nI pn), .ref d8])), (d6, .inl (cI, 10, .inl (fun i9 => nI (((fo (dr_s1 F S cE x) k (x, cb)).2) i9)))), (hg, .inr (1, [.int (nI n), .int (nI k), .ref g1, .ref g2, .ref g3])), (g1, .inl (cI, 18, .inl (fun i9 => nI (F i9)))), (g2, .inl (cI, 18, .inl (fun i9 => nI (S i9)))), (g3, .inl (cI, 18, .inl w))] H := hP
      have hD : va_D A [(hd, .inr (0, [.ref hg, .ref d1, .ref d2, .int dE, .int dV, .ref d3, .ref d4, .ref d5, .int (nI fc), .int fE, .int fV, .int cE, .int cC, .ref d6, .ref d7, .int (nI pn), .ref d8])), (d6, .inl (cI, 10, .inl (fun i9 => nI (((fo (dr_s1 F S cE x) k (x, cb)).2) i9)))), (hg, .inr (1, [.int (nI n), .int (nI k), .ref g1, .ref g2, .ref g3])), (g1, .inl (cI, 18, .inl (fun i9 => nI (F i9)))), (g2, .inl (cI, 18, .inl (fun i9 => nI (S i9)))), (g3, .inl (cI, 18, .inl w))] := hD
      refine lv_iload_n hx hb d_D_spread_4 rfl (lv_at hl 0 rfl) ?_
      refine lv_aload_n hx hb d_D_spread_5 rfl (lv_at hl 2 rfl) ?_
      refine g_get Sx gf_D hK hP 0 rfl rfl 0 (by decide) gm_131 rfl d_D_spread_6 ?_
      refine g_get Sx gf_G hK hP 2 rfl rfl 1 (by decide) gm_78 rfl d_D_spread_9 ?_
      refine lv_icmp_ge hx hb d_D_spread_12 (tgt := 95) rfl (fun q1 => ?_) (fun q1 => ?_)
      · have q1 : k ≤ k := nq_le (by omega) (by omega) q1
        refine lv_iload_n hx hb d_D_spread_95 rfl (lv_at hl 1 rfl) ?_
        exact hret _ H locs _ d_D_spread_96 hP hD hS
      · have q1 : k < k := nq_nle (by omega) (by omega) q1
        exact absurd q1 (by omega)
    | succ kk ih4 =>
      intro i hi4 wd cb1 H locs ls he4 hP hD hS hl
      refine lv_iload_n hx hb d_D_spread_4 rfl (lv_at hl 0 rfl) ?_
      refine lv_aload_n hx hb d_D_spread_5 rfl (lv_at hl 2 rfl) ?_
      refine g_get Sx gf_D hK hP 0 rfl rfl 0 (by decide) gm_131 rfl d_D_spread_6 ?_
      refine g_get Sx gf_G hK hP 2 rfl rfl 1 (by decide) gm_78 rfl d_D_spread_9 ?_
      refine lv_icmp_ge hx hb d_D_spread_12 (tgt := 95) rfl (fun q2 => ?_) (fun q2 => ?_)
      · have q2 : k ≤ i := nq_le (by omega) (by omega) q2
        exact absurd q2 (by omega)
      · have q2 : i < k := nq_nle (by omega) (by omega) q2
        refine lv_aload_n hx hb d_D_spread_15 rfl (lv_at hl 2 rfl) ?_
        refine g_get Sx gf_D hK hP 0 rfl rfl 11 (by decide) gm_142 rfl d_D_spread_16 ?_
        refine lv_iload_n hx hb d_D_spread_19 rfl (lv_at hl 0 rfl) ?_
        refine ro_S (As := [.int cE, .int (nI i)]) (rest := []) Sx (c_B_has l dC dI cE (nI i)) (gw_callS gm_297 gm_250 gm_57 gm_251) hd_B_has ⟨rfl, rfl⟩ ⟨Nat.le_of_ble_eq_true rfl, Nat.le_of_ble_eq_true rfl⟩ (va_P_map hP [] rfl) (hK.sub (tys' := []) [] rfl) rfl hl.1 rfl (Nat.le_of_ble_eq_true rfl) d_D_spread_20 ⟨Nat.zero_le _, Nat.zero_le _⟩ ?_
        refine lv_if_eq hx hb d_D_spread_23 (tgt := 89) rfl (fun q3 => ?_) (fun q3 => ?_)
        · have q3 : (ps_has cE (nI i)) = false := bI_0.mp q3
          refine lv_iinc (k := 0) (v := nI (i + 1)) hx hb d_D_spread_89 hl rfl (inc_nI _) (Nat.le_of_ble_eq_true rfl) rfl (fun ls hl => ?_)
          have hl : lv_has ls 6 [(3, .int (nI (i + 1))), (2, .int wd), (0, .ref hd), (1, .int x)] := hl
          refine lv_goto hx hb d_D_spread_92 (tgt := 4) rfl ?_
          have he2 : (wd, cb1) = fo (dr_s1 F S cE x) (i + 1) (x, cb) := by
            rw [fo_s, ← he4]
            simp [dr_s1, dr_far, q2, q3]
          exact ih4 (i + 1) (by omega) wd cb1 H locs ls he2 hP hD hS (lv_sub hl [0, 1, 2, 3] rfl)
        · have q3 : (ps_has cE (nI i)) = true := bI_1.mp q3
          refine lv_aload_n hx hb d_D_spread_26 rfl (lv_at hl 2 rfl) ?_
          refine g_get Sx gf_D hK hP 0 rfl rfl 0 (by decide) gm_131 rfl d_D_spread_27 ?_
          refine lv_iload_n hx hb d_D_spread_30 rfl (lv_at hl 0 rfl) ?_
          refine lv_iload_n hx hb d_D_spread_31 rfl (lv_at hl 3 rfl) ?_
          refine ro_V (As := [.int (nI i), .int x]) (rest := []) Sx (c_G_isBetween l dC dI n k F S w hg g1 g2 g3 cI i x (by omega)) (gw_callV gm_330 gm_331 gm_332 gm_52 gm_333) hd_G_isBetween ⟨rfl, rfl⟩ ⟨Nat.le_of_ble_eq_true rfl, Nat.le_of_ble_eq_true rfl⟩ (va_P_map hP [2, 3, 4, 5] rfl) (hK.sub (tys' := [(cI, .int)]) [0] rfl) rfl 0 rfl rfl hl.1 rfl (Nat.le_of_ble_eq_true rfl) d_D_spread_32 ⟨Nat.zero_le _, Nat.zero_le _⟩ ?_
          refine lv_if_eq hx hb d_D_spread_35 (tgt := 89) rfl (fun q4 => ?_) (fun q4 => ?_)
          · have q4 : (ps_betw F S i x) = false := bI_0.mp q4
            refine lv_iinc (k := 0) (v := nI (i + 1)) hx hb d_D_spread_89 hl rfl (inc_nI _) (Nat.le_of_ble_eq_true rfl) rfl (fun ls hl => ?_)
            have hl : lv_has ls 6 [(3, .int (nI (i + 1))), (2, .int wd), (0, .ref hd), (1, .int x)] := hl
            refine lv_goto hx hb d_D_spread_92 (tgt := 4) rfl ?_
            have he2 : (wd, cb1) = fo (dr_s1 F S cE x) (i + 1) (x, cb) := by
              rw [fo_s, ← he4]
              simp [dr_s1, dr_far, q2, q3, q4]
            exact ih4 (i + 1) (by omega) wd cb1 H locs ls he2 hP hD hS (lv_sub hl [0, 1, 2, 3] rfl)
          · have q4 : (ps_betw F S i x) = true := bI_1.mp q4
            refine lv_aload_n hx hb d_D_spread_38 rfl (lv_at hl 2 rfl) ?_
            refine g_get Sx gf_D hK hP 0 rfl rfl 0 (by decide) gm_131 rfl d_D_spread_39 ?_
            refine g_get Sx gf_G hK hP 2 rfl rfl 2 (by decide) gm_86 rfl d_D_spread_42 ?_
            refine lv_iload_n hx hb d_D_spread_45 rfl (lv_at hl 0 rfl) ?_
            refine g_ild (j := i) Sx hK hP 3 0 rfl rfl (by omega) (by decide) d_D_spread_46 ?_
            refine lv_istore hx hb d_D_spread_47 hl (Nat.le_of_ble_eq_true rfl) rfl (fun ls hl => ?_)
            have hl : lv_has ls 6 [(4, .int (nI (F i))), (3, .int (nI i)), (2, .int wd), (0, .ref hd), (1, .int x)] := hl
            refine lv_iload_n hx hb d_D_spread_49 rfl (lv_at hl 4 rfl) ?_
            refine lv_iload hx hb d_D_spread_50 (lv_at hl 0 rfl) ?_
            refine ro_S (As := [.int x, .int (nI (F i))]) (rest := []) Sx (c_B_has l dC dI x (nI (F i))) (gw_callS gm_297 gm_250 gm_57 gm_251) hd_B_has ⟨rfl, rfl⟩ ⟨Nat.le_of_ble_eq_true rfl, Nat.le_of_ble_eq_true rfl⟩ (va_P_map hP [] rfl) (hK.sub (tys' := []) [] rfl) rfl hl.1 rfl (Nat.le_of_ble_eq_true rfl) d_D_spread_52 ⟨Nat.zero_le _, Nat.zero_le _⟩ ?_
            refine lv_if_eq hx hb d_D_spread_55 (tgt := 70) rfl (fun q5 => ?_) (fun q5 => ?_)
            · have q5 : (ps_has x (nI (F i))) = false := bI_0.mp q5
              refine lv_iload hx hb d_D_spread_70 (lv_at hl 0 rfl) ?_
              refine lv_istore hx hb d_D_spread_72 hl (Nat.le_of_ble_eq_true rfl) rfl (fun ls hl => ?_)
              have hl : lv_has ls 6 [(5, .int (nI (F i))), (4, .int (nI (F i))), (3, .int (nI i)), (2, .int wd), (0, .ref hd), (1, .int x)] := hl
              refine lv_aload_n hx hb d_D_spread_74 rfl (lv_at hl 4 rfl) ?_
              refine g_get Sx gf_D hK hP 0 rfl rfl 13 (by decide) gm_144 rfl d_D_spread_75 ?_
              refine lv_iload hx hb d_D_spread_78 (lv_at hl 0 rfl) ?_
              refine lv_iload_n hx hb d_D_spread_80 rfl (lv_at hl 2 rfl) ?_
              refine g_istN (j := (F i)) Sx hK hP hD hS 1 0 rfl rfl (Nat.lt_of_lt_of_le (hFS _ (by omega)).1 hn) (by decide) d_D_spread_81 (fun H locs hP hD hS => ?_)
              have hP : va_P (dC, dI) pcl [(hd, .inr (0, [.ref hg, .ref d1, .ref d2, .int dE, .int dV, .ref d3, .ref d4, .ref d5, .int (nI fc), .int fE, .int fV, .int cE, .int cC, .ref d6, .ref d7, .int (nI pn), .ref d8])), (d6, .inl (cI, 10, .inl (fun i9 => nI ((va_up cb1 (F i) i) i9)))), (hg, .inr (1, [.int (nI n), .int (nI k), .ref g1, .ref g2, .ref g3])), (g1, .inl (cI, 18, .inl (fun i9 => nI (F i9)))), (g2, .inl (cI, 18, .inl (fun i9 => nI (S i9)))), (g3, .inl (cI, 18, .inl w))] H := hP
              have hD : va_D A [(hd, .inr (0, [.ref hg, .ref d1, .ref d2, .int dE, .int dV, .ref d3, .ref d4, .ref d5, .int (nI fc), .int fE, .int fV, .int cE, .int cC, .ref d6, .ref d7, .int (nI pn), .ref d8])), (d6, .inl (cI, 10, .inl (fun i9 => nI ((va_up cb1 (F i) i) i9)))), (hg, .inr (1, [.int (nI n), .int (nI k), .ref g1, .ref g2, .ref g3])), (g1, .inl (cI, 18, .inl (fun i9 => nI (F i9)))), (g2, .inl (cI, 18, .inl (fun i9 => nI (S i9)))), (g3, .inl (cI, 18, .inl w))] := hD
              refine lv_iload_n hx hb d_D_spread_82 rfl (lv_at hl 3 rfl) ?_
              refine lv_iconst (v := 1) hx hb d_D_spread_83 (by decide) ?_
              refine lv_iload hx hb d_D_spread_84 (lv_at hl 0 rfl) ?_
              refine lv_ishl hx hb d_D_spread_86 ?_
              refine lv_ior hx hb d_D_spread_87 ?_
              refine lv_istore_n hx hb d_D_spread_88 rfl hl (Nat.le_of_ble_eq_true rfl) rfl (fun ls hl => ?_)
              have hl : lv_has ls 6 [(2, .int (wd ||| (1 <<< ((nI (F i)) &&& 31)))), (5, .int (nI (F i))), (4, .int (nI (F i))), (3, .int (nI i)), (0, .ref hd), (1, .int x)] := hl
              refine lv_iinc (k := 3) (v := nI (i + 1)) hx hb d_D_spread_89 hl rfl (inc_nI _) (Nat.le_of_ble_eq_true rfl) rfl (fun ls hl => ?_)
              have hl : lv_has ls 6 [(3, .int (nI (i + 1))), (2, .int (wd ||| (1 <<< ((nI (F i)) &&& 31)))), (5, .int (nI (F i))), (4, .int (nI (F i))), (0, .ref hd), (1, .int x)] := hl
              refine lv_goto hx hb d_D_spread_92 (tgt := 4) rfl ?_
              have he2 : ((wd ||| (1 <<< ((nI (F i)) &&& 31))), va_up cb1 (F i) i) = fo (dr_s1 F S cE x) (i + 1) (x, cb) := by
                rw [fo_s, ← he4]
                simp [dr_s1, dr_far, q2, q3, q4, q5]
              exact ih4 (i + 1) (by omega) (wd ||| (1 <<< ((nI (F i)) &&& 31))) (va_up cb1 (F i) i) H locs ls he2 hP hD hS (lv_sub hl [0, 1, 4, 5] rfl)
            · have q5 : (ps_has x (nI (F i))) = true := bI_1.mp q5
              refine lv_aload_n hx hb d_D_spread_58 rfl (lv_at hl 3 rfl) ?_
              refine g_get Sx gf_D hK hP 0 rfl rfl 0 (by decide) gm_131 rfl d_D_spread_59 ?_
              refine g_get Sx gf_G hK hP 2 rfl rfl 3 (by decide) gm_90 rfl d_D_spread_62 ?_
              refine lv_iload_n hx hb d_D_spread_65 rfl (lv_at hl 1 rfl) ?_
              refine g_ild (j := i) Sx hK hP 4 0 rfl rfl (by omega) (by decide) d_D_spread_66 ?_
              refine lv_goto hx hb d_D_spread_67 (tgt := 72) rfl ?_
              refine lv_istore hx hb d_D_spread_72 hl (Nat.le_of_ble_eq_true rfl) rfl (fun ls hl => ?_)
              have hl : lv_has ls 6 [(5, .int (nI (S i))), (4, .int (nI (F i))), (3, .int (nI i)), (2, .int wd), (0, .ref hd), (1, .int x)] := hl
              refine lv_aload_n hx hb d_D_spread_74 rfl (lv_at hl 4 rfl) ?_
              refine g_get Sx gf_D hK hP 0 rfl rfl 13 (by decide) gm_144 rfl d_D_spread_75 ?_
              refine lv_iload hx hb d_D_spread_78 (lv_at hl 0 rfl) ?_
              refine lv_iload_n hx hb d_D_spread_80 rfl (lv_at hl 2 rfl) ?_
              refine g_istN (j := (S i)) Sx hK hP hD hS 1 0 rfl rfl (Nat.lt_of_lt_of_le (hFS _ (by omega)).2 hn) (by decide) d_D_spread_81 (fun H locs hP hD hS => ?_)
              have hP : va_P (dC, dI) pcl [(hd, .inr (0, [.ref hg, .ref d1, .ref d2, .int dE, .int dV, .ref d3, .ref d4, .ref d5, .int (nI fc), .int fE, .int fV, .int cE, .int cC, .ref d6, .ref d7, .int (nI pn), .ref d8])), (d6, .inl (cI, 10, .inl (fun i9 => nI ((va_up cb1 (S i) i) i9)))), (hg, .inr (1, [.int (nI n), .int (nI k), .ref g1, .ref g2, .ref g3])), (g1, .inl (cI, 18, .inl (fun i9 => nI (F i9)))), (g2, .inl (cI, 18, .inl (fun i9 => nI (S i9)))), (g3, .inl (cI, 18, .inl w))] H := hP
              have hD : va_D A [(hd, .inr (0, [.ref hg, .ref d1, .ref d2, .int dE, .int dV, .ref d3, .ref d4, .ref d5, .int (nI fc), .int fE, .int fV, .int cE, .int cC, .ref d6, .ref d7, .int (nI pn), .ref d8])), (d6, .inl (cI, 10, .inl (fun i9 => nI ((va_up cb1 (S i) i) i9)))), (hg, .inr (1, [.int (nI n), .int (nI k), .ref g1, .ref g2, .ref g3])), (g1, .inl (cI, 18, .inl (fun i9 => nI (F i9)))), (g2, .inl (cI, 18, .inl (fun i9 => nI (S i9)))), (g3, .inl (cI, 18, .inl w))] := hD
              refine lv_iload_n hx hb d_D_spread_82 rfl (lv_at hl 3 rfl) ?_
              refine lv_iconst (v := 1) hx hb d_D_spread_83 (by decide) ?_
              refine lv_iload hx hb d_D_spread_84 (lv_at hl 0 rfl) ?_
              refine lv_ishl hx hb d_D_spread_86 ?_
              refine lv_ior hx hb d_D_spread_87 ?_
              refine lv_istore_n hx hb d_D_spread_88 rfl hl (Nat.le_of_ble_eq_true rfl) rfl (fun ls hl => ?_)
              have hl : lv_has ls 6 [(2, .int (wd ||| (1 <<< ((nI (S i)) &&& 31)))), (5, .int (nI (S i))), (4, .int (nI (F i))), (3, .int (nI i)), (0, .ref hd), (1, .int x)] := hl
              refine lv_iinc (k := 3) (v := nI (i + 1)) hx hb d_D_spread_89 hl rfl (inc_nI _) (Nat.le_of_ble_eq_true rfl) rfl (fun ls hl => ?_)
              have hl : lv_has ls 6 [(3, .int (nI (i + 1))), (2, .int (wd ||| (1 <<< ((nI (S i)) &&& 31)))), (5, .int (nI (S i))), (4, .int (nI (F i))), (0, .ref hd), (1, .int x)] := hl
              refine lv_goto hx hb d_D_spread_92 (tgt := 4) rfl ?_
              have he2 : ((wd ||| (1 <<< ((nI (S i)) &&& 31))), va_up cb1 (S i) i) = fo (dr_s1 F S cE x) (i + 1) (x, cb) := by
                rw [fo_s, ← he4]
                simp [dr_s1, dr_far, q2, q3, q4, q5]
              exact ih4 (i + 1) (by omega) (wd ||| (1 <<< ((nI (S i)) &&& 31))) (va_up cb1 (S i) i) H locs ls he2 hP hD hS (lv_sub hl [0, 1, 4, 5] rfl)
  exact hL4 k 0 (by omega) x cb H locs ls rfl hP hD hS (lv_sub hl [0, 1, 2, 3] rfl)
