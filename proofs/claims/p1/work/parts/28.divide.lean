def dr_d (f : Nat) (g : Nat → Nat) : Nat → ((Nat → Nat → Nat) × (Nat → Nat) × (Nat → Int32)) → ((Nat → Nat → Nat) × (Nat → Nat) × (Nat → Int32)) := fun c s => dr_to f (g c) s
theorem dr_d_rng {f : Nat} {g : Nat → Nat} {s : ((Nat → Nat → Nat) × (Nat → Nat) × (Nat → Int32))} (h : ∀ j, s.2.1 j ≤ 10) : ∀ i j, (fo (dr_d f g) i s).2.1 j ≤ 10
  | 0, j => h j
  | i + 1, j => dr_to_rng (dr_d_rng h i) j
theorem up0_rng {W : Nat → Nat} (h : ∀ j, W j ≤ 10) (f : Nat) : ∀ j, va_up W f 0 j ≤ 10 := by
  intro j
  unfold va_up
  by_cases hj : j = f
  · rw [if_pos hj]; omega
  · rw [if_neg hj]; exact h j
theorem dr_arc_rng {ow : Nat → Nat} {f a b len : Nat} {s : ((Nat → Nat → Nat) × (Nat → Nat) × (Nat → Int32))} (h : ∀ j, s.2.1 j ≤ 10) : ∀ j, (dr_arc ow f a b len s).2.1 j ≤ 10 := dr_arc1_rng h _
def dr_v1 (pt ow : Nat → Nat) (f a b len pn : Nat) (s : ((Nat → Nat → Nat) × (Nat → Nat) × (Nat → Int32))) : ((Nat → Nat → Nat) × (Nat → Nat) × (Nat → Int32)) := fo (dr_d f (fun c => pt (pn - 2 - c))) (pn - 2) (dr_arc ow f a b len (s.1, va_up s.2.1 f 0, upd s.2.2 f 0))
def dr_v2 (pt ow : Nat → Nat) (f a b len pn : Nat) (s : ((Nat → Nat → Nat) × (Nat → Nat) × (Nat → Int32))) : ((Nat → Nat → Nat) × (Nat → Nat) × (Nat → Int32)) := fo (dr_d f (fun c => pt (1 + c))) (pn - 2) (dr_arc ow f b a len (s.1, va_up s.2.1 f 0, upd s.2.2 f 0))
def dr_ow (M : Nat → Nat → Nat) (WL ow : Nat → Nat) (f : Nat) : Nat → Nat := va_cpy (M f) ow 0 0 (WL f)
def dr_div (pt ow : Nat → Nat) (f fc pn : Nat) (s : ((Nat → Nat → Nat) × (Nat → Nat) × (Nat → Int32))) : ((Nat → Nat → Nat) × (Nat → Nat) × (Nat → Int32)) := dr_v2 pt (dr_ow s.1 s.2.1 ow f) fc (dr_pl (dr_ow s.1 s.2.1 ow f) (pt 0) (s.2.1 f)) (dr_pl (dr_ow s.1 s.2.1 ow f) (pt (pn - 1)) (s.2.1 f)) (s.2.1 f) pn (dr_v1 pt (dr_ow s.1 s.2.1 ow f) f (dr_pl (dr_ow s.1 s.2.1 ow f) (pt 0) (s.2.1 f)) (dr_pl (dr_ow s.1 s.2.1 ow f) (pt (pn - 1)) (s.2.1 f)) (s.2.1 f) pn s)
theorem dr_v1_rng {pt ow : Nat → Nat} {f a b len pn : Nat} {s : ((Nat → Nat → Nat) × (Nat → Nat) × (Nat → Int32))} (h : ∀ j, s.2.1 j ≤ 10) : ∀ j, (dr_v1 pt ow f a b len pn s).2.1 j ≤ 10 := dr_d_rng (dr_arc_rng (up0_rng h f)) _
theorem dr_v2_rng {pt ow : Nat → Nat} {f a b len pn : Nat} {s : ((Nat → Nat → Nat) × (Nat → Nat) × (Nat → Int32))} (h : ∀ j, s.2.1 j ≤ 10) : ∀ j, (dr_v2 pt ow f a b len pn s).2.1 j ≤ 10 := dr_d_rng (dr_arc_rng (up0_rng h f)) _
theorem d_D_divideFace_0 : decode k_D_divideFace 0 = .ok (.aload_n 0, 1) := by decide +kernel
theorem d_D_divideFace_1 : decode k_D_divideFace 1 = .ok (.getfield 23, 3) := by decide +kernel
theorem d_D_divideFace_4 : decode k_D_divideFace 4 = .ok (.iload_n 1, 1) := by decide +kernel
theorem d_D_divideFace_5 : decode k_D_divideFace 5 = .ok (.iaload, 1) := by decide +kernel
theorem d_D_divideFace_6 : decode k_D_divideFace 6 = .ok (.istore_n 2, 1) := by decide +kernel
theorem d_D_divideFace_7 : decode k_D_divideFace 7 = .ok (.aload_n 0, 1) := by decide +kernel
theorem d_D_divideFace_8 : decode k_D_divideFace 8 = .ok (.getfield 20, 3) := by decide +kernel
theorem d_D_divideFace_11 : decode k_D_divideFace 11 = .ok (.iload_n 1, 1) := by decide +kernel
theorem d_D_divideFace_12 : decode k_D_divideFace 12 = .ok (.aaload, 1) := by decide +kernel
theorem d_D_divideFace_13 : decode k_D_divideFace 13 = .ok (.iconst 0, 1) := by decide +kernel
theorem d_D_divideFace_14 : decode k_D_divideFace 14 = .ok (.aload_n 0, 1) := by decide +kernel
theorem d_D_divideFace_15 : decode k_D_divideFace 15 = .ok (.getfield 35, 3) := by decide +kernel
theorem d_D_divideFace_18 : decode k_D_divideFace 18 = .ok (.iconst 0, 1) := by decide +kernel
theorem d_D_divideFace_19 : decode k_D_divideFace 19 = .ok (.iload_n 2, 1) := by decide +kernel
theorem d_D_divideFace_20 : decode k_D_divideFace 20 = .ok (.invokestatic 145, 3) := by decide +kernel
theorem d_D_divideFace_23 : decode k_D_divideFace 23 = .ok (.aload_n 0, 1) := by decide +kernel
theorem d_D_divideFace_24 : decode k_D_divideFace 24 = .ok (.aload_n 0, 1) := by decide +kernel
theorem d_D_divideFace_25 : decode k_D_divideFace 25 = .ok (.getfield 32, 3) := by decide +kernel
theorem d_D_divideFace_28 : decode k_D_divideFace 28 = .ok (.iconst 0, 1) := by decide +kernel
theorem d_D_divideFace_29 : decode k_D_divideFace 29 = .ok (.iaload, 1) := by decide +kernel
theorem d_D_divideFace_30 : decode k_D_divideFace 30 = .ok (.iload_n 2, 1) := by decide +kernel
theorem d_D_divideFace_31 : decode k_D_divideFace 31 = .ok (.invokevirtual 151, 3) := by decide +kernel
theorem d_D_divideFace_34 : decode k_D_divideFace 34 = .ok (.istore_n 3, 1) := by decide +kernel
theorem d_D_divideFace_35 : decode k_D_divideFace 35 = .ok (.aload_n 0, 1) := by decide +kernel
theorem d_D_divideFace_36 : decode k_D_divideFace 36 = .ok (.aload_n 0, 1) := by decide +kernel
theorem d_D_divideFace_37 : decode k_D_divideFace 37 = .ok (.getfield 32, 3) := by decide +kernel
theorem d_D_divideFace_40 : decode k_D_divideFace 40 = .ok (.aload_n 0, 1) := by decide +kernel
theorem d_D_divideFace_41 : decode k_D_divideFace 41 = .ok (.getfield 136, 3) := by decide +kernel
theorem d_D_divideFace_44 : decode k_D_divideFace 44 = .ok (.iconst 1, 1) := by decide +kernel
theorem d_D_divideFace_45 : decode k_D_divideFace 45 = .ok (.isub, 1) := by decide +kernel
theorem d_D_divideFace_46 : decode k_D_divideFace 46 = .ok (.iaload, 1) := by decide +kernel
theorem d_D_divideFace_47 : decode k_D_divideFace 47 = .ok (.iload_n 2, 1) := by decide +kernel
theorem d_D_divideFace_48 : decode k_D_divideFace 48 = .ok (.invokevirtual 151, 3) := by decide +kernel
theorem d_D_divideFace_51 : decode k_D_divideFace 51 = .ok (.istore 4, 2) := by decide +kernel
theorem d_D_divideFace_53 : decode k_D_divideFace 53 = .ok (.aload_n 0, 1) := by decide +kernel
theorem d_D_divideFace_54 : decode k_D_divideFace 54 = .ok (.iload_n 1, 1) := by decide +kernel
theorem d_D_divideFace_55 : decode k_D_divideFace 55 = .ok (.invokevirtual 155, 3) := by decide +kernel
theorem d_D_divideFace_58 : decode k_D_divideFace 58 = .ok (.aload_n 0, 1) := by decide +kernel
theorem d_D_divideFace_59 : decode k_D_divideFace 59 = .ok (.iload_n 1, 1) := by decide +kernel
theorem d_D_divideFace_60 : decode k_D_divideFace 60 = .ok (.iload_n 3, 1) := by decide +kernel
theorem d_D_divideFace_61 : decode k_D_divideFace 61 = .ok (.iload 4, 2) := by decide +kernel
theorem d_D_divideFace_63 : decode k_D_divideFace 63 = .ok (.iload_n 2, 1) := by decide +kernel
theorem d_D_divideFace_64 : decode k_D_divideFace 64 = .ok (.invokevirtual 158, 3) := by decide +kernel
theorem d_D_divideFace_67 : decode k_D_divideFace 67 = .ok (.aload_n 0, 1) := by decide +kernel
theorem d_D_divideFace_68 : decode k_D_divideFace 68 = .ok (.getfield 136, 3) := by decide +kernel
theorem d_D_divideFace_71 : decode k_D_divideFace 71 = .ok (.iconst 2, 1) := by decide +kernel
theorem d_D_divideFace_72 : decode k_D_divideFace 72 = .ok (.isub, 1) := by decide +kernel
theorem d_D_divideFace_73 : decode k_D_divideFace 73 = .ok (.istore 5, 2) := by decide +kernel
theorem d_D_divideFace_75 : decode k_D_divideFace 75 = .ok (.iload 5, 2) := by decide +kernel
theorem d_D_divideFace_77 : decode k_D_divideFace 77 = .ok (.ifCond .le 21, 3) := by decide +kernel
theorem d_D_divideFace_80 : decode k_D_divideFace 80 = .ok (.aload_n 0, 1) := by decide +kernel
theorem d_D_divideFace_81 : decode k_D_divideFace 81 = .ok (.iload_n 1, 1) := by decide +kernel
theorem d_D_divideFace_82 : decode k_D_divideFace 82 = .ok (.aload_n 0, 1) := by decide +kernel
theorem d_D_divideFace_83 : decode k_D_divideFace 83 = .ok (.getfield 32, 3) := by decide +kernel
theorem d_D_divideFace_86 : decode k_D_divideFace 86 = .ok (.iload 5, 2) := by decide +kernel
theorem d_D_divideFace_88 : decode k_D_divideFace 88 = .ok (.iaload, 1) := by decide +kernel
theorem d_D_divideFace_89 : decode k_D_divideFace 89 = .ok (.invokevirtual 162, 3) := by decide +kernel
theorem d_D_divideFace_92 : decode k_D_divideFace 92 = .ok (.iinc 5 (-1), 3) := by decide +kernel
theorem d_D_divideFace_95 : decode k_D_divideFace 95 = .ok (.goto (-20), 3) := by decide +kernel
theorem d_D_divideFace_98 : decode k_D_divideFace 98 = .ok (.aload_n 0, 1) := by decide +kernel
theorem d_D_divideFace_99 : decode k_D_divideFace 99 = .ok (.aload_n 0, 1) := by decide +kernel
theorem d_D_divideFace_100 : decode k_D_divideFace 100 = .ok (.getfield 115, 3) := by decide +kernel
theorem d_D_divideFace_103 : decode k_D_divideFace 103 = .ok (.invokevirtual 155, 3) := by decide +kernel
theorem d_D_divideFace_106 : decode k_D_divideFace 106 = .ok (.aload_n 0, 1) := by decide +kernel
theorem d_D_divideFace_107 : decode k_D_divideFace 107 = .ok (.aload_n 0, 1) := by decide +kernel
theorem d_D_divideFace_108 : decode k_D_divideFace 108 = .ok (.getfield 115, 3) := by decide +kernel
theorem d_D_divideFace_111 : decode k_D_divideFace 111 = .ok (.iload 4, 2) := by decide +kernel
theorem d_D_divideFace_113 : decode k_D_divideFace 113 = .ok (.iload_n 3, 1) := by decide +kernel
theorem d_D_divideFace_114 : decode k_D_divideFace 114 = .ok (.iload_n 2, 1) := by decide +kernel
theorem d_D_divideFace_115 : decode k_D_divideFace 115 = .ok (.invokevirtual 158, 3) := by decide +kernel
theorem d_D_divideFace_118 : decode k_D_divideFace 118 = .ok (.iconst 1, 1) := by decide +kernel
theorem d_D_divideFace_119 : decode k_D_divideFace 119 = .ok (.istore 5, 2) := by decide +kernel
theorem d_D_divideFace_121 : decode k_D_divideFace 121 = .ok (.iload 5, 2) := by decide +kernel
theorem d_D_divideFace_123 : decode k_D_divideFace 123 = .ok (.aload_n 0, 1) := by decide +kernel
theorem d_D_divideFace_124 : decode k_D_divideFace 124 = .ok (.getfield 136, 3) := by decide +kernel
theorem d_D_divideFace_127 : decode k_D_divideFace 127 = .ok (.iconst 1, 1) := by decide +kernel
theorem d_D_divideFace_128 : decode k_D_divideFace 128 = .ok (.isub, 1) := by decide +kernel
theorem d_D_divideFace_129 : decode k_D_divideFace 129 = .ok (.if_icmp .ge 24, 3) := by decide +kernel
theorem d_D_divideFace_132 : decode k_D_divideFace 132 = .ok (.aload_n 0, 1) := by decide +kernel
theorem d_D_divideFace_133 : decode k_D_divideFace 133 = .ok (.aload_n 0, 1) := by decide +kernel
theorem d_D_divideFace_134 : decode k_D_divideFace 134 = .ok (.getfield 115, 3) := by decide +kernel
theorem d_D_divideFace_137 : decode k_D_divideFace 137 = .ok (.aload_n 0, 1) := by decide +kernel
theorem d_D_divideFace_138 : decode k_D_divideFace 138 = .ok (.getfield 32, 3) := by decide +kernel
theorem d_D_divideFace_141 : decode k_D_divideFace 141 = .ok (.iload 5, 2) := by decide +kernel
theorem d_D_divideFace_143 : decode k_D_divideFace 143 = .ok (.iaload, 1) := by decide +kernel
theorem d_D_divideFace_144 : decode k_D_divideFace 144 = .ok (.invokevirtual 162, 3) := by decide +kernel
theorem d_D_divideFace_147 : decode k_D_divideFace 147 = .ok (.iinc 5 1, 3) := by decide +kernel
theorem d_D_divideFace_150 : decode k_D_divideFace 150 = .ok (.goto (-29), 3) := by decide +kernel
theorem d_D_divideFace_153 : decode k_D_divideFace 153 = .ok (.aload_n 0, 1) := by decide +kernel
theorem d_D_divideFace_154 : decode k_D_divideFace 154 = .ok (.dup, 1) := by decide +kernel
theorem d_D_divideFace_155 : decode k_D_divideFace 155 = .ok (.getfield 115, 3) := by decide +kernel
theorem d_D_divideFace_158 : decode k_D_divideFace 158 = .ok (.iconst 1, 1) := by decide +kernel
theorem d_D_divideFace_159 : decode k_D_divideFace 159 = .ok (.iadd, 1) := by decide +kernel
theorem d_D_divideFace_160 : decode k_D_divideFace 160 = .ok (.putfield 115, 3) := by decide +kernel
theorem d_D_divideFace_163 : decode k_D_divideFace 163 = .ok (.return_, 1) := by decide +kernel
abbrev rm_D_divideFace : Room := { frames := 2, cells := 0, slots := 0, locals := 60 }
theorem hd_D_divideFace : y_D_divideFace.cls = n_D ∧ y_D_divideFace.cls ≠ "java/lang/invoke/MethodHandle" ∧ y_D_divideFace.cls ≠ "java/lang/invoke/VarHandle" ∧ (parseMethodDescriptor y_D_divideFace.desc).map (fun d => d.parameters.length) = some 1 := by decide +kernel
set_option maxHeartbeats 4000000 in
set_option maxRecDepth 100000 in
theorem c_D_divideFace (l : Launch) (dC : Nat → ClassId) (dI : Nat → Nat → Nat) (hd : Nat) (hg : Nat) (dE : Int32) (dV : Int32) (fc : Nat) (fE : Int32) (fV : Int32) (cE : Int32) (cC : Int32) (pn : Nat) (d1 : Nat) (d2 : Nat) (d3 : Nat) (d4 : Nat) (d5 : Nat) (d6 : Nat) (d7 : Nat) (d8 : Nat) (cI : ClassId) (cQ : ClassId) (WL : Nat → Nat) (WS : Nat → Int32) (pt : Nat → Nat) (ow : Nat → Nat) (r : Nat → Nat) (M : Nat → Nat → Nat) (f0 : Nat) (sz : Nat) (hf : f0 < fc) (hfc : fc < 18) (hWL : ∀ j, WL j ≤ 10) (hW1 : 1 ≤ WL f0) (hpn : 2 ≤ pn) (hpn2 : pn ≤ 10) : Met l y_D_divideFace (.code y_D_divideFace k_D_divideFace 6 none :: gw) rm_D_divideFace (rwP [.ref hd, .int (nI f0)] (dC, dI) ([(hd, .inr (0, [.ref hg, .ref d1, .ref d2, .int dE, .int dV, .ref d3, .ref d4, .ref d5, .int (nI fc), .int fE, .int fV, .int cE, .int cC, .ref d6, .ref d7, .int (nI pn), .ref d8])), (d3, .inl (cQ, 18, .inr (.inr (.inr (.inr (fun i9 => if i9 < 18 then some (r i9) else none)))))), (d4, .inl (cI, 18, .inl (fun i9 => nI (WL i9)))), (d5, .inl (cI, 18, .inl WS)), (d7, .inl (cI, 10, .inl (fun i9 => nI (pt i9)))), (d8, .inl (cI, 10, .inl (fun i9 => nI (ow i9))))] ++ wkR r cI M) [(cI, .int), (cQ, .array .int)] sz) (va_Qv (fun _ : Unit => True) (rwB (dC, dI) ([(hd, .inr (0, [.ref hg, .ref d1, .ref d2, .int dE, .int dV, .ref d3, .ref d4, .ref d5, .int (nI (fc + 1)), .int fE, .int fV, .int cE, .int cC, .ref d6, .ref d7, .int (nI pn), .ref d8])), (d3, .inl (cQ, 18, .inr (.inr (.inr (.inr (fun i9 => if i9 < 18 then some (r i9) else none)))))), (d4, .inl (cI, 18, .inl (fun i9 => nI (((dr_div pt ow f0 fc pn (M, WL, WS)).2.1) i9)))), (d5, .inl (cI, 18, .inl ((dr_div pt ow f0 fc pn (M, WL, WS)).2.2))), (d7, .inl (cI, 10, .inl (fun i9 => nI (pt i9)))), (d8, .inl (cI, 10, .inl (fun i9 => nI ((dr_ow M WL ow f0) i9))))] ++ wkR r cI ((dr_div pt ow f0 fc pn (M, WL, WS)).1)) [(cI, .int), (cQ, .array .int)] (va_A ([(hd, .inr (0, [.ref hg, .ref d1, .ref d2, .int dE, .int dV, .ref d3, .ref d4, .ref d5, .int (nI fc), .int fE, .int fV, .int cE, .int cC, .ref d6, .ref d7, .int (nI pn), .ref d8])), (d3, .inl (cQ, 18, .inr (.inr (.inr (.inr (fun i9 => if i9 < 18 then some (r i9) else none)))))), (d4, .inl (cI, 18, .inl (fun i9 => nI (WL i9)))), (d5, .inl (cI, 18, .inl WS)), (d7, .inl (cI, 10, .inl (fun i9 => nI (pt i9)))), (d8, .inl (cI, 10, .inl (fun i9 => nI (ow i9))))] ++ wkR r cI M) sz)) (va_A ([(hd, .inr (0, [.ref hg, .ref d1, .ref d2, .int dE, .int dV, .ref d3, .ref d4, .ref d5, .int (nI fc), .int fE, .int fV, .int cE, .int cC, .ref d6, .ref d7, .int (nI pn), .ref d8])), (d3, .inl (cQ, 18, .inr (.inr (.inr (.inr (fun i9 => if i9 < 18 then some (r i9) else none)))))), (d4, .inl (cI, 18, .inl (fun i9 => nI (WL i9)))), (d5, .inl (cI, 18, .inl WS)), (d7, .inl (cI, 10, .inl (fun i9 => nI (pt i9)))), (d8, .inl (cI, 10, .inl (fun i9 => nI (ow i9))))] ++ wkR r cI M) sz)) 0 0 (va_A ([(hd, .inr (0, [.ref hg, .ref d1, .ref d2, .int dE, .int dV, .ref d3, .ref d4, .ref d5, .int (nI fc), .int fE, .int fV, .int cE, .int cC, .ref d6, .ref d7, .int (nI pn), .ref d8])), (d3, .inl (cQ, 18, .inr (.inr (.inr (.inr (fun i9 => if i9 < 18 then some (r i9) else none)))))), (d4, .inl (cI, 18, .inl (fun i9 => nI (WL i9)))), (d5, .inl (cI, 18, .inl WS)), (d7, .inl (cI, 10, .inl (fun i9 => nI (pt i9)))), (d8, .inl (cI, 10, .inl (fun i9 => nI (ow i9))))] ++ wkR r cI M) sz) := by
  refine rw_met (by decide) ⟨rfl, rfl⟩ (Nat.le_of_ble_eq_true rfl) ?_
  intro p e s m args below meth c Q A ls Sx hP hK hD hA hl hret
  have hx := Sx.1
  have hb := Sx.2.1
  have hl : lv_has ls 6 [(0, .ref hd), (1, .int (nI f0))] := hl
  have hS : va_S A s.heap s.heap [] := va_S.rf
  have hW0 := hWL f0
  obtain ⟨H, hH⟩ : ∃ H, H = s.heap := ⟨_, rfl⟩
  obtain ⟨locs, hlo⟩ : ∃ locs : List Loc, locs = [] := ⟨_, rfl⟩
  rw [← hlo]
  rw [← hlo] at hS
  have hP : va_P (dC, dI) pcl ([(hd, .inr (0, [.ref hg, .ref d1, .ref d2, .int dE, .int dV, .ref d3, .ref d4, .ref d5, .int (nI fc), .int fE, .int fV, .int cE, .int cC, .ref d6, .ref d7, .int (nI pn), .ref d8])), (d3, .inl (cQ, 18, .inr (.inr (.inr (.inr (fun i9 => if i9 < 18 then some (r i9) else none)))))), (d4, .inl (cI, 18, .inl (fun i9 => nI (WL i9)))), (d5, .inl (cI, 18, .inl WS)), (d7, .inl (cI, 10, .inl (fun i9 => nI (pt i9)))), (d8, .inl (cI, 10, .inl (fun i9 => nI (ow i9))))] ++ wkR r cI M) H := by rw [hH]; exact hP
  have hS : va_S A s.heap H locs := by rw [hH]; exact hS
  suffices hgo : W p l e rm_D_divideFace s m args below meth c H locs 0 0 Q (F0 m 0 ls []) by rw [hH] at hgo; exact hgo
  refine lv_aload_n hx hb d_D_divideFace_0 rfl (lv_at hl 0 rfl) ?_
  refine g_get Sx gf_D hK hP 0 rfl rfl 6 (by decide) gm_137 rfl d_D_divideFace_1 ?_
  refine lv_iload_n hx hb d_D_divideFace_4 rfl (lv_at hl 1 rfl) ?_
  refine g_ild (j := f0) Sx hK hP 2 0 rfl rfl (by omega) (by decide) d_D_divideFace_5 ?_
  refine lv_istore_n hx hb d_D_divideFace_6 rfl hl (Nat.le_of_ble_eq_true rfl) rfl (fun ls hl => ?_)
  obtain ⟨len, hlen, hl⟩ : ∃ z9, z9 = WL f0 ∧ lv_has ls 6 [(2, .int (nI z9)), (0, .ref hd), (1, .int (nI f0))] := ⟨_, rfl, hl⟩
  have hl : lv_has ls 6 [(2, .int (nI len)), (0, .ref hd), (1, .int (nI f0))] := hl
  refine lv_aload_n hx hb d_D_divideFace_7 rfl (lv_at hl 1 rfl) ?_
  refine g_get Sx gf_D hK hP 0 rfl rfl 5 (by decide) gm_136 rfl d_D_divideFace_8 ?_
  refine lv_iload_n hx hb d_D_divideFace_11 rfl (lv_at hl 2 rfl) ?_
  refine g_ald (j := f0) Sx hK hP 1 1 rfl rfl (by omega) d_D_divideFace_12 ?_
  refine lv_iconst (v := nI 0) hx hb d_D_divideFace_13 (by decide) ?_
  refine lv_aload_n hx hb d_D_divideFace_14 rfl (lv_at hl 1 rfl) ?_
  refine g_get Sx gf_D hK hP 0 rfl rfl 16 (by decide) gm_147 rfl d_D_divideFace_15 ?_
  refine lv_iconst (v := nI 0) hx hb d_D_divideFace_18 (by decide) ?_
  refine lv_iload_n hx hb d_D_divideFace_19 rfl (lv_at hl 0 rfl) ?_
  refine g_cpy (f := f0) (n := len) Sx hl.1 gm_341 gm_343 gm_342 gm_59 hK hP hD hS 5 0 rfl rfl (by omega) (by omega) (Nat.le_of_ble_eq_true rfl) (Nat.le_of_ble_eq_true rfl) d_D_divideFace_20 (fun H locs hP hD hS => ?_)
  have hP : va_P (dC, dI) pcl ([(hd, .inr (0, [.ref hg, .ref d1, .ref d2, .int dE, .int dV, .ref d3, .ref d4, .ref d5, .int (nI fc), .int fE, .int fV, .int cE, .int cC, .ref d6, .ref d7, .int (nI pn), .ref d8])), (d3, .inl (cQ, 18, .inr (.inr (.inr (.inr (fun i9 => if i9 < 18 then some (r i9) else none)))))), (d4, .inl (cI, 18, .inl (fun i9 => nI (WL i9)))), (d5, .inl (cI, 18, .inl WS)), (d7, .inl (cI, 10, .inl (fun i9 => nI (pt i9)))), (d8, .inl (cI, 10, .inl (fun i9 => nI ((va_cpy (M f0) ow 0 0 len) i9))))] ++ wkR r cI M) H := hP
  have hD : va_D A ([(hd, .inr (0, [.ref hg, .ref d1, .ref d2, .int dE, .int dV, .ref d3, .ref d4, .ref d5, .int (nI fc), .int fE, .int fV, .int cE, .int cC, .ref d6, .ref d7, .int (nI pn), .ref d8])), (d3, .inl (cQ, 18, .inr (.inr (.inr (.inr (fun i9 => if i9 < 18 then some (r i9) else none)))))), (d4, .inl (cI, 18, .inl (fun i9 => nI (WL i9)))), (d5, .inl (cI, 18, .inl WS)), (d7, .inl (cI, 10, .inl (fun i9 => nI (pt i9)))), (d8, .inl (cI, 10, .inl (fun i9 => nI ((va_cpy (M f0) ow 0 0 len) i9))))] ++ wkR r cI M) := hD
  obtain ⟨ow1, how1⟩ : ∃ z, z = va_cpy (M f0) ow 0 0 len := ⟨_, rfl⟩
  rw [← how1] at hP hD
  have hP : va_P (dC, dI) pcl ([(hd, .inr (0, [.ref hg, .ref d1, .ref d2, .int dE, .int dV, .ref d3, .ref d4, .ref d5, .int (nI fc), .int fE, .int fV, .int cE, .int cC, .ref d6, .ref d7, .int (nI pn), .ref d8])), (d3, .inl (cQ, 18, .inr (.inr (.inr (.inr (fun i9 => if i9 < 18 then some (r i9) else none)))))), (d4, .inl (cI, 18, .inl (fun i9 => nI (WL i9)))), (d5, .inl (cI, 18, .inl WS)), (d7, .inl (cI, 10, .inl (fun i9 => nI (pt i9)))), (d8, .inl (cI, 10, .inl (fun i9 => nI (ow1 i9))))] ++ wkR r cI M) H := hP
  have hD : va_D A ([(hd, .inr (0, [.ref hg, .ref d1, .ref d2, .int dE, .int dV, .ref d3, .ref d4, .ref d5, .int (nI fc), .int fE, .int fV, .int cE, .int cC, .ref d6, .ref d7, .int (nI pn), .ref d8])), (d3, .inl (cQ, 18, .inr (.inr (.inr (.inr (fun i9 => if i9 < 18 then some (r i9) else none)))))), (d4, .inl (cI, 18, .inl (fun i9 => nI (WL i9)))), (d5, .inl (cI, 18, .inl WS)), (d7, .inl (cI, 10, .inl (fun i9 => nI (pt i9)))), (d8, .inl (cI, 10, .inl (fun i9 => nI (ow1 i9))))] ++ wkR r cI M) := hD
  refine lv_aload_n hx hb d_D_divideFace_23 rfl (lv_at hl 1 rfl) ?_
  refine lv_aload_n hx hb d_D_divideFace_24 rfl (lv_at hl 1 rfl) ?_
  refine g_get Sx gf_D hK hP 0 rfl rfl 14 (by decide) gm_145 rfl d_D_divideFace_25 ?_
  refine lv_iconst (v := nI 0) hx hb d_D_divideFace_28 (by decide) ?_
  refine g_ild (j := 0) Sx hK hP 4 0 rfl rfl (by omega) (by decide) d_D_divideFace_29 ?_
  refine lv_iload_n hx hb d_D_divideFace_30 rfl (lv_at hl 0 rfl) ?_
  refine ro_V (As := [.int (nI (pt 0)), .int (nI len)]) (rest := []) Sx (c_D_placeOf l dC dI hd hg dE dV fc fE fV cE cC pn d1 d2 d3 d4 d5 d6 d7 d8 cI cQ ow1 (pt 0) len (by omega) (by omega)) (gw_callV gm_344 gm_345 gm_16 gm_54 gm_346) hd_D_placeOf ⟨rfl, rfl⟩ ⟨Nat.le_of_ble_eq_true rfl, Nat.le_of_ble_eq_true rfl⟩ (va_P_map (va_P_l hP) [0, 5] rfl) (hK.sub (tys' := [(cI, .int)]) [0] rfl) rfl 0 rfl rfl hl.1 rfl (Nat.le_of_ble_eq_true rfl) d_D_divideFace_31 ⟨Nat.zero_le _, Nat.zero_le _⟩ ?_
  refine lv_istore_n hx hb d_D_divideFace_34 rfl hl (Nat.le_of_ble_eq_true rfl) rfl (fun ls hl => ?_)
  obtain ⟨a1, ha1, hl⟩ : ∃ z9, z9 = dr_pl ow1 (pt 0) len ∧ lv_has ls 6 [(3, .int (nI z9)), (2, .int (nI len)), (0, .ref hd), (1, .int (nI f0))] := ⟨_, rfl, hl⟩
  have hl : lv_has ls 6 [(3, .int (nI a1)), (2, .int (nI len)), (0, .ref hd), (1, .int (nI f0))] := hl
  refine lv_aload_n hx hb d_D_divideFace_35 rfl (lv_at hl 2 rfl) ?_
  refine lv_aload_n hx hb d_D_divideFace_36 rfl (lv_at hl 2 rfl) ?_
  refine g_get Sx gf_D hK hP 0 rfl rfl 14 (by decide) gm_145 rfl d_D_divideFace_37 ?_
  refine lv_aload_n hx hb d_D_divideFace_40 rfl (lv_at hl 2 rfl) ?_
  refine g_get Sx gf_D hK hP 0 rfl rfl 15 (by decide) gm_146 rfl d_D_divideFace_41 ?_
  refine lv_iconst (v := nI 1) hx hb d_D_divideFace_44 (by decide) ?_
  refine lv_isub hx hb d_D_divideFace_45 ?_
  rw [show (((nI pn) - (nI 1)) : Int32) = nI (pn - 1) from pk_sub (by omega)]
  refine g_ild (j := (pn - 1)) Sx hK hP 4 0 rfl rfl (by omega) (by decide) d_D_divideFace_46 ?_
  refine lv_iload_n hx hb d_D_divideFace_47 rfl (lv_at hl 1 rfl) ?_
  refine ro_V (As := [.int (nI (pt (pn - 1))), .int (nI len)]) (rest := []) Sx (c_D_placeOf l dC dI hd hg dE dV fc fE fV cE cC pn d1 d2 d3 d4 d5 d6 d7 d8 cI cQ ow1 (pt (pn - 1)) len (by omega) (by omega)) (gw_callV gm_344 gm_345 gm_16 gm_54 gm_346) hd_D_placeOf ⟨rfl, rfl⟩ ⟨Nat.le_of_ble_eq_true rfl, Nat.le_of_ble_eq_true rfl⟩ (va_P_map (va_P_l hP) [0, 5] rfl) (hK.sub (tys' := [(cI, .int)]) [0] rfl) rfl 0 rfl rfl hl.1 rfl (Nat.le_of_ble_eq_true rfl) d_D_divideFace_48 ⟨Nat.zero_le _, Nat.zero_le _⟩ ?_
  refine lv_istore hx hb d_D_divideFace_51 hl (Nat.le_of_ble_eq_true rfl) rfl (fun ls hl => ?_)
  obtain ⟨b1, hb1, hl⟩ : ∃ z9, z9 = dr_pl ow1 (pt (pn - 1)) len ∧ lv_has ls 6 [(4, .int (nI z9)), (3, .int (nI a1)), (2, .int (nI len)), (0, .ref hd), (1, .int (nI f0))] := ⟨_, rfl, hl⟩
  have hl : lv_has ls 6 [(4, .int (nI b1)), (3, .int (nI a1)), (2, .int (nI len)), (0, .ref hd), (1, .int (nI f0))] := hl
  refine lv_aload_n hx hb d_D_divideFace_53 rfl (lv_at hl 3 rfl) ?_
  refine lv_iload_n hx hb d_D_divideFace_54 rfl (lv_at hl 4 rfl) ?_
  refine rw_VQ (As := [.int (nI f0)]) (rest := []) (wr := [(d3, .inl (cQ, 18, .inr (.inr (.inr (.inr (fun i9 => if i9 < 18 then some (r i9) else none)))))), (d7, .inl (cI, 10, .inl (fun i9 => nI (pt i9)))), (d8, .inl (cI, 10, .inl (fun i9 => nI (ow1 i9))))]) Sx (c_D_startWalk l dC dI hd hg dE dV fc fE fV cE cC pn d1 d2 d3 d4 d5 d6 d7 d8 cI cQ WL WS f0 H.size (by omega)) (gw_callV gm_347 gm_348 gm_17 gm_54 gm_349) hd_D_startWalk ⟨rfl, rfl⟩ ⟨Nat.le_of_ble_eq_true rfl, Nat.le_of_ble_eq_true rfl⟩ hP hD hS hA (hK.sub (tys' := [(cI, .int)]) [0] rfl) [0, 2, 3] [1, 4, 5] rfl rfl (by decide) (by decide) (by decide) rfl 0 rfl rfl hl.1 rfl (Nat.le_of_ble_eq_true rfl) d_D_divideFace_55 ⟨Nat.zero_le _, Nat.zero_le _⟩ (fun H locs hP hD hS => ?_)
  have hP : va_P (dC, dI) pcl ([(d3, .inl (cQ, 18, .inr (.inr (.inr (.inr (fun i9 => if i9 < 18 then some (r i9) else none)))))), (d7, .inl (cI, 10, .inl (fun i9 => nI (pt i9)))), (d8, .inl (cI, 10, .inl (fun i9 => nI (ow1 i9)))), (hd, .inr (0, [.ref hg, .ref d1, .ref d2, .int dE, .int dV, .ref d3, .ref d4, .ref d5, .int (nI fc), .int fE, .int fV, .int cE, .int cC, .ref d6, .ref d7, .int (nI pn), .ref d8])), (d4, .inl (cI, 18, .inl (fun i9 => nI ((va_up WL f0 0) i9)))), (d5, .inl (cI, 18, .inl (upd WS f0 0)))] ++ wkR r cI M) H := hP
  have hD : va_D A ([(d3, .inl (cQ, 18, .inr (.inr (.inr (.inr (fun i9 => if i9 < 18 then some (r i9) else none)))))), (d7, .inl (cI, 10, .inl (fun i9 => nI (pt i9)))), (d8, .inl (cI, 10, .inl (fun i9 => nI (ow1 i9)))), (hd, .inr (0, [.ref hg, .ref d1, .ref d2, .int dE, .int dV, .ref d3, .ref d4, .ref d5, .int (nI fc), .int fE, .int fV, .int cE, .int cC, .ref d6, .ref d7, .int (nI pn), .ref d8])), (d4, .inl (cI, 18, .inl (fun i9 => nI ((va_up WL f0 0) i9)))), (d5, .inl (cI, 18, .inl (upd WS f0 0)))] ++ wkR r cI M) := hD
  refine lv_aload_n hx hb d_D_divideFace_58 rfl (lv_at hl 3 rfl) ?_
  refine lv_iload_n hx hb d_D_divideFace_59 rfl (lv_at hl 4 rfl) ?_
  refine lv_iload_n hx hb d_D_divideFace_60 rfl (lv_at hl 1 rfl) ?_
  refine lv_iload hx hb d_D_divideFace_61 (lv_at hl 0 rfl) ?_
  refine lv_iload_n hx hb d_D_divideFace_63 rfl (lv_at hl 2 rfl) ?_
  refine rw_VP (As := [.int (nI f0), .int (nI a1), .int (nI b1), .int (nI len)]) (rest := []) (wr := [(d7, .inl (cI, 10, .inl (fun i9 => nI (pt i9))))]) Sx (c_D_walkArc l dC dI hd hg dE dV fc fE fV cE cC pn d1 d2 d3 d4 d5 d6 d7 d8 cI cQ (va_up WL f0 0) (upd WS f0 0) ow1 r M f0 a1 b1 len H.size (by omega) (up0_rng hWL f0) (by rw [ha1]; exact dr_pl_le _ _ _ (by omega)) (by rw [hb1]; exact dr_pl_le _ _ _ (by omega)) (by omega)) (gw_callV gm_350 gm_351 gm_18 gm_54 gm_352) hd_D_walkArc ⟨rfl, rfl⟩ ⟨Nat.le_of_ble_eq_true rfl, Nat.le_of_ble_eq_true rfl⟩ hP hD hS hA (hK.sub (tys' := [(cI, .int), (cQ, .array .int)]) [0, 1] rfl) [3, 0, 4, 5, 2] [1] rfl rfl (by decide) (by decide) (by decide) rfl 0 rfl rfl hl.1 rfl (Nat.le_of_ble_eq_true rfl) d_D_divideFace_64 ⟨Nat.zero_le _, Nat.zero_le _⟩ (fun H locs hP hD hS => ?_)
  have hP : va_P (dC, dI) pcl ([(d7, .inl (cI, 10, .inl (fun i9 => nI (pt i9)))), (hd, .inr (0, [.ref hg, .ref d1, .ref d2, .int dE, .int dV, .ref d3, .ref d4, .ref d5, .int (nI fc), .int fE, .int fV, .int cE, .int cC, .ref d6, .ref d7, .int (nI pn), .ref d8])), (d3, .inl (cQ, 18, .inr (.inr (.inr (.inr (fun i9 => if i9 < 18 then some (r i9) else none)))))), (d4, .inl (cI, 18, .inl (fun i9 => nI (((dr_arc ow1 f0 a1 b1 len (M, (va_up WL f0 0), (upd WS f0 0))).2.1) i9)))), (d5, .inl (cI, 18, .inl ((dr_arc ow1 f0 a1 b1 len (M, (va_up WL f0 0), (upd WS f0 0))).2.2))), (d8, .inl (cI, 10, .inl (fun i9 => nI (ow1 i9))))] ++ wkR r cI ((dr_arc ow1 f0 a1 b1 len (M, (va_up WL f0 0), (upd WS f0 0))).1)) H := hP
  have hD : va_D A ([(d7, .inl (cI, 10, .inl (fun i9 => nI (pt i9)))), (hd, .inr (0, [.ref hg, .ref d1, .ref d2, .int dE, .int dV, .ref d3, .ref d4, .ref d5, .int (nI fc), .int fE, .int fV, .int cE, .int cC, .ref d6, .ref d7, .int (nI pn), .ref d8])), (d3, .inl (cQ, 18, .inr (.inr (.inr (.inr (fun i9 => if i9 < 18 then some (r i9) else none)))))), (d4, .inl (cI, 18, .inl (fun i9 => nI (((dr_arc ow1 f0 a1 b1 len (M, (va_up WL f0 0), (upd WS f0 0))).2.1) i9)))), (d5, .inl (cI, 18, .inl ((dr_arc ow1 f0 a1 b1 len (M, (va_up WL f0 0), (upd WS f0 0))).2.2))), (d8, .inl (cI, 10, .inl (fun i9 => nI (ow1 i9))))] ++ wkR r cI ((dr_arc ow1 f0 a1 b1 len (M, (va_up WL f0 0), (upd WS f0 0))).1)) := hD
  refine lv_aload_n hx hb d_D_divideFace_67 rfl (lv_at hl 3 rfl) ?_
  refine g_get Sx gf_D hK hP 1 rfl rfl 15 (by decide) gm_146 rfl d_D_divideFace_68 ?_
  refine lv_iconst (v := nI 2) hx hb d_D_divideFace_71 (by decide) ?_
  refine lv_isub hx hb d_D_divideFace_72 ?_
  rw [show (((nI pn) - (nI 2)) : Int32) = nI (pn - 2) from pk_sub (by omega)]
  refine lv_istore hx hb d_D_divideFace_73 hl (Nat.le_of_ble_eq_true rfl) rfl (fun ls hl => ?_)
  have hl : lv_has ls 6 [(5, .int (nI (pn - 2))), (4, .int (nI b1)), (3, .int (nI a1)), (2, .int (nI len)), (0, .ref hd), (1, .int (nI f0))] := hl
  have hL75 : ∀ (kk i : Nat), i + kk = (pn - 2) → ∀ (M1 : Nat → Nat → Nat) (WL1 : Nat → Nat) (WS1 : Nat → Int32) (H : Heap) (locs : List Loc) (ls : Array Slot), (M1, WL1, WS1) = fo (dr_d f0 (fun c => pt (pn - 2 - c))) i (dr_arc ow1 f0 a1 b1 len (M, va_up WL f0 0, upd WS f0 0)) → va_P (dC, dI) pcl ([(hd, .inr (0, [.ref hg, .ref d1, .ref d2, .int dE, .int dV, .ref d3, .ref d4, .ref d5, .int (nI fc), .int fE, .int fV, .int cE, .int cC, .ref d6, .ref d7, .int (nI pn), .ref d8])), (d3, .inl (cQ, 18, .inr (.inr (.inr (.inr (fun i9 => if i9 < 18 then some (r i9) else none)))))), (d4, .inl (cI, 18, .inl (fun i9 => nI (WL1 i9)))), (d5, .inl (cI, 18, .inl WS1)), (d7, .inl (cI, 10, .inl (fun i9 => nI (pt i9)))), (d8, .inl (cI, 10, .inl (fun i9 => nI (ow1 i9))))] ++ wkR r cI M1) H → va_D A ([(hd, .inr (0, [.ref hg, .ref d1, .ref d2, .int dE, .int dV, .ref d3, .ref d4, .ref d5, .int (nI fc), .int fE, .int fV, .int cE, .int cC, .ref d6, .ref d7, .int (nI pn), .ref d8])), (d3, .inl (cQ, 18, .inr (.inr (.inr (.inr (fun i9 => if i9 < 18 then some (r i9) else none)))))), (d4, .inl (cI, 18, .inl (fun i9 => nI (WL1 i9)))), (d5, .inl (cI, 18, .inl WS1)), (d7, .inl (cI, 10, .inl (fun i9 => nI (pt i9)))), (d8, .inl (cI, 10, .inl (fun i9 => nI (ow1 i9))))] ++ wkR r cI M1) → va_S A s.heap H locs → lv_has ls 6 [(5, .int (nI (pn - 2 - i))), (4, .int (nI b1)), (3, .int (nI a1)), (2, .int (nI len)), (0, .ref hd), (1, .int (nI f0))] → W p l e rm_D_divideFace s m args below meth c H locs 0 0 Q (F0 m 75 ls []) := by
    intro kk
    induction kk with
    | zero =>
      intro i hi75 M1 WL1 WS1 H locs ls he75 hP hD hS hl
      have hj75 : i = pn - 2 := by omega
      rw [hj75] at hl he75
      have e_M1 : M1 = (fo (dr_d f0 (fun c => pt (pn - 2 - c))) (pn - 2) (dr_arc ow1 f0 a1 b1 len (M, va_up WL f0 0, upd WS f0 0))).1 := by rw [← he75]
      subst e_M1
      have e_WL1 : WL1 = (fo (dr_d f0 (fun c => pt (pn - 2 - c))) (pn - 2) (dr_arc ow1 f0 a1 b1 len (M, va_up WL f0 0, upd WS f0 0))).2.1 := by rw [← he75]
      subst e_WL1
      have e_WS1 : WS1 = (fo (dr_d f0 (fun c => pt (pn - 2 - c))) (pn - 2) (dr_arc ow1 f0 a1 b1 len (M, va_up WL f0 0, upd WS f0 0))).2.2 := by rw [← he75]
      subst e_WS1
      have hl : lv_has ls 6 [(5, .int (nI (pn - 2 - (pn - 2)))), (4, .int (nI b1)), (3, .int (nI a1)), (2, .int (nI len)), (0, .ref hd), (1, .int (nI f0))] := hl
      have hP : va_P (dC, dI) pcl ([(hd, .inr (0, [.ref hg, .ref d1, .ref d2, .int dE, .int dV, .ref d3, .ref d4, .ref d5, .int (nI fc), .int fE, .int fV, .int cE, .int cC, .ref d6, .ref d7, .int (nI pn), .ref d8])), (d3, .inl (cQ, 18, .inr (.inr (.inr (.inr (fun i9 => if i9 < 18 then some (r i9) else none)))))), (d4, .inl (cI, 18, .inl (fun i9 => nI (((fo (dr_d f0 (fun c => pt (pn - 2 - c))) (pn - 2) (dr_arc ow1 f0 a1 b1 len (M, va_up WL f0 0, upd WS f0 0))).2.1) i9)))), (d5, .inl (cI, 18, .inl ((fo (dr_d f0 (fun c => pt (pn - 2 - c))) (pn - 2) (dr_arc ow1 f0 a1 b1 len (M, va_up WL f0 0, upd WS f0 0))).2.2))), (d7, .inl (cI, 10, .inl (fun i9 => nI (pt i9)))), (d8, .inl (cI, 10, .inl (fun i9 => nI (ow1 i9))))] ++ wkR r cI ((fo (dr_d f0 (fun c => pt (pn - 2 - c))) (pn - 2) (dr_arc ow1 f0 a1 b1 len (M, va_up WL f0 0, upd WS f0 0))).1)) H := hP
      have hD : va_D A ([(hd, .inr (0, [.ref hg, .ref d1, .ref d2, .int dE, .int dV, .ref d3, .ref d4, .ref d5, .int (nI fc), .int fE, .int fV, .int cE, .int cC, .ref d6, .ref d7, .int (nI pn), .ref d8])), (d3, .inl (cQ, 18, .inr (.inr (.inr (.inr (fun i9 => if i9 < 18 then some (r i9) else none)))))), (d4, .inl (cI, 18, .inl (fun i9 => nI (((fo (dr_d f0 (fun c => pt (pn - 2 - c))) (pn - 2) (dr_arc ow1 f0 a1 b1 len (M, va_up WL f0 0, upd WS f0 0))).2.1) i9)))), (d5, .inl (cI, 18, .inl ((fo (dr_d f0 (fun c => pt (pn - 2 - c))) (pn - 2) (dr_arc ow1 f0 a1 b1 len (M, va_up WL f0 0, upd WS f0 0))).2.2))), (d7, .inl (cI, 10, .inl (fun i9 => nI (pt i9)))), (d8, .inl (cI, 10, .inl (fun i9 => nI (ow1 i9))))] ++ wkR r cI ((fo (dr_d f0 (fun c => pt (pn - 2 - c))) (pn - 2) (dr_arc ow1 f0 a1 b1 len (M, va_up WL f0 0, upd WS f0 0))).1)) := hD
      refine lv_iload hx hb d_D_divideFace_75 (lv_at hl 0 rfl) ?_
      refine lv_if_le hx hb d_D_divideFace_77 (tgt := 98) rfl (fun q1 => ?_) (fun q1 => ?_)
      · have q1 : (pn - 2 - (pn - 2)) ≤ 0 := nz_le (by omega) q1
        refine lv_aload_n hx hb d_D_divideFace_98 rfl (lv_at hl 4 rfl) ?_
        refine lv_aload_n hx hb d_D_divideFace_99 rfl (lv_at hl 4 rfl) ?_
        refine g_get Sx gf_D hK hP 0 rfl rfl 8 (by decide) gm_139 rfl d_D_divideFace_100 ?_
        refine rw_VQ (As := [.int (nI fc)]) (rest := []) (wr := [(d3, .inl (cQ, 18, .inr (.inr (.inr (.inr (fun i9 => if i9 < 18 then some (r i9) else none)))))), (d7, .inl (cI, 10, .inl (fun i9 => nI (pt i9)))), (d8, .inl (cI, 10, .inl (fun i9 => nI (ow1 i9))))]) Sx (c_D_startWalk l dC dI hd hg dE dV fc fE fV cE cC pn d1 d2 d3 d4 d5 d6 d7 d8 cI cQ ((fo (dr_d f0 (fun c => pt (pn - 2 - c))) (pn - 2) (dr_arc ow1 f0 a1 b1 len (M, va_up WL f0 0, upd WS f0 0))).2.1) ((fo (dr_d f0 (fun c => pt (pn - 2 - c))) (pn - 2) (dr_arc ow1 f0 a1 b1 len (M, va_up WL f0 0, upd WS f0 0))).2.2) fc H.size (by omega)) (gw_callV gm_347 gm_348 gm_17 gm_54 gm_349) hd_D_startWalk ⟨rfl, rfl⟩ ⟨Nat.le_of_ble_eq_true rfl, Nat.le_of_ble_eq_true rfl⟩ hP hD hS hA (hK.sub (tys' := [(cI, .int)]) [0] rfl) [0, 2, 3] [1, 4, 5] rfl rfl (by decide) (by decide) (by decide) rfl 0 rfl rfl hl.1 rfl (Nat.le_of_ble_eq_true rfl) d_D_divideFace_103 ⟨Nat.zero_le _, Nat.zero_le _⟩ (fun H locs hP hD hS => ?_)
        have hP : va_P (dC, dI) pcl ([(d3, .inl (cQ, 18, .inr (.inr (.inr (.inr (fun i9 => if i9 < 18 then some (r i9) else none)))))), (d7, .inl (cI, 10, .inl (fun i9 => nI (pt i9)))), (d8, .inl (cI, 10, .inl (fun i9 => nI (ow1 i9)))), (hd, .inr (0, [.ref hg, .ref d1, .ref d2, .int dE, .int dV, .ref d3, .ref d4, .ref d5, .int (nI fc), .int fE, .int fV, .int cE, .int cC, .ref d6, .ref d7, .int (nI pn), .ref d8])), (d4, .inl (cI, 18, .inl (fun i9 => nI ((va_up ((fo (dr_d f0 (fun c => pt (pn - 2 - c))) (pn - 2) (dr_arc ow1 f0 a1 b1 len (M, va_up WL f0 0, upd WS f0 0))).2.1) fc 0) i9)))), (d5, .inl (cI, 18, .inl (upd ((fo (dr_d f0 (fun c => pt (pn - 2 - c))) (pn - 2) (dr_arc ow1 f0 a1 b1 len (M, va_up WL f0 0, upd WS f0 0))).2.2) fc 0)))] ++ wkR r cI ((fo (dr_d f0 (fun c => pt (pn - 2 - c))) (pn - 2) (dr_arc ow1 f0 a1 b1 len (M, va_up WL f0 0, upd WS f0 0))).1)) H := hP
        have hD : va_D A ([(d3, .inl (cQ, 18, .inr (.inr (.inr (.inr (fun i9 => if i9 < 18 then some (r i9) else none)))))), (d7, .inl (cI, 10, .inl (fun i9 => nI (pt i9)))), (d8, .inl (cI, 10, .inl (fun i9 => nI (ow1 i9)))), (hd, .inr (0, [.ref hg, .ref d1, .ref d2, .int dE, .int dV, .ref d3, .ref d4, .ref d5, .int (nI fc), .int fE, .int fV, .int cE, .int cC, .ref d6, .ref d7, .int (nI pn), .ref d8])), (d4, .inl (cI, 18, .inl (fun i9 => nI ((va_up ((fo (dr_d f0 (fun c => pt (pn - 2 - c))) (pn - 2) (dr_arc ow1 f0 a1 b1 len (M, va_up WL f0 0, upd WS f0 0))).2.1) fc 0) i9)))), (d5, .inl (cI, 18, .inl (upd ((fo (dr_d f0 (fun c => pt (pn - 2 - c))) (pn - 2) (dr_arc ow1 f0 a1 b1 len (M, va_up WL f0 0, upd WS f0 0))).2.2) fc 0)))] ++ wkR r cI ((fo (dr_d f0 (fun c => pt (pn - 2 - c))) (pn - 2) (dr_arc ow1 f0 a1 b1 len (M, va_up WL f0 0, upd WS f0 0))).1)) := hD
        refine lv_aload_n hx hb d_D_divideFace_106 rfl (lv_at hl 4 rfl) ?_
        refine lv_aload_n hx hb d_D_divideFace_107 rfl (lv_at hl 4 rfl) ?_
        refine g_get Sx gf_D hK hP 3 rfl rfl 8 (by decide) gm_139 rfl d_D_divideFace_108 ?_
        refine lv_iload hx hb d_D_divideFace_111 (lv_at hl 1 rfl) ?_
        refine lv_iload_n hx hb d_D_divideFace_113 rfl (lv_at hl 2 rfl) ?_
        refine lv_iload_n hx hb d_D_divideFace_114 rfl (lv_at hl 3 rfl) ?_
        refine rw_VP (As := [.int (nI fc), .int (nI b1), .int (nI a1), .int (nI len)]) (rest := []) (wr := [(d7, .inl (cI, 10, .inl (fun i9 => nI (pt i9))))]) Sx (c_D_walkArc l dC dI hd hg dE dV fc fE fV cE cC pn d1 d2 d3 d4 d5 d6 d7 d8 cI cQ (va_up ((fo (dr_d f0 (fun c => pt (pn - 2 - c))) (pn - 2) (dr_arc ow1 f0 a1 b1 len (M, va_up WL f0 0, upd WS f0 0))).2.1) fc 0) (upd ((fo (dr_d f0 (fun c => pt (pn - 2 - c))) (pn - 2) (dr_arc ow1 f0 a1 b1 len (M, va_up WL f0 0, upd WS f0 0))).2.2) fc 0) ow1 r ((fo (dr_d f0 (fun c => pt (pn - 2 - c))) (pn - 2) (dr_arc ow1 f0 a1 b1 len (M, va_up WL f0 0, upd WS f0 0))).1) fc b1 a1 len H.size (by omega) (up0_rng (dr_v1_rng (s := (M, WL, WS)) hWL) fc) (by rw [hb1]; exact dr_pl_le _ _ _ (by omega)) (by rw [ha1]; exact dr_pl_le _ _ _ (by omega)) (by omega)) (gw_callV gm_350 gm_351 gm_18 gm_54 gm_352) hd_D_walkArc ⟨rfl, rfl⟩ ⟨Nat.le_of_ble_eq_true rfl, Nat.le_of_ble_eq_true rfl⟩ hP hD hS hA (hK.sub (tys' := [(cI, .int), (cQ, .array .int)]) [0, 1] rfl) [3, 0, 4, 5, 2] [1] rfl rfl (by decide) (by decide) (by decide) rfl 0 rfl rfl hl.1 rfl (Nat.le_of_ble_eq_true rfl) d_D_divideFace_115 ⟨Nat.zero_le _, Nat.zero_le _⟩ (fun H locs hP hD hS => ?_)
        have hP : va_P (dC, dI) pcl ([(d7, .inl (cI, 10, .inl (fun i9 => nI (pt i9)))), (hd, .inr (0, [.ref hg, .ref d1, .ref d2, .int dE, .int dV, .ref d3, .ref d4, .ref d5, .int (nI fc), .int fE, .int fV, .int cE, .int cC, .ref d6, .ref d7, .int (nI pn), .ref d8])), (d3, .inl (cQ, 18, .inr (.inr (.inr (.inr (fun i9 => if i9 < 18 then some (r i9) else none)))))), (d4, .inl (cI, 18, .inl (fun i9 => nI (((dr_arc ow1 fc b1 a1 len (((fo (dr_d f0 (fun c => pt (pn - 2 - c))) (pn - 2) (dr_arc ow1 f0 a1 b1 len (M, va_up WL f0 0, upd WS f0 0))).1), (va_up ((fo (dr_d f0 (fun c => pt (pn - 2 - c))) (pn - 2) (dr_arc ow1 f0 a1 b1 len (M, va_up WL f0 0, upd WS f0 0))).2.1) fc 0), (upd ((fo (dr_d f0 (fun c => pt (pn - 2 - c))) (pn - 2) (dr_arc ow1 f0 a1 b1 len (M, va_up WL f0 0, upd WS f0 0))).2.2) fc 0))).2.1) i9)))), (d5, .inl (cI, 18, .inl ((dr_arc ow1 fc b1 a1 len (((fo (dr_d f0 (fun c => pt (pn - 2 - c))) (pn - 2) (dr_arc ow1 f0 a1 b1 len (M, va_up WL f0 0, upd WS f0 0))).1), (va_up ((fo (dr_d f0 (fun c => pt (pn - 2 - c))) (pn - 2) (dr_arc ow1 f0 a1 b1 len (M, va_up WL f0 0, upd WS f0 0))).2.1) fc 0), (upd ((fo (dr_d f0 (fun c => pt (pn - 2 - c))) (pn - 2) (dr_arc ow1 f0 a1 b1 len (M, va_up WL f0 0, upd WS f0 0))).2.2) fc 0))).2.2))), (d8, .inl (cI, 10, .inl (fun i9 => nI (ow1 i9))))] ++ wkR r cI ((dr_arc ow1 fc b1 a1 len (((fo (dr_d f0 (fun c => pt (pn - 2 - c))) (pn - 2) (dr_arc ow1 f0 a1 b1 len (M, va_up WL f0 0, upd WS f0 0))).1), (va_up ((fo (dr_d f0 (fun c => pt (pn - 2 - c))) (pn - 2) (dr_arc ow1 f0 a1 b1 len (M, va_up WL f0 0, upd WS f0 0))).2.1) fc 0), (upd ((fo (dr_d f0 (fun c => pt (pn - 2 - c))) (pn - 2) (dr_arc ow1 f0 a1 b1 len (M, va_up WL f0 0, upd WS f0 0))).2.2) fc 0))).1)) H := hP
        have hD : va_D A ([(d7, .inl (cI, 10, .inl (fun i9 => nI (pt i9)))), (hd, .inr (0, [.ref hg, .ref d1, .ref d2, .int dE, .int dV, .ref d3, .ref d4, .ref d5, .int (nI fc), .int fE, .int fV, .int cE, .int cC, .ref d6, .ref d7, .int (nI pn), .ref d8])), (d3, .inl (cQ, 18, .inr (.inr (.inr (.inr (fun i9 => if i9 < 18 then some (r i9) else none)))))), (d4, .inl (cI, 18, .inl (fun i9 => nI (((dr_arc ow1 fc b1 a1 len (((fo (dr_d f0 (fun c => pt (pn - 2 - c))) (pn - 2) (dr_arc ow1 f0 a1 b1 len (M, va_up WL f0 0, upd WS f0 0))).1), (va_up ((fo (dr_d f0 (fun c => pt (pn - 2 - c))) (pn - 2) (dr_arc ow1 f0 a1 b1 len (M, va_up WL f0 0, upd WS f0 0))).2.1) fc 0), (upd ((fo (dr_d f0 (fun c => pt (pn - 2 - c))) (pn - 2) (dr_arc ow1 f0 a1 b1 len (M, va_up WL f0 0, upd WS f0 0))).2.2) fc 0))).2.1) i9)))), (d5, .inl (cI, 18, .inl ((dr_arc ow1 fc b1 a1 len (((fo (dr_d f0 (fun c => pt (pn - 2 - c))) (pn - 2) (dr_arc ow1 f0 a1 b1 len (M, va_up WL f0 0, upd WS f0 0))).1), (va_up ((fo (dr_d f0 (fun c => pt (pn - 2 - c))) (pn - 2) (dr_arc ow1 f0 a1 b1 len (M, va_up WL f0 0, upd WS f0 0))).2.1) fc 0), (upd ((fo (dr_d f0 (fun c => pt (pn - 2 - c))) (pn - 2) (dr_arc ow1 f0 a1 b1 len (M, va_up WL f0 0, upd WS f0 0))).2.2) fc 0))).2.2))), (d8, .inl (cI, 10, .inl (fun i9 => nI (ow1 i9))))] ++ wkR r cI ((dr_arc ow1 fc b1 a1 len (((fo (dr_d f0 (fun c => pt (pn - 2 - c))) (pn - 2) (dr_arc ow1 f0 a1 b1 len (M, va_up WL f0 0, upd WS f0 0))).1), (va_up ((fo (dr_d f0 (fun c => pt (pn - 2 - c))) (pn - 2) (dr_arc ow1 f0 a1 b1 len (M, va_up WL f0 0, upd WS f0 0))).2.1) fc 0), (upd ((fo (dr_d f0 (fun c => pt (pn - 2 - c))) (pn - 2) (dr_arc ow1 f0 a1 b1 len (M, va_up WL f0 0, upd WS f0 0))).2.2) fc 0))).1)) := hD
        refine lv_iconst (v := nI 1) hx hb d_D_divideFace_118 (by decide) ?_
        refine lv_istore hx hb d_D_divideFace_119 hl (Nat.le_of_ble_eq_true rfl) rfl (fun ls hl => ?_)
        have hl : lv_has ls 6 [(5, .int (nI 1)), (4, .int (nI b1)), (3, .int (nI a1)), (2, .int (nI len)), (0, .ref hd), (1, .int (nI f0))] := hl
        have hL121 : ∀ (kk i : Nat), i + kk = (pn - 2) → ∀ (M1 : Nat → Nat → Nat) (WL1 : Nat → Nat) (WS1 : Nat → Int32) (H : Heap) (locs : List Loc) (ls : Array Slot), (M1, WL1, WS1) = fo (dr_d fc (fun c => pt (1 + c))) i (dr_arc ow1 fc b1 a1 len ((dr_v1 pt ow1 f0 a1 b1 len pn (M, WL, WS)).1, va_up (dr_v1 pt ow1 f0 a1 b1 len pn (M, WL, WS)).2.1 fc 0, upd (dr_v1 pt ow1 f0 a1 b1 len pn (M, WL, WS)).2.2 fc 0)) → va_P (dC, dI) pcl ([(hd, .inr (0, [.ref hg, .ref d1, .ref d2, .int dE, .int dV, .ref d3, .ref d4, .ref d5, .int (nI fc), .int fE, .int fV, .int cE, .int cC, .ref d6, .ref d7, .int (nI pn), .ref d8])), (d3, .inl (cQ, 18, .inr (.inr (.inr (.inr (fun i9 => if i9 < 18 then some (r i9) else none)))))), (d4, .inl (cI, 18, .inl (fun i9 => nI (WL1 i9)))), (d5, .inl (cI, 18, .inl WS1)), (d7, .inl (cI, 10, .inl (fun i9 => nI (pt i9)))), (d8, .inl (cI, 10, .inl (fun i9 => nI (ow1 i9))))] ++ wkR r cI M1) H → va_D A ([(hd, .inr (0, [.ref hg, .ref d1, .ref d2, .int dE, .int dV, .ref d3, .ref d4, .ref d5, .int (nI fc), .int fE, .int fV, .int cE, .int cC, .ref d6, .ref d7, .int (nI pn), .ref d8])), (d3, .inl (cQ, 18, .inr (.inr (.inr (.inr (fun i9 => if i9 < 18 then some (r i9) else none)))))), (d4, .inl (cI, 18, .inl (fun i9 => nI (WL1 i9)))), (d5, .inl (cI, 18, .inl WS1)), (d7, .inl (cI, 10, .inl (fun i9 => nI (pt i9)))), (d8, .inl (cI, 10, .inl (fun i9 => nI (ow1 i9))))] ++ wkR r cI M1) → va_S A s.heap H locs → lv_has ls 6 [(5, .int (nI (1 + i))), (4, .int (nI b1)), (3, .int (nI a1)), (2, .int (nI len)), (0, .ref hd), (1, .int (nI f0))] → W p l e rm_D_divideFace s m args below meth c H locs 0 0 Q (F0 m 121 ls []) := by
          intro kk
          induction kk with
          | zero =>
            intro i hi121 M1 WL1 WS1 H locs ls he121 hP hD hS hl
            have hj121 : i = pn - 2 := by omega
            rw [hj121] at hl he121
            have e_M1 : M1 = (fo (dr_d fc (fun c => pt (1 + c))) (pn - 2) (dr_arc ow1 fc b1 a1 len ((dr_v1 pt ow1 f0 a1 b1 len pn (M, WL, WS)).1, va_up (dr_v1 pt ow1 f0 a1 b1 len pn (M, WL, WS)).2.1 fc 0, upd (dr_v1 pt ow1 f0 a1 b1 len pn (M, WL, WS)).2.2 fc 0))).1 := by rw [← he121]
            subst e_M1
            have e_WL1 : WL1 = (fo (dr_d fc (fun c => pt (1 + c))) (pn - 2) (dr_arc ow1 fc b1 a1 len ((dr_v1 pt ow1 f0 a1 b1 len pn (M, WL, WS)).1, va_up (dr_v1 pt ow1 f0 a1 b1 len pn (M, WL, WS)).2.1 fc 0, upd (dr_v1 pt ow1 f0 a1 b1 len pn (M, WL, WS)).2.2 fc 0))).2.1 := by rw [← he121]
            subst e_WL1
            have e_WS1 : WS1 = (fo (dr_d fc (fun c => pt (1 + c))) (pn - 2) (dr_arc ow1 fc b1 a1 len ((dr_v1 pt ow1 f0 a1 b1 len pn (M, WL, WS)).1, va_up (dr_v1 pt ow1 f0 a1 b1 len pn (M, WL, WS)).2.1 fc 0, upd (dr_v1 pt ow1 f0 a1 b1 len pn (M, WL, WS)).2.2 fc 0))).2.2 := by rw [← he121]
            subst e_WS1
            have hl : lv_has ls 6 [(5, .int (nI (1 + (pn - 2)))), (4, .int (nI b1)), (3, .int (nI a1)), (2, .int (nI len)), (0, .ref hd), (1, .int (nI f0))] := hl
            have hP : va_P (dC, dI) pcl ([(hd, .inr (0, [.ref hg, .ref d1, .ref d2, .int dE, .int dV, .ref d3, .ref d4, .ref d5, .int (nI fc), .int fE, .int fV, .int cE, .int cC, .ref d6, .ref d7, .int (nI pn), .ref d8])), (d3, .inl (cQ, 18, .inr (.inr (.inr (.inr (fun i9 => if i9 < 18 then some (r i9) else none)))))), (d4, .inl (cI, 18, .inl (fun i9 => nI (((fo (dr_d fc (fun c => pt (1 + c))) (pn - 2) (dr_arc ow1 fc b1 a1 len ((dr_v1 pt ow1 f0 a1 b1 len pn (M, WL, WS)).1, va_up (dr_v1 pt ow1 f0 a1 b1 len pn (M, WL, WS)).2.1 fc 0, upd (dr_v1 pt ow1 f0 a1 b1 len pn (M, WL, WS)).2.2 fc 0))).2.1) i9)))), (d5, .inl (cI, 18, .inl ((fo (dr_d fc (fun c => pt (1 + c))) (pn - 2) (dr_arc ow1 fc b1 a1 len ((dr_v1 pt ow1 f0 a1 b1 len pn (M, WL, WS)).1, va_up (dr_v1 pt ow1 f0 a1 b1 len pn (M, WL, WS)).2.1 fc 0, upd (dr_v1 pt ow1 f0 a1 b1 len pn (M, WL, WS)).2.2 fc 0))).2.2))), (d7, .inl (cI, 10, .inl (fun i9 => nI (pt i9)))), (d8, .inl (cI, 10, .inl (fun i9 => nI (ow1 i9))))] ++ wkR r cI ((fo (dr_d fc (fun c => pt (1 + c))) (pn - 2) (dr_arc ow1 fc b1 a1 len ((dr_v1 pt ow1 f0 a1 b1 len pn (M, WL, WS)).1, va_up (dr_v1 pt ow1 f0 a1 b1 len pn (M, WL, WS)).2.1 fc 0, upd (dr_v1 pt ow1 f0 a1 b1 len pn (M, WL, WS)).2.2 fc 0))).1)) H := hP
            have hD : va_D A ([(hd, .inr (0, [.ref hg, .ref d1, .ref d2, .int dE, .int dV, .ref d3, .ref d4, .ref d5, .int (nI fc), .int fE, .int fV, .int cE, .int cC, .ref d6, .ref d7, .int (nI pn), .ref d8])), (d3, .inl (cQ, 18, .inr (.inr (.inr (.inr (fun i9 => if i9 < 18 then some (r i9) else none)))))), (d4, .inl (cI, 18, .inl (fun i9 => nI (((fo (dr_d fc (fun c => pt (1 + c))) (pn - 2) (dr_arc ow1 fc b1 a1 len ((dr_v1 pt ow1 f0 a1 b1 len pn (M, WL, WS)).1, va_up (dr_v1 pt ow1 f0 a1 b1 len pn (M, WL, WS)).2.1 fc 0, upd (dr_v1 pt ow1 f0 a1 b1 len pn (M, WL, WS)).2.2 fc 0))).2.1) i9)))), (d5, .inl (cI, 18, .inl ((fo (dr_d fc (fun c => pt (1 + c))) (pn - 2) (dr_arc ow1 fc b1 a1 len ((dr_v1 pt ow1 f0 a1 b1 len pn (M, WL, WS)).1, va_up (dr_v1 pt ow1 f0 a1 b1 len pn (M, WL, WS)).2.1 fc 0, upd (dr_v1 pt ow1 f0 a1 b1 len pn (M, WL, WS)).2.2 fc 0))).2.2))), (d7, .inl (cI, 10, .inl (fun i9 => nI (pt i9)))), (d8, .inl (cI, 10, .inl (fun i9 => nI (ow1 i9))))] ++ wkR r cI ((fo (dr_d fc (fun c => pt (1 + c))) (pn - 2) (dr_arc ow1 fc b1 a1 len ((dr_v1 pt ow1 f0 a1 b1 len pn (M, WL, WS)).1, va_up (dr_v1 pt ow1 f0 a1 b1 len pn (M, WL, WS)).2.1 fc 0, upd (dr_v1 pt ow1 f0 a1 b1 len pn (M, WL, WS)).2.2 fc 0))).1)) := hD
            refine lv_iload hx hb d_D_divideFace_121 (lv_at hl 0 rfl) ?_
            refine lv_aload_n hx hb d_D_divideFace_123 rfl (lv_at hl 4 rfl) ?_
            refine g_get Sx gf_D hK hP 0 rfl rfl 15 (by decide) gm_146 rfl d_D_divideFace_124 ?_
            refine lv_iconst (v := nI 1) hx hb d_D_divideFace_127 (by decide) ?_
            refine lv_isub hx hb d_D_divideFace_128 ?_
            rw [show (((nI pn) - (nI 1)) : Int32) = nI (pn - 1) from pk_sub (by omega)]
            refine lv_icmp_ge hx hb d_D_divideFace_129 (tgt := 153) rfl (fun q2 => ?_) (fun q2 => ?_)
            · have q2 : (pn - 1) ≤ (1 + (pn - 2)) := nq_le (by omega) (by omega) q2
              refine lv_aload_n hx hb d_D_divideFace_153 rfl (lv_at hl 4 rfl) ?_
              refine lv_dup hx hb d_D_divideFace_154 rfl ?_
              refine g_get Sx gf_D hK hP 0 rfl rfl 8 (by decide) gm_139 rfl d_D_divideFace_155 ?_
              refine lv_iconst (v := nI 1) hx hb d_D_divideFace_158 (by decide) ?_
              refine lv_iadd hx hb d_D_divideFace_159 ?_
              rw [show (((nI fc) + (nI 1)) : Int32) = nI (fc + 1) from nI_add _ _]
              refine g_put Sx gf_D fk_D fn_D hK hP hD hS 0 rfl rfl 8 (by decide) gm_139 rfl rfl rfl (Nat.le_of_ble_eq_true rfl) d_D_divideFace_160 (fun H locs hP hD hS => ?_)
              have hP : va_P (dC, dI) pcl ([(hd, .inr (0, [.ref hg, .ref d1, .ref d2, .int dE, .int dV, .ref d3, .ref d4, .ref d5, .int (nI (fc + 1)), .int fE, .int fV, .int cE, .int cC, .ref d6, .ref d7, .int (nI pn), .ref d8])), (d3, .inl (cQ, 18, .inr (.inr (.inr (.inr (fun i9 => if i9 < 18 then some (r i9) else none)))))), (d4, .inl (cI, 18, .inl (fun i9 => nI (((fo (dr_d fc (fun c => pt (1 + c))) (pn - 2) (dr_arc ow1 fc b1 a1 len ((dr_v1 pt ow1 f0 a1 b1 len pn (M, WL, WS)).1, va_up (dr_v1 pt ow1 f0 a1 b1 len pn (M, WL, WS)).2.1 fc 0, upd (dr_v1 pt ow1 f0 a1 b1 len pn (M, WL, WS)).2.2 fc 0))).2.1) i9)))), (d5, .inl (cI, 18, .inl ((fo (dr_d fc (fun c => pt (1 + c))) (pn - 2) (dr_arc ow1 fc b1 a1 len ((dr_v1 pt ow1 f0 a1 b1 len pn (M, WL, WS)).1, va_up (dr_v1 pt ow1 f0 a1 b1 len pn (M, WL, WS)).2.1 fc 0, upd (dr_v1 pt ow1 f0 a1 b1 len pn (M, WL, WS)).2.2 fc 0))).2.2))), (d7, .inl (cI, 10, .inl (fun i9 => nI (pt i9)))), (d8, .inl (cI, 10, .inl (fun i9 => nI (ow1 i9))))] ++ wkR r cI ((fo (dr_d fc (fun c => pt (1 + c))) (pn - 2) (dr_arc ow1 fc b1 a1 len ((dr_v1 pt ow1 f0 a1 b1 len pn (M, WL, WS)).1, va_up (dr_v1 pt ow1 f0 a1 b1 len pn (M, WL, WS)).2.1 fc 0, upd (dr_v1 pt ow1 f0 a1 b1 len pn (M, WL, WS)).2.2 fc 0))).1)) H := hP
              have hD : va_D A ([(hd, .inr (0, [.ref hg, .ref d1, .ref d2, .int dE, .int dV, .ref d3, .ref d4, .ref d5, .int (nI (fc + 1)), .int fE, .int fV, .int cE, .int cC, .ref d6, .ref d7, .int (nI pn), .ref d8])), (d3, .inl (cQ, 18, .inr (.inr (.inr (.inr (fun i9 => if i9 < 18 then some (r i9) else none)))))), (d4, .inl (cI, 18, .inl (fun i9 => nI (((fo (dr_d fc (fun c => pt (1 + c))) (pn - 2) (dr_arc ow1 fc b1 a1 len ((dr_v1 pt ow1 f0 a1 b1 len pn (M, WL, WS)).1, va_up (dr_v1 pt ow1 f0 a1 b1 len pn (M, WL, WS)).2.1 fc 0, upd (dr_v1 pt ow1 f0 a1 b1 len pn (M, WL, WS)).2.2 fc 0))).2.1) i9)))), (d5, .inl (cI, 18, .inl ((fo (dr_d fc (fun c => pt (1 + c))) (pn - 2) (dr_arc ow1 fc b1 a1 len ((dr_v1 pt ow1 f0 a1 b1 len pn (M, WL, WS)).1, va_up (dr_v1 pt ow1 f0 a1 b1 len pn (M, WL, WS)).2.1 fc 0, upd (dr_v1 pt ow1 f0 a1 b1 len pn (M, WL, WS)).2.2 fc 0))).2.2))), (d7, .inl (cI, 10, .inl (fun i9 => nI (pt i9)))), (d8, .inl (cI, 10, .inl (fun i9 => nI (ow1 i9))))] ++ wkR r cI ((fo (dr_d fc (fun c => pt (1 + c))) (pn - 2) (dr_arc ow1 fc b1 a1 len ((dr_v1 pt ow1 f0 a1 b1 len pn (M, WL, WS)).1, va_up (dr_v1 pt ow1 f0 a1 b1 len pn (M, WL, WS)).2.1 fc 0, upd (dr_v1 pt ow1 f0 a1 b1 len pn (M, WL, WS)).2.2 fc 0))).1)) := hD
              subst hb1
              subst ha1
              subst how1
              subst hlen
              exact hret _ H locs _ d_D_divideFace_163 hP hD hS
            · have q2 : (1 + (pn - 2)) < (pn - 1) := nq_nle (by omega) (by omega) q2
              exact absurd q2 (by omega)
          | succ kk ih121 =>
            intro i hi121 M1 WL1 WS1 H locs ls he121 hP hD hS hl
            refine lv_iload hx hb d_D_divideFace_121 (lv_at hl 0 rfl) ?_
            refine lv_aload_n hx hb d_D_divideFace_123 rfl (lv_at hl 4 rfl) ?_
            refine g_get Sx gf_D hK hP 0 rfl rfl 15 (by decide) gm_146 rfl d_D_divideFace_124 ?_
            refine lv_iconst (v := nI 1) hx hb d_D_divideFace_127 (by decide) ?_
            refine lv_isub hx hb d_D_divideFace_128 ?_
            rw [show (((nI pn) - (nI 1)) : Int32) = nI (pn - 1) from pk_sub (by omega)]
            refine lv_icmp_ge hx hb d_D_divideFace_129 (tgt := 153) rfl (fun q3 => ?_) (fun q3 => ?_)
            · have q3 : (pn - 1) ≤ (1 + i) := nq_le (by omega) (by omega) q3
              exact absurd q3 (by omega)
            · have q3 : (1 + i) < (pn - 1) := nq_nle (by omega) (by omega) q3
              refine lv_aload_n hx hb d_D_divideFace_132 rfl (lv_at hl 4 rfl) ?_
              refine lv_aload_n hx hb d_D_divideFace_133 rfl (lv_at hl 4 rfl) ?_
              refine g_get Sx gf_D hK hP 0 rfl rfl 8 (by decide) gm_139 rfl d_D_divideFace_134 ?_
              refine lv_aload_n hx hb d_D_divideFace_137 rfl (lv_at hl 4 rfl) ?_
              refine g_get Sx gf_D hK hP 0 rfl rfl 14 (by decide) gm_145 rfl d_D_divideFace_138 ?_
              refine lv_iload hx hb d_D_divideFace_141 (lv_at hl 0 rfl) ?_
              refine g_ild (j := (1 + i)) Sx hK hP 4 0 rfl rfl (by omega) (by decide) d_D_divideFace_143 ?_
              refine rw_VP (As := [.int (nI fc), .int (nI (pt (1 + i)))]) (rest := []) (wr := [(d7, .inl (cI, 10, .inl (fun i9 => nI (pt i9)))), (d8, .inl (cI, 10, .inl (fun i9 => nI (ow1 i9))))]) Sx (c_D_walkTo l dC dI hd hg dE dV fc fE fV cE cC pn d1 d2 d3 d4 d5 d6 d7 d8 cI cQ WL1 WS1 r M1 fc (pt (1 + i)) H.size (by omega) (by have h9 := dr_d_rng (f := fc) (g := fun c => pt (1 + c)) (s := dr_arc ow1 fc b1 a1 len ((dr_v1 pt ow1 f0 a1 b1 len pn (M, WL, WS)).1, va_up (dr_v1 pt ow1 f0 a1 b1 len pn (M, WL, WS)).2.1 fc 0, upd (dr_v1 pt ow1 f0 a1 b1 len pn (M, WL, WS)).2.2 fc 0)) (dr_arc_rng (up0_rng (dr_v1_rng (s := (M, WL, WS)) hWL) fc)) i; rw [← he121] at h9; exact h9)) (gw_callV gm_353 gm_354 gm_19 gm_54 gm_355) hd_D_walkTo ⟨rfl, rfl⟩ ⟨Nat.le_of_ble_eq_true rfl, Nat.le_of_ble_eq_true rfl⟩ hP hD hS hA (hK.sub (tys' := [(cI, .int), (cQ, .array .int)]) [0, 1] rfl) [0, 1, 2, 3] [4, 5] rfl rfl (by decide) (by decide) (by decide) rfl 0 rfl rfl hl.1 rfl (Nat.le_of_ble_eq_true rfl) d_D_divideFace_144 ⟨Nat.zero_le _, Nat.zero_le _⟩ (fun H locs hP hD hS => ?_)
              have hP : va_P (dC, dI) pcl ([(d7, .inl (cI, 10, .inl (fun i9 => nI (pt i9)))), (d8, .inl (cI, 10, .inl (fun i9 => nI (ow1 i9)))), (hd, .inr (0, [.ref hg, .ref d1, .ref d2, .int dE, .int dV, .ref d3, .ref d4, .ref d5, .int (nI fc), .int fE, .int fV, .int cE, .int cC, .ref d6, .ref d7, .int (nI pn), .ref d8])), (d3, .inl (cQ, 18, .inr (.inr (.inr (.inr (fun i9 => if i9 < 18 then some (r i9) else none)))))), (d4, .inl (cI, 18, .inl (fun i9 => nI (((dr_to fc (pt (1 + i)) (M1, WL1, WS1)).2.1) i9)))), (d5, .inl (cI, 18, .inl ((dr_to fc (pt (1 + i)) (M1, WL1, WS1)).2.2)))] ++ wkR r cI ((dr_to fc (pt (1 + i)) (M1, WL1, WS1)).1)) H := hP
              have hD : va_D A ([(d7, .inl (cI, 10, .inl (fun i9 => nI (pt i9)))), (d8, .inl (cI, 10, .inl (fun i9 => nI (ow1 i9)))), (hd, .inr (0, [.ref hg, .ref d1, .ref d2, .int dE, .int dV, .ref d3, .ref d4, .ref d5, .int (nI fc), .int fE, .int fV, .int cE, .int cC, .ref d6, .ref d7, .int (nI pn), .ref d8])), (d3, .inl (cQ, 18, .inr (.inr (.inr (.inr (fun i9 => if i9 < 18 then some (r i9) else none)))))), (d4, .inl (cI, 18, .inl (fun i9 => nI (((dr_to fc (pt (1 + i)) (M1, WL1, WS1)).2.1) i9)))), (d5, .inl (cI, 18, .inl ((dr_to fc (pt (1 + i)) (M1, WL1, WS1)).2.2)))] ++ wkR r cI ((dr_to fc (pt (1 + i)) (M1, WL1, WS1)).1)) := hD
              refine lv_iinc (k := 0) (v := nI (1 + i + 1)) hx hb d_D_divideFace_147 hl rfl (inc_nI _) (Nat.le_of_ble_eq_true rfl) rfl (fun ls hl => ?_)
              have hl : lv_has ls 6 [(5, .int (nI (1 + i + 1))), (4, .int (nI b1)), (3, .int (nI a1)), (2, .int (nI len)), (0, .ref hd), (1, .int (nI f0))] := hl
              refine lv_goto hx hb d_D_divideFace_150 (tgt := 121) rfl ?_
              have he2 : ((dr_to fc (pt (1 + i)) (M1, WL1, WS1)).1, (dr_to fc (pt (1 + i)) (M1, WL1, WS1)).2.1, (dr_to fc (pt (1 + i)) (M1, WL1, WS1)).2.2) = fo (dr_d fc (fun c => pt (1 + c))) (i + 1) (dr_arc ow1 fc b1 a1 len ((dr_v1 pt ow1 f0 a1 b1 len pn (M, WL, WS)).1, va_up (dr_v1 pt ow1 f0 a1 b1 len pn (M, WL, WS)).2.1 fc 0, upd (dr_v1 pt ow1 f0 a1 b1 len pn (M, WL, WS)).2.2 fc 0)) := by
                rw [fo_s, ← he121]
                simp [dr_d, q1, q3]
              exact ih121 (i + 1) (by omega) ((dr_to fc (pt (1 + i)) (M1, WL1, WS1)).1) ((dr_to fc (pt (1 + i)) (M1, WL1, WS1)).2.1) ((dr_to fc (pt (1 + i)) (M1, WL1, WS1)).2.2) H locs ls he2 (va_P.part hP [2, 3, 4, 5, 0, 1] rfl) (va_D.part hD [2, 3, 4, 5, 0, 1] (by decide) rfl) hS (lv_sub hl [0, 1, 2, 3, 4, 5] rfl)
        exact hL121 (pn - 2) 0 (by omega) ((dr_arc ow1 fc b1 a1 len ((dr_v1 pt ow1 f0 a1 b1 len pn (M, WL, WS)).1, va_up (dr_v1 pt ow1 f0 a1 b1 len pn (M, WL, WS)).2.1 fc 0, upd (dr_v1 pt ow1 f0 a1 b1 len pn (M, WL, WS)).2.2 fc 0)).1) ((dr_arc ow1 fc b1 a1 len ((dr_v1 pt ow1 f0 a1 b1 len pn (M, WL, WS)).1, va_up (dr_v1 pt ow1 f0 a1 b1 len pn (M, WL, WS)).2.1 fc 0, upd (dr_v1 pt ow1 f0 a1 b1 len pn (M, WL, WS)).2.2 fc 0)).2.1) ((dr_arc ow1 fc b1 a1 len ((dr_v1 pt ow1 f0 a1 b1 len pn (M, WL, WS)).1, va_up (dr_v1 pt ow1 f0 a1 b1 len pn (M, WL, WS)).2.1 fc 0, upd (dr_v1 pt ow1 f0 a1 b1 len pn (M, WL, WS)).2.2 fc 0)).2.2) H locs ls rfl (va_P.part hP [1, 2, 3, 4, 0, 5] rfl) (va_D.part hD [1, 2, 3, 4, 0, 5] (by decide) rfl) hS (lv_sub hl [0, 1, 2, 3, 4, 5] rfl)
      · have q1 : 0 < (pn - 2 - (pn - 2)) := nz_nle (by omega) q1
        exact absurd q1 (by omega)
    | succ kk ih75 =>
      intro i hi75 M1 WL1 WS1 H locs ls he75 hP hD hS hl
      refine lv_iload hx hb d_D_divideFace_75 (lv_at hl 0 rfl) ?_
      refine lv_if_le hx hb d_D_divideFace_77 (tgt := 98) rfl (fun q4 => ?_) (fun q4 => ?_)
      · have q4 : (pn - 2 - i) ≤ 0 := nz_le (by omega) q4
        exact absurd q4 (by omega)
      · have q4 : 0 < (pn - 2 - i) := nz_nle (by omega) q4
        refine lv_aload_n hx hb d_D_divideFace_80 rfl (lv_at hl 4 rfl) ?_
        refine lv_iload_n hx hb d_D_divideFace_81 rfl (lv_at hl 5 rfl) ?_
        refine lv_aload_n hx hb d_D_divideFace_82 rfl (lv_at hl 4 rfl) ?_
        refine g_get Sx gf_D hK hP 0 rfl rfl 14 (by decide) gm_145 rfl d_D_divideFace_83 ?_
        refine lv_iload hx hb d_D_divideFace_86 (lv_at hl 0 rfl) ?_
        refine g_ild (j := (pn - 2 - i)) Sx hK hP 4 0 rfl rfl (by omega) (by decide) d_D_divideFace_88 ?_
        refine rw_VP (As := [.int (nI f0), .int (nI (pt (pn - 2 - i)))]) (rest := []) (wr := [(d7, .inl (cI, 10, .inl (fun i9 => nI (pt i9)))), (d8, .inl (cI, 10, .inl (fun i9 => nI (ow1 i9))))]) Sx (c_D_walkTo l dC dI hd hg dE dV fc fE fV cE cC pn d1 d2 d3 d4 d5 d6 d7 d8 cI cQ WL1 WS1 r M1 f0 (pt (pn - 2 - i)) H.size (by omega) (by have h9 := dr_d_rng (f := f0) (g := fun c => pt (pn - 2 - c)) (s := dr_arc ow1 f0 a1 b1 len (M, va_up WL f0 0, upd WS f0 0)) (dr_arc_rng (up0_rng hWL f0)) i; rw [← he75] at h9; exact h9)) (gw_callV gm_353 gm_354 gm_19 gm_54 gm_355) hd_D_walkTo ⟨rfl, rfl⟩ ⟨Nat.le_of_ble_eq_true rfl, Nat.le_of_ble_eq_true rfl⟩ hP hD hS hA (hK.sub (tys' := [(cI, .int), (cQ, .array .int)]) [0, 1] rfl) [0, 1, 2, 3] [4, 5] rfl rfl (by decide) (by decide) (by decide) rfl 0 rfl rfl hl.1 rfl (Nat.le_of_ble_eq_true rfl) d_D_divideFace_89 ⟨Nat.zero_le _, Nat.zero_le _⟩ (fun H locs hP hD hS => ?_)
        have hP : va_P (dC, dI) pcl ([(d7, .inl (cI, 10, .inl (fun i9 => nI (pt i9)))), (d8, .inl (cI, 10, .inl (fun i9 => nI (ow1 i9)))), (hd, .inr (0, [.ref hg, .ref d1, .ref d2, .int dE, .int dV, .ref d3, .ref d4, .ref d5, .int (nI fc), .int fE, .int fV, .int cE, .int cC, .ref d6, .ref d7, .int (nI pn), .ref d8])), (d3, .inl (cQ, 18, .inr (.inr (.inr (.inr (fun i9 => if i9 < 18 then some (r i9) else none)))))), (d4, .inl (cI, 18, .inl (fun i9 => nI (((dr_to f0 (pt (pn - 2 - i)) (M1, WL1, WS1)).2.1) i9)))), (d5, .inl (cI, 18, .inl ((dr_to f0 (pt (pn - 2 - i)) (M1, WL1, WS1)).2.2)))] ++ wkR r cI ((dr_to f0 (pt (pn - 2 - i)) (M1, WL1, WS1)).1)) H := hP
        have hD : va_D A ([(d7, .inl (cI, 10, .inl (fun i9 => nI (pt i9)))), (d8, .inl (cI, 10, .inl (fun i9 => nI (ow1 i9)))), (hd, .inr (0, [.ref hg, .ref d1, .ref d2, .int dE, .int dV, .ref d3, .ref d4, .ref d5, .int (nI fc), .int fE, .int fV, .int cE, .int cC, .ref d6, .ref d7, .int (nI pn), .ref d8])), (d3, .inl (cQ, 18, .inr (.inr (.inr (.inr (fun i9 => if i9 < 18 then some (r i9) else none)))))), (d4, .inl (cI, 18, .inl (fun i9 => nI (((dr_to f0 (pt (pn - 2 - i)) (M1, WL1, WS1)).2.1) i9)))), (d5, .inl (cI, 18, .inl ((dr_to f0 (pt (pn - 2 - i)) (M1, WL1, WS1)).2.2)))] ++ wkR r cI ((dr_to f0 (pt (pn - 2 - i)) (M1, WL1, WS1)).1)) := hD
        refine lv_iinc (k := 0) (v := nI (pn - 2 - i - 1)) hx hb d_D_divideFace_92 hl rfl (dec_nI (by omega)) (Nat.le_of_ble_eq_true rfl) rfl (fun ls hl => ?_)
        have hl : lv_has ls 6 [(5, .int (nI (pn - 2 - i - 1))), (4, .int (nI b1)), (3, .int (nI a1)), (2, .int (nI len)), (0, .ref hd), (1, .int (nI f0))] := hl
        refine lv_goto hx hb d_D_divideFace_95 (tgt := 75) rfl ?_
        have he2 : ((dr_to f0 (pt (pn - 2 - i)) (M1, WL1, WS1)).1, (dr_to f0 (pt (pn - 2 - i)) (M1, WL1, WS1)).2.1, (dr_to f0 (pt (pn - 2 - i)) (M1, WL1, WS1)).2.2) = fo (dr_d f0 (fun c => pt (pn - 2 - c))) (i + 1) (dr_arc ow1 f0 a1 b1 len (M, va_up WL f0 0, upd WS f0 0)) := by
          rw [fo_s, ← he75]
          simp [dr_d, q4]
        exact ih75 (i + 1) (by omega) ((dr_to f0 (pt (pn - 2 - i)) (M1, WL1, WS1)).1) ((dr_to f0 (pt (pn - 2 - i)) (M1, WL1, WS1)).2.1) ((dr_to f0 (pt (pn - 2 - i)) (M1, WL1, WS1)).2.2) H locs ls he2 (va_P.part hP [2, 3, 4, 5, 0, 1] rfl) (va_D.part hD [2, 3, 4, 5, 0, 1] (by decide) rfl) hS (lv_sub hl [0, 1, 2, 3, 4, 5] rfl)
  exact hL75 (pn - 2) 0 (by omega) ((dr_arc ow1 f0 a1 b1 len (M, va_up WL f0 0, upd WS f0 0)).1) ((dr_arc ow1 f0 a1 b1 len (M, va_up WL f0 0, upd WS f0 0)).2.1) ((dr_arc ow1 f0 a1 b1 len (M, va_up WL f0 0, upd WS f0 0)).2.2) H locs ls rfl (va_P.part hP [1, 2, 3, 4, 0, 5] rfl) (va_D.part hD [1, 2, 3, 4, 0, 5] (by decide) rfl) hS (lv_sub hl [0, 1, 2, 3, 4, 5] rfl)
