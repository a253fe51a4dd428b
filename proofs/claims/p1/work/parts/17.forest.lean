/-! the reference's forest -/
def pm_gdD (s : Nat × (Nat → Int32) × (Nat → Nat) × (Nat → Nat) × (Nat → Nat) × (Nat → Nat)) : Bool := decide (nI s.1 ≤ 0)
/-- a step: top, depth, parent, by, next, stack -/
def pm_gdS (k : Nat) (E : Nat → Nat) (x : Int32) (s : Nat × (Nat → Int32) × (Nat → Nat) × (Nat → Nat) × (Nat → Nat) × (Nat → Nat)) : Nat × (Nat → Int32) × (Nat → Nat) × (Nat → Nat) × (Nat → Nat) × (Nat → Nat) :=
  if s.2.2.2.2.1 (s.2.2.2.2.2 (s.1 - 1)) < k then
    (if pm_has x (nI (s.2.2.2.2.1 (s.2.2.2.2.2 (s.1 - 1)))) = true ∧ pm_tch E (s.2.2.2.2.1 (s.2.2.2.2.2 (s.1 - 1))) (s.2.2.2.2.2 (s.1 - 1)) = true then
      (if 0 ≤ s.2.1 (pm_oth E (s.2.2.2.2.1 (s.2.2.2.2.2 (s.1 - 1))) (s.2.2.2.2.2 (s.1 - 1))) then (s.1, s.2.1, s.2.2.1, s.2.2.2.1, va_up s.2.2.2.2.1 (s.2.2.2.2.2 (s.1 - 1)) (s.2.2.2.2.1 (s.2.2.2.2.2 (s.1 - 1)) + 1), s.2.2.2.2.2)
       else (s.1 + 1, upd s.2.1 (pm_oth E (s.2.2.2.2.1 (s.2.2.2.2.2 (s.1 - 1))) (s.2.2.2.2.2 (s.1 - 1))) (s.2.1 (s.2.2.2.2.2 (s.1 - 1)) + 1), va_up s.2.2.1 (pm_oth E (s.2.2.2.2.1 (s.2.2.2.2.2 (s.1 - 1))) (s.2.2.2.2.2 (s.1 - 1))) (s.2.2.2.2.2 (s.1 - 1) + 1), va_up s.2.2.2.1 (pm_oth E (s.2.2.2.2.1 (s.2.2.2.2.2 (s.1 - 1))) (s.2.2.2.2.2 (s.1 - 1))) (s.2.2.2.2.1 (s.2.2.2.2.2 (s.1 - 1)) + 1), va_up s.2.2.2.2.1 (s.2.2.2.2.2 (s.1 - 1)) (s.2.2.2.2.1 (s.2.2.2.2.2 (s.1 - 1)) + 1), va_up s.2.2.2.2.2 s.1 (pm_oth E (s.2.2.2.2.1 (s.2.2.2.2.2 (s.1 - 1))) (s.2.2.2.2.2 (s.1 - 1)))))
    else (s.1, s.2.1, s.2.2.1, s.2.2.2.1, va_up s.2.2.2.2.1 (s.2.2.2.2.2 (s.1 - 1)) (s.2.2.2.2.1 (s.2.2.2.2.2 (s.1 - 1)) + 1), s.2.2.2.2.2))
  else (s.1 - 1, s.2.1, s.2.2.1, s.2.2.2.1, va_up s.2.2.2.2.1 (s.2.2.2.2.2 (s.1 - 1)) (s.2.2.2.2.1 (s.2.2.2.2.2 (s.1 - 1)) + 1), s.2.2.2.2.2)
def pm_gd0 (r : Nat) (Dp : Nat → Int32) (Pr Yb nx sk : Nat → Nat) : Nat × (Nat → Int32) × (Nat → Nat) × (Nat → Nat) × (Nat → Nat) × (Nat → Nat) := (1, upd Dp r 0, va_up Pr r 0, va_up Yb r 0, nx, va_up sk 0 r)
def pm_gd (k : Nat) (E : Nat → Nat) (x : Int32) (r : Nat) (Dp : Nat → Int32) (Pr Yb nx sk : Nat → Nat) : Nat × (Nat → Int32) × (Nat → Nat) × (Nat → Nat) × (Nat → Nat) × (Nat → Nat) := wl pm_gdD (pm_gdS k E x) 400 (pm_gd0 r Dp Pr Yb nx sk)
/-- what must hold for the walk to stay inside its rows and to end -/
def pm_gdOK (k : Nat) (E : Nat → Nat) (x : Int32) (r : Nat) (Dp : Nat → Int32) (Pr Yb nx sk : Nat → Nat) : Prop := ∃ Inv : Nat × (Nat → Int32) × (Nat → Nat) × (Nat → Nat) × (Nat → Nat) × (Nat → Nat) → Prop, Inv (pm_gd0 r Dp Pr Yb nx sk) ∧
  (∀ s, Inv s → pm_gdD s = false → (1 ≤ s.1 ∧ s.1 ≤ 10 ∧ s.2.2.2.2.2 (s.1 - 1) < 10 ∧ s.2.2.2.2.1 (s.2.2.2.2.2 (s.1 - 1)) ≤ 18 ∧ (¬ 0 ≤ s.2.1 (pm_oth E (s.2.2.2.2.1 (s.2.2.2.2.2 (s.1 - 1))) (s.2.2.2.2.2 (s.1 - 1))) → s.2.2.2.2.1 (s.2.2.2.2.2 (s.1 - 1)) < k → pm_has x (nI (s.2.2.2.2.1 (s.2.2.2.2.2 (s.1 - 1)))) = true → pm_tch E (s.2.2.2.2.1 (s.2.2.2.2.2 (s.1 - 1))) (s.2.2.2.2.2 (s.1 - 1)) = true → s.1 ≤ 9)) ∧ Inv (pm_gdS k E x s)) ∧
  pm_gdD (pm_gd k E x r Dp Pr Yb nx sk) = true
def pm_p1 : Nat → (Nat → Int32) × (Nat → Nat) → (Nat → Int32) × (Nat → Nat) := fun v s => (upd s.1 v (-1), va_up s.2 v 0)
def pm_p2 (k : Nat) (E : Nat → Nat) (x : Int32) : Nat → (Nat → Int32) × (Nat → Nat) × (Nat → Nat) × (Nat → Nat) × (Nat → Nat) → (Nat → Int32) × (Nat → Nat) × (Nat → Nat) × (Nat → Nat) × (Nat → Nat) := fun v s => if 0 ≤ s.1 v then s else (pm_gd k E x v s.1 s.2.1 s.2.2.1 s.2.2.2.1 s.2.2.2.2).2
def pm_p3 (E : Nat → Nat) (Dp : Nat → Int32) : Nat → (Nat → Nat) × (Nat → Nat) → (Nat → Nat) × (Nat → Nat) := fun e s => if Dp (E (2 * e)) ≤ Dp (E (2 * e + 1)) then (va_up s.1 e (E (2 * e + 1)), va_up s.2 e (E (2 * e))) else (va_up s.1 e (E (2 * e)), va_up s.2 e (E (2 * e + 1)))
def pm_pl0 (Dp : Nat → Int32) (Pr Yb nx sk : Nat → Nat) : (Nat → Int32) × (Nat → Nat) × (Nat → Nat) × (Nat → Nat) × (Nat → Nat) := ((fo pm_p1 10 (Dp, nx)).1, Pr, Yb, (fo pm_p1 10 (Dp, nx)).2, sk)
def pm_pl (n k : Nat) (E : Nat → Nat) (x : Int32) (Dp : Nat → Int32) (Pr Yb nx sk : Nat → Nat) : (Nat → Int32) × (Nat → Nat) × (Nat → Nat) × (Nat → Nat) × (Nat → Nat) := fo (pm_p2 k E x) n (pm_pl0 Dp Pr Yb nx sk)
def pm_plOK (n k : Nat) (E : Nat → Nat) (x : Int32) (Dp : Nat → Int32) (Pr Yb nx sk : Nat → Nat) : Prop := ∀ i, i < n → ¬ 0 ≤ (fo (pm_p2 k E x) i (pm_pl0 Dp Pr Yb nx sk)).1 i → pm_gdOK k E x i (fo (pm_p2 k E x) i (pm_pl0 Dp Pr Yb nx sk)).1 (fo (pm_p2 k E x) i (pm_pl0 Dp Pr Yb nx sk)).2.1 (fo (pm_p2 k E x) i (pm_pl0 Dp Pr Yb nx sk)).2.2.1 (fo (pm_p2 k E x) i (pm_pl0 Dp Pr Yb nx sk)).2.2.2.1 (fo (pm_p2 k E x) i (pm_pl0 Dp Pr Yb nx sk)).2.2.2.2
theorem d_M_goDown_0 : decode k_M_goDown 0 = .ok (.iconst 1, 1) := by decide +kernel
theorem d_M_goDown_1 : decode k_M_goDown 1 = .ok (.istore_n 3, 1) := by decide +kernel
theorem d_M_goDown_2 : decode k_M_goDown 2 = .ok (.aload_n 0, 1) := by decide +kernel
theorem d_M_goDown_3 : decode k_M_goDown 3 = .ok (.getfield 34, 3) := by decide +kernel
theorem d_M_goDown_6 : decode k_M_goDown 6 = .ok (.iconst 0, 1) := by decide +kernel
theorem d_M_goDown_7 : decode k_M_goDown 7 = .ok (.iload_n 2, 1) := by decide +kernel
theorem d_M_goDown_8 : decode k_M_goDown 8 = .ok (.iastore, 1) := by decide +kernel
theorem d_M_goDown_9 : decode k_M_goDown 9 = .ok (.aload_n 0, 1) := by decide +kernel
theorem d_M_goDown_10 : decode k_M_goDown 10 = .ok (.getfield 22, 3) := by decide +kernel
theorem d_M_goDown_13 : decode k_M_goDown 13 = .ok (.iload_n 2, 1) := by decide +kernel
theorem d_M_goDown_14 : decode k_M_goDown 14 = .ok (.iconst 0, 1) := by decide +kernel
theorem d_M_goDown_15 : decode k_M_goDown 15 = .ok (.iastore, 1) := by decide +kernel
theorem d_M_goDown_16 : decode k_M_goDown 16 = .ok (.aload_n 0, 1) := by decide +kernel
theorem d_M_goDown_17 : decode k_M_goDown 17 = .ok (.getfield 25, 3) := by decide +kernel
theorem d_M_goDown_20 : decode k_M_goDown 20 = .ok (.iload_n 2, 1) := by decide +kernel
theorem d_M_goDown_21 : decode k_M_goDown 21 = .ok (.iconst (-1), 1) := by decide +kernel
theorem d_M_goDown_22 : decode k_M_goDown 22 = .ok (.iastore, 1) := by decide +kernel
theorem d_M_goDown_23 : decode k_M_goDown 23 = .ok (.aload_n 0, 1) := by decide +kernel
theorem d_M_goDown_24 : decode k_M_goDown 24 = .ok (.getfield 28, 3) := by decide +kernel
theorem d_M_goDown_27 : decode k_M_goDown 27 = .ok (.iload_n 2, 1) := by decide +kernel
theorem d_M_goDown_28 : decode k_M_goDown 28 = .ok (.iconst (-1), 1) := by decide +kernel
theorem d_M_goDown_29 : decode k_M_goDown 29 = .ok (.iastore, 1) := by decide +kernel
theorem d_M_goDown_30 : decode k_M_goDown 30 = .ok (.iload_n 3, 1) := by decide +kernel
theorem d_M_goDown_31 : decode k_M_goDown 31 = .ok (.ifCond .le 138, 3) := by decide +kernel
theorem d_M_goDown_34 : decode k_M_goDown 34 = .ok (.aload_n 0, 1) := by decide +kernel
theorem d_M_goDown_35 : decode k_M_goDown 35 = .ok (.getfield 34, 3) := by decide +kernel
theorem d_M_goDown_38 : decode k_M_goDown 38 = .ok (.iload_n 3, 1) := by decide +kernel
theorem d_M_goDown_39 : decode k_M_goDown 39 = .ok (.iconst 1, 1) := by decide +kernel
theorem d_M_goDown_40 : decode k_M_goDown 40 = .ok (.isub, 1) := by decide +kernel
theorem d_M_goDown_41 : decode k_M_goDown 41 = .ok (.iaload, 1) := by decide +kernel
theorem d_M_goDown_42 : decode k_M_goDown 42 = .ok (.istore 4, 2) := by decide +kernel
theorem d_M_goDown_44 : decode k_M_goDown 44 = .ok (.aload_n 0, 1) := by decide +kernel
theorem d_M_goDown_45 : decode k_M_goDown 45 = .ok (.getfield 31, 3) := by decide +kernel
theorem d_M_goDown_48 : decode k_M_goDown 48 = .ok (.iload 4, 2) := by decide +kernel
theorem d_M_goDown_50 : decode k_M_goDown 50 = .ok (.iaload, 1) := by decide +kernel
theorem d_M_goDown_51 : decode k_M_goDown 51 = .ok (.istore 5, 2) := by decide +kernel
theorem d_M_goDown_53 : decode k_M_goDown 53 = .ok (.aload_n 0, 1) := by decide +kernel
theorem d_M_goDown_54 : decode k_M_goDown 54 = .ok (.getfield 31, 3) := by decide +kernel
theorem d_M_goDown_57 : decode k_M_goDown 57 = .ok (.iload 4, 2) := by decide +kernel
theorem d_M_goDown_59 : decode k_M_goDown 59 = .ok (.iload 5, 2) := by decide +kernel
theorem d_M_goDown_61 : decode k_M_goDown 61 = .ok (.iconst 1, 1) := by decide +kernel
theorem d_M_goDown_62 : decode k_M_goDown 62 = .ok (.iadd, 1) := by decide +kernel
theorem d_M_goDown_63 : decode k_M_goDown 63 = .ok (.iastore, 1) := by decide +kernel
theorem d_M_goDown_64 : decode k_M_goDown 64 = .ok (.iload 5, 2) := by decide +kernel
theorem d_M_goDown_66 : decode k_M_goDown 66 = .ok (.aload_n 0, 1) := by decide +kernel
theorem d_M_goDown_67 : decode k_M_goDown 67 = .ok (.getfield 56, 3) := by decide +kernel
theorem d_M_goDown_70 : decode k_M_goDown 70 = .ok (.if_icmp .lt 10, 3) := by decide +kernel
theorem d_M_goDown_73 : decode k_M_goDown 73 = .ok (.iload_n 3, 1) := by decide +kernel
theorem d_M_goDown_74 : decode k_M_goDown 74 = .ok (.iconst 1, 1) := by decide +kernel
theorem d_M_goDown_75 : decode k_M_goDown 75 = .ok (.isub, 1) := by decide +kernel
theorem d_M_goDown_76 : decode k_M_goDown 76 = .ok (.istore_n 3, 1) := by decide +kernel
theorem d_M_goDown_77 : decode k_M_goDown 77 = .ok (.goto 89, 3) := by decide +kernel
theorem d_M_goDown_80 : decode k_M_goDown 80 = .ok (.iload_n 1, 1) := by decide +kernel
theorem d_M_goDown_81 : decode k_M_goDown 81 = .ok (.iload 5, 2) := by decide +kernel
theorem d_M_goDown_83 : decode k_M_goDown 83 = .ok (.invokestatic 70, 3) := by decide +kernel
theorem d_M_goDown_86 : decode k_M_goDown 86 = .ok (.ifCond .eq 80, 3) := by decide +kernel
theorem d_M_goDown_89 : decode k_M_goDown 89 = .ok (.aload_n 0, 1) := by decide +kernel
theorem d_M_goDown_90 : decode k_M_goDown 90 = .ok (.iload 5, 2) := by decide +kernel
theorem d_M_goDown_92 : decode k_M_goDown 92 = .ok (.iload 4, 2) := by decide +kernel
theorem d_M_goDown_94 : decode k_M_goDown 94 = .ok (.invokevirtual 74, 3) := by decide +kernel
theorem d_M_goDown_97 : decode k_M_goDown 97 = .ok (.ifCond .eq 69, 3) := by decide +kernel
theorem d_M_goDown_100 : decode k_M_goDown 100 = .ok (.aload_n 0, 1) := by decide +kernel
theorem d_M_goDown_101 : decode k_M_goDown 101 = .ok (.iload 5, 2) := by decide +kernel
theorem d_M_goDown_103 : decode k_M_goDown 103 = .ok (.iload 4, 2) := by decide +kernel
theorem d_M_goDown_105 : decode k_M_goDown 105 = .ok (.invokevirtual 77, 3) := by decide +kernel
theorem d_M_goDown_108 : decode k_M_goDown 108 = .ok (.istore 6, 2) := by decide +kernel
theorem d_M_goDown_110 : decode k_M_goDown 110 = .ok (.aload_n 0, 1) := by decide +kernel
theorem d_M_goDown_111 : decode k_M_goDown 111 = .ok (.getfield 22, 3) := by decide +kernel
theorem d_M_goDown_114 : decode k_M_goDown 114 = .ok (.iload 6, 2) := by decide +kernel
theorem d_M_goDown_116 : decode k_M_goDown 116 = .ok (.iaload, 1) := by decide +kernel
theorem d_M_goDown_117 : decode k_M_goDown 117 = .ok (.ifCond .ge 49, 3) := by decide +kernel
theorem d_M_goDown_120 : decode k_M_goDown 120 = .ok (.aload_n 0, 1) := by decide +kernel
theorem d_M_goDown_121 : decode k_M_goDown 121 = .ok (.getfield 22, 3) := by decide +kernel
theorem d_M_goDown_124 : decode k_M_goDown 124 = .ok (.iload 6, 2) := by decide +kernel
theorem d_M_goDown_126 : decode k_M_goDown 126 = .ok (.aload_n 0, 1) := by decide +kernel
theorem d_M_goDown_127 : decode k_M_goDown 127 = .ok (.getfield 22, 3) := by decide +kernel
theorem d_M_goDown_130 : decode k_M_goDown 130 = .ok (.iload 4, 2) := by decide +kernel
theorem d_M_goDown_132 : decode k_M_goDown 132 = .ok (.iaload, 1) := by decide +kernel
theorem d_M_goDown_133 : decode k_M_goDown 133 = .ok (.iconst 1, 1) := by decide +kernel
theorem d_M_goDown_134 : decode k_M_goDown 134 = .ok (.iadd, 1) := by decide +kernel
theorem d_M_goDown_135 : decode k_M_goDown 135 = .ok (.iastore, 1) := by decide +kernel
theorem d_M_goDown_136 : decode k_M_goDown 136 = .ok (.aload_n 0, 1) := by decide +kernel
theorem d_M_goDown_137 : decode k_M_goDown 137 = .ok (.getfield 25, 3) := by decide +kernel
theorem d_M_goDown_140 : decode k_M_goDown 140 = .ok (.iload 6, 2) := by decide +kernel
theorem d_M_goDown_142 : decode k_M_goDown 142 = .ok (.iload 4, 2) := by decide +kernel
theorem d_M_goDown_144 : decode k_M_goDown 144 = .ok (.iastore, 1) := by decide +kernel
theorem d_M_goDown_145 : decode k_M_goDown 145 = .ok (.aload_n 0, 1) := by decide +kernel
theorem d_M_goDown_146 : decode k_M_goDown 146 = .ok (.getfield 28, 3) := by decide +kernel
theorem d_M_goDown_149 : decode k_M_goDown 149 = .ok (.iload 6, 2) := by decide +kernel
theorem d_M_goDown_151 : decode k_M_goDown 151 = .ok (.iload 5, 2) := by decide +kernel
theorem d_M_goDown_153 : decode k_M_goDown 153 = .ok (.iastore, 1) := by decide +kernel
theorem d_M_goDown_154 : decode k_M_goDown 154 = .ok (.aload_n 0, 1) := by decide +kernel
theorem d_M_goDown_155 : decode k_M_goDown 155 = .ok (.getfield 34, 3) := by decide +kernel
theorem d_M_goDown_158 : decode k_M_goDown 158 = .ok (.iload_n 3, 1) := by decide +kernel
theorem d_M_goDown_159 : decode k_M_goDown 159 = .ok (.iload 6, 2) := by decide +kernel
theorem d_M_goDown_161 : decode k_M_goDown 161 = .ok (.iastore, 1) := by decide +kernel
theorem d_M_goDown_162 : decode k_M_goDown 162 = .ok (.iload_n 3, 1) := by decide +kernel
theorem d_M_goDown_163 : decode k_M_goDown 163 = .ok (.iconst 1, 1) := by decide +kernel
theorem d_M_goDown_164 : decode k_M_goDown 164 = .ok (.iadd, 1) := by decide +kernel
theorem d_M_goDown_165 : decode k_M_goDown 165 = .ok (.istore_n 3, 1) := by decide +kernel
theorem d_M_goDown_166 : decode k_M_goDown 166 = .ok (.goto (-136), 3) := by decide +kernel
theorem d_M_goDown_169 : decode k_M_goDown 169 = .ok (.return_, 1) := by decide +kernel
abbrev rm_M_goDown : Room := { frames := 1, cells := 0, slots := 0, locals := 22 }
theorem hd_M_goDown : y_M_goDown.cls = n_M ∧ y_M_goDown.cls ≠ "java/lang/invoke/MethodHandle" ∧ y_M_goDown.cls ≠ "java/lang/invoke/VarHandle" ∧ (parseMethodDescriptor y_M_goDown.desc).map (fun d => d.parameters.length) = some 2 := by decide +kernel
set_option maxHeartbeats 4000000 in
set_option maxRecDepth 100000 in
theorem c_M_goDown (l : Launch) (dC : Nat → ClassId) (dI : Nat → Nat → Nat) (n : Nat) (k : Nat) (wk : Bool) (fl : Bool) (cm : Nat) (bl : Int32) (sd : Int32) (sm : Int64) (co : Int32) (cf : Bool) (hm : Nat) (a1 : Nat) (a2 : Nat) (a3 : Nat) (a4 : Nat) (a5 : Nat) (a6 : Nat) (a7 : Nat) (a8 : Nat) (a9 : Nat) (a10 : Nat) (a11 : Nat) (a12 : Nat) (a13 : Nat) (a14 : Nat) (cI : ClassId) (E : Nat → Nat) (Dp : Nat → Int32) (Pr : Nat → Nat) (Yb : Nat → Nat) (nx : Nat → Nat) (sk : Nat → Nat) (x : Int32) (r0 : Nat) (sz : Nat) (hk : k ≤ 18) (hr0 : r0 < 10) (hE : ∀ j, E j < 10) (hgd : pm_gdOK k E x r0 Dp Pr Yb nx sk) : Met l y_M_goDown (.code y_M_goDown k_M_goDown 7 none :: gw) rm_M_goDown (rwP [.ref hm, .int x, .int (nI r0)] (dC, dI) [(hm, .inr (5, [.int (nI n), .int (nI k), .ref a1, .ref a2, .int (bI wk), .int (bI fl), .int (nI cm), .ref a3, .ref a4, .int bl, .int sd, .long sm, .int co, .ref a5, .ref a6, .ref a7, .ref a8, .ref a9, .ref a10, .ref a11, .ref a12, .ref a13, .int (bI cf), .ref a14])), (a1, .inl (cI, 36, .inl (fun i9 => nI (E i9)))), (a5, .inl (cI, 10, .inl Dp)), (a6, .inl (cI, 10, .inl (fun i9 => oI (Pr i9)))), (a7, .inl (cI, 10, .inl (fun i9 => oI (Yb i9)))), (a8, .inl (cI, 10, .inl (fun i9 => nI (nx i9)))), (a9, .inl (cI, 10, .inl (fun i9 => nI (sk i9))))] [(cI, .int)] sz) (va_Qv (fun _ : Unit => True) (rwB (dC, dI) [(hm, .inr (5, [.int (nI n), .int (nI k), .ref a1, .ref a2, .int (bI wk), .int (bI fl), .int (nI cm), .ref a3, .ref a4, .int bl, .int sd, .long sm, .int co, .ref a5, .ref a6, .ref a7, .ref a8, .ref a9, .ref a10, .ref a11, .ref a12, .ref a13, .int (bI cf), .ref a14])), (a1, .inl (cI, 36, .inl (fun i9 => nI (E i9)))), (a5, .inl (cI, 10, .inl ((pm_gd k E x r0 Dp Pr Yb nx sk).2.1))), (a6, .inl (cI, 10, .inl (fun i9 => oI (((pm_gd k E x r0 Dp Pr Yb nx sk).2.2.1) i9)))), (a7, .inl (cI, 10, .inl (fun i9 => oI (((pm_gd k E x r0 Dp Pr Yb nx sk).2.2.2.1) i9)))), (a8, .inl (cI, 10, .inl (fun i9 => nI (((pm_gd k E x r0 Dp Pr Yb nx sk).2.2.2.2.1) i9)))), (a9, .inl (cI, 10, .inl (fun i9 => nI (((pm_gd k E x r0 Dp Pr Yb nx sk).2.2.2.2.2) i9))))] [(cI, .int)] (va_A [(hm, .inr (5, [.int (nI n), .int (nI k), .ref a1, .ref a2, .int (bI wk), .int (bI fl), .int (nI cm), .ref a3, .ref a4, .int bl, .int sd, .long sm, .int co, .ref a5, .ref a6, .ref a7, .ref a8, .ref a9, .ref a10, .ref a11, .ref a12, .ref a13, .int (bI cf), .ref a14])), (a1, .inl (cI, 36, .inl (fun i9 => nI (E i9)))), (a5, .inl (cI, 10, .inl Dp)), (a6, .inl (cI, 10, .inl (fun i9 => oI (Pr i9)))), (a7, .inl (cI, 10, .inl (fun i9 => oI (Yb i9)))), (a8, .inl (cI, 10, .inl (fun i9 => nI (nx i9)))), (a9, .inl (cI, 10, .inl (fun i9 => nI (sk i9))))] sz)) (va_A [(hm, .inr (5, [.int (nI n), .int (nI k), .ref a1, .ref a2, .int (bI wk), .int (bI fl), .int (nI cm), .ref a3, .ref a4, .int bl, .int sd, .long sm, .int co, .ref a5, .ref a6, .ref a7, .ref a8, .ref a9, .ref a10, .ref a11, .ref a12, .ref a13, .int (bI cf), .ref a14])), (a1, .inl (cI, 36, .inl (fun i9 => nI (E i9)))), (a5, .inl (cI, 10, .inl Dp)), (a6, .inl (cI, 10, .inl (fun i9 => oI (Pr i9)))), (a7, .inl (cI, 10, .inl (fun i9 => oI (Yb i9)))), (a8, .inl (cI, 10, .inl (fun i9 => nI (nx i9)))), (a9, .inl (cI, 10, .inl (fun i9 => nI (sk i9))))] sz)) 0 0 (va_A [(hm, .inr (5, [.int (nI n), .int (nI k), .ref a1, .ref a2, .int (bI wk), .int (bI fl), .int (nI cm), .ref a3, .ref a4, .int bl, .int sd, .long sm, .int co, .ref a5, .ref a6, .ref a7, .ref a8, .ref a9, .ref a10, .ref a11, .ref a12, .ref a13, .int (bI cf), .ref a14])), (a1, .inl (cI, 36, .inl (fun i9 => nI (E i9)))), (a5, .inl (cI, 10, .inl Dp)), (a6, .inl (cI, 10, .inl (fun i9 => oI (Pr i9)))), (a7, .inl (cI, 10, .inl (fun i9 => oI (Yb i9)))), (a8, .inl (cI, 10, .inl (fun i9 => nI (nx i9)))), (a9, .inl (cI, 10, .inl (fun i9 => nI (sk i9))))] sz) := by
  refine rw_met (by decide) ⟨rfl, rfl⟩ (Nat.le_of_ble_eq_true rfl) ?_
  intro p e s m args below meth c Q A ls Sx hP hK hD hA hl hret
  have hx := Sx.1
  have hb := Sx.2.1
  have hl : lv_has ls 7 [(0, .ref hm), (1, .int x), (2, .int (nI r0))] := hl
  have hS : va_S A s.heap s.heap [] := va_S.rf
  obtain ⟨Inv, hI0, hI1, hgE⟩ := hgd
  obtain ⟨H, hH⟩ : ∃ H, H = s.heap := ⟨_, rfl⟩
  obtain ⟨locs, hlo⟩ : ∃ locs : List Loc, locs = [] := ⟨_, rfl⟩
  rw [← hlo]
  rw [← hlo] at hS
  have hP : va_P (dC, dI) pcl [(hm, .inr (5, [.int (nI n), .int (nI k), .ref a1, .ref a2, .int (bI wk), .int (bI fl), .int (nI cm), .ref a3, .ref a4, .int bl, .int sd, .long sm, .int co, .ref a5, .ref a6, .ref a7, .ref a8, .ref a9, .ref a10, .ref a11, .ref a12, .ref a13, .int (bI cf), .ref a14])), (a1, .inl (cI, 36, .inl (fun i9 => nI (E i9)))), (a5, .inl (cI, 10, .inl Dp)), (a6, .inl (cI, 10, .inl (fun i9 => oI (Pr i9)))), (a7, .inl (cI, 10, .inl (fun i9 => oI (Yb i9)))), (a8, .inl (cI, 10, .inl (fun i9 => nI (nx i9)))), (a9, .inl (cI, 10, .inl (fun i9 => nI (sk i9))))] H := by rw [hH]; exact hP
  have hS : va_S A s.heap H locs := by rw [hH]; exact hS
  suffices hgo : W p l e rm_M_goDown s m args below meth c H locs 0 0 Q (F0 m 0 ls []) by rw [hH] at hgo; exact hgo
  refine lv_iconst (v := nI 1) hx hb d_M_goDown_0 (by decide) ?_
  refine lv_istore_n hx hb d_M_goDown_1 rfl hl (Nat.le_of_ble_eq_true rfl) rfl (fun ls hl => ?_)
  have hl : lv_has ls 7 [(3, .int (nI 1)), (0, .ref hm), (1, .int x), (2, .int (nI r0))] := hl
  refine lv_aload_n hx hb d_M_goDown_2 rfl (lv_at hl 1 rfl) ?_
  refine g_get Sx gf_M hK hP 0 rfl rfl 17 (by decide) gm_436 rfl d_M_goDown_3 ?_
  refine lv_iconst (v := nI 0) hx hb d_M_goDown_6 (by decide) ?_
  refine lv_iload_n hx hb d_M_goDown_7 rfl (lv_at hl 3 rfl) ?_
  refine g_istN (j := 0) Sx hK hP hD hS 6 0 rfl rfl (by omega) (by decide) d_M_goDown_8 (fun H locs hP hD hS => ?_)
  have hP : va_P (dC, dI) pcl [(hm, .inr (5, [.int (nI n), .int (nI k), .ref a1, .ref a2, .int (bI wk), .int (bI fl), .int (nI cm), .ref a3, .ref a4, .int bl, .int sd, .long sm, .int co, .ref a5, .ref a6, .ref a7, .ref a8, .ref a9, .ref a10, .ref a11, .ref a12, .ref a13, .int (bI cf), .ref a14])), (a1, .inl (cI, 36, .inl (fun i9 => nI (E i9)))), (a5, .inl (cI, 10, .inl Dp)), (a6, .inl (cI, 10, .inl (fun i9 => oI (Pr i9)))), (a7, .inl (cI, 10, .inl (fun i9 => oI (Yb i9)))), (a8, .inl (cI, 10, .inl (fun i9 => nI (nx i9)))), (a9, .inl (cI, 10, .inl (fun i9 => nI ((va_up sk 0 r0) i9))))] H := hP
  have hD : va_D A [(hm, .inr (5, [.int (nI n), .int (nI k), .ref a1, .ref a2, .int (bI wk), .int (bI fl), .int (nI cm), .ref a3, .ref a4, .int bl, .int sd, .long sm, .int co, .ref a5, .ref a6, .ref a7, .ref a8, .ref a9, .ref a10, .ref a11, .ref a12, .ref a13, .int (bI cf), .ref a14])), (a1, .inl (cI, 36, .inl (fun i9 => nI (E i9)))), (a5, .inl (cI, 10, .inl Dp)), (a6, .inl (cI, 10, .inl (fun i9 => oI (Pr i9)))), (a7, .inl (cI, 10, .inl (fun i9 => oI (Yb i9)))), (a8, .inl (cI, 10, .inl (fun i9 => nI (nx i9)))), (a9, .inl (cI, 10, .inl (fun i9 => nI ((va_up sk 0 r0) i9))))] := hD
  refine lv_aload_n hx hb d_M_goDown_9 rfl (lv_at hl 1 rfl) ?_
  refine g_get Sx gf_M hK hP 0 rfl rfl 13 (by decide) gm_432 rfl d_M_goDown_10 ?_
  refine lv_iload_n hx hb d_M_goDown_13 rfl (lv_at hl 3 rfl) ?_
  refine lv_iconst (v := 0) hx hb d_M_goDown_14 (by decide) ?_
  refine g_ist (j := r0) Sx hK hP hD hS 2 0 rfl rfl (by omega) (by decide) d_M_goDown_15 (fun H locs hP hD hS => ?_)
  have hP : va_P (dC, dI) pcl [(hm, .inr (5, [.int (nI n), .int (nI k), .ref a1, .ref a2, .int (bI wk), .int (bI fl), .int (nI cm), .ref a3, .ref a4, .int bl, .int sd, .long sm, .int co, .ref a5, .ref a6, .ref a7, .ref a8, .ref a9, .ref a10, .ref a11, .ref a12, .ref a13, .int (bI cf), .ref a14])), (a1, .inl (cI, 36, .inl (fun i9 => nI (E i9)))), (a5, .inl (cI, 10, .inl (upd Dp r0 0))), (a6, .inl (cI, 10, .inl (fun i9 => oI (Pr i9)))), (a7, .inl (cI, 10, .inl (fun i9 => oI (Yb i9)))), (a8, .inl (cI, 10, .inl (fun i9 => nI (nx i9)))), (a9, .inl (cI, 10, .inl (fun i9 => nI ((va_up sk 0 r0) i9))))] H := hP
  have hD : va_D A [(hm, .inr (5, [.int (nI n), .int (nI k), .ref a1, .ref a2, .int (bI wk), .int (bI fl), .int (nI cm), .ref a3, .ref a4, .int bl, .int sd, .long sm, .int co, .ref a5, .ref a6, .ref a7, .ref a8, .ref a9, .ref a10, .ref a11, .ref a12, .ref a13, .int (bI cf), .ref a14])), (a1, .inl (cI, 36, .inl (fun i9 => nI (E i9)))), (a5, .inl (cI, 10, .inl (upd Dp r0 0))), (a6, .inl (cI, 10, .inl (fun i9 => oI (Pr i9)))), (a7, .inl (cI, 10, .inl (fun i9 => oI (Yb i9)))), (a8, .inl (cI, 10, .inl (fun i9 => nI (nx i9)))), (a9, .inl (cI, 10, .inl (fun i9 => nI ((va_up sk 0 r0) i9))))] := hD
  refine lv_aload_n hx hb d_M_goDown_16 rfl (lv_at hl 1 rfl) ?_
  refine g_get Sx gf_M hK hP 0 rfl rfl 14 (by decide) gm_433 rfl d_M_goDown_17 ?_
  refine lv_iload_n hx hb d_M_goDown_20 rfl (lv_at hl 3 rfl) ?_
  refine lv_iconst (v := (-1)) hx hb d_M_goDown_21 (by decide) ?_
  refine g_istO0 (j := r0) Sx hK hP hD hS 3 0 rfl rfl (by omega) (by decide) d_M_goDown_22 (fun H locs hP hD hS => ?_)
  have hP : va_P (dC, dI) pcl [(hm, .inr (5, [.int (nI n), .int (nI k), .ref a1, .ref a2, .int (bI wk), .int (bI fl), .int (nI cm), .ref a3, .ref a4, .int bl, .int sd, .long sm, .int co, .ref a5, .ref a6, .ref a7, .ref a8, .ref a9, .ref a10, .ref a11, .ref a12, .ref a13, .int (bI cf), .ref a14])), (a1, .inl (cI, 36, .inl (fun i9 => nI (E i9)))), (a5, .inl (cI, 10, .inl (upd Dp r0 0))), (a6, .inl (cI, 10, .inl (fun i9 => oI ((va_up Pr r0 0) i9)))), (a7, .inl (cI, 10, .inl (fun i9 => oI (Yb i9)))), (a8, .inl (cI, 10, .inl (fun i9 => nI (nx i9)))), (a9, .inl (cI, 10, .inl (fun i9 => nI ((va_up sk 0 r0) i9))))] H := hP
  have hD : va_D A [(hm, .inr (5, [.int (nI n), .int (nI k), .ref a1, .ref a2, .int (bI wk), .int (bI fl), .int (nI cm), .ref a3, .ref a4, .int bl, .int sd, .long sm, .int co, .ref a5, .ref a6, .ref a7, .ref a8, .ref a9, .ref a10, .ref a11, .ref a12, .ref a13, .int (bI cf), .ref a14])), (a1, .inl (cI, 36, .inl (fun i9 => nI (E i9)))), (a5, .inl (cI, 10, .inl (upd Dp r0 0))), (a6, .inl (cI, 10, .inl (fun i9 => oI ((va_up Pr r0 0) i9)))), (a7, .inl (cI, 10, .inl (fun i9 => oI (Yb i9)))), (a8, .inl (cI, 10, .inl (fun i9 => nI (nx i9)))), (a9, .inl (cI, 10, .inl (fun i9 => nI ((va_up sk 0 r0) i9))))] := hD
  refine lv_aload_n hx hb d_M_goDown_23 rfl (lv_at hl 1 rfl) ?_
  refine g_get Sx gf_M hK hP 0 rfl rfl 15 (by decide) gm_434 rfl d_M_goDown_24 ?_
  refine lv_iload_n hx hb d_M_goDown_27 rfl (lv_at hl 3 rfl) ?_
  refine lv_iconst (v := (-1)) hx hb d_M_goDown_28 (by decide) ?_
  refine g_istO0 (j := r0) Sx hK hP hD hS 4 0 rfl rfl (by omega) (by decide) d_M_goDown_29 (fun H locs hP hD hS => ?_)
  have hP : va_P (dC, dI) pcl [(hm, .inr (5, [.int (nI n), .int (nI k), .ref a1, .ref a2, .int (bI wk), .int (bI fl), .int (nI cm), .ref a3, .ref a4, .int bl, .int sd, .long sm, .int co, .ref a5, .ref a6, .ref a7, .ref a8, .ref a9, .ref a10, .ref a11, .ref a12, .ref a13, .int (bI cf), .ref a14])), (a1, .inl (cI, 36, .inl (fun i9 => nI (E i9)))), (a5, .inl (cI, 10, .inl (upd Dp r0 0))), (a6, .inl (cI, 10, .inl (fun i9 => oI ((va_up Pr r0 0) i9)))), (a7, .inl (cI, 10, .inl (fun i9 => oI ((va_up Yb r0 0) i9)))), (a8, .inl (cI, 10, .inl (fun i9 => nI (nx i9)))), (a9, .inl (cI, 10, .inl (fun i9 => nI ((va_up sk 0 r0) i9))))] H := hP
  have hD : va_D A [(hm, .inr (5, [.int (nI n), .int (nI k), .ref a1, .ref a2, .int (bI wk), .int (bI fl), .int (nI cm), .ref a3, .ref a4, .int bl, .int sd, .long sm, .int co, .ref a5, .ref a6, .ref a7, .ref a8, .ref a9, .ref a10, .ref a11, .ref a12, .ref a13, .int (bI cf), .ref a14])), (a1, .inl (cI, 36, .inl (fun i9 => nI (E i9)))), (a5, .inl (cI, 10, .inl (upd Dp r0 0))), (a6, .inl (cI, 10, .inl (fun i9 => oI ((va_up Pr r0 0) i9)))), (a7, .inl (cI, 10, .inl (fun i9 => oI ((va_up Yb r0 0) i9)))), (a8, .inl (cI, 10, .inl (fun i9 => nI (nx i9)))), (a9, .inl (cI, 10, .inl (fun i9 => nI ((va_up sk 0 r0) i9))))] := hD
  have hL30 : ∀ (fu30 : Nat) (tp : Nat) (Dp1 : Nat → Int32) (Pr1 : Nat → Nat) (Yb1 : Nat → Nat) (nx1 : Nat → Nat) (sk1 : Nat → Nat) (H : Heap) (locs : List Loc) (ls : Array Slot), wl pm_gdD (pm_gdS k E x) fu30 (tp, Dp1, Pr1, Yb1, nx1, sk1) = (pm_gd k E x r0 Dp Pr Yb nx sk) → Inv (tp, Dp1, Pr1, Yb1, nx1, sk1) → va_P (dC, dI) pcl [(hm, .inr (5, [.int (nI n), .int (nI k), .ref a1, .ref a2, .int (bI wk), .int (bI fl), .int (nI cm), .ref a3, .ref a4, .int bl, .int sd, .long sm, .int co, .ref a5, .ref a6, .ref a7, .ref a8, .ref a9, .ref a10, .ref a11, .ref a12, .ref a13, .int (bI cf), .ref a14])), (a1, .inl (cI, 36, .inl (fun i9 => nI (E i9)))), (a5, .inl (cI, 10, .inl Dp1)), (a6, .inl (cI, 10, .inl (fun i9 => oI (Pr1 i9)))), (a7, .inl (cI, 10, .inl (fun i9 => oI (Yb1 i9)))), (a8, .inl (cI, 10, .inl (fun i9 => nI (nx1 i9)))), (a9, .inl (cI, 10, .inl (fun i9 => nI (sk1 i9))))] H → va_D A [(hm, .inr (5, [.int (nI n), .int (nI k), .ref a1, .ref a2, .int (bI wk), .int (bI fl), .int (nI cm), .ref a3, .ref a4, .int bl, .int sd, .long sm, .int co, .ref a5, .ref a6, .ref a7, .ref a8, .ref a9, .ref a10, .ref a11, .ref a12, .ref a13, .int (bI cf), .ref a14])), (a1, .inl (cI, 36, .inl (fun i9 => nI (E i9)))), (a5, .inl (cI, 10, .inl Dp1)), (a6, .inl (cI, 10, .inl (fun i9 => oI (Pr1 i9)))), (a7, .inl (cI, 10, .inl (fun i9 => oI (Yb1 i9)))), (a8, .inl (cI, 10, .inl (fun i9 => nI (nx1 i9)))), (a9, .inl (cI, 10, .inl (fun i9 => nI (sk1 i9))))] → va_S A s.heap H locs → lv_has ls 7 [(3, .int (nI tp)), (0, .ref hm), (1, .int x), (2, .int (nI r0))] → W p l e rm_M_goDown s m args below meth c H locs 0 0 Q (F0 m 30 ls []) := by
    intro fu30
    induction fu30 with
    | zero =>
      intro tp Dp1 Pr1 Yb1 nx1 sk1 H locs ls ht30 hI hP hD hS hl
      refine lv_iload_n hx hb d_M_goDown_30 rfl (lv_at hl 0 rfl) ?_
      refine lv_if_le hx hb d_M_goDown_31 (tgt := 169) rfl (fun q1 => ?_) (fun q1 => ?_)
      · skip
        have hd9 : pm_gdD (tp, Dp1, Pr1, Yb1, nx1, sk1) = true := by simp [pm_gdD, pm_gdS, q1]
        have e9 : (tp, Dp1, Pr1, Yb1, nx1, sk1) = (pm_gd k E x r0 Dp Pr Yb nx sk) := by rw [← ht30]; exact (wl_dn hd9 _).symm
        have e_tp : tp = ((pm_gd k E x r0 Dp Pr Yb nx sk)).1 := by rw [← e9]
        have e_Dp1 : Dp1 = ((pm_gd k E x r0 Dp Pr Yb nx sk)).2.1 := by rw [← e9]
        have e_Pr1 : Pr1 = ((pm_gd k E x r0 Dp Pr Yb nx sk)).2.2.1 := by rw [← e9]
        have e_Yb1 : Yb1 = ((pm_gd k E x r0 Dp Pr Yb nx sk)).2.2.2.1 := by rw [← e9]
        have e_nx1 : nx1 = ((pm_gd k E x r0 Dp Pr Yb nx sk)).2.2.2.2.1 := by rw [← e9]
        have e_sk1 : sk1 = ((pm_gd k E x r0 Dp Pr Yb nx sk)).2.2.2.2.2 := by rw [← e9]
        subst e_tp
        subst e_Dp1
        subst e_Pr1
        subst e_Yb1
        subst e_nx1
        subst e_sk1
        have hl : lv_has ls 7 [(3, .int (nI (((pm_gd k E x r0 Dp Pr Yb nx sk)).1))), (0, .ref hm), (1, .int x), (2, .int (nI r0))] := hl
        have hP : va_P (dC, dI) pcl [(hm, .inr (5, [.int (nI n), .int (nI k), .ref a1, .ref a2, .int (bI wk), .int (bI fl), .int (nI cm), .ref a3, .ref a4, .int bl, .int sd, .long sm, .int co, .ref a5, .ref a6, .ref a7, .ref a8, .ref a9, .ref a10, .ref a11, .ref a12, .ref a13, .int (bI cf), .ref a14])), (a1, .inl (cI, 36, .inl (fun i9 => nI (E i9)))), (a5, .inl (cI, 10, .inl (((pm_gd k E x r0 Dp Pr Yb nx sk)).2.1))), (a6, .inl (cI, 10, .inl (fun i9 => oI ((((pm_gd k E x r0 Dp Pr Yb nx sk)).2.2.1) i9)))), (a7, .inl (cI, 10, .inl (fun i9 => oI ((((pm_gd k E x r0 Dp Pr Yb nx sk)).2.2.2.1) i9)))), (a8, .inl (cI, 10, .inl (fun i9 => nI ((((pm_gd k E x r0 Dp Pr Yb nx sk)).2.2.2.2.1) i9)))), (a9, .inl (cI, 10, .inl (fun i9 => nI ((((pm_gd k E x r0 Dp Pr Yb nx sk)).2.2.2.2.2) i9))))] H := hP
        have hD : va_D A [(hm, .inr (5, [.int (nI n), .int (nI k), .ref a1, .ref a2, .int (bI wk), .int (bI fl), .int (nI cm), .ref a3, .ref a4, .int bl, .int sd, .long sm, .int co, .ref a5, .ref a6, .ref a7, .ref a8, .ref a9, .ref a10, .ref a11, .ref a12, .ref a13, .int (bI cf), .ref a14])), (a1, .inl (cI, 36, .inl (fun i9 => nI (E i9)))), (a5, .inl (cI, 10, .inl (((pm_gd k E x r0 Dp Pr Yb nx sk)).2.1))), (a6, .inl (cI, 10, .inl (fun i9 => oI ((((pm_gd k E x r0 Dp Pr Yb nx sk)).2.2.1) i9)))), (a7, .inl (cI, 10, .inl (fun i9 => oI ((((pm_gd k E x r0 Dp Pr Yb nx sk)).2.2.2.1) i9)))), (a8, .inl (cI, 10, .inl (fun i9 => nI ((((pm_gd k E x r0 Dp Pr Yb nx sk)).2.2.2.2.1) i9)))), (a9, .inl (cI, 10, .inl (fun i9 => nI ((((pm_gd k E x r0 Dp Pr Yb nx sk)).2.2.2.2.2) i9))))] := hD
        exact hret _ H locs _ d_M_goDown_169 hP hD hS
      · skip
        have hd8 : pm_gdD (tp, Dp1, Pr1, Yb1, nx1, sk1) = false := by simp [pm_gdD, q1]
        obtain ⟨⟨hb1, hb2, hb3, hb4, hb5⟩, hI9⟩ := hI1 _ hI hd8
        dsimp only at hb1 hb2 hb3 hb4 hb5
        have hd9 : pm_gdD (tp, Dp1, Pr1, Yb1, nx1, sk1) = false := by simp [pm_gdD, pm_gdS, q1]
        have ht9 : (tp, Dp1, Pr1, Yb1, nx1, sk1) = (pm_gd k E x r0 Dp Pr Yb nx sk) := ht30
        rw [ht9, hgE] at hd9
        cases hd9
    | succ fu30 ih30 =>
      intro tp Dp1 Pr1 Yb1 nx1 sk1 H locs ls ht30 hI hP hD hS hl
      refine lv_iload_n hx hb d_M_goDown_30 rfl (lv_at hl 0 rfl) ?_
      refine lv_if_le hx hb d_M_goDown_31 (tgt := 169) rfl (fun q2 => ?_) (fun q2 => ?_)
      · skip
        have hd9 : pm_gdD (tp, Dp1, Pr1, Yb1, nx1, sk1) = true := by simp [pm_gdD, pm_gdS, q2]
        have e9 : (tp, Dp1, Pr1, Yb1, nx1, sk1) = (pm_gd k E x r0 Dp Pr Yb nx sk) := by rw [← ht30]; exact (wl_dn hd9 _).symm
        have e_tp : tp = ((pm_gd k E x r0 Dp Pr Yb nx sk)).1 := by rw [← e9]
        have e_Dp1 : Dp1 = ((pm_gd k E x r0 Dp Pr Yb nx sk)).2.1 := by rw [← e9]
        have e_Pr1 : Pr1 = ((pm_gd k E x r0 Dp Pr Yb nx sk)).2.2.1 := by rw [← e9]
        have e_Yb1 : Yb1 = ((pm_gd k E x r0 Dp Pr Yb nx sk)).2.2.2.1 := by rw [← e9]
        have e_nx1 : nx1 = ((pm_gd k E x r0 Dp Pr Yb nx sk)).2.2.2.2.1 := by rw [← e9]
        have e_sk1 : sk1 = ((pm_gd k E x r0 Dp Pr Yb nx sk)).2.2.2.2.2 := by rw [← e9]
        subst e_tp
        subst e_Dp1
        subst e_Pr1
        subst e_Yb1
        subst e_nx1
        subst e_sk1
        have hl : lv_has ls 7 [(3, .int (nI (((pm_gd k E x r0 Dp Pr Yb nx sk)).1))), (0, .ref hm), (1, .int x), (2, .int (nI r0))] := hl
        have hP : va_P (dC, dI) pcl [(hm, .inr (5, [.int (nI n), .int (nI k), .ref a1, .ref a2, .int (bI wk), .int (bI fl), .int (nI cm), .ref a3, .ref a4, .int bl, .int sd, .long sm, .int co, .ref a5, .ref a6, .ref a7, .ref a8, .ref a9, .ref a10, .ref a11, .ref a12, .ref a13, .int (bI cf), .ref a14])), (a1, .inl (cI, 36, .inl (fun i9 => nI (E i9)))), (a5, .inl (cI, 10, .inl (((pm_gd k E x r0 Dp Pr Yb nx sk)).2.1))), (a6, .inl (cI, 10, .inl (fun i9 => oI ((((pm_gd k E x r0 Dp Pr Yb nx sk)).2.2.1) i9)))), (a7, .inl (cI, 10, .inl (fun i9 => oI ((((pm_gd k E x r0 Dp Pr Yb nx sk)).2.2.2.1) i9)))), (a8, .inl (cI, 10, .inl (fun i9 => nI ((((pm_gd k E x r0 Dp Pr Yb nx sk)).2.2.2.2.1) i9)))), (a9, .inl (cI, 10, .inl (fun i9 => nI ((((pm_gd k E x r0 Dp Pr Yb nx sk)).2.2.2.2.2) i9))))] H := hP
        have hD : va_D A [(hm, .inr (5, [.int (nI n), .int (nI k), .ref a1, .ref a2, .int (bI wk), .int (bI fl), .int (nI cm), .ref a3, .ref a4, .int bl, .int sd, .long sm, .int co, .ref a5, .ref a6, .ref a7, .ref a8, .ref a9, .ref a10, .ref a11, .ref a12, .ref a13, .int (bI cf), .ref a14])), (a1, .inl (cI, 36, .inl (fun i9 => nI (E i9)))), (a5, .inl (cI, 10, .inl (((pm_gd k E x r0 Dp Pr Yb nx sk)).2.1))), (a6, .inl (cI, 10, .inl (fun i9 => oI ((((pm_gd k E x r0 Dp Pr Yb nx sk)).2.2.1) i9)))), (a7, .inl (cI, 10, .inl (fun i9 => oI ((((pm_gd k E x r0 Dp Pr Yb nx sk)).2.2.2.1) i9)))), (a8, .inl (cI, 10, .inl (fun i9 => nI ((((pm_gd k E x r0 Dp Pr Yb nx sk)).2.2.2.2.1) i9)))), (a9, .inl (cI, 10, .inl (fun i9 => nI ((((pm_gd k E x r0 Dp Pr Yb nx sk)).2.2.2.2.2) i9))))] := hD
        exact hret _ H locs _ d_M_goDown_169 hP hD hS
      · skip
        have hd8 : pm_gdD (tp, Dp1, Pr1, Yb1, nx1, sk1) = false := by simp [pm_gdD, q2]
        obtain ⟨⟨hb1, hb2, hb3, hb4, hb5⟩, hI9⟩ := hI1 _ hI hd8
        dsimp only at hb1 hb2 hb3 hb4 hb5
        refine lv_aload_n hx hb d_M_goDown_34 rfl (lv_at hl 1 rfl) ?_
        refine g_get Sx gf_M hK hP 0 rfl rfl 17 (by decide) gm_436 rfl d_M_goDown_35 ?_
        refine lv_iload_n hx hb d_M_goDown_38 rfl (lv_at hl 0 rfl) ?_
        refine lv_iconst (v := nI 1) hx hb d_M_goDown_39 (by decide) ?_
        refine lv_isub hx hb d_M_goDown_40 ?_
        rw [show (((nI tp) - (nI 1)) : Int32) = nI (tp - 1) from pk_sub (by omega)]
        refine g_ild (j := (tp - 1)) Sx hK hP 6 0 rfl rfl (by omega) (by decide) d_M_goDown_41 ?_
        refine lv_istore hx hb d_M_goDown_42 hl (Nat.le_of_ble_eq_true rfl) rfl (fun ls hl => ?_)
        have hl : lv_has ls 7 [(4, .int (nI (sk1 (tp - 1)))), (3, .int (nI tp)), (0, .ref hm), (1, .int x), (2, .int (nI r0))] := hl
        refine lv_aload_n hx hb d_M_goDown_44 rfl (lv_at hl 2 rfl) ?_
        refine g_get Sx gf_M hK hP 0 rfl rfl 16 (by decide) gm_435 rfl d_M_goDown_45 ?_
        refine lv_iload hx hb d_M_goDown_48 (lv_at hl 0 rfl) ?_
        refine g_ild (j := (sk1 (tp - 1))) Sx hK hP 5 0 rfl rfl hb3 (by decide) d_M_goDown_50 ?_
        refine lv_istore hx hb d_M_goDown_51 hl (Nat.le_of_ble_eq_true rfl) rfl (fun ls hl => ?_)
        have hl : lv_has ls 7 [(5, .int (nI (nx1 (sk1 (tp - 1))))), (4, .int (nI (sk1 (tp - 1)))), (3, .int (nI tp)), (0, .ref hm), (1, .int x), (2, .int (nI r0))] := hl
        refine lv_aload_n hx hb d_M_goDown_53 rfl (lv_at hl 3 rfl) ?_
        refine g_get Sx gf_M hK hP 0 rfl rfl 16 (by decide) gm_435 rfl d_M_goDown_54 ?_
        refine lv_iload hx hb d_M_goDown_57 (lv_at hl 1 rfl) ?_
        refine lv_iload hx hb d_M_goDown_59 (lv_at hl 0 rfl) ?_
        refine lv_iconst (v := nI 1) hx hb d_M_goDown_61 (by decide) ?_
        refine lv_iadd hx hb d_M_goDown_62 ?_
        rw [show (((nI (nx1 (sk1 (tp - 1)))) + (nI 1)) : Int32) = nI ((nx1 (sk1 (tp - 1))) + 1) from nI_add _ _]
        refine g_istN (j := (sk1 (tp - 1))) Sx hK hP hD hS 5 0 rfl rfl hb3 (by decide) d_M_goDown_63 (fun H locs hP hD hS => ?_)
        have hP : va_P (dC, dI) pcl [(hm, .inr (5, [.int (nI n), .int (nI k), .ref a1, .ref a2, .int (bI wk), .int (bI fl), .int (nI cm), .ref a3, .ref a4, .int bl, .int sd, .long sm, .int co, .ref a5, .ref a6, .ref a7, .ref a8, .ref a9, .ref a10, .ref a11, .ref a12, .ref a13, .int (bI cf), .ref a14])), (a1, .inl (cI, 36, .inl (fun i9 => nI (E i9)))), (a5, .inl (cI, 10, .inl Dp1)), (a6, .inl (cI, 10, .inl (fun i9 => oI (Pr1 i9)))), (a7, .inl (cI, 10, .inl (fun i9 => oI (Yb1 i9)))), (a8, .inl (cI, 10, .inl (fun i9 => nI ((va_up nx1 (sk1 (tp - 1)) ((nx1 (sk1 (tp - 1))) + 1)) i9)))), (a9, .inl (cI, 10, .inl (fun i9 => nI (sk1 i9))))] H := hP
        have hD : va_D A [(hm, .inr (5, [.int (nI n), .int (nI k), .ref a1, .ref a2, .int (bI wk), .int (bI fl), .int (nI cm), .ref a3, .ref a4, .int bl, .int sd, .long sm, .int co, .ref a5, .ref a6, .ref a7, .ref a8, .ref a9, .ref a10, .ref a11, .ref a12, .ref a13, .int (bI cf), .ref a14])), (a1, .inl (cI, 36, .inl (fun i9 => nI (E i9)))), (a5, .inl (cI, 10, .inl Dp1)), (a6, .inl (cI, 10, .inl (fun i9 => oI (Pr1 i9)))), (a7, .inl (cI, 10, .inl (fun i9 => oI (Yb1 i9)))), (a8, .inl (cI, 10, .inl (fun i9 => nI ((va_up nx1 (sk1 (tp - 1)) ((nx1 (sk1 (tp - 1))) + 1)) i9)))), (a9, .inl (cI, 10, .inl (fun i9 => nI (sk1 i9))))] := hD
        refine lv_iload hx hb d_M_goDown_64 (lv_at hl 0 rfl) ?_
        refine lv_aload_n hx hb d_M_goDown_66 rfl (lv_at hl 3 rfl) ?_
        refine g_get Sx gf_M hK hP 0 rfl rfl 1 (by decide) gm_420 rfl d_M_goDown_67 ?_
        refine lv_icmp_lt hx hb d_M_goDown_70 (tgt := 80) rfl (fun q3 => ?_) (fun q3 => ?_)
        · have q3 : (nx1 (sk1 (tp - 1))) < k := nq_lt (by omega) (by omega) q3
          have q3n := Nat.not_le.mpr q3
          refine lv_iload_n hx hb d_M_goDown_80 rfl (lv_at hl 4 rfl) ?_
          refine lv_iload hx hb d_M_goDown_81 (lv_at hl 0 rfl) ?_
          refine ro_S (As := [.int x, .int (nI (nx1 (sk1 (tp - 1))))]) (rest := []) Sx (c_M_has l dC dI x (nI (nx1 (sk1 (tp - 1))))) (gw_callS gm_509 gm_510 gm_56 gm_511) hd_M_has ⟨rfl, rfl⟩ ⟨Nat.le_of_ble_eq_true rfl, Nat.le_of_ble_eq_true rfl⟩ (va_P_map hP [] rfl) (hK.sub (tys' := []) [] rfl) rfl hl.1 rfl (Nat.le_of_ble_eq_true rfl) d_M_goDown_83 ⟨Nat.zero_le _, Nat.zero_le _⟩ ?_
          refine lv_if_eq hx hb d_M_goDown_86 (tgt := 166) rfl (fun q4 => ?_) (fun q4 => ?_)
          · have q4 : (pm_has x (nI (nx1 (sk1 (tp - 1))))) = false := bI_0.mp q4
            refine lv_goto hx hb d_M_goDown_166 (tgt := 30) rfl ?_
            have hd9 : pm_gdD (tp, Dp1, Pr1, Yb1, nx1, sk1) = false := by simp [pm_gdD, pm_gdS, q2, q3, q3n, q4]
            have hs9 : (pm_gdS k E x) (tp, Dp1, Pr1, Yb1, nx1, sk1) = (tp, Dp1, Pr1, Yb1, va_up nx1 (sk1 (tp - 1)) ((nx1 (sk1 (tp - 1))) + 1), sk1) := by simp [pm_gdD, pm_gdS, q2, q3, q3n, q4]
            have ht9 : wl pm_gdD (pm_gdS k E x) fu30 (tp, Dp1, Pr1, Yb1, va_up nx1 (sk1 (tp - 1)) ((nx1 (sk1 (tp - 1))) + 1), sk1) = (pm_gd k E x r0 Dp Pr Yb nx sk) := by rw [← ht30, wl_st hd9, hs9]
            exact ih30 tp Dp1 Pr1 Yb1 (va_up nx1 (sk1 (tp - 1)) ((nx1 (sk1 (tp - 1))) + 1)) sk1 H locs ls ht9 (hs9 ▸ hI9) hP hD hS (lv_sub hl [2, 3, 4, 5] rfl)
          · have q4 : (pm_has x (nI (nx1 (sk1 (tp - 1))))) = true := bI_1.mp q4
            refine lv_aload_n hx hb d_M_goDown_89 rfl (lv_at hl 3 rfl) ?_
            refine lv_iload hx hb d_M_goDown_90 (lv_at hl 0 rfl) ?_
            refine lv_iload hx hb d_M_goDown_92 (lv_at hl 1 rfl) ?_
            refine ro_V (As := [.int (nI (nx1 (sk1 (tp - 1)))), .int (nI (sk1 (tp - 1)))]) (rest := []) Sx (c_M_touches l dC dI n k wk fl cm bl sd sm co cf hm a1 a2 a3 a4 a5 a6 a7 a8 a9 a10 a11 a12 a13 a14 cI E (nx1 (sk1 (tp - 1))) (sk1 (tp - 1)) (by omega)) (gw_callV gm_512 gm_513 gm_31 gm_56 gm_514) hd_M_touches ⟨rfl, rfl⟩ ⟨Nat.le_of_ble_eq_true rfl, Nat.le_of_ble_eq_true rfl⟩ (va_P_map hP [0, 1] rfl) (hK.sub (tys' := [(cI, .int)]) [0] rfl) rfl 0 rfl rfl hl.1 rfl (Nat.le_of_ble_eq_true rfl) d_M_goDown_94 ⟨Nat.zero_le _, Nat.zero_le _⟩ ?_
            refine lv_if_eq hx hb d_M_goDown_97 (tgt := 166) rfl (fun q5 => ?_) (fun q5 => ?_)
            · have q5 : (pm_tch E (nx1 (sk1 (tp - 1))) (sk1 (tp - 1))) = false := bI_0.mp q5
              refine lv_goto hx hb d_M_goDown_166 (tgt := 30) rfl ?_
              have hd9 : pm_gdD (tp, Dp1, Pr1, Yb1, nx1, sk1) = false := by simp [pm_gdD, pm_gdS, q2, q3, q3n, q4, q5]
              have hs9 : (pm_gdS k E x) (tp, Dp1, Pr1, Yb1, nx1, sk1) = (tp, Dp1, Pr1, Yb1, va_up nx1 (sk1 (tp - 1)) ((nx1 (sk1 (tp - 1))) + 1), sk1) := by simp [pm_gdD, pm_gdS, q2, q3, q3n, q4, q5]
              have ht9 : wl pm_gdD (pm_gdS k E x) fu30 (tp, Dp1, Pr1, Yb1, va_up nx1 (sk1 (tp - 1)) ((nx1 (sk1 (tp - 1))) + 1), sk1) = (pm_gd k E x r0 Dp Pr Yb nx sk) := by rw [← ht30, wl_st hd9, hs9]
              exact ih30 tp Dp1 Pr1 Yb1 (va_up nx1 (sk1 (tp - 1)) ((nx1 (sk1 (tp - 1))) + 1)) sk1 H locs ls ht9 (hs9 ▸ hI9) hP hD hS (lv_sub hl [2, 3, 4, 5] rfl)
            · have q5 : (pm_tch E (nx1 (sk1 (tp - 1))) (sk1 (tp - 1))) = true := bI_1.mp q5
              refine lv_aload_n hx hb d_M_goDown_100 rfl (lv_at hl 3 rfl) ?_
              refine lv_iload hx hb d_M_goDown_101 (lv_at hl 0 rfl) ?_
              refine lv_iload hx hb d_M_goDown_103 (lv_at hl 1 rfl) ?_
              refine ro_V (As := [.int (nI (nx1 (sk1 (tp - 1)))), .int (nI (sk1 (tp - 1)))]) (rest := []) Sx (c_M_other l dC dI n k wk fl cm bl sd sm co cf hm a1 a2 a3 a4 a5 a6 a7 a8 a9 a10 a11 a12 a13 a14 cI E (nx1 (sk1 (tp - 1))) (sk1 (tp - 1)) (by omega)) (gw_callV gm_515 gm_516 gm_32 gm_56 gm_517) hd_M_other ⟨rfl, rfl⟩ ⟨Nat.le_of_ble_eq_true rfl, Nat.le_of_ble_eq_true rfl⟩ (va_P_map hP [0, 1] rfl) (hK.sub (tys' := [(cI, .int)]) [0] rfl) rfl 0 rfl rfl hl.1 rfl (Nat.le_of_ble_eq_true rfl) d_M_goDown_105 ⟨Nat.zero_le _, Nat.zero_le _⟩ ?_
              refine lv_istore hx hb d_M_goDown_108 hl (Nat.le_of_ble_eq_true rfl) rfl (fun ls hl => ?_)
              have hl : lv_has ls 7 [(6, .int (nI (pm_oth E (nx1 (sk1 (tp - 1))) (sk1 (tp - 1))))), (5, .int (nI (nx1 (sk1 (tp - 1))))), (4, .int (nI (sk1 (tp - 1)))), (3, .int (nI tp)), (0, .ref hm), (1, .int x), (2, .int (nI r0))] := hl
              refine lv_aload_n hx hb d_M_goDown_110 rfl (lv_at hl 4 rfl) ?_
              refine g_get Sx gf_M hK hP 0 rfl rfl 13 (by decide) gm_432 rfl d_M_goDown_111 ?_
              refine lv_iload hx hb d_M_goDown_114 (lv_at hl 0 rfl) ?_
              refine g_ild (j := (pm_oth E (nx1 (sk1 (tp - 1))) (sk1 (tp - 1)))) Sx hK hP 2 0 rfl rfl (pm_oth_lt hE _ _) (by decide) d_M_goDown_116 ?_
              refine lv_if_ge hx hb d_M_goDown_117 (tgt := 166) rfl (fun q6 => ?_) (fun q6 => ?_)
              · skip
                refine lv_goto hx hb d_M_goDown_166 (tgt := 30) rfl ?_
                have hd9 : pm_gdD (tp, Dp1, Pr1, Yb1, nx1, sk1) = false := by simp [pm_gdD, pm_gdS, q2, q3, q3n, q4, q5, q6]
                have hs9 : (pm_gdS k E x) (tp, Dp1, Pr1, Yb1, nx1, sk1) = (tp, Dp1, Pr1, Yb1, va_up nx1 (sk1 (tp - 1)) ((nx1 (sk1 (tp - 1))) + 1), sk1) := by simp [pm_gdD, pm_gdS, q2, q3, q3n, q4, q5, q6]
                have ht9 : wl pm_gdD (pm_gdS k E x) fu30 (tp, Dp1, Pr1, Yb1, va_up nx1 (sk1 (tp - 1)) ((nx1 (sk1 (tp - 1))) + 1), sk1) = (pm_gd k E x r0 Dp Pr Yb nx sk) := by rw [← ht30, wl_st hd9, hs9]
                exact ih30 tp Dp1 Pr1 Yb1 (va_up nx1 (sk1 (tp - 1)) ((nx1 (sk1 (tp - 1))) + 1)) sk1 H locs ls ht9 (hs9 ▸ hI9) hP hD hS (lv_sub hl [3, 4, 5, 6] rfl)
              · skip
                refine lv_aload_n hx hb d_M_goDown_120 rfl (lv_at hl 4 rfl) ?_
                refine g_get Sx gf_M hK hP 0 rfl rfl 13 (by decide) gm_432 rfl d_M_goDown_121 ?_
                refine lv_iload hx hb d_M_goDown_124 (lv_at hl 0 rfl) ?_
                refine lv_aload_n hx hb d_M_goDown_126 rfl (lv_at hl 4 rfl) ?_
                refine g_get Sx gf_M hK hP 0 rfl rfl 13 (by decide) gm_432 rfl d_M_goDown_127 ?_
                refine lv_iload hx hb d_M_goDown_130 (lv_at hl 2 rfl) ?_
                refine g_ild (j := (sk1 (tp - 1))) Sx hK hP 2 0 rfl rfl hb3 (by decide) d_M_goDown_132 ?_
                refine lv_iconst (v := 1) hx hb d_M_goDown_133 (by decide) ?_
                refine lv_iadd hx hb d_M_goDown_134 ?_
                refine g_ist (j := (pm_oth E (nx1 (sk1 (tp - 1))) (sk1 (tp - 1)))) Sx hK hP hD hS 2 0 rfl rfl (pm_oth_lt hE _ _) (by decide) d_M_goDown_135 (fun H locs hP hD hS => ?_)
                have hP : va_P (dC, dI) pcl [(hm, .inr (5, [.int (nI n), .int (nI k), .ref a1, .ref a2, .int (bI wk), .int (bI fl), .int (nI cm), .ref a3, .ref a4, .int bl, .int sd, .long sm, .int co, .ref a5, .ref a6, .ref a7, .ref a8, .ref a9, .ref a10, .ref a11, .ref a12, .ref a13, .int (bI cf), .ref a14])), (a1, .inl (cI, 36, .inl (fun i9 => nI (E i9)))), (a5, .inl (cI, 10, .inl (upd Dp1 (pm_oth E (nx1 (sk1 (tp - 1))) (sk1 (tp - 1))) ((Dp1 (sk1 (tp - 1))) + 1)))), (a6, .inl (cI, 10, .inl (fun i9 => oI (Pr1 i9)))), (a7, .inl (cI, 10, .inl (fun i9 => oI (Yb1 i9)))), (a8, .inl (cI, 10, .inl (fun i9 => nI ((va_up nx1 (sk1 (tp - 1)) ((nx1 (sk1 (tp - 1))) + 1)) i9)))), (a9, .inl (cI, 10, .inl (fun i9 => nI (sk1 i9))))] H := hP
                have hD : va_D A [(hm, .inr (5, [.int (nI n), .int (nI k), .ref a1, .ref a2, .int (bI wk), .int (bI fl), .int (nI cm), .ref a3, .ref a4, .int bl, .int sd, .long sm, .int co, .ref a5, .ref a6, .ref a7, .ref a8, .ref a9, .ref a10, .ref a11, .ref a12, .ref a13, .int (bI cf), .ref a14])), (a1, .inl (cI, 36, .inl (fun i9 => nI (E i9)))), (a5, .inl (cI, 10, .inl (upd Dp1 (pm_oth E (nx1 (sk1 (tp - 1))) (sk1 (tp - 1))) ((Dp1 (sk1 (tp - 1))) + 1)))), (a6, .inl (cI, 10, .inl (fun i9 => oI (Pr1 i9)))), (a7, .inl (cI, 10, .inl (fun i9 => oI (Yb1 i9)))), (a8, .inl (cI, 10, .inl (fun i9 => nI ((va_up nx1 (sk1 (tp - 1)) ((nx1 (sk1 (tp - 1))) + 1)) i9)))), (a9, .inl (cI, 10, .inl (fun i9 => nI (sk1 i9))))] := hD
                refine lv_aload_n hx hb d_M_goDown_136 rfl (lv_at hl 4 rfl) ?_
                refine g_get Sx gf_M hK hP 0 rfl rfl 14 (by decide) gm_433 rfl d_M_goDown_137 ?_
                refine lv_iload hx hb d_M_goDown_140 (lv_at hl 0 rfl) ?_
                refine lv_iload hx hb d_M_goDown_142 (lv_at hl 2 rfl) ?_
                refine g_istO1 (j := (pm_oth E (nx1 (sk1 (tp - 1))) (sk1 (tp - 1)))) Sx hK hP hD hS 3 0 rfl rfl (pm_oth_lt hE _ _) (by decide) d_M_goDown_144 (fun H locs hP hD hS => ?_)
                have hP : va_P (dC, dI) pcl [(hm, .inr (5, [.int (nI n), .int (nI k), .ref a1, .ref a2, .int (bI wk), .int (bI fl), .int (nI cm), .ref a3, .ref a4, .int bl, .int sd, .long sm, .int co, .ref a5, .ref a6, .ref a7, .ref a8, .ref a9, .ref a10, .ref a11, .ref a12, .ref a13, .int (bI cf), .ref a14])), (a1, .inl (cI, 36, .inl (fun i9 => nI (E i9)))), (a5, .inl (cI, 10, .inl (upd Dp1 (pm_oth E (nx1 (sk1 (tp - 1))) (sk1 (tp - 1))) ((Dp1 (sk1 (tp - 1))) + 1)))), (a6, .inl (cI, 10, .inl (fun i9 => oI ((va_up Pr1 (pm_oth E (nx1 (sk1 (tp - 1))) (sk1 (tp - 1))) (sk1 (tp - 1) + 1)) i9)))), (a7, .inl (cI, 10, .inl (fun i9 => oI (Yb1 i9)))), (a8, .inl (cI, 10, .inl (fun i9 => nI ((va_up nx1 (sk1 (tp - 1)) ((nx1 (sk1 (tp - 1))) + 1)) i9)))), (a9, .inl (cI, 10, .inl (fun i9 => nI (sk1 i9))))] H := hP
                have hD : va_D A [(hm, .inr (5, [.int (nI n), .int (nI k), .ref a1, .ref a2, .int (bI wk), .int (bI fl), .int (nI cm), .ref a3, .ref a4, .int bl, .int sd, .long sm, .int co, .ref a5, .ref a6, .ref a7, .ref a8, .ref a9, .ref a10, .ref a11, .ref a12, .ref a13, .int (bI cf), .ref a14])), (a1, .inl (cI, 36, .inl (fun i9 => nI (E i9)))), (a5, .inl (cI, 10, .inl (upd Dp1 (pm_oth E (nx1 (sk1 (tp - 1))) (sk1 (tp - 1))) ((Dp1 (sk1 (tp - 1))) + 1)))), (a6, .inl (cI, 10, .inl (fun i9 => oI ((va_up Pr1 (pm_oth E (nx1 (sk1 (tp - 1))) (sk1 (tp - 1))) (sk1 (tp - 1) + 1)) i9)))), (a7, .inl (cI, 10, .inl (fun i9 => oI (Yb1 i9)))), (a8, .inl (cI, 10, .inl (fun i9 => nI ((va_up nx1 (sk1 (tp - 1)) ((nx1 (sk1 (tp - 1))) + 1)) i9)))), (a9, .inl (cI, 10, .inl (fun i9 => nI (sk1 i9))))] := hD
                refine lv_aload_n hx hb d_M_goDown_145 rfl (lv_at hl 4 rfl) ?_
                refine g_get Sx gf_M hK hP 0 rfl rfl 15 (by decide) gm_434 rfl d_M_goDown_146 ?_
                refine lv_iload hx hb d_M_goDown_149 (lv_at hl 0 rfl) ?_
                refine lv_iload hx hb d_M_goDown_151 (lv_at hl 1 rfl) ?_
                refine g_istO1 (j := (pm_oth E (nx1 (sk1 (tp - 1))) (sk1 (tp - 1)))) Sx hK hP hD hS 4 0 rfl rfl (pm_oth_lt hE _ _) (by decide) d_M_goDown_153 (fun H locs hP hD hS => ?_)
                have hP : va_P (dC, dI) pcl [(hm, .inr (5, [.int (nI n), .int (nI k), .ref a1, .ref a2, .int (bI wk), .int (bI fl), .int (nI cm), .ref a3, .ref a4, .int bl, .int sd, .long sm, .int co, .ref a5, .ref a6, .ref a7, .ref a8, .ref a9, .ref a10, .ref a11, .ref a12, .ref a13, .int (bI cf), .ref a14])), (a1, .inl (cI, 36, .inl (fun i9 => nI (E i9)))), (a5, .inl (cI, 10, .inl (upd Dp1 (pm_oth E (nx1 (sk1 (tp - 1))) (sk1 (tp - 1))) ((Dp1 (sk1 (tp - 1))) + 1)))), (a6, .inl (cI, 10, .inl (fun i9 => oI ((va_up Pr1 (pm_oth E (nx1 (sk1 (tp - 1))) (sk1 (tp - 1))) (sk1 (tp - 1) + 1)) i9)))), (a7, .inl (cI, 10, .inl (fun i9 => oI ((va_up Yb1 (pm_oth E (nx1 (sk1 (tp - 1))) (sk1 (tp - 1))) (nx1 (sk1 (tp - 1)) + 1)) i9)))), (a8, .inl (cI, 10, .inl (fun i9 => nI ((va_up nx1 (sk1 (tp - 1)) ((nx1 (sk1 (tp - 1))) + 1)) i9)))), (a9, .inl (cI, 10, .inl (fun i9 => nI (sk1 i9))))] H := hP
                have hD : va_D A [(hm, .inr (5, [.int (nI n), .int (nI k), .ref a1, .ref a2, .int (bI wk), .int (bI fl), .int (nI cm), .ref a3, .ref a4, .int bl, .int sd, .long sm, .int co, .ref a5, .ref a6, .ref a7, .ref a8, .ref a9, .ref a10, .ref a11, .ref a12, .ref a13, .int (bI cf), .ref a14])), (a1, .inl (cI, 36, .inl (fun i9 => nI (E i9)))), (a5, .inl (cI, 10, .inl (upd Dp1 (pm_oth E (nx1 (sk1 (tp - 1))) (sk1 (tp - 1))) ((Dp1 (sk1 (tp - 1))) + 1)))), (a6, .inl (cI, 10, .inl (fun i9 => oI ((va_up Pr1 (pm_oth E (nx1 (sk1 (tp - 1))) (sk1 (tp - 1))) (sk1 (tp - 1) + 1)) i9)))), (a7, .inl (cI, 10, .inl (fun i9 => oI ((va_up Yb1 (pm_oth E (nx1 (sk1 (tp - 1))) (sk1 (tp - 1))) (nx1 (sk1 (tp - 1)) + 1)) i9)))), (a8, .inl (cI, 10, .inl (fun i9 => nI ((va_up nx1 (sk1 (tp - 1)) ((nx1 (sk1 (tp - 1))) + 1)) i9)))), (a9, .inl (cI, 10, .inl (fun i9 => nI (sk1 i9))))] := hD
                refine lv_aload_n hx hb d_M_goDown_154 rfl (lv_at hl 4 rfl) ?_
                refine g_get Sx gf_M hK hP 0 rfl rfl 17 (by decide) gm_436 rfl d_M_goDown_155 ?_
                refine lv_iload_n hx hb d_M_goDown_158 rfl (lv_at hl 3 rfl) ?_
                refine lv_iload hx hb d_M_goDown_159 (lv_at hl 0 rfl) ?_
                refine g_istN (j := tp) Sx hK hP hD hS 6 0 rfl rfl (by have := hb5 (by assumption) (by assumption) (by assumption) (by assumption); omega) (by decide) d_M_goDown_161 (fun H locs hP hD hS => ?_)
                have hP : va_P (dC, dI) pcl [(hm, .inr (5, [.int (nI n), .int (nI k), .ref a1, .ref a2, .int (bI wk), .int (bI fl), .int (nI cm), .ref a3, .ref a4, .int bl, .int sd, .long sm, .int co, .ref a5, .ref a6, .ref a7, .ref a8, .ref a9, .ref a10, .ref a11, .ref a12, .ref a13, .int (bI cf), .ref a14])), (a1, .inl (cI, 36, .inl (fun i9 => nI (E i9)))), (a5, .inl (cI, 10, .inl (upd Dp1 (pm_oth E (nx1 (sk1 (tp - 1))) (sk1 (tp - 1))) ((Dp1 (sk1 (tp - 1))) + 1)))), (a6, .inl (cI, 10, .inl (fun i9 => oI ((va_up Pr1 (pm_oth E (nx1 (sk1 (tp - 1))) (sk1 (tp - 1))) (sk1 (tp - 1) + 1)) i9)))), (a7, .inl (cI, 10, .inl (fun i9 => oI ((va_up Yb1 (pm_oth E (nx1 (sk1 (tp - 1))) (sk1 (tp - 1))) (nx1 (sk1 (tp - 1)) + 1)) i9)))), (a8, .inl (cI, 10, .inl (fun i9 => nI ((va_up nx1 (sk1 (tp - 1)) ((nx1 (sk1 (tp - 1))) + 1)) i9)))), (a9, .inl (cI, 10, .inl (fun i9 => nI ((va_up sk1 tp (pm_oth E (nx1 (sk1 (tp - 1))) (sk1 (tp - 1)))) i9))))] H := hP
                have hD : va_D A [(hm, .inr (5, [.int (nI n), .int (nI k), .ref a1, .ref a2, .int (bI wk), .int (bI fl), .int (nI cm), .ref a3, .ref a4, .int bl, .int sd, .long sm, .int co, .ref a5, .ref a6, .ref a7, .ref a8, .ref a9, .ref a10, .ref a11, .ref a12, .ref a13, .int (bI cf), .ref a14])), (a1, .inl (cI, 36, .inl (fun i9 => nI (E i9)))), (a5, .inl (cI, 10, .inl (upd Dp1 (pm_oth E (nx1 (sk1 (tp - 1))) (sk1 (tp - 1))) ((Dp1 (sk1 (tp - 1))) + 1)))), (a6, .inl (cI, 10, .inl (fun i9 => oI ((va_up Pr1 (pm_oth E (nx1 (sk1 (tp - 1))) (sk1 (tp - 1))) (sk1 (tp - 1) + 1)) i9)))), (a7, .inl (cI, 10, .inl (fun i9 => oI ((va_up Yb1 (pm_oth E (nx1 (sk1 (tp - 1))) (sk1 (tp - 1))) (nx1 (sk1 (tp - 1)) + 1)) i9)))), (a8, .inl (cI, 10, .inl (fun i9 => nI ((va_up nx1 (sk1 (tp - 1)) ((nx1 (sk1 (tp - 1))) + 1)) i9)))), (a9, .inl (cI, 10, .inl (fun i9 => nI ((va_up sk1 tp (pm_oth E (nx1 (sk1 (tp - 1))) (sk1 (tp - 1)))) i9))))] := hD
                refine lv_iload_n hx hb d_M_goDown_162 rfl (lv_at hl 3 rfl) ?_
                refine lv_iconst (v := nI 1) hx hb d_M_goDown_163 (by decide) ?_
                refine lv_iadd hx hb d_M_goDown_164 ?_
                rw [show (((nI tp) + (nI 1)) : Int32) = nI (tp + 1) from nI_add _ _]
                refine lv_istore_n hx hb d_M_goDown_165 rfl hl (Nat.le_of_ble_eq_true rfl) rfl (fun ls hl => ?_)
                have hl : lv_has ls 7 [(3, .int (nI (tp + 1))), (6, .int (nI (pm_oth E (nx1 (sk1 (tp - 1))) (sk1 (tp - 1))))), (5, .int (nI (nx1 (sk1 (tp - 1))))), (4, .int (nI (sk1 (tp - 1)))), (0, .ref hm), (1, .int x), (2, .int (nI r0))] := hl
                refine lv_goto hx hb d_M_goDown_166 (tgt := 30) rfl ?_
                have hd9 : pm_gdD (tp, Dp1, Pr1, Yb1, nx1, sk1) = false := by simp [pm_gdD, pm_gdS, q2, q3, q3n, q4, q5, q6]
                have hs9 : (pm_gdS k E x) (tp, Dp1, Pr1, Yb1, nx1, sk1) = (tp + 1, upd Dp1 (pm_oth E (nx1 (sk1 (tp - 1))) (sk1 (tp - 1))) ((Dp1 (sk1 (tp - 1))) + 1), va_up Pr1 (pm_oth E (nx1 (sk1 (tp - 1))) (sk1 (tp - 1))) (sk1 (tp - 1) + 1), va_up Yb1 (pm_oth E (nx1 (sk1 (tp - 1))) (sk1 (tp - 1))) (nx1 (sk1 (tp - 1)) + 1), va_up nx1 (sk1 (tp - 1)) ((nx1 (sk1 (tp - 1))) + 1), va_up sk1 tp (pm_oth E (nx1 (sk1 (tp - 1))) (sk1 (tp - 1)))) := by simp [pm_gdD, pm_gdS, q2, q3, q3n, q4, q5, q6]
                have ht9 : wl pm_gdD (pm_gdS k E x) fu30 (tp + 1, upd Dp1 (pm_oth E (nx1 (sk1 (tp - 1))) (sk1 (tp - 1))) ((Dp1 (sk1 (tp - 1))) + 1), va_up Pr1 (pm_oth E (nx1 (sk1 (tp - 1))) (sk1 (tp - 1))) (sk1 (tp - 1) + 1), va_up Yb1 (pm_oth E (nx1 (sk1 (tp - 1))) (sk1 (tp - 1))) (nx1 (sk1 (tp - 1)) + 1), va_up nx1 (sk1 (tp - 1)) ((nx1 (sk1 (tp - 1))) + 1), va_up sk1 tp (pm_oth E (nx1 (sk1 (tp - 1))) (sk1 (tp - 1)))) = (pm_gd k E x r0 Dp Pr Yb nx sk) := by rw [← ht30, wl_st hd9, hs9]
                exact ih30 (tp + 1) (upd Dp1 (pm_oth E (nx1 (sk1 (tp - 1))) (sk1 (tp - 1))) ((Dp1 (sk1 (tp - 1))) + 1)) (va_up Pr1 (pm_oth E (nx1 (sk1 (tp - 1))) (sk1 (tp - 1))) (sk1 (tp - 1) + 1)) (va_up Yb1 (pm_oth E (nx1 (sk1 (tp - 1))) (sk1 (tp - 1))) (nx1 (sk1 (tp - 1)) + 1)) (va_up nx1 (sk1 (tp - 1)) ((nx1 (sk1 (tp - 1))) + 1)) (va_up sk1 tp (pm_oth E (nx1 (sk1 (tp - 1))) (sk1 (tp - 1)))) H locs ls ht9 (hs9 ▸ hI9) hP hD hS (lv_sub hl [0, 4, 5, 6] rfl)
        · have q3 : k ≤ (nx1 (sk1 (tp - 1))) := nq_nlt (by omega) (by omega) q3
          have q3n := Nat.not_lt.mpr q3
          refine lv_iload_n hx hb d_M_goDown_73 rfl (lv_at hl 2 rfl) ?_
          refine lv_iconst (v := nI 1) hx hb d_M_goDown_74 (by decide) ?_
          refine lv_isub hx hb d_M_goDown_75 ?_
          rw [show (((nI tp) - (nI 1)) : Int32) = nI (tp - 1) from pk_sub (by omega)]
          refine lv_istore_n hx hb d_M_goDown_76 rfl hl (Nat.le_of_ble_eq_true rfl) rfl (fun ls hl => ?_)
          have hl : lv_has ls 7 [(3, .int (nI (tp - 1))), (5, .int (nI (nx1 (sk1 (tp - 1))))), (4, .int (nI (sk1 (tp - 1)))), (0, .ref hm), (1, .int x), (2, .int (nI r0))] := hl
          refine lv_goto hx hb d_M_goDown_77 (tgt := 166) rfl ?_
          refine lv_goto hx hb d_M_goDown_166 (tgt := 30) rfl ?_
          have hd9 : pm_gdD (tp, Dp1, Pr1, Yb1, nx1, sk1) = false := by simp [pm_gdD, pm_gdS, q2, q3, q3n]
          have hs9 : (pm_gdS k E x) (tp, Dp1, Pr1, Yb1, nx1, sk1) = (tp - 1, Dp1, Pr1, Yb1, va_up nx1 (sk1 (tp - 1)) ((nx1 (sk1 (tp - 1))) + 1), sk1) := by simp [pm_gdD, pm_gdS, q2, q3, q3n]
          have ht9 : wl pm_gdD (pm_gdS k E x) fu30 (tp - 1, Dp1, Pr1, Yb1, va_up nx1 (sk1 (tp - 1)) ((nx1 (sk1 (tp - 1))) + 1), sk1) = (pm_gd k E x r0 Dp Pr Yb nx sk) := by rw [← ht30, wl_st hd9, hs9]
          exact ih30 (tp - 1) Dp1 Pr1 Yb1 (va_up nx1 (sk1 (tp - 1)) ((nx1 (sk1 (tp - 1))) + 1)) sk1 H locs ls ht9 (hs9 ▸ hI9) hP hD hS (lv_sub hl [0, 3, 4, 5] rfl)
  exact hL30 400 1 (upd Dp r0 0) (va_up Pr r0 0) (va_up Yb r0 0) nx (va_up sk 0 r0) H locs ls rfl hI0 hP hD hS (lv_sub hl [0, 1, 2, 3] rfl)
theorem d_M_plant_0 : decode k_M_plant 0 = .ok (.iconst 0, 1) := by decide +kernel
theorem d_M_plant_1 : decode k_M_plant 1 = .ok (.istore_n 2, 1) := by decide +kernel
theorem d_M_plant_2 : decode k_M_plant 2 = .ok (.iload_n 2, 1) := by decide +kernel
theorem d_M_plant_3 : decode k_M_plant 3 = .ok (.bipush 10, 2) := by decide +kernel
theorem d_M_plant_5 : decode k_M_plant 5 = .ok (.if_icmp .ge 23, 3) := by decide +kernel
theorem d_M_plant_8 : decode k_M_plant 8 = .ok (.aload_n 0, 1) := by decide +kernel
theorem d_M_plant_9 : decode k_M_plant 9 = .ok (.getfield 22, 3) := by decide +kernel
theorem d_M_plant_12 : decode k_M_plant 12 = .ok (.iload_n 2, 1) := by decide +kernel
theorem d_M_plant_13 : decode k_M_plant 13 = .ok (.iconst (-1), 1) := by decide +kernel
theorem d_M_plant_14 : decode k_M_plant 14 = .ok (.iastore, 1) := by decide +kernel
theorem d_M_plant_15 : decode k_M_plant 15 = .ok (.aload_n 0, 1) := by decide +kernel
theorem d_M_plant_16 : decode k_M_plant 16 = .ok (.getfield 31, 3) := by decide +kernel
theorem d_M_plant_19 : decode k_M_plant 19 = .ok (.iload_n 2, 1) := by decide +kernel
theorem d_M_plant_20 : decode k_M_plant 20 = .ok (.iconst 0, 1) := by decide +kernel
theorem d_M_plant_21 : decode k_M_plant 21 = .ok (.iastore, 1) := by decide +kernel
theorem d_M_plant_22 : decode k_M_plant 22 = .ok (.iinc 2 1, 3) := by decide +kernel
theorem d_M_plant_25 : decode k_M_plant 25 = .ok (.goto (-23), 3) := by decide +kernel
theorem d_M_plant_28 : decode k_M_plant 28 = .ok (.iconst 0, 1) := by decide +kernel
theorem d_M_plant_29 : decode k_M_plant 29 = .ok (.istore_n 2, 1) := by decide +kernel
theorem d_M_plant_30 : decode k_M_plant 30 = .ok (.iload_n 2, 1) := by decide +kernel
theorem d_M_plant_31 : decode k_M_plant 31 = .ok (.aload_n 0, 1) := by decide +kernel
theorem d_M_plant_32 : decode k_M_plant 32 = .ok (.getfield 52, 3) := by decide +kernel
theorem d_M_plant_35 : decode k_M_plant 35 = .ok (.if_icmp .ge 24, 3) := by decide +kernel
theorem d_M_plant_38 : decode k_M_plant 38 = .ok (.aload_n 0, 1) := by decide +kernel
theorem d_M_plant_39 : decode k_M_plant 39 = .ok (.getfield 22, 3) := by decide +kernel
theorem d_M_plant_42 : decode k_M_plant 42 = .ok (.iload_n 2, 1) := by decide +kernel
theorem d_M_plant_43 : decode k_M_plant 43 = .ok (.iaload, 1) := by decide +kernel
theorem d_M_plant_44 : decode k_M_plant 44 = .ok (.ifCond .ge 9, 3) := by decide +kernel
theorem d_M_plant_47 : decode k_M_plant 47 = .ok (.aload_n 0, 1) := by decide +kernel
theorem d_M_plant_48 : decode k_M_plant 48 = .ok (.iload_n 1, 1) := by decide +kernel
theorem d_M_plant_49 : decode k_M_plant 49 = .ok (.iload_n 2, 1) := by decide +kernel
theorem d_M_plant_50 : decode k_M_plant 50 = .ok (.invokevirtual 81, 3) := by decide +kernel
theorem d_M_plant_53 : decode k_M_plant 53 = .ok (.iinc 2 1, 3) := by decide +kernel
theorem d_M_plant_56 : decode k_M_plant 56 = .ok (.goto (-26), 3) := by decide +kernel
theorem d_M_plant_59 : decode k_M_plant 59 = .ok (.iconst 0, 1) := by decide +kernel
theorem d_M_plant_60 : decode k_M_plant 60 = .ok (.istore_n 2, 1) := by decide +kernel
theorem d_M_plant_61 : decode k_M_plant 61 = .ok (.iload_n 2, 1) := by decide +kernel
theorem d_M_plant_62 : decode k_M_plant 62 = .ok (.aload_n 0, 1) := by decide +kernel
theorem d_M_plant_63 : decode k_M_plant 63 = .ok (.getfield 56, 3) := by decide +kernel
theorem d_M_plant_66 : decode k_M_plant 66 = .ok (.if_icmp .ge 86, 3) := by decide +kernel
theorem d_M_plant_69 : decode k_M_plant 69 = .ok (.aload_n 0, 1) := by decide +kernel
theorem d_M_plant_70 : decode k_M_plant 70 = .ok (.getfield 7, 3) := by decide +kernel
theorem d_M_plant_73 : decode k_M_plant 73 = .ok (.iconst 2, 1) := by decide +kernel
theorem d_M_plant_74 : decode k_M_plant 74 = .ok (.iload_n 2, 1) := by decide +kernel
theorem d_M_plant_75 : decode k_M_plant 75 = .ok (.imul, 1) := by decide +kernel
theorem d_M_plant_76 : decode k_M_plant 76 = .ok (.iaload, 1) := by decide +kernel
theorem d_M_plant_77 : decode k_M_plant 77 = .ok (.istore_n 3, 1) := by decide +kernel
theorem d_M_plant_78 : decode k_M_plant 78 = .ok (.aload_n 0, 1) := by decide +kernel
theorem d_M_plant_79 : decode k_M_plant 79 = .ok (.getfield 7, 3) := by decide +kernel
theorem d_M_plant_82 : decode k_M_plant 82 = .ok (.iconst 2, 1) := by decide +kernel
theorem d_M_plant_83 : decode k_M_plant 83 = .ok (.iload_n 2, 1) := by decide +kernel
theorem d_M_plant_84 : decode k_M_plant 84 = .ok (.imul, 1) := by decide +kernel
theorem d_M_plant_85 : decode k_M_plant 85 = .ok (.iconst 1, 1) := by decide +kernel
theorem d_M_plant_86 : decode k_M_plant 86 = .ok (.iadd, 1) := by decide +kernel
theorem d_M_plant_87 : decode k_M_plant 87 = .ok (.iaload, 1) := by decide +kernel
theorem d_M_plant_88 : decode k_M_plant 88 = .ok (.istore 4, 2) := by decide +kernel
theorem d_M_plant_90 : decode k_M_plant 90 = .ok (.aload_n 0, 1) := by decide +kernel
theorem d_M_plant_91 : decode k_M_plant 91 = .ok (.getfield 37, 3) := by decide +kernel
theorem d_M_plant_94 : decode k_M_plant 94 = .ok (.iload_n 2, 1) := by decide +kernel
theorem d_M_plant_95 : decode k_M_plant 95 = .ok (.aload_n 0, 1) := by decide +kernel
theorem d_M_plant_96 : decode k_M_plant 96 = .ok (.getfield 22, 3) := by decide +kernel
theorem d_M_plant_99 : decode k_M_plant 99 = .ok (.iload_n 3, 1) := by decide +kernel
theorem d_M_plant_100 : decode k_M_plant 100 = .ok (.iaload, 1) := by decide +kernel
theorem d_M_plant_101 : decode k_M_plant 101 = .ok (.aload_n 0, 1) := by decide +kernel
theorem d_M_plant_102 : decode k_M_plant 102 = .ok (.getfield 22, 3) := by decide +kernel
theorem d_M_plant_105 : decode k_M_plant 105 = .ok (.iload 4, 2) := by decide +kernel
theorem d_M_plant_107 : decode k_M_plant 107 = .ok (.iaload, 1) := by decide +kernel
theorem d_M_plant_108 : decode k_M_plant 108 = .ok (.if_icmp .le 7, 3) := by decide +kernel
theorem d_M_plant_111 : decode k_M_plant 111 = .ok (.iload_n 3, 1) := by decide +kernel
theorem d_M_plant_112 : decode k_M_plant 112 = .ok (.goto 5, 3) := by decide +kernel
theorem d_M_plant_115 : decode k_M_plant 115 = .ok (.iload 4, 2) := by decide +kernel
theorem d_M_plant_117 : decode k_M_plant 117 = .ok (.iastore, 1) := by decide +kernel
theorem d_M_plant_118 : decode k_M_plant 118 = .ok (.aload_n 0, 1) := by decide +kernel
theorem d_M_plant_119 : decode k_M_plant 119 = .ok (.getfield 40, 3) := by decide +kernel
theorem d_M_plant_122 : decode k_M_plant 122 = .ok (.iload_n 2, 1) := by decide +kernel
theorem d_M_plant_123 : decode k_M_plant 123 = .ok (.aload_n 0, 1) := by decide +kernel
theorem d_M_plant_124 : decode k_M_plant 124 = .ok (.getfield 22, 3) := by decide +kernel
theorem d_M_plant_127 : decode k_M_plant 127 = .ok (.iload_n 3, 1) := by decide +kernel
theorem d_M_plant_128 : decode k_M_plant 128 = .ok (.iaload, 1) := by decide +kernel
theorem d_M_plant_129 : decode k_M_plant 129 = .ok (.aload_n 0, 1) := by decide +kernel
theorem d_M_plant_130 : decode k_M_plant 130 = .ok (.getfield 22, 3) := by decide +kernel
theorem d_M_plant_133 : decode k_M_plant 133 = .ok (.iload 4, 2) := by decide +kernel
theorem d_M_plant_135 : decode k_M_plant 135 = .ok (.iaload, 1) := by decide +kernel
theorem d_M_plant_136 : decode k_M_plant 136 = .ok (.if_icmp .le 8, 3) := by decide +kernel
theorem d_M_plant_139 : decode k_M_plant 139 = .ok (.iload 4, 2) := by decide +kernel
theorem d_M_plant_141 : decode k_M_plant 141 = .ok (.goto 4, 3) := by decide +kernel
theorem d_M_plant_144 : decode k_M_plant 144 = .ok (.iload_n 3, 1) := by decide +kernel
theorem d_M_plant_145 : decode k_M_plant 145 = .ok (.iastore, 1) := by decide +kernel
theorem d_M_plant_146 : decode k_M_plant 146 = .ok (.iinc 2 1, 3) := by decide +kernel
theorem d_M_plant_149 : decode k_M_plant 149 = .ok (.goto (-88), 3) := by decide +kernel
theorem d_M_plant_152 : decode k_M_plant 152 = .ok (.return_, 1) := by decide +kernel
abbrev rm_M_plant : Room := { frames := 2, cells := 0, slots := 0, locals := 48 }
theorem hd_M_plant : y_M_plant.cls = n_M ∧ y_M_plant.cls ≠ "java/lang/invoke/MethodHandle" ∧ y_M_plant.cls ≠ "java/lang/invoke/VarHandle" ∧ (parseMethodDescriptor y_M_plant.desc).map (fun d => d.parameters.length) = some 1 := by decide +kernel
set_option maxHeartbeats 4000000 in
set_option maxRecDepth 100000 in
theorem c_M_plant (l : Launch) (dC : Nat → ClassId) (dI : Nat → Nat → Nat) (n : Nat) (k : Nat) (wk : Bool) (fl : Bool) (cm : Nat) (bl : Int32) (sd : Int32) (sm : Int64) (co : Int32) (cf : Bool) (hm : Nat) (a1 : Nat) (a2 : Nat) (a3 : Nat) (a4 : Nat) (a5 : Nat) (a6 : Nat) (a7 : Nat) (a8 : Nat) (a9 : Nat) (a10 : Nat) (a11 : Nat) (a12 : Nat) (a13 : Nat) (a14 : Nat) (cI : ClassId) (E : Nat → Nat) (Dp : Nat → Int32) (Pr : Nat → Nat) (Yb : Nat → Nat) (nx : Nat → Nat) (sk : Nat → Nat) (dq : Nat → Nat) (sh : Nat → Nat) (x : Int32) (sz : Nat) (hn : n ≤ 10) (hk : k ≤ 18) (hE : ∀ j, E j < 10) (hpl : pm_plOK n k E x Dp Pr Yb nx sk) : Met l y_M_plant (.code y_M_plant k_M_plant 5 none :: gw) rm_M_plant (rwP [.ref hm, .int x] (dC, dI) [(hm, .inr (5, [.int (nI n), .int (nI k), .ref a1, .ref a2, .int (bI wk), .int (bI fl), .int (nI cm), .ref a3, .ref a4, .int bl, .int sd, .long sm, .int co, .ref a5, .ref a6, .ref a7, .ref a8, .ref a9, .ref a10, .ref a11, .ref a12, .ref a13, .int (bI cf), .ref a14])), (a1, .inl (cI, 36, .inl (fun i9 => nI (E i9)))), (a5, .inl (cI, 10, .inl Dp)), (a6, .inl (cI, 10, .inl (fun i9 => oI (Pr i9)))), (a7, .inl (cI, 10, .inl (fun i9 => oI (Yb i9)))), (a8, .inl (cI, 10, .inl (fun i9 => nI (nx i9)))), (a9, .inl (cI, 10, .inl (fun i9 => nI (sk i9)))), (a10, .inl (cI, 18, .inl (fun i9 => nI (dq i9)))), (a11, .inl (cI, 18, .inl (fun i9 => nI (sh i9))))] [(cI, .int)] sz) (va_Qv (fun _ : Unit => True) (rwB (dC, dI) [(hm, .inr (5, [.int (nI n), .int (nI k), .ref a1, .ref a2, .int (bI wk), .int (bI fl), .int (nI cm), .ref a3, .ref a4, .int bl, .int sd, .long sm, .int co, .ref a5, .ref a6, .ref a7, .ref a8, .ref a9, .ref a10, .ref a11, .ref a12, .ref a13, .int (bI cf), .ref a14])), (a1, .inl (cI, 36, .inl (fun i9 => nI (E i9)))), (a5, .inl (cI, 10, .inl ((pm_pl n k E x Dp Pr Yb nx sk).1))), (a6, .inl (cI, 10, .inl (fun i9 => oI (((pm_pl n k E x Dp Pr Yb nx sk).2.1) i9)))), (a7, .inl (cI, 10, .inl (fun i9 => oI (((pm_pl n k E x Dp Pr Yb nx sk).2.2.1) i9)))), (a8, .inl (cI, 10, .inl (fun i9 => nI (((pm_pl n k E x Dp Pr Yb nx sk).2.2.2.1) i9)))), (a9, .inl (cI, 10, .inl (fun i9 => nI (((pm_pl n k E x Dp Pr Yb nx sk).2.2.2.2) i9)))), (a10, .inl (cI, 18, .inl (fun i9 => nI (((fo (pm_p3 E (pm_pl n k E x Dp Pr Yb nx sk).1) k (dq, sh)).1) i9)))), (a11, .inl (cI, 18, .inl (fun i9 => nI (((fo (pm_p3 E (pm_pl n k E x Dp Pr Yb nx sk).1) k (dq, sh)).2) i9))))] [(cI, .int)] (va_A [(hm, .inr (5, [.int (nI n), .int (nI k), .ref a1, .ref a2, .int (bI wk), .int (bI fl), .int (nI cm), .ref a3, .ref a4, .int bl, .int sd, .long sm, .int co, .ref a5, .ref a6, .ref a7, .ref a8, .ref a9, .ref a10, .ref a11, .ref a12, .ref a13, .int (bI cf), .ref a14])), (a1, .inl (cI, 36, .inl (fun i9 => nI (E i9)))), (a5, .inl (cI, 10, .inl Dp)), (a6, .inl (cI, 10, .inl (fun i9 => oI (Pr i9)))), (a7, .inl (cI, 10, .inl (fun i9 => oI (Yb i9)))), (a8, .inl (cI, 10, .inl (fun i9 => nI (nx i9)))), (a9, .inl (cI, 10, .inl (fun i9 => nI (sk i9)))), (a10, .inl (cI, 18, .inl (fun i9 => nI (dq i9)))), (a11, .inl (cI, 18, .inl (fun i9 => nI (sh i9))))] sz)) (va_A [(hm, .inr (5, [.int (nI n), .int (nI k), .ref a1, .ref a2, .int (bI wk), .int (bI fl), .int (nI cm), .ref a3, .ref a4, .int bl, .int sd, .long sm, .int co, .ref a5, .ref a6, .ref a7, .ref a8, .ref a9, .ref a10, .ref a11, .ref a12, .ref a13, .int (bI cf), .ref a14])), (a1, .inl (cI, 36, .inl (fun i9 => nI (E i9)))), (a5, .inl (cI, 10, .inl Dp)), (a6, .inl (cI, 10, .inl (fun i9 => oI (Pr i9)))), (a7, .inl (cI, 10, .inl (fun i9 => oI (Yb i9)))), (a8, .inl (cI, 10, .inl (fun i9 => nI (nx i9)))), (a9, .inl (cI, 10, .inl (fun i9 => nI (sk i9)))), (a10, .inl (cI, 18, .inl (fun i9 => nI (dq i9)))), (a11, .inl (cI, 18, .inl (fun i9 => nI (sh i9))))] sz)) 0 0 (va_A [(hm, .inr (5, [.int (nI n), .int (nI k), .ref a1, .ref a2, .int (bI wk), .int (bI fl), .int (nI cm), .ref a3, .ref a4, .int bl, .int sd, .long sm, .int co, .ref a5, .ref a6, .ref a7, .ref a8, .ref a9, .ref a10, .ref a11, .ref a12, .ref a13, .int (bI cf), .ref a14])), (a1, .inl (cI, 36, .inl (fun i9 => nI (E i9)))), (a5, .inl (cI, 10, .inl Dp)), (a6, .inl (cI, 10, .inl (fun i9 => oI (Pr i9)))), (a7, .inl (cI, 10, .inl (fun i9 => oI (Yb i9)))), (a8, .inl (cI, 10, .inl (fun i9 => nI (nx i9)))), (a9, .inl (cI, 10, .inl (fun i9 => nI (sk i9)))), (a10, .inl (cI, 18, .inl (fun i9 => nI (dq i9)))), (a11, .inl (cI, 18, .inl (fun i9 => nI (sh i9))))] sz) := by
  refine rw_met (by decide) ⟨rfl, rfl⟩ (Nat.le_of_ble_eq_true rfl) ?_
  intro p e s m args below meth c Q A ls Sx hP hK hD hA hl hret
  have hx := Sx.1
  have hb := Sx.2.1
  have hl : lv_has ls 5 [(0, .ref hm), (1, .int x)] := hl
  have hS : va_S A s.heap s.heap [] := va_S.rf
  obtain ⟨H, hH⟩ : ∃ H, H = s.heap := ⟨_, rfl⟩
  obtain ⟨locs, hlo⟩ : ∃ locs : List Loc, locs = [] := ⟨_, rfl⟩
  rw [← hlo]
  rw [← hlo] at hS
  have hP : va_P (dC, dI) pcl [(hm, .inr (5, [.int (nI n), .int (nI k), .ref a1, .ref a2, .int (bI wk), .int (bI fl), .int (nI cm), .ref a3, .ref a4, .int bl, .int sd, .long sm, .int co, .ref a5, .ref a6, .ref a7, .ref a8, .ref a9, .ref a10, .ref a11, .ref a12, .ref a13, .int (bI cf), .ref a14])), (a1, .inl (cI, 36, .inl (fun i9 => nI (E i9)))), (a5, .inl (cI, 10, .inl Dp)), (a6, .inl (cI, 10, .inl (fun i9 => oI (Pr i9)))), (a7, .inl (cI, 10, .inl (fun i9 => oI (Yb i9)))), (a8, .inl (cI, 10, .inl (fun i9 => nI (nx i9)))), (a9, .inl (cI, 10, .inl (fun i9 => nI (sk i9)))), (a10, .inl (cI, 18, .inl (fun i9 => nI (dq i9)))), (a11, .inl (cI, 18, .inl (fun i9 => nI (sh i9))))] H := by rw [hH]; exact hP
  have hS : va_S A s.heap H locs := by rw [hH]; exact hS
  suffices hgo : W p l e rm_M_plant s m args below meth c H locs 0 0 Q (F0 m 0 ls []) by rw [hH] at hgo; exact hgo
  refine lv_iconst (v := nI 0) hx hb d_M_plant_0 (by decide) ?_
  refine lv_istore_n hx hb d_M_plant_1 rfl hl (Nat.le_of_ble_eq_true rfl) rfl (fun ls hl => ?_)
  have hl : lv_has ls 5 [(2, .int (nI 0)), (0, .ref hm), (1, .int x)] := hl
  have hL2 : ∀ (kk i : Nat), i + kk = 10 → ∀ (Dp1 : Nat → Int32) (nx1 : Nat → Nat) (H : Heap) (locs : List Loc) (ls : Array Slot), (Dp1, nx1) = fo pm_p1 i (Dp, nx) → va_P (dC, dI) pcl [(hm, .inr (5, [.int (nI n), .int (nI k), .ref a1, .ref a2, .int (bI wk), .int (bI fl), .int (nI cm), .ref a3, .ref a4, .int bl, .int sd, .long sm, .int co, .ref a5, .ref a6, .ref a7, .ref a8, .ref a9, .ref a10, .ref a11, .ref a12, .ref a13, .int (bI cf), .ref a14])), (a1, .inl (cI, 36, .inl (fun i9 => nI (E i9)))), (a5, .inl (cI, 10, .inl Dp1)), (a6, .inl (cI, 10, .inl (fun i9 => oI (Pr i9)))), (a7, .inl (cI, 10, .inl (fun i9 => oI (Yb i9)))), (a8, .inl (cI, 10, .inl (fun i9 => nI (nx1 i9)))), (a9, .inl (cI, 10, .inl (fun i9 => nI (sk i9)))), (a10, .inl (cI, 18, .inl (fun i9 => nI (dq i9)))), (a11, .inl (cI, 18, .inl (fun i9 => nI (sh i9))))] H → va_D A [(hm, .inr (5, [.int (nI n), .int (nI k), .ref a1, .ref a2, .int (bI wk), .int (bI fl), .int (nI cm), .ref a3, .ref a4, .int bl, .int sd, .long sm, .int co, .ref a5, .ref a6, .ref a7, .ref a8, .ref a9, .ref a10, .ref a11, .ref a12, .ref a13, .int (bI cf), .ref a14])), (a1, .inl (cI, 36, .inl (fun i9 => nI (E i9)))), (a5, .inl (cI, 10, .inl Dp1)), (a6, .inl (cI, 10, .inl (fun i9 => oI (Pr i9)))), (a7, .inl (cI, 10, .inl (fun i9 => oI (Yb i9)))), (a8, .inl (cI, 10, .inl (fun i9 => nI (nx1 i9)))), (a9, .inl (cI, 10, .inl (fun i9 => nI (sk i9)))), (a10, .inl (cI, 18, .inl (fun i9 => nI (dq i9)))), (a11, .inl (cI, 18, .inl (fun i9 => nI (sh i9))))] → va_S A s.heap H locs → lv_has ls 5 [(2, .int (nI i)), (0, .ref hm), (1, .int x)] → W p l e rm_M_plant s m args below meth c H locs 0 0 Q (F0 m 2 ls []) := by
    intro kk
    induction kk with
    | zero =>
      intro i hi2 Dp1 nx1 H locs ls he2 hP hD hS hl
      have hj2 : i = 10 := by omega
      rw [hj2] at hl he2
      have e_Dp1 : Dp1 = (fo pm_p1 10 (Dp, nx)).1 := by rw [← he2]
      subst e_Dp1
      have e_nx1 : nx1 = (fo pm_p1 10 (Dp, nx)).2 := by rw [← he2]
      subst e_nx1
      have hl : lv_has ls 5 [(2, .int (nI 10)), (0, .ref hm), (1, .int x)] := hl
      have hP : va_P (dC, dI) pcl [(hm, .inr (5, [.int (nI n), .int (nI k), .ref a1, .ref a2, .int (bI wk), .int (bI fl), .int (nI cm), .ref a3, .ref a4, .int bl, .int sd, .long sm, .int co, .ref a5, .ref a6, .ref a7, .ref a8, .ref a9, .ref a10, .ref a11, .ref a12, .ref a13, .int (bI cf), .ref a14])), (a1, .inl (cI, 36, .inl (fun i9 => nI (E i9)))), (a5, .inl (cI, 10, .inl ((fo pm_p1 10 (Dp, nx)).1))), (a6, .inl (cI, 10, .inl (fun i9 => oI (Pr i9)))), (a7, .inl (cI, 10, .inl (fun i9 => oI (Yb i9)))), (a8, .inl (cI, 10, .inl (fun i9 => nI (((fo pm_p1 10 (Dp, nx)).2) i9)))), (a9, .inl (cI, 10, .inl (fun i9 => nI (sk i9)))), (a10, .inl (cI, 18, .inl (fun i9 => nI (dq i9)))), (a11, .inl (cI, 18, .inl (fun i9 => nI (sh i9))))] H := hP
      have hD : va_D A [(hm, .inr (5, [.int (nI n), .int (nI k), .ref a1, .ref a2, .int (bI wk), .int (bI fl), .int (nI cm), .ref a3, .ref a4, .int bl, .int sd, .long sm, .int co, .ref a5, .ref a6, .ref a7, .ref a8, .ref a9, .ref a10, .ref a11, .ref a12, .ref a13, .int (bI cf), .ref a14])), (a1, .inl (cI, 36, .inl (fun i9 => nI (E i9)))), (a5, .inl (cI, 10, .inl ((fo pm_p1 10 (Dp, nx)).1))), (a6, .inl (cI, 10, .inl (fun i9 => oI (Pr i9)))), (a7, .inl (cI, 10, .inl (fun i9 => oI (Yb i9)))), (a8, .inl (cI, 10, .inl (fun i9 => nI (((fo pm_p1 10 (Dp, nx)).2) i9)))), (a9, .inl (cI, 10, .inl (fun i9 => nI (sk i9)))), (a10, .inl (cI, 18, .inl (fun i9 => nI (dq i9)))), (a11, .inl (cI, 18, .inl (fun i9 => nI (sh i9))))] := hD
      refine lv_iload_n hx hb d_M_plant_2 rfl (lv_at hl 0 rfl) ?_
      refine lv_bipush (v := nI 10) hx hb d_M_plant_3 (by decide) ?_
      refine lv_icmp_ge hx hb d_M_plant_5 (tgt := 28) rfl (fun q1 => ?_) (fun q1 => ?_)
      · have q1 : 10 ≤ 10 := nq_le (by omega) (by omega) q1
        refine lv_iconst (v := nI 0) hx hb d_M_plant_28 (by decide) ?_
        refine lv_istore_n hx hb d_M_plant_29 rfl hl (Nat.le_of_ble_eq_true rfl) rfl (fun ls hl => ?_)
        have hl : lv_has ls 5 [(2, .int (nI 0)), (0, .ref hm), (1, .int x)] := hl
        have hL30 : ∀ (kk i : Nat), i + kk = n → ∀ (Dp2 : Nat → Int32) (Pr2 : Nat → Nat) (Yb2 : Nat → Nat) (nx2 : Nat → Nat) (sk2 : Nat → Nat) (H : Heap) (locs : List Loc) (ls : Array Slot), (Dp2, Pr2, Yb2, nx2, sk2) = fo (pm_p2 k E x) i (pm_pl0 Dp Pr Yb nx sk) → va_P (dC, dI) pcl [(hm, .inr (5, [.int (nI n), .int (nI k), .ref a1, .ref a2, .int (bI wk), .int (bI fl), .int (nI cm), .ref a3, .ref a4, .int bl, .int sd, .long sm, .int co, .ref a5, .ref a6, .ref a7, .ref a8, .ref a9, .ref a10, .ref a11, .ref a12, .ref a13, .int (bI cf), .ref a14])), (a1, .inl (cI, 36, .inl (fun i9 => nI (E i9)))), (a5, .inl (cI, 10, .inl Dp2)), (a6, .inl (cI, 10, .inl (fun i9 => oI (Pr2 i9)))), (a7, .inl (cI, 10, .inl (fun i9 => oI (Yb2 i9)))), (a8, .inl (cI, 10, .inl (fun i9 => nI (nx2 i9)))), (a9, .inl (cI, 10, .inl (fun i9 => nI (sk2 i9)))), (a10, .inl (cI, 18, .inl (fun i9 => nI (dq i9)))), (a11, .inl (cI, 18, .inl (fun i9 => nI (sh i9))))] H → va_D A [(hm, .inr (5, [.int (nI n), .int (nI k), .ref a1, .ref a2, .int (bI wk), .int (bI fl), .int (nI cm), .ref a3, .ref a4, .int bl, .int sd, .long sm, .int co, .ref a5, .ref a6, .ref a7, .ref a8, .ref a9, .ref a10, .ref a11, .ref a12, .ref a13, .int (bI cf), .ref a14])), (a1, .inl (cI, 36, .inl (fun i9 => nI (E i9)))), (a5, .inl (cI, 10, .inl Dp2)), (a6, .inl (cI, 10, .inl (fun i9 => oI (Pr2 i9)))), (a7, .inl (cI, 10, .inl (fun i9 => oI (Yb2 i9)))), (a8, .inl (cI, 10, .inl (fun i9 => nI (nx2 i9)))), (a9, .inl (cI, 10, .inl (fun i9 => nI (sk2 i9)))), (a10, .inl (cI, 18, .inl (fun i9 => nI (dq i9)))), (a11, .inl (cI, 18, .inl (fun i9 => nI (sh i9))))] → va_S A s.heap H locs → lv_has ls 5 [(2, .int (nI i)), (0, .ref hm), (1, .int x)] → W p l e rm_M_plant s m args below meth c H locs 0 0 Q (F0 m 30 ls []) := by
          intro kk
          induction kk with
          | zero =>
            intro i hi30 Dp2 Pr2 Yb2 nx2 sk2 H locs ls he30 hP hD hS hl
            have hj30 : i = n := by omega
            rw [hj30] at hl he30
            have e_Dp2 : Dp2 = (fo (pm_p2 k E x) n (pm_pl0 Dp Pr Yb nx sk)).1 := by rw [← he30]
            subst e_Dp2
            have e_Pr2 : Pr2 = (fo (pm_p2 k E x) n (pm_pl0 Dp Pr Yb nx sk)).2.1 := by rw [← he30]
            subst e_Pr2
            have e_Yb2 : Yb2 = (fo (pm_p2 k E x) n (pm_pl0 Dp Pr Yb nx sk)).2.2.1 := by rw [← he30]
            subst e_Yb2
            have e_nx2 : nx2 = (fo (pm_p2 k E x) n (pm_pl0 Dp Pr Yb nx sk)).2.2.2.1 := by rw [← he30]
            subst e_nx2
            have e_sk2 : sk2 = (fo (pm_p2 k E x) n (pm_pl0 Dp Pr Yb nx sk)).2.2.2.2 := by rw [← he30]
            subst e_sk2
            have hl : lv_has ls 5 [(2, .int (nI n)), (0, .ref hm), (1, .int x)] := hl
            have hP : va_P (dC, dI) pcl [(hm, .inr (5, [.int (nI n), .int (nI k), .ref a1, .ref a2, .int (bI wk), .int (bI fl), .int (nI cm), .ref a3, .ref a4, .int bl, .int sd, .long sm, .int co, .ref a5, .ref a6, .ref a7, .ref a8, .ref a9, .ref a10, .ref a11, .ref a12, .ref a13, .int (bI cf), .ref a14])), (a1, .inl (cI, 36, .inl (fun i9 => nI (E i9)))), (a5, .inl (cI, 10, .inl ((fo (pm_p2 k E x) n (pm_pl0 Dp Pr Yb nx sk)).1))), (a6, .inl (cI, 10, .inl (fun i9 => oI (((fo (pm_p2 k E x) n (pm_pl0 Dp Pr Yb nx sk)).2.1) i9)))), (a7, .inl (cI, 10, .inl (fun i9 => oI (((fo (pm_p2 k E x) n (pm_pl0 Dp Pr Yb nx sk)).2.2.1) i9)))), (a8, .inl (cI, 10, .inl (fun i9 => nI (((fo (pm_p2 k E x) n (pm_pl0 Dp Pr Yb nx sk)).2.2.2.1) i9)))), (a9, .inl (cI, 10, .inl (fun i9 => nI (((fo (pm_p2 k E x) n (pm_pl0 Dp Pr Yb nx sk)).2.2.2.2) i9)))), (a10, .inl (cI, 18, .inl (fun i9 => nI (dq i9)))), (a11, .inl (cI, 18, .inl (fun i9 => nI (sh i9))))] H := hP
            have hD : va_D A [(hm, .inr (5, [.int (nI n), .int (nI k), .ref a1, .ref a2, .int (bI wk), .int (bI fl), .int (nI cm), .ref a3, .ref a4, .int bl, .int sd, .long sm, .int co, .ref a5, .ref a6, .ref a7, .ref a8, .ref a9, .ref a10, .ref a11, .ref a12, .ref a13, .int (bI cf), .ref a14])), (a1, .inl (cI, 36, .inl (fun i9 => nI (E i9)))), (a5, .inl (cI, 10, .inl ((fo (pm_p2 k E x) n (pm_pl0 Dp Pr Yb nx sk)).1))), (a6, .inl (cI, 10, .inl (fun i9 => oI (((fo (pm_p2 k E x) n (pm_pl0 Dp Pr Yb nx sk)).2.1) i9)))), (a7, .inl (cI, 10, .inl (fun i9 => oI (((fo (pm_p2 k E x) n (pm_pl0 Dp Pr Yb nx sk)).2.2.1) i9)))), (a8, .inl (cI, 10, .inl (fun i9 => nI (((fo (pm_p2 k E x) n (pm_pl0 Dp Pr Yb nx sk)).2.2.2.1) i9)))), (a9, .inl (cI, 10, .inl (fun i9 => nI (((fo (pm_p2 k E x) n (pm_pl0 Dp Pr Yb nx sk)).2.2.2.2) i9)))), (a10, .inl (cI, 18, .inl (fun i9 => nI (dq i9)))), (a11, .inl (cI, 18, .inl (fun i9 => nI (sh i9))))] := hD
            refine lv_iload_n hx hb d_M_plant_30 rfl (lv_at hl 0 rfl) ?_
            refine lv_aload_n hx hb d_M_plant_31 rfl (lv_at hl 1 rfl) ?_
            refine g_get Sx gf_M hK hP 0 rfl rfl 0 (by decide) gm_419 rfl d_M_plant_32 ?_
            refine lv_icmp_ge hx hb d_M_plant_35 (tgt := 59) rfl (fun q2 => ?_) (fun q2 => ?_)
            · have q2 : n ≤ n := nq_le (by omega) (by omega) q2
              refine lv_iconst (v := nI 0) hx hb d_M_plant_59 (by decide) ?_
              refine lv_istore_n hx hb d_M_plant_60 rfl hl (Nat.le_of_ble_eq_true rfl) rfl (fun ls hl => ?_)
              have hl : lv_has ls 5 [(2, .int (nI 0)), (0, .ref hm), (1, .int x)] := hl
              have hL61 : ∀ (kk i : Nat), i + kk = k → ∀ (dq3 : Nat → Nat) (sh3 : Nat → Nat) (H : Heap) (locs : List Loc) (ls : Array Slot), (dq3, sh3) = fo (pm_p3 E (pm_pl n k E x Dp Pr Yb nx sk).1) i (dq, sh) → va_P (dC, dI) pcl [(hm, .inr (5, [.int (nI n), .int (nI k), .ref a1, .ref a2, .int (bI wk), .int (bI fl), .int (nI cm), .ref a3, .ref a4, .int bl, .int sd, .long sm, .int co, .ref a5, .ref a6, .ref a7, .ref a8, .ref a9, .ref a10, .ref a11, .ref a12, .ref a13, .int (bI cf), .ref a14])), (a1, .inl (cI, 36, .inl (fun i9 => nI (E i9)))), (a5, .inl (cI, 10, .inl ((pm_pl n k E x Dp Pr Yb nx sk).1))), (a6, .inl (cI, 10, .inl (fun i9 => oI (((pm_pl n k E x Dp Pr Yb nx sk).2.1) i9)))), (a7, .inl (cI, 10, .inl (fun i9 => oI (((pm_pl n k E x Dp Pr Yb nx sk).2.2.1) i9)))), (a8, .inl (cI, 10, .inl (fun i9 => nI (((pm_pl n k E x Dp Pr Yb nx sk).2.2.2.1) i9)))), (a9, .inl (cI, 10, .inl (fun i9 => nI (((pm_pl n k E x Dp Pr Yb nx sk).2.2.2.2) i9)))), (a10, .inl (cI, 18, .inl (fun i9 => nI (dq3 i9)))), (a11, .inl (cI, 18, .inl (fun i9 => nI (sh3 i9))))] H → va_D A [(hm, .inr (5, [.int (nI n), .int (nI k), .ref a1, .ref a2, .int (bI wk), .int (bI fl), .int (nI cm), .ref a3, .ref a4, .int bl, .int sd, .long sm, .int co, .ref a5, .ref a6, .ref a7, .ref a8, .ref a9, .ref a10, .ref a11, .ref a12, .ref a13, .int (bI cf), .ref a14])), (a1, .inl (cI, 36, .inl (fun i9 => nI (E i9)))), (a5, .inl (cI, 10, .inl ((pm_pl n k E x Dp Pr Yb nx sk).1))), (a6, .inl (cI, 10, .inl (fun i9 => oI (((pm_pl n k E x Dp Pr Yb nx sk).2.1) i9)))), (a7, .inl (cI, 10, .inl (fun i9 => oI (((pm_pl n k E x Dp Pr Yb nx sk).2.2.1) i9)))), (a8, .inl (cI, 10, .inl (fun i9 => nI (((pm_pl n k E x Dp Pr Yb nx sk).2.2.2.1) i9)))), (a9, .inl (cI, 10, .inl (fun i9 => nI (((pm_pl n k E x Dp Pr Yb nx sk).2.2.2.2) i9)))), (a10, .inl (cI, 18, .inl (fun i9 => nI (dq3 i9)))), (a11, .inl (cI, 18, .inl (fun i9 => nI (sh3 i9))))] → va_S A s.heap H locs → lv_has ls 5 [(2, .int (nI i)), (0, .ref hm), (1, .int x)] → W p l e rm_M_plant s m args below meth c H locs 0 0 Q (F0 m 61 ls []) := by
                intro kk
                induction kk with
                | zero =>
                  intro i hi61 dq3 sh3 H locs ls he61 hP hD hS hl
                  have hj61 : i = k := by omega
                  rw [hj61] at hl he61
                  have e_dq3 : dq3 = (fo (pm_p3 E (pm_pl n k E x Dp Pr Yb nx sk).1) k (dq, sh)).1 := by rw [← he61]
                  subst e_dq3
                  have e_sh3 : sh3 = (fo (pm_p3 E (pm_pl n k E x Dp Pr Yb nx sk).1) k (dq, sh)).2 := by rw [← he61]
                  subst e_sh3
                  have hl : lv_has ls 5 [(2, .int (nI k)), (0, .ref hm), (1, .int x)] := hl
                  have hP : va_P (dC, dI) pcl [(hm, .inr (5, [.int (nI n), .int (nI k), .ref a1, .ref a2, .int (bI wk), .int (bI fl), .int (nI cm), .ref a3, .ref a4, .int bl, .int sd, .long sm, .int co, .ref a5, .ref a6, .ref a7, .ref a8, .ref a9, .ref a10, .ref a11, .ref a12, .ref a13, .int (bI cf), .ref a14])), (a1, .inl (cI, 36, .inl (fun i9 => nI (E i9)))), (a5, .inl (cI, 10, .inl ((pm_pl n k E x Dp Pr Yb nx sk).1))), (a6, .inl (cI, 10, .inl (fun i9 => oI (((pm_pl n k E x Dp Pr Yb nx sk).2.1) i9)))), (a7, .inl (cI, 10, .inl (fun i9 => oI (((pm_pl n k E x Dp Pr Yb nx sk).2.2.1) i9)))), (a8, .inl (cI, 10, .inl (fun i9 => nI (((pm_pl n k E x Dp Pr Yb nx sk).2.2.2.1) i9)))), (a9, .inl (cI, 10, .inl (fun i9 => nI (((pm_pl n k E x Dp Pr Yb nx sk).2.2.2.2) i9)))), (a10, .inl (cI, 18, .inl (fun i9 => nI (((fo (pm_p3 E (pm_pl n k E x Dp Pr Yb nx sk).1) k (dq, sh)).1) i9)))), (a11, .inl (cI, 18, .inl (fun i9 => nI (((fo (pm_p3 E (pm_pl n k E x Dp Pr Yb nx sk).1) k (dq, sh)).2) i9))))] H := hP
                  have hD : va_D A [(hm, .inr (5, [.int (nI n), .int (nI k), .ref a1, .ref a2, .int (bI wk), .int (bI fl), .int (nI cm), .ref a3, .ref a4, .int bl, .int sd, .long sm, .int co, .ref a5, .ref a6, .ref a7, .ref a8, .ref a9, .ref a10, .ref a11, .ref a12, .ref a13, .int (bI cf), .ref a14])), (a1, .inl (cI, 36, .inl (fun i9 => nI (E i9)))), (a5, .inl (cI, 10, .inl ((pm_pl n k E x Dp Pr Yb nx sk).1))), (a6, .inl (cI, 10, .inl (fun i9 => oI (((pm_pl n k E x Dp Pr Yb nx sk).2.1) i9)))), (a7, .inl (cI, 10, .inl (fun i9 => oI (((pm_pl n k E x Dp Pr Yb nx sk).2.2.1) i9)))), (a8, .inl (cI, 10, .inl (fun i9 => nI (((pm_pl n k E x Dp Pr Yb nx sk).2.2.2.1) i9)))), (a9, .inl (cI, 10, .inl (fun i9 => nI (((pm_pl n k E x Dp Pr Yb nx sk).2.2.2.2) i9)))), (a10, .inl (cI, 18, .inl (fun i9 => nI (((fo (pm_p3 E (pm_pl n k E x Dp Pr Yb nx sk).1) k (dq, sh)).1) i9)))), (a11, .inl (cI, 18, .inl (fun i9 => nI (((fo (pm_p3 E (pm_pl n k E x Dp Pr Yb nx sk).1) k (dq, sh)).2) i9))))] := hD
                  refine lv_iload_n hx hb d_M_plant_61 rfl (lv_at hl 0 rfl) ?_
                  refine lv_aload_n hx hb d_M_plant_62 rfl (lv_at hl 1 rfl) ?_
                  refine g_get Sx gf_M hK hP 0 rfl rfl 1 (by decide) gm_420 rfl d_M_plant_63 ?_
                  refine lv_icmp_ge hx hb d_M_plant_66 (tgt := 152) rfl (fun q3 => ?_) (fun q3 => ?_)
                  · have q3 : k ≤ k := nq_le (by omega) (by omega) q3
                    exact hret _ H locs _ d_M_plant_152 hP hD hS
                  · have q3 : k < k := nq_nle (by omega) (by omega) q3
                    exact absurd q3 (by omega)
                | succ kk ih61 =>
                  intro i hi61 dq3 sh3 H locs ls he61 hP hD hS hl
                  refine lv_iload_n hx hb d_M_plant_61 rfl (lv_at hl 0 rfl) ?_
                  refine lv_aload_n hx hb d_M_plant_62 rfl (lv_at hl 1 rfl) ?_
                  refine g_get Sx gf_M hK hP 0 rfl rfl 1 (by decide) gm_420 rfl d_M_plant_63 ?_
                  refine lv_icmp_ge hx hb d_M_plant_66 (tgt := 152) rfl (fun q4 => ?_) (fun q4 => ?_)
                  · have q4 : k ≤ i := nq_le (by omega) (by omega) q4
                    exact absurd q4 (by omega)
                  · have q4 : i < k := nq_nle (by omega) (by omega) q4
                    refine lv_aload_n hx hb d_M_plant_69 rfl (lv_at hl 1 rfl) ?_
                    refine g_get Sx gf_M hK hP 0 rfl rfl 2 (by decide) gm_421 rfl d_M_plant_70 ?_
                    refine lv_iconst (v := nI 2) hx hb d_M_plant_73 (by decide) ?_
                    refine lv_iload_n hx hb d_M_plant_74 rfl (lv_at hl 0 rfl) ?_
                    refine lv_imul hx hb d_M_plant_75 ?_
                    rw [show (((nI 2) * (nI i)) : Int32) = nI (2 * i) from pk_mul _ _]
                    refine g_ild (j := (2 * i)) Sx hK hP 1 0 rfl rfl (by omega) (by decide) d_M_plant_76 ?_
                    refine lv_istore_n hx hb d_M_plant_77 rfl hl (Nat.le_of_ble_eq_true rfl) rfl (fun ls hl => ?_)
                    have hl : lv_has ls 5 [(3, .int (nI (E (2 * i)))), (2, .int (nI i)), (0, .ref hm), (1, .int x)] := hl
                    refine lv_aload_n hx hb d_M_plant_78 rfl (lv_at hl 2 rfl) ?_
                    refine g_get Sx gf_M hK hP 0 rfl rfl 2 (by decide) gm_421 rfl d_M_plant_79 ?_
                    refine lv_iconst (v := nI 2) hx hb d_M_plant_82 (by decide) ?_
                    refine lv_iload_n hx hb d_M_plant_83 rfl (lv_at hl 1 rfl) ?_
                    refine lv_imul hx hb d_M_plant_84 ?_
                    rw [show (((nI 2) * (nI i)) : Int32) = nI (2 * i) from pk_mul _ _]
                    refine lv_iconst (v := nI 1) hx hb d_M_plant_85 (by decide) ?_
                    refine lv_iadd hx hb d_M_plant_86 ?_
                    rw [show (((nI (2 * i)) + (nI 1)) : Int32) = nI ((2 * i) + 1) from nI_add _ _]
                    refine g_ild (j := ((2 * i) + 1)) Sx hK hP 1 0 rfl rfl (by omega) (by decide) d_M_plant_87 ?_
                    refine lv_istore hx hb d_M_plant_88 hl (Nat.le_of_ble_eq_true rfl) rfl (fun ls hl => ?_)
                    have hl : lv_has ls 5 [(4, .int (nI (E ((2 * i) + 1)))), (3, .int (nI (E (2 * i)))), (2, .int (nI i)), (0, .ref hm), (1, .int x)] := hl
                    refine lv_aload_n hx hb d_M_plant_90 rfl (lv_at hl 3 rfl) ?_
                    refine g_get Sx gf_M hK hP 0 rfl rfl 18 (by decide) gm_437 rfl d_M_plant_91 ?_
                    refine lv_iload_n hx hb d_M_plant_94 rfl (lv_at hl 2 rfl) ?_
                    refine lv_aload_n hx hb d_M_plant_95 rfl (lv_at hl 3 rfl) ?_
                    refine g_get Sx gf_M hK hP 0 rfl rfl 13 (by decide) gm_432 rfl d_M_plant_96 ?_
                    refine lv_iload_n hx hb d_M_plant_99 rfl (lv_at hl 1 rfl) ?_
                    refine g_ild (j := (E (2 * i))) Sx hK hP 2 0 rfl rfl (hE _) (by decide) d_M_plant_100 ?_
                    refine lv_aload_n hx hb d_M_plant_101 rfl (lv_at hl 3 rfl) ?_
                    refine g_get Sx gf_M hK hP 0 rfl rfl 13 (by decide) gm_432 rfl d_M_plant_102 ?_
                    refine lv_iload hx hb d_M_plant_105 (lv_at hl 0 rfl) ?_
                    refine g_ild (j := (E ((2 * i) + 1))) Sx hK hP 2 0 rfl rfl (hE _) (by decide) d_M_plant_107 ?_
                    refine lv_icmp_le hx hb d_M_plant_108 (tgt := 115) rfl (fun q5 => ?_) (fun q5 => ?_)
                    · skip
                      refine lv_iload hx hb d_M_plant_115 (lv_at hl 0 rfl) ?_
                      refine g_istN (j := i) Sx hK hP hD hS 7 0 rfl rfl (by omega) (by decide) d_M_plant_117 (fun H locs hP hD hS => ?_)
                      have hP : va_P (dC, dI) pcl [(hm, .inr (5, [.int (nI n), .int (nI k), .ref a1, .ref a2, .int (bI wk), .int (bI fl), .int (nI cm), .ref a3, .ref a4, .int bl, .int sd, .long sm, .int co, .ref a5, .ref a6, .ref a7, .ref a8, .ref a9, .ref a10, .ref a11, .ref a12, .ref a13, .int (bI cf), .ref a14])), (a1, .inl (cI, 36, .inl (fun i9 => nI (E i9)))), (a5, .inl (cI, 10, .inl ((pm_pl n k E x Dp Pr Yb nx sk).1))), (a6, .inl (cI, 10, .inl (fun i9 => oI (((pm_pl n k E x Dp Pr Yb nx sk).2.1) i9)))), (a7, .inl (cI, 10, .inl (fun i9 => oI (((pm_pl n k E x Dp Pr Yb nx sk).2.2.1) i9)))), (a8, .inl (cI, 10, .inl (fun i9 => nI (((pm_pl n k E x Dp Pr Yb nx sk).2.2.2.1) i9)))), (a9, .inl (cI, 10, .inl (fun i9 => nI (((pm_pl n k E x Dp Pr Yb nx sk).2.2.2.2) i9)))), (a10, .inl (cI, 18, .inl (fun i9 => nI ((va_up dq3 i (E ((2 * i) + 1))) i9)))), (a11, .inl (cI, 18, .inl (fun i9 => nI (sh3 i9))))] H := hP
                      have hD : va_D A [(hm, .inr (5, [.int (nI n), .int (nI k), .ref a1, .ref a2, .int (bI wk), .int (bI fl), .int (nI cm), .ref a3, .ref a4, .int bl, .int sd, .long sm, .int co, .ref a5, .ref a6, .ref a7, .ref a8, .ref a9, .ref a10, .ref a11, .ref a12, .ref a13, .int (bI cf), .ref a14])), (a1, .inl (cI, 36, .inl (fun i9 => nI (E i9)))), (a5, .inl (cI, 10, .inl ((pm_pl n k E x Dp Pr Yb nx sk).1))), (a6, .inl (cI, 10, .inl (fun i9 => oI (((pm_pl n k E x Dp Pr Yb nx sk).2.1) i9)))), (a7, .inl (cI, 10, .inl (fun i9 => oI (((pm_pl n k E x Dp Pr Yb nx sk).2.2.1) i9)))), (a8, .inl (cI, 10, .inl (fun i9 => nI (((pm_pl n k E x Dp Pr Yb nx sk).2.2.2.1) i9)))), (a9, .inl (cI, 10, .inl (fun i9 => nI (((pm_pl n k E x Dp Pr Yb nx sk).2.2.2.2) i9)))), (a10, .inl (cI, 18, .inl (fun i9 => nI ((va_up dq3 i (E ((2 * i) + 1))) i9)))), (a11, .inl (cI, 18, .inl (fun i9 => nI (sh3 i9))))] := hD
                      refine lv_aload_n hx hb d_M_plant_118 rfl (lv_at hl 3 rfl) ?_
                      refine g_get Sx gf_M hK hP 0 rfl rfl 19 (by decide) gm_438 rfl d_M_plant_119 ?_
                      refine lv_iload_n hx hb d_M_plant_122 rfl (lv_at hl 2 rfl) ?_
                      refine lv_aload_n hx hb d_M_plant_123 rfl (lv_at hl 3 rfl) ?_
                      refine g_get Sx gf_M hK hP 0 rfl rfl 13 (by decide) gm_432 rfl d_M_plant_124 ?_
                      refine lv_iload_n hx hb d_M_plant_127 rfl (lv_at hl 1 rfl) ?_
                      refine g_ild (j := (E (2 * i))) Sx hK hP 2 0 rfl rfl (hE _) (by decide) d_M_plant_128 ?_
                      refine lv_aload_n hx hb d_M_plant_129 rfl (lv_at hl 3 rfl) ?_
                      refine g_get Sx gf_M hK hP 0 rfl rfl 13 (by decide) gm_432 rfl d_M_plant_130 ?_
                      refine lv_iload hx hb d_M_plant_133 (lv_at hl 0 rfl) ?_
                      refine g_ild (j := (E ((2 * i) + 1))) Sx hK hP 2 0 rfl rfl (hE _) (by decide) d_M_plant_135 ?_
                      refine lv_icmp_le hx hb d_M_plant_136 (tgt := 144) rfl (fun q6 => ?_) (fun q6 => ?_)
                      · skip
                        refine lv_iload_n hx hb d_M_plant_144 rfl (lv_at hl 1 rfl) ?_
                        refine g_istN (j := i) Sx hK hP hD hS 8 0 rfl rfl (by omega) (by decide) d_M_plant_145 (fun H locs hP hD hS => ?_)
                        have hP : va_P (dC, dI) pcl [(hm, .inr (5, [.int (nI n), .int (nI k), .ref a1, .ref a2, .int (bI wk), .int (bI fl), .int (nI cm), .ref a3, .ref a4, .int bl, .int sd, .long sm, .int co, .ref a5, .ref a6, .ref a7, .ref a8, .ref a9, .ref a10, .ref a11, .ref a12, .ref a13, .int (bI cf), .ref a14])), (a1, .inl (cI, 36, .inl (fun i9 => nI (E i9)))), (a5, .inl (cI, 10, .inl ((pm_pl n k E x Dp Pr Yb nx sk).1))), (a6, .inl (cI, 10, .inl (fun i9 => oI (((pm_pl n k E x Dp Pr Yb nx sk).2.1) i9)))), (a7, .inl (cI, 10, .inl (fun i9 => oI (((pm_pl n k E x Dp Pr Yb nx sk).2.2.1) i9)))), (a8, .inl (cI, 10, .inl (fun i9 => nI (((pm_pl n k E x Dp Pr Yb nx sk).2.2.2.1) i9)))), (a9, .inl (cI, 10, .inl (fun i9 => nI (((pm_pl n k E x Dp Pr Yb nx sk).2.2.2.2) i9)))), (a10, .inl (cI, 18, .inl (fun i9 => nI ((va_up dq3 i (E ((2 * i) + 1))) i9)))), (a11, .inl (cI, 18, .inl (fun i9 => nI ((va_up sh3 i (E (2 * i))) i9))))] H := hP
                        have hD : va_D A [(hm, .inr (5, [.int (nI n), .int (nI k), .ref a1, .ref a2, .int (bI wk), .int (bI fl), .int (nI cm), .ref a3, .ref a4, .int bl, .int sd, .long sm, .int co, .ref a5, .ref a6, .ref a7, .ref a8, .ref a9, .ref a10, .ref a11, .ref a12, .ref a13, .int (bI cf), .ref a14])), (a1, .inl (cI, 36, .inl (fun i9 => nI (E i9)))), (a5, .inl (cI, 10, .inl ((pm_pl n k E x Dp Pr Yb nx sk).1))), (a6, .inl (cI, 10, .inl (fun i9 => oI (((pm_pl n k E x Dp Pr Yb nx sk).2.1) i9)))), (a7, .inl (cI, 10, .inl (fun i9 => oI (((pm_pl n k E x Dp Pr Yb nx sk).2.2.1) i9)))), (a8, .inl (cI, 10, .inl (fun i9 => nI (((pm_pl n k E x Dp Pr Yb nx sk).2.2.2.1) i9)))), (a9, .inl (cI, 10, .inl (fun i9 => nI (((pm_pl n k E x Dp Pr Yb nx sk).2.2.2.2) i9)))), (a10, .inl (cI, 18, .inl (fun i9 => nI ((va_up dq3 i (E ((2 * i) + 1))) i9)))), (a11, .inl (cI, 18, .inl (fun i9 => nI ((va_up sh3 i (E (2 * i))) i9))))] := hD
                        refine lv_iinc (k := 2) (v := nI (i + 1)) hx hb d_M_plant_146 hl rfl (inc_nI _) (Nat.le_of_ble_eq_true rfl) rfl (fun ls hl => ?_)
                        have hl : lv_has ls 5 [(2, .int (nI (i + 1))), (4, .int (nI (E ((2 * i) + 1)))), (3, .int (nI (E (2 * i)))), (0, .ref hm), (1, .int x)] := hl
                        refine lv_goto hx hb d_M_plant_149 (tgt := 61) rfl ?_
                        have he2 : (va_up dq3 i (E ((2 * i) + 1)), va_up sh3 i (E (2 * i))) = fo (pm_p3 E (pm_pl n k E x Dp Pr Yb nx sk).1) (i + 1) (dq, sh) := by
                          rw [fo_s, ← he61]
                          simp [pm_p3, q1, q2, q4, q5, q6]
                        exact ih61 (i + 1) (by omega) (va_up dq3 i (E ((2 * i) + 1))) (va_up sh3 i (E (2 * i))) H locs ls he2 hP hD hS (lv_sub hl [0, 3, 4] rfl)
                      · skip
                        exact absurd q5 q6
                    · skip
                      refine lv_iload_n hx hb d_M_plant_111 rfl (lv_at hl 1 rfl) ?_
                      refine lv_goto hx hb d_M_plant_112 (tgt := 117) rfl ?_
                      refine g_istN (j := i) Sx hK hP hD hS 7 0 rfl rfl (by omega) (by decide) d_M_plant_117 (fun H locs hP hD hS => ?_)
                      have hP : va_P (dC, dI) pcl [(hm, .inr (5, [.int (nI n), .int (nI k), .ref a1, .ref a2, .int (bI wk), .int (bI fl), .int (nI cm), .ref a3, .ref a4, .int bl, .int sd, .long sm, .int co, .ref a5, .ref a6, .ref a7, .ref a8, .ref a9, .ref a10, .ref a11, .ref a12, .ref a13, .int (bI cf), .ref a14])), (a1, .inl (cI, 36, .inl (fun i9 => nI (E i9)))), (a5, .inl (cI, 10, .inl ((pm_pl n k E x Dp Pr Yb nx sk).1))), (a6, .inl (cI, 10, .inl (fun i9 => oI (((pm_pl n k E x Dp Pr Yb nx sk).2.1) i9)))), (a7, .inl (cI, 10, .inl (fun i9 => oI (((pm_pl n k E x Dp Pr Yb nx sk).2.2.1) i9)))), (a8, .inl (cI, 10, .inl (fun i9 => nI (((pm_pl n k E x Dp Pr Yb nx sk).2.2.2.1) i9)))), (a9, .inl (cI, 10, .inl (fun i9 => nI (((pm_pl n k E x Dp Pr Yb nx sk).2.2.2.2) i9)))), (a10, .inl (cI, 18, .inl (fun i9 => nI ((va_up dq3 i (E (2 * i))) i9)))), (a11, .inl (cI, 18, .inl (fun i9 => nI (sh3 i9))))] H := hP
                      have hD : va_D A [(hm, .inr (5, [.int (nI n), .int (nI k), .ref a1, .ref a2, .int (bI wk), .int (bI fl), .int (nI cm), .ref a3, .ref a4, .int bl, .int sd, .long sm, .int co, .ref a5, .ref a6, .ref a7, .ref a8, .ref a9, .ref a10, .ref a11, .ref a12, .ref a13, .int (bI cf), .ref a14])), (a1, .inl (cI, 36, .inl (fun i9 => nI (E i9)))), (a5, .inl (cI, 10, .inl ((pm_pl n k E x Dp Pr Yb nx sk).1))), (a6, .inl (cI, 10, .inl (fun i9 => oI (((pm_pl n k E x Dp Pr Yb nx sk).2.1) i9)))), (a7, .inl (cI, 10, .inl (fun i9 => oI (((pm_pl n k E x Dp Pr Yb nx sk).2.2.1) i9)))), (a8, .inl (cI, 10, .inl (fun i9 => nI (((pm_pl n k E x Dp Pr Yb nx sk).2.2.2.1) i9)))), (a9, .inl (cI, 10, .inl (fun i9 => nI (((pm_pl n k E x Dp Pr Yb nx sk).2.2.2.2) i9)))), (a10, .inl (cI, 18, .inl (fun i9 => nI ((va_up dq3 i (E (2 * i))) i9)))), (a11, .inl (cI, 18, .inl (fun i9 => nI (sh3 i9))))] := hD
                      refine lv_aload_n hx hb d_M_plant_118 rfl (lv_at hl 3 rfl) ?_
                      refine g_get Sx gf_M hK hP 0 rfl rfl 19 (by decide) gm_438 rfl d_M_plant_119 ?_
                      refine lv_iload_n hx hb d_M_plant_122 rfl (lv_at hl 2 rfl) ?_
                      refine lv_aload_n hx hb d_M_plant_123 rfl (lv_at hl 3 rfl) ?_
                      refine g_get Sx gf_M hK hP 0 rfl rfl 13 (by decide) gm_432 rfl d_M_plant_124 ?_
                      refine lv_iload_n hx hb d_M_plant_127 rfl (lv_at hl 1 rfl) ?_
                      refine g_ild (j := (E (2 * i))) Sx hK hP 2 0 rfl rfl (hE _) (by decide) d_M_plant_128 ?_
                      refine lv_aload_n hx hb d_M_plant_129 rfl (lv_at hl 3 rfl) ?_
                      refine g_get Sx gf_M hK hP 0 rfl rfl 13 (by decide) gm_432 rfl d_M_plant_130 ?_
                      refine lv_iload hx hb d_M_plant_133 (lv_at hl 0 rfl) ?_
                      refine g_ild (j := (E ((2 * i) + 1))) Sx hK hP 2 0 rfl rfl (hE _) (by decide) d_M_plant_135 ?_
                      refine lv_icmp_le hx hb d_M_plant_136 (tgt := 144) rfl (fun q7 => ?_) (fun q7 => ?_)
                      · skip
                        exact absurd q7 q5
                      · skip
                        refine lv_iload hx hb d_M_plant_139 (lv_at hl 0 rfl) ?_
                        refine lv_goto hx hb d_M_plant_141 (tgt := 145) rfl ?_
                        refine g_istN (j := i) Sx hK hP hD hS 8 0 rfl rfl (by omega) (by decide) d_M_plant_145 (fun H locs hP hD hS => ?_)
                        have hP : va_P (dC, dI) pcl [(hm, .inr (5, [.int (nI n), .int (nI k), .ref a1, .ref a2, .int (bI wk), .int (bI fl), .int (nI cm), .ref a3, .ref a4, .int bl, .int sd, .long sm, .int co, .ref a5, .ref a6, .ref a7, .ref a8, .ref a9, .ref a10, .ref a11, .ref a12, .ref a13, .int (bI cf), .ref a14])), (a1, .inl (cI, 36, .inl (fun i9 => nI (E i9)))), (a5, .inl (cI, 10, .inl ((pm_pl n k E x Dp Pr Yb nx sk).1))), (a6, .inl (cI, 10, .inl (fun i9 => oI (((pm_pl n k E x Dp Pr Yb nx sk).2.1) i9)))), (a7, .inl (cI, 10, .inl (fun i9 => oI (((pm_pl n k E x Dp Pr Yb nx sk).2.2.1) i9)))), (a8, .inl (cI, 10, .inl (fun i9 => nI (((pm_pl n k E x Dp Pr Yb nx sk).2.2.2.1) i9)))), (a9, .inl (cI, 10, .inl (fun i9 => nI (((pm_pl n k E x Dp Pr Yb nx sk).2.2.2.2) i9)))), (a10, .inl (cI, 18, .inl (fun i9 => nI ((va_up dq3 i (E (2 * i))) i9)))), (a11, .inl (cI, 18, .inl (fun i9 => nI ((va_up sh3 i (E ((2 * i) + 1))) i9))))] H := hP
                        have hD : va_D A [(hm, .inr (5, [.int (nI n), .int (nI k), .ref a1, .ref a2, .int (bI wk), .int (bI fl), .int (nI cm), .ref a3, .ref a4, .int bl, .int sd, .long sm, .int co, .ref a5, .ref a6, .ref a7, .ref a8, .ref a9, .ref a10, .ref a11, .ref a12, .ref a13, .int (bI cf), .ref a14])), (a1, .inl (cI, 36, .inl (fun i9 => nI (E i9)))), (a5, .inl (cI, 10, .inl ((pm_pl n k E x Dp Pr Yb nx sk).1))), (a6, .inl (cI, 10, .inl (fun i9 => oI (((pm_pl n k E x Dp Pr Yb nx sk).2.1) i9)))), (a7, .inl (cI, 10, .inl (fun i9 => oI (((pm_pl n k E x Dp Pr Yb nx sk).2.2.1) i9)))), (a8, .inl (cI, 10, .inl (fun i9 => nI (((pm_pl n k E x Dp Pr Yb nx sk).2.2.2.1) i9)))), (a9, .inl (cI, 10, .inl (fun i9 => nI (((pm_pl n k E x Dp Pr Yb nx sk).2.2.2.2) i9)))), (a10, .inl (cI, 18, .inl (fun i9 => nI ((va_up dq3 i (E (2 * i))) i9)))), (a11, .inl (cI, 18, .inl (fun i9 => nI ((va_up sh3 i (E ((2 * i) + 1))) i9))))] := hD
                        refine lv_iinc (k := 2) (v := nI (i + 1)) hx hb d_M_plant_146 hl rfl (inc_nI _) (Nat.le_of_ble_eq_true rfl) rfl (fun ls hl => ?_)
                        have hl : lv_has ls 5 [(2, .int (nI (i + 1))), (4, .int (nI (E ((2 * i) + 1)))), (3, .int (nI (E (2 * i)))), (0, .ref hm), (1, .int x)] := hl
                        refine lv_goto hx hb d_M_plant_149 (tgt := 61) rfl ?_
                        have he2 : (va_up dq3 i (E (2 * i)), va_up sh3 i (E ((2 * i) + 1))) = fo (pm_p3 E (pm_pl n k E x Dp Pr Yb nx sk).1) (i + 1) (dq, sh) := by
                          rw [fo_s, ← he61]
                          simp [pm_p3, q1, q2, q4, q5, q7]
                        exact ih61 (i + 1) (by omega) (va_up dq3 i (E (2 * i))) (va_up sh3 i (E ((2 * i) + 1))) H locs ls he2 hP hD hS (lv_sub hl [0, 3, 4] rfl)
              exact hL61 k 0 (by omega) dq sh H locs ls rfl hP hD hS (lv_sub hl [0, 1, 2] rfl)
            · have q2 : n < n := nq_nle (by omega) (by omega) q2
              exact absurd q2 (by omega)
          | succ kk ih30 =>
            intro i hi30 Dp2 Pr2 Yb2 nx2 sk2 H locs ls he30 hP hD hS hl
            refine lv_iload_n hx hb d_M_plant_30 rfl (lv_at hl 0 rfl) ?_
            refine lv_aload_n hx hb d_M_plant_31 rfl (lv_at hl 1 rfl) ?_
            refine g_get Sx gf_M hK hP 0 rfl rfl 0 (by decide) gm_419 rfl d_M_plant_32 ?_
            refine lv_icmp_ge hx hb d_M_plant_35 (tgt := 59) rfl (fun q8 => ?_) (fun q8 => ?_)
            · have q8 : n ≤ i := nq_le (by omega) (by omega) q8
              exact absurd q8 (by omega)
            · have q8 : i < n := nq_nle (by omega) (by omega) q8
              refine lv_aload_n hx hb d_M_plant_38 rfl (lv_at hl 1 rfl) ?_
              refine g_get Sx gf_M hK hP 0 rfl rfl 13 (by decide) gm_432 rfl d_M_plant_39 ?_
              refine lv_iload_n hx hb d_M_plant_42 rfl (lv_at hl 0 rfl) ?_
              refine g_ild (j := i) Sx hK hP 2 0 rfl rfl (by omega) (by decide) d_M_plant_43 ?_
              refine lv_if_ge hx hb d_M_plant_44 (tgt := 53) rfl (fun q9 => ?_) (fun q9 => ?_)
              · skip
                refine lv_iinc (k := 0) (v := nI (i + 1)) hx hb d_M_plant_53 hl rfl (inc_nI _) (Nat.le_of_ble_eq_true rfl) rfl (fun ls hl => ?_)
                have hl : lv_has ls 5 [(2, .int (nI (i + 1))), (0, .ref hm), (1, .int x)] := hl
                refine lv_goto hx hb d_M_plant_56 (tgt := 30) rfl ?_
                have he2 : (Dp2, Pr2, Yb2, nx2, sk2) = fo (pm_p2 k E x) (i + 1) (pm_pl0 Dp Pr Yb nx sk) := by
                  rw [fo_s, ← he30]
                  simp [pm_p2, q1, q8, q9]
                exact ih30 (i + 1) (by omega) Dp2 Pr2 Yb2 nx2 sk2 H locs ls he2 hP hD hS (lv_sub hl [0, 1, 2] rfl)
              · skip
                refine lv_aload_n hx hb d_M_plant_47 rfl (lv_at hl 1 rfl) ?_
                refine lv_iload_n hx hb d_M_plant_48 rfl (lv_at hl 2 rfl) ?_
                refine lv_iload_n hx hb d_M_plant_49 rfl (lv_at hl 0 rfl) ?_
                refine rw_V (As := [.int x, .int (nI i)]) (rest := []) (wr := [(a10, .inl (cI, 18, .inl (fun i9 => nI (dq i9)))), (a11, .inl (cI, 18, .inl (fun i9 => nI (sh i9))))]) Sx (c_M_goDown l dC dI n k wk fl cm bl sd sm co cf hm a1 a2 a3 a4 a5 a6 a7 a8 a9 a10 a11 a12 a13 a14 cI E Dp2 Pr2 Yb2 nx2 sk2 x i H.size hk (by omega) hE (by have h9 := hpl i (by omega); rw [← he30] at h9; exact h9 (by assumption))) (gw_callV gm_506 gm_507 gm_30 gm_56 gm_508) hd_M_goDown ⟨rfl, rfl⟩ ⟨Nat.le_of_ble_eq_true rfl, Nat.le_of_ble_eq_true rfl⟩ hP hD hS hA (hK.sub (tys' := [(cI, .int)]) [0] rfl) [0, 1, 2, 3, 4, 5, 6] [7, 8] rfl rfl (by decide) (by decide) (by decide) rfl 0 rfl rfl hl.1 rfl (Nat.le_of_ble_eq_true rfl) d_M_plant_50 ⟨Nat.zero_le _, Nat.zero_le _⟩ (fun H locs hP hD hS => ?_)
                have hP : va_P (dC, dI) pcl [(a10, .inl (cI, 18, .inl (fun i9 => nI (dq i9)))), (a11, .inl (cI, 18, .inl (fun i9 => nI (sh i9)))), (hm, .inr (5, [.int (nI n), .int (nI k), .ref a1, .ref a2, .int (bI wk), .int (bI fl), .int (nI cm), .ref a3, .ref a4, .int bl, .int sd, .long sm, .int co, .ref a5, .ref a6, .ref a7, .ref a8, .ref a9, .ref a10, .ref a11, .ref a12, .ref a13, .int (bI cf), .ref a14])), (a1, .inl (cI, 36, .inl (fun i9 => nI (E i9)))), (a5, .inl (cI, 10, .inl ((pm_gd k E x i Dp2 Pr2 Yb2 nx2 sk2).2.1))), (a6, .inl (cI, 10, .inl (fun i9 => oI (((pm_gd k E x i Dp2 Pr2 Yb2 nx2 sk2).2.2.1) i9)))), (a7, .inl (cI, 10, .inl (fun i9 => oI (((pm_gd k E x i Dp2 Pr2 Yb2 nx2 sk2).2.2.2.1) i9)))), (a8, .inl (cI, 10, .inl (fun i9 => nI (((pm_gd k E x i Dp2 Pr2 Yb2 nx2 sk2).2.2.2.2.1) i9)))), (a9, .inl (cI, 10, .inl (fun i9 => nI (((pm_gd k E x i Dp2 Pr2 Yb2 nx2 sk2).2.2.2.2.2) i9))))] H := hP
                have hD : va_D A [(a10, .inl (cI, 18, .inl (fun i9 => nI (dq i9)))), (a11, .inl (cI, 18, .inl (fun i9 => nI (sh i9)))), (hm, .inr (5, [.int (nI n), .int (nI k), .ref a1, .ref a2, .int (bI wk), .int (bI fl), .int (nI cm), .ref a3, .ref a4, .int bl, .int sd, .long sm, .int co, .ref a5, .ref a6, .ref a7, .ref a8, .ref a9, .ref a10, .ref a11, .ref a12, .ref a13, .int (bI cf), .ref a14])), (a1, .inl (cI, 36, .inl (fun i9 => nI (E i9)))), (a5, .inl (cI, 10, .inl ((pm_gd k E x i Dp2 Pr2 Yb2 nx2 sk2).2.1))), (a6, .inl (cI, 10, .inl (fun i9 => oI (((pm_gd k E x i Dp2 Pr2 Yb2 nx2 sk2).2.2.1) i9)))), (a7, .inl (cI, 10, .inl (fun i9 => oI (((pm_gd k E x i Dp2 Pr2 Yb2 nx2 sk2).2.2.2.1) i9)))), (a8, .inl (cI, 10, .inl (fun i9 => nI (((pm_gd k E x i Dp2 Pr2 Yb2 nx2 sk2).2.2.2.2.1) i9)))), (a9, .inl (cI, 10, .inl (fun i9 => nI (((pm_gd k E x i Dp2 Pr2 Yb2 nx2 sk2).2.2.2.2.2) i9))))] := hD
                refine lv_iinc (k := 0) (v := nI (i + 1)) hx hb d_M_plant_53 hl rfl (inc_nI _) (Nat.le_of_ble_eq_true rfl) rfl (fun ls hl => ?_)
                have hl : lv_has ls 5 [(2, .int (nI (i + 1))), (0, .ref hm), (1, .int x)] := hl
                refine lv_goto hx hb d_M_plant_56 (tgt := 30) rfl ?_
                have he2 : ((pm_gd k E x i Dp2 Pr2 Yb2 nx2 sk2).2.1, (pm_gd k E x i Dp2 Pr2 Yb2 nx2 sk2).2.2.1, (pm_gd k E x i Dp2 Pr2 Yb2 nx2 sk2).2.2.2.1, (pm_gd k E x i Dp2 Pr2 Yb2 nx2 sk2).2.2.2.2.1, (pm_gd k E x i Dp2 Pr2 Yb2 nx2 sk2).2.2.2.2.2) = fo (pm_p2 k E x) (i + 1) (pm_pl0 Dp Pr Yb nx sk) := by
                  rw [fo_s, ← he30]
                  simp [pm_p2, q1, q8, q9]
                exact ih30 (i + 1) (by omega) ((pm_gd k E x i Dp2 Pr2 Yb2 nx2 sk2).2.1) ((pm_gd k E x i Dp2 Pr2 Yb2 nx2 sk2).2.2.1) ((pm_gd k E x i Dp2 Pr2 Yb2 nx2 sk2).2.2.2.1) ((pm_gd k E x i Dp2 Pr2 Yb2 nx2 sk2).2.2.2.2.1) ((pm_gd k E x i Dp2 Pr2 Yb2 nx2 sk2).2.2.2.2.2) H locs ls he2 (va_P_map hP [2, 3, 4, 5, 6, 7, 8, 0, 1] rfl) (hD.sub [2, 3, 4, 5, 6, 7, 8, 0, 1] (by decide) rfl) hS (lv_sub hl [0, 1, 2] rfl)
        exact hL30 n 0 (by omega) ((fo pm_p1 10 (Dp, nx)).1) Pr Yb ((fo pm_p1 10 (Dp, nx)).2) sk H locs ls rfl hP hD hS (lv_sub hl [0, 1, 2] rfl)
      · have q1 : 10 < 10 := nq_nle (by omega) (by omega) q1
        exact absurd q1 (by omega)
    | succ kk ih2 =>
      intro i hi2 Dp1 nx1 H locs ls he2 hP hD hS hl
      refine lv_iload_n hx hb d_M_plant_2 rfl (lv_at hl 0 rfl) ?_
      refine lv_bipush (v := nI 10) hx hb d_M_plant_3 (by decide) ?_
      refine lv_icmp_ge hx hb d_M_plant_5 (tgt := 28) rfl (fun q10 => ?_) (fun q10 => ?_)
      · have q10 : 10 ≤ i := nq_le (by omega) (by omega) q10
        exact absurd q10 (by omega)
      · have q10 : i < 10 := nq_nle (by omega) (by omega) q10
        refine lv_aload_n hx hb d_M_plant_8 rfl (lv_at hl 1 rfl) ?_
        refine g_get Sx gf_M hK hP 0 rfl rfl 13 (by decide) gm_432 rfl d_M_plant_9 ?_
        refine lv_iload_n hx hb d_M_plant_12 rfl (lv_at hl 0 rfl) ?_
        refine lv_iconst (v := (-1)) hx hb d_M_plant_13 (by decide) ?_
        refine g_ist (j := i) Sx hK hP hD hS 2 0 rfl rfl (by omega) (by decide) d_M_plant_14 (fun H locs hP hD hS => ?_)
        have hP : va_P (dC, dI) pcl [(hm, .inr (5, [.int (nI n), .int (nI k), .ref a1, .ref a2, .int (bI wk), .int (bI fl), .int (nI cm), .ref a3, .ref a4, .int bl, .int sd, .long sm, .int co, .ref a5, .ref a6, .ref a7, .ref a8, .ref a9, .ref a10, .ref a11, .ref a12, .ref a13, .int (bI cf), .ref a14])), (a1, .inl (cI, 36, .inl (fun i9 => nI (E i9)))), (a5, .inl (cI, 10, .inl (upd Dp1 i (-1)))), (a6, .inl (cI, 10, .inl (fun i9 => oI (Pr i9)))), (a7, .inl (cI, 10, .inl (fun i9 => oI (Yb i9)))), (a8, .inl (cI, 10, .inl (fun i9 => nI (nx1 i9)))), (a9, .inl (cI, 10, .inl (fun i9 => nI (sk i9)))), (a10, .inl (cI, 18, .inl (fun i9 => nI (dq i9)))), (a11, .inl (cI, 18, .inl (fun i9 => nI (sh i9))))] H := hP
        have hD : va_D A [(hm, .inr (5, [.int (nI n), .int (nI k), .ref a1, .ref a2, .int (bI wk), .int (bI fl), .int (nI cm), .ref a3, .ref a4, .int bl, .int sd, .long sm, .int co, .ref a5, .ref a6, .ref a7, .ref a8, .ref a9, .ref a10, .ref a11, .ref a12, .ref a13, .int (bI cf), .ref a14])), (a1, .inl (cI, 36, .inl (fun i9 => nI (E i9)))), (a5, .inl (cI, 10, .inl (upd Dp1 i (-1)))), (a6, .inl (cI, 10, .inl (fun i9 => oI (Pr i9)))), (a7, .inl (cI, 10, .inl (fun i9 => oI (Yb i9)))), (a8, .inl (cI, 10, .inl (fun i9 => nI (nx1 i9)))), (a9, .inl (cI, 10, .inl (fun i9 => nI (sk i9)))), (a10, .inl (cI, 18, .inl (fun i9 => nI (dq i9)))), (a11, .inl (cI, 18, .inl (fun i9 => nI (sh i9))))] := hD
        refine lv_aload_n hx hb d_M_plant_15 rfl (lv_at hl 1 rfl) ?_
        refine g_get Sx gf_M hK hP 0 rfl rfl 16 (by decide) gm_435 rfl d_M_plant_16 ?_
        refine lv_iload_n hx hb d_M_plant_19 rfl (lv_at hl 0 rfl) ?_
        refine lv_iconst (v := nI 0) hx hb d_M_plant_20 (by decide) ?_
        refine g_istN (j := i) Sx hK hP hD hS 5 0 rfl rfl (by omega) (by decide) d_M_plant_21 (fun H locs hP hD hS => ?_)
        have hP : va_P (dC, dI) pcl [(hm, .inr (5, [.int (nI n), .int (nI k), .ref a1, .ref a2, .int (bI wk), .int (bI fl), .int (nI cm), .ref a3, .ref a4, .int bl, .int sd, .long sm, .int co, .ref a5, .ref a6, .ref a7, .ref a8, .ref a9, .ref a10, .ref a11, .ref a12, .ref a13, .int (bI cf), .ref a14])), (a1, .inl (cI, 36, .inl (fun i9 => nI (E i9)))), (a5, .inl (cI, 10, .inl (upd Dp1 i (-1)))), (a6, .inl (cI, 10, .inl (fun i9 => oI (Pr i9)))), (a7, .inl (cI, 10, .inl (fun i9 => oI (Yb i9)))), (a8, .inl (cI, 10, .inl (fun i9 => nI ((va_up nx1 i 0) i9)))), (a9, .inl (cI, 10, .inl (fun i9 => nI (sk i9)))), (a10, .inl (cI, 18, .inl (fun i9 => nI (dq i9)))), (a11, .inl (cI, 18, .inl (fun i9 => nI (sh i9))))] H := hP
        have hD : va_D A [(hm, .inr (5, [.int (nI n), .int (nI k), .ref a1, .ref a2, .int (bI wk), .int (bI fl), .int (nI cm), .ref a3, .ref a4, .int bl, .int sd, .long sm, .int co, .ref a5, .ref a6, .ref a7, .ref a8, .ref a9, .ref a10, .ref a11, .ref a12, .ref a13, .int (bI cf), .ref a14])), (a1, .inl (cI, 36, .inl (fun i9 => nI (E i9)))), (a5, .inl (cI, 10, .inl (upd Dp1 i (-1)))), (a6, .inl (cI, 10, .inl (fun i9 => oI (Pr i9)))), (a7, .inl (cI, 10, .inl (fun i9 => oI (Yb i9)))), (a8, .inl (cI, 10, .inl (fun i9 => nI ((va_up nx1 i 0) i9)))), (a9, .inl (cI, 10, .inl (fun i9 => nI (sk i9)))), (a10, .inl (cI, 18, .inl (fun i9 => nI (dq i9)))), (a11, .inl (cI, 18, .inl (fun i9 => nI (sh i9))))] := hD
        refine lv_iinc (k := 0) (v := nI (i + 1)) hx hb d_M_plant_22 hl rfl (inc_nI _) (Nat.le_of_ble_eq_true rfl) rfl (fun ls hl => ?_)
        have hl : lv_has ls 5 [(2, .int (nI (i + 1))), (0, .ref hm), (1, .int x)] := hl
        refine lv_goto hx hb d_M_plant_25 (tgt := 2) rfl ?_
        have he2 : (upd Dp1 i (-1), va_up nx1 i 0) = fo pm_p1 (i + 1) (Dp, nx) := by
          rw [fo_s, ← he2]
          simp [pm_p1, q10]
        exact ih2 (i + 1) (by omega) (upd Dp1 i (-1)) (va_up nx1 i 0) H locs ls he2 hP hD hS (lv_sub hl [0, 1, 2] rfl)
  exact hL2 10 0 (by omega) Dp nx H locs ls rfl hP hD hS (lv_sub hl [0, 1, 2] rfl)
