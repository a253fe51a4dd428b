/-! the reference's components, blocks, split -/
def pm_rtD (P : Nat → Nat) (r : Nat) : Bool := decide (oI (P r) < 0)
def pm_rtS (P : Nat → Nat) (r : Nat) : Nat := P r - 1
def pm_rt (P : Nat → Nat) (v : Nat) : Nat := wl (pm_rtD P) (pm_rtS P) 12 v
def pm_fc1 (P : Nat → Nat) : Nat → (Nat → Int32) × Nat → (Nat → Int32) × Nat := fun v s => if nI (pm_rt P v) = nI v then (upd s.1 v (nI s.2), s.2 + 1) else (upd s.1 v (s.1 (pm_rt P v)), s.2)
def pm_f1 : Nat → (Nat → Int32) → (Nat → Int32) := fun e B => upd B e (nI e)
def pm_f4D (t : Nat) (s : Nat × (Nat → Int32)) : Bool := decide (nI s.1 = nI t)
def pm_f4S (k : Nat) (Yb P : Nat → Nat) (e : Nat) (s : Nat × (Nat → Int32)) : Nat × (Nat → Int32) := (P s.1 - 1, fo (pm_jn e (s.2 (Yb s.1 - 1))) k s.2)
def pm_f4 (k : Nat) (Yb P : Nat → Nat) (e d t : Nat) (B : Nat → Int32) : Nat × (Nat → Int32) := wl (pm_f4D t) (pm_f4S k Yb P e) 12 (d, B)
def pm_f2 (k : Nat) (x : Int32) (E Yb P dq sh : Nat → Nat) : Nat → (Nat → Int32) → (Nat → Int32) := fun e B => if pm_bk x E Yb e = true then (pm_f4 k Yb P e (dq e) (sh e) B).2 else B
/-- along the way up from a back edge's deep end: tree edges, until its other end -/
def pm_fbOK (k : Nat) (x : Int32) (E Yb P dq sh : Nat → Nat) : Prop := ∀ e, e < k → pm_bk x E Yb e = true → ∃ Inv : Nat → Prop, Inv (dq e) ∧ (∀ y, Inv y → ¬ nI y = nI (sh e) → y < 10 ∧ 1 ≤ Yb y ∧ Yb y ≤ 18 ∧ 1 ≤ P y ∧ Inv (P y - 1)) ∧ ∀ B, pm_f4D (sh e) (pm_f4 k Yb P e (dq e) (sh e) B) = true
def pm_nu1 (e : Nat) (old z : Int32) : Nat → (Nat → Int32) → (Nat → Int32) := fun j B => if B (e + j) = old then upd B (e + j) z else upd B (e + j) (B (e + j))
def pm_nu2 (k : Nat) : Nat → Nat × (Nat → Int32) → Nat × (Nat → Int32) := fun e s => if 100 ≤ s.2 e then s else (s.1 + 1, fo (pm_nu1 e (s.2 e) (100 + nI s.1)) (k - e) s.2)
def pm_nu3 : Nat → (Nat → Int32) → (Nat → Int32) := fun e B => upd B e (B e - 100)
def pm_bg1 (Cp : Nat → Int32) (v : Nat) : Nat → Bool → Bool := fun u f => f && !decide (Cp u = Cp v)
def pm_bg2 (Cp : Nat → Int32) (x : Int32) : Nat → Bool → Bool := fun v g => g && (!(fo (pm_bg1 Cp v) v true) || !pm_has x (nI v))
theorem d_M_findComponents_0 : decode k_M_findComponents 0 = .ok (.aload_n 0, 1) := by decide +kernel
theorem d_M_findComponents_1 : decode k_M_findComponents 1 = .ok (.iload_n 1, 1) := by decide +kernel
theorem d_M_findComponents_2 : decode k_M_findComponents 2 = .ok (.invokevirtual 115, 3) := by decide +kernel
theorem d_M_findComponents_5 : decode k_M_findComponents 5 = .ok (.aload_n 0, 1) := by decide +kernel
theorem d_M_findComponents_6 : decode k_M_findComponents 6 = .ok (.iconst 0, 1) := by decide +kernel
theorem d_M_findComponents_7 : decode k_M_findComponents 7 = .ok (.putfield 125, 3) := by decide +kernel
theorem d_M_findComponents_10 : decode k_M_findComponents 10 = .ok (.iconst 0, 1) := by decide +kernel
theorem d_M_findComponents_11 : decode k_M_findComponents 11 = .ok (.istore_n 2, 1) := by decide +kernel
theorem d_M_findComponents_12 : decode k_M_findComponents 12 = .ok (.iload_n 2, 1) := by decide +kernel
theorem d_M_findComponents_13 : decode k_M_findComponents 13 = .ok (.aload_n 0, 1) := by decide +kernel
theorem d_M_findComponents_14 : decode k_M_findComponents 14 = .ok (.getfield 52, 3) := by decide +kernel
theorem d_M_findComponents_17 : decode k_M_findComponents 17 = .ok (.if_icmp .ge 76, 3) := by decide +kernel
theorem d_M_findComponents_20 : decode k_M_findComponents 20 = .ok (.iload_n 2, 1) := by decide +kernel
theorem d_M_findComponents_21 : decode k_M_findComponents 21 = .ok (.istore_n 3, 1) := by decide +kernel
theorem d_M_findComponents_22 : decode k_M_findComponents 22 = .ok (.aload_n 0, 1) := by decide +kernel
theorem d_M_findComponents_23 : decode k_M_findComponents 23 = .ok (.getfield 25, 3) := by decide +kernel
theorem d_M_findComponents_26 : decode k_M_findComponents 26 = .ok (.iload_n 3, 1) := by decide +kernel
theorem d_M_findComponents_27 : decode k_M_findComponents 27 = .ok (.iaload, 1) := by decide +kernel
theorem d_M_findComponents_28 : decode k_M_findComponents 28 = .ok (.ifCond .lt 13, 3) := by decide +kernel
theorem d_M_findComponents_31 : decode k_M_findComponents 31 = .ok (.aload_n 0, 1) := by decide +kernel
theorem d_M_findComponents_32 : decode k_M_findComponents 32 = .ok (.getfield 25, 3) := by decide +kernel
theorem d_M_findComponents_35 : decode k_M_findComponents 35 = .ok (.iload_n 3, 1) := by decide +kernel
theorem d_M_findComponents_36 : decode k_M_findComponents 36 = .ok (.iaload, 1) := by decide +kernel
theorem d_M_findComponents_37 : decode k_M_findComponents 37 = .ok (.istore_n 3, 1) := by decide +kernel
theorem d_M_findComponents_38 : decode k_M_findComponents 38 = .ok (.goto (-16), 3) := by decide +kernel
theorem d_M_findComponents_41 : decode k_M_findComponents 41 = .ok (.aload_n 0, 1) := by decide +kernel
theorem d_M_findComponents_42 : decode k_M_findComponents 42 = .ok (.getfield 16, 3) := by decide +kernel
theorem d_M_findComponents_45 : decode k_M_findComponents 45 = .ok (.iload_n 2, 1) := by decide +kernel
theorem d_M_findComponents_46 : decode k_M_findComponents 46 = .ok (.iload_n 3, 1) := by decide +kernel
theorem d_M_findComponents_47 : decode k_M_findComponents 47 = .ok (.iload_n 2, 1) := by decide +kernel
theorem d_M_findComponents_48 : decode k_M_findComponents 48 = .ok (.if_icmp .ne 10, 3) := by decide +kernel
theorem d_M_findComponents_51 : decode k_M_findComponents 51 = .ok (.aload_n 0, 1) := by decide +kernel
theorem d_M_findComponents_52 : decode k_M_findComponents 52 = .ok (.getfield 125, 3) := by decide +kernel
theorem d_M_findComponents_55 : decode k_M_findComponents 55 = .ok (.goto 9, 3) := by decide +kernel
theorem d_M_findComponents_58 : decode k_M_findComponents 58 = .ok (.aload_n 0, 1) := by decide +kernel
theorem d_M_findComponents_59 : decode k_M_findComponents 59 = .ok (.getfield 16, 3) := by decide +kernel
theorem d_M_findComponents_62 : decode k_M_findComponents 62 = .ok (.iload_n 3, 1) := by decide +kernel
theorem d_M_findComponents_63 : decode k_M_findComponents 63 = .ok (.iaload, 1) := by decide +kernel
theorem d_M_findComponents_64 : decode k_M_findComponents 64 = .ok (.iastore, 1) := by decide +kernel
theorem d_M_findComponents_65 : decode k_M_findComponents 65 = .ok (.aload_n 0, 1) := by decide +kernel
theorem d_M_findComponents_66 : decode k_M_findComponents 66 = .ok (.iload_n 3, 1) := by decide +kernel
theorem d_M_findComponents_67 : decode k_M_findComponents 67 = .ok (.iload_n 2, 1) := by decide +kernel
theorem d_M_findComponents_68 : decode k_M_findComponents 68 = .ok (.if_icmp .ne 12, 3) := by decide +kernel
theorem d_M_findComponents_71 : decode k_M_findComponents 71 = .ok (.aload_n 0, 1) := by decide +kernel
theorem d_M_findComponents_72 : decode k_M_findComponents 72 = .ok (.getfield 125, 3) := by decide +kernel
theorem d_M_findComponents_75 : decode k_M_findComponents 75 = .ok (.iconst 1, 1) := by decide +kernel
theorem d_M_findComponents_76 : decode k_M_findComponents 76 = .ok (.iadd, 1) := by decide +kernel
theorem d_M_findComponents_77 : decode k_M_findComponents 77 = .ok (.goto 7, 3) := by decide +kernel
theorem d_M_findComponents_80 : decode k_M_findComponents 80 = .ok (.aload_n 0, 1) := by decide +kernel
theorem d_M_findComponents_81 : decode k_M_findComponents 81 = .ok (.getfield 125, 3) := by decide +kernel
theorem d_M_findComponents_84 : decode k_M_findComponents 84 = .ok (.putfield 125, 3) := by decide +kernel
theorem d_M_findComponents_87 : decode k_M_findComponents 87 = .ok (.iinc 2 1, 3) := by decide +kernel
theorem d_M_findComponents_90 : decode k_M_findComponents 90 = .ok (.goto (-78), 3) := by decide +kernel
theorem d_M_findComponents_93 : decode k_M_findComponents 93 = .ok (.return_, 1) := by decide +kernel
abbrev rm_M_findComponents : Room := { frames := 3, cells := 0, slots := 0, locals := 72 }
theorem hd_M_findComponents : y_M_findComponents.cls = n_M ∧ y_M_findComponents.cls ≠ "java/lang/invoke/MethodHandle" ∧ y_M_findComponents.cls ≠ "java/lang/invoke/VarHandle" ∧ (parseMethodDescriptor y_M_findComponents.desc).map (fun d => d.parameters.length) = some 1 := by decide +kernel
set_option maxHeartbeats 4000000 in
set_option maxRecDepth 100000 in
theorem c_M_findComponents (l : Launch) (dC : Nat → ClassId) (dI : Nat → Nat → Nat) (n : Nat) (k : Nat) (wk : Bool) (fl : Bool) (cm : Nat) (bl : Int32) (sd : Int32) (sm : Int64) (co : Int32) (cf : Bool) (hm : Nat) (a1 : Nat) (a2 : Nat) (a3 : Nat) (a4 : Nat) (a5 : Nat) (a6 : Nat) (a7 : Nat) (a8 : Nat) (a9 : Nat) (a10 : Nat) (a11 : Nat) (a12 : Nat) (a13 : Nat) (a14 : Nat) (cI : ClassId) (E : Nat → Nat) (Dp : Nat → Int32) (Pr : Nat → Nat) (Yb : Nat → Nat) (nx : Nat → Nat) (sk : Nat → Nat) (dq : Nat → Nat) (sh : Nat → Nat) (Cp : Nat → Int32) (x : Int32) (sz : Nat) (hn : n ≤ 10) (hk : k ≤ 18) (hE : ∀ j, E j < 10) (hpl : pm_plOK n k E x Dp Pr Yb nx sk) (hPr : ∀ j, (pm_pl n k E x Dp Pr Yb nx sk).2.1 j ≤ 10) (hrt : ∀ a, a < n → pm_rtD (pm_pl n k E x Dp Pr Yb nx sk).2.1 (pm_rt (pm_pl n k E x Dp Pr Yb nx sk).2.1 a) = true) : Met l y_M_findComponents (.code y_M_findComponents k_M_findComponents 4 none :: gw) rm_M_findComponents (rwP [.ref hm, .int x] (dC, dI) [(hm, .inr (5, [.int (nI n), .int (nI k), .ref a1, .ref a2, .int (bI wk), .int (bI fl), .int (nI cm), .ref a3, .ref a4, .int bl, .int sd, .long sm, .int co, .ref a5, .ref a6, .ref a7, .ref a8, .ref a9, .ref a10, .ref a11, .ref a12, .ref a13, .int (bI cf), .ref a14])), (a1, .inl (cI, 36, .inl (fun i9 => nI (E i9)))), (a5, .inl (cI, 10, .inl Dp)), (a6, .inl (cI, 10, .inl (fun i9 => oI (Pr i9)))), (a7, .inl (cI, 10, .inl (fun i9 => oI (Yb i9)))), (a8, .inl (cI, 10, .inl (fun i9 => nI (nx i9)))), (a9, .inl (cI, 10, .inl (fun i9 => nI (sk i9)))), (a10, .inl (cI, 18, .inl (fun i9 => nI (dq i9)))), (a11, .inl (cI, 18, .inl (fun i9 => nI (sh i9)))), (a3, .inl (cI, 10, .inl Cp))] [(cI, .int)] sz) (va_Qv (fun _ : Unit => True) (rwB (dC, dI) [(hm, .inr (5, [.int (nI n), .int (nI k), .ref a1, .ref a2, .int (bI wk), .int (bI fl), .int (nI ((fo (pm_fc1 (pm_pl n k E x Dp Pr Yb nx sk).2.1) n (Cp, 0)).2)), .ref a3, .ref a4, .int bl, .int sd, .long sm, .int co, .ref a5, .ref a6, .ref a7, .ref a8, .ref a9, .ref a10, .ref a11, .ref a12, .ref a13, .int (bI cf), .ref a14])), (a1, .inl (cI, 36, .inl (fun i9 => nI (E i9)))), (a5, .inl (cI, 10, .inl ((pm_pl n k E x Dp Pr Yb nx sk).1))), (a6, .inl (cI, 10, .inl (fun i9 => oI (((pm_pl n k E x Dp Pr Yb nx sk).2.1) i9)))), (a7, .inl (cI, 10, .inl (fun i9 => oI (((pm_pl n k E x Dp Pr Yb nx sk).2.2.1) i9)))), (a8, .inl (cI, 10, .inl (fun i9 => nI (((pm_pl n k E x Dp Pr Yb nx sk).2.2.2.1) i9)))), (a9, .inl (cI, 10, .inl (fun i9 => nI (((pm_pl n k E x Dp Pr Yb nx sk).2.2.2.2) i9)))), (a10, .inl (cI, 18, .inl (fun i9 => nI (((fo (pm_p3 E (pm_pl n k E x Dp Pr Yb nx sk).1) k (dq, sh)).1) i9)))), (a11, .inl (cI, 18, .inl (fun i9 => nI (((fo (pm_p3 E (pm_pl n k E x Dp Pr Yb nx sk).1) k (dq, sh)).2) i9)))), (a3, .inl (cI, 10, .inl ((fo (pm_fc1 (pm_pl n k E x Dp Pr Yb nx sk).2.1) n (Cp, 0)).1)))] [(cI, .int)] (va_A [(hm, .inr (5, [.int (nI n), .int (nI k), .ref a1, .ref a2, .int (bI wk), .int (bI fl), .int (nI cm), .ref a3, .ref a4, .int bl, .int sd, .long sm, .int co, .ref a5, .ref a6, .ref a7, .ref a8, .ref a9, .ref a10, .ref a11, .ref a12, .ref a13, .int (bI cf), .ref a14])), (a1, .inl (cI, 36, .inl (fun i9 => nI (E i9)))), (a5, .inl (cI, 10, .inl Dp)), (a6, .inl (cI, 10, .inl (fun i9 => oI (Pr i9)))), (a7, .inl (cI, 10, .inl (fun i9 => oI (Yb i9)))), (a8, .inl (cI, 10, .inl (fun i9 => nI (nx i9)))), (a9, .inl (cI, 10, .inl (fun i9 => nI (sk i9)))), (a10, .inl (cI, 18, .inl (fun i9 => nI (dq i9)))), (a11, .inl (cI, 18, .inl (fun i9 => nI (sh i9)))), (a3, .inl (cI, 10, .inl Cp))] sz)) (va_A [(hm, .inr (5, [.int (nI n), .int (nI k), .ref a1, .ref a2, .int (bI wk), .int (bI fl), .int (nI cm), .ref a3, .ref a4, .int bl, .int sd, .long sm, .int co, .ref a5, .ref a6, .ref a7, .ref a8, .ref a9, .ref a10, .ref a11, .ref a12, .ref a13, .int (bI cf), .ref a14])), (a1, .inl (cI, 36, .inl (fun i9 => nI (E i9)))), (a5, .inl (cI, 10, .inl Dp)), (a6, .inl (cI, 10, .inl (fun i9 => oI (Pr i9)))), (a7, .inl (cI, 10, .inl (fun i9 => oI (Yb i9)))), (a8, .inl (cI, 10, .inl (fun i9 => nI (nx i9)))), (a9, .inl (cI, 10, .inl (fun i9 => nI (sk i9)))), (a10, .inl (cI, 18, .inl (fun i9 => nI (dq i9)))), (a11, .inl (cI, 18, .inl (fun i9 => nI (sh i9)))), (a3, .inl (cI, 10, .inl Cp))] sz)) 0 0 (va_A [(hm, .inr (5, [.int (nI n), .int (nI k), .ref a1, .ref a2, .int (bI wk), .int (bI fl), .int (nI cm), .ref a3, .ref a4, .int bl, .int sd, .long sm, .int co, .ref a5, .ref a6, .ref a7, .ref a8, .ref a9, .ref a10, .ref a11, .ref a12, .ref a13, .int (bI cf), .ref a14])), (a1, .inl (cI, 36, .inl (fun i9 => nI (E i9)))), (a5, .inl (cI, 10, .inl Dp)), (a6, .inl (cI, 10, .inl (fun i9 => oI (Pr i9)))), (a7, .inl (cI, 10, .inl (fun i9 => oI (Yb i9)))), (a8, .inl (cI, 10, .inl (fun i9 => nI (nx i9)))), (a9, .inl (cI, 10, .inl (fun i9 => nI (sk i9)))), (a10, .inl (cI, 18, .inl (fun i9 => nI (dq i9)))), (a11, .inl (cI, 18, .inl (fun i9 => nI (sh i9)))), (a3, .inl (cI, 10, .inl Cp))] sz) := by
  refine rw_met (by decide) ⟨rfl, rfl⟩ (Nat.le_of_ble_eq_true rfl) ?_
  intro p e s m args below meth c Q A ls Sx hP hK hD hA hl hret
  have hx := Sx.1
  have hb := Sx.2.1
  have hl : lv_has ls 4 [(0, .ref hm), (1, .int x)] := hl
  have hS : va_S A s.heap s.heap [] := va_S.rf
  obtain ⟨H, hH⟩ : ∃ H, H = s.heap := ⟨_, rfl⟩
  obtain ⟨locs, hlo⟩ : ∃ locs : List Loc, locs = [] := ⟨_, rfl⟩
  rw [← hlo]
  rw [← hlo] at hS
  have hP : va_P (dC, dI) pcl [(hm, .inr (5, [.int (nI n), .int (nI k), .ref a1, .ref a2, .int (bI wk), .int (bI fl), .int (nI cm), .ref a3, .ref a4, .int bl, .int sd, .long sm, .int co, .ref a5, .ref a6, .ref a7, .ref a8, .ref a9, .ref a10, .ref a11, .ref a12, .ref a13, .int (bI cf), .ref a14])), (a1, .inl (cI, 36, .inl (fun i9 => nI (E i9)))), (a5, .inl (cI, 10, .inl Dp)), (a6, .inl (cI, 10, .inl (fun i9 => oI (Pr i9)))), (a7, .inl (cI, 10, .inl (fun i9 => oI (Yb i9)))), (a8, .inl (cI, 10, .inl (fun i9 => nI (nx i9)))), (a9, .inl (cI, 10, .inl (fun i9 => nI (sk i9)))), (a10, .inl (cI, 18, .inl (fun i9 => nI (dq i9)))), (a11, .inl (cI, 18, .inl (fun i9 => nI (sh i9)))), (a3, .inl (cI, 10, .inl Cp))] H := by rw [hH]; exact hP
  have hS : va_S A s.heap H locs := by rw [hH]; exact hS
  suffices hgo : W p l e rm_M_findComponents s m args below meth c H locs 0 0 Q (F0 m 0 ls []) by rw [hH] at hgo; exact hgo
  refine lv_aload_n hx hb d_M_findComponents_0 rfl (lv_at hl 0 rfl) ?_
  refine lv_iload_n hx hb d_M_findComponents_1 rfl (lv_at hl 1 rfl) ?_
  refine rw_V (As := [.int x]) (rest := []) (wr := [(a3, .inl (cI, 10, .inl Cp))]) Sx (c_M_plant l dC dI n k wk fl cm bl sd sm co cf hm a1 a2 a3 a4 a5 a6 a7 a8 a9 a10 a11 a12 a13 a14 cI E Dp Pr Yb nx sk dq sh x H.size hn hk hE hpl) (gw_callV gm_503 gm_504 gm_29 gm_56 gm_505) hd_M_plant ⟨rfl, rfl⟩ ⟨Nat.le_of_ble_eq_true rfl, Nat.le_of_ble_eq_true rfl⟩ hP hD hS hA (hK.sub (tys' := [(cI, .int)]) [0] rfl) [0, 1, 2, 3, 4, 5, 6, 7, 8] [9] rfl rfl (by decide) (by decide) (by decide) rfl 0 rfl rfl hl.1 rfl (Nat.le_of_ble_eq_true rfl) d_M_findComponents_2 ⟨Nat.zero_le _, Nat.zero_le _⟩ (fun H locs hP hD hS => ?_)
  have hP : va_P (dC, dI) pcl [(a3, .inl (cI, 10, .inl Cp)), (hm, .inr (5, [.int (nI n), .int (nI k), .ref a1, .ref a2, .int (bI wk), .int (bI fl), .int (nI cm), .ref a3, .ref a4, .int bl, .int sd, .long sm, .int co, .ref a5, .ref a6, .ref a7, .ref a8, .ref a9, .ref a10, .ref a11, .ref a12, .ref a13, .int (bI cf), .ref a14])), (a1, .inl (cI, 36, .inl (fun i9 => nI (E i9)))), (a5, .inl (cI, 10, .inl ((pm_pl n k E x Dp Pr Yb nx sk).1))), (a6, .inl (cI, 10, .inl (fun i9 => oI (((pm_pl n k E x Dp Pr Yb nx sk).2.1) i9)))), (a7, .inl (cI, 10, .inl (fun i9 => oI (((pm_pl n k E x Dp Pr Yb nx sk).2.2.1) i9)))), (a8, .inl (cI, 10, .inl (fun i9 => nI (((pm_pl n k E x Dp Pr Yb nx sk).2.2.2.1) i9)))), (a9, .inl (cI, 10, .inl (fun i9 => nI (((pm_pl n k E x Dp Pr Yb nx sk).2.2.2.2) i9)))), (a10, .inl (cI, 18, .inl (fun i9 => nI (((fo (pm_p3 E (pm_pl n k E x Dp Pr Yb nx sk).1) k (dq, sh)).1) i9)))), (a11, .inl (cI, 18, .inl (fun i9 => nI (((fo (pm_p3 E (pm_pl n k E x Dp Pr Yb nx sk).1) k (dq, sh)).2) i9))))] H := hP
  have hD : va_D A [(a3, .inl (cI, 10, .inl Cp)), (hm, .inr (5, [.int (nI n), .int (nI k), .ref a1, .ref a2, .int (bI wk), .int (bI fl), .int (nI cm), .ref a3, .ref a4, .int bl, .int sd, .long sm, .int co, .ref a5, .ref a6, .ref a7, .ref a8, .ref a9, .ref a10, .ref a11, .ref a12, .ref a13, .int (bI cf), .ref a14])), (a1, .inl (cI, 36, .inl (fun i9 => nI (E i9)))), (a5, .inl (cI, 10, .inl ((pm_pl n k E x Dp Pr Yb nx sk).1))), (a6, .inl (cI, 10, .inl (fun i9 => oI (((pm_pl n k E x Dp Pr Yb nx sk).2.1) i9)))), (a7, .inl (cI, 10, .inl (fun i9 => oI (((pm_pl n k E x Dp Pr Yb nx sk).2.2.1) i9)))), (a8, .inl (cI, 10, .inl (fun i9 => nI (((pm_pl n k E x Dp Pr Yb nx sk).2.2.2.1) i9)))), (a9, .inl (cI, 10, .inl (fun i9 => nI (((pm_pl n k E x Dp Pr Yb nx sk).2.2.2.2) i9)))), (a10, .inl (cI, 18, .inl (fun i9 => nI (((fo (pm_p3 E (pm_pl n k E x Dp Pr Yb nx sk).1) k (dq, sh)).1) i9)))), (a11, .inl (cI, 18, .inl (fun i9 => nI (((fo (pm_p3 E (pm_pl n k E x Dp Pr Yb nx sk).1) k (dq, sh)).2) i9))))] := hD
  refine lv_aload_n hx hb d_M_findComponents_5 rfl (lv_at hl 0 rfl) ?_
  refine lv_iconst (v := nI 0) hx hb d_M_findComponents_6 (by decide) ?_
  refine g_put Sx gf_M fk_M fn_M hK hP hD hS 1 rfl rfl 6 (by decide) gm_425 rfl rfl rfl (Nat.le_of_ble_eq_true rfl) d_M_findComponents_7 (fun H locs hP hD hS => ?_)
  have hP : va_P (dC, dI) pcl [(a3, .inl (cI, 10, .inl Cp)), (hm, .inr (5, [.int (nI n), .int (nI k), .ref a1, .ref a2, .int (bI wk), .int (bI fl), .int (nI 0), .ref a3, .ref a4, .int bl, .int sd, .long sm, .int co, .ref a5, .ref a6, .ref a7, .ref a8, .ref a9, .ref a10, .ref a11, .ref a12, .ref a13, .int (bI cf), .ref a14])), (a1, .inl (cI, 36, .inl (fun i9 => nI (E i9)))), (a5, .inl (cI, 10, .inl ((pm_pl n k E x Dp Pr Yb nx sk).1))), (a6, .inl (cI, 10, .inl (fun i9 => oI (((pm_pl n k E x Dp Pr Yb nx sk).2.1) i9)))), (a7, .inl (cI, 10, .inl (fun i9 => oI (((pm_pl n k E x Dp Pr Yb nx sk).2.2.1) i9)))), (a8, .inl (cI, 10, .inl (fun i9 => nI (((pm_pl n k E x Dp Pr Yb nx sk).2.2.2.1) i9)))), (a9, .inl (cI, 10, .inl (fun i9 => nI (((pm_pl n k E x Dp Pr Yb nx sk).2.2.2.2) i9)))), (a10, .inl (cI, 18, .inl (fun i9 => nI (((fo (pm_p3 E (pm_pl n k E x Dp Pr Yb nx sk).1) k (dq, sh)).1) i9)))), (a11, .inl (cI, 18, .inl (fun i9 => nI (((fo (pm_p3 E (pm_pl n k E x Dp Pr Yb nx sk).1) k (dq, sh)).2) i9))))] H := hP
  have hD : va_D A [(a3, .inl (cI, 10, .inl Cp)), (hm, .inr (5, [.int (nI n), .int (nI k), .ref a1, .ref a2, .int (bI wk), .int (bI fl), .int (nI 0), .ref a3, .ref a4, .int bl, .int sd, .long sm, .int co, .ref a5, .ref a6, .ref a7, .ref a8, .ref a9, .ref a10, .ref a11, .ref a12, .ref a13, .int (bI cf), .ref a14])), (a1, .inl (cI, 36, .inl (fun i9 => nI (E i9)))), (a5, .inl (cI, 10, .inl ((pm_pl n k E x Dp Pr Yb nx sk).1))), (a6, .inl (cI, 10, .inl (fun i9 => oI (((pm_pl n k E x Dp Pr Yb nx sk).2.1) i9)))), (a7, .inl (cI, 10, .inl (fun i9 => oI (((pm_pl n k E x Dp Pr Yb nx sk).2.2.1) i9)))), (a8, .inl (cI, 10, .inl (fun i9 => nI (((pm_pl n k E x Dp Pr Yb nx sk).2.2.2.1) i9)))), (a9, .inl (cI, 10, .inl (fun i9 => nI (((pm_pl n k E x Dp Pr Yb nx sk).2.2.2.2) i9)))), (a10, .inl (cI, 18, .inl (fun i9 => nI (((fo (pm_p3 E (pm_pl n k E x Dp Pr Yb nx sk).1) k (dq, sh)).1) i9)))), (a11, .inl (cI, 18, .inl (fun i9 => nI (((fo (pm_p3 E (pm_pl n k E x Dp Pr Yb nx sk).1) k (dq, sh)).2) i9))))] := hD
  refine lv_iconst (v := nI 0) hx hb d_M_findComponents_10 (by decide) ?_
  refine lv_istore_n hx hb d_M_findComponents_11 rfl hl (Nat.le_of_ble_eq_true rfl) rfl (fun ls hl => ?_)
  have hl : lv_has ls 4 [(2, .int (nI 0)), (0, .ref hm), (1, .int x)] := hl
  have hL12 : ∀ (kk i : Nat), i + kk = n → ∀ (Cp1 : Nat → Int32) (cm1 : Nat) (H : Heap) (locs : List Loc) (ls : Array Slot), (Cp1, cm1) = fo (pm_fc1 (pm_pl n k E x Dp Pr Yb nx sk).2.1) i (Cp, 0) → va_P (dC, dI) pcl [(hm, .inr (5, [.int (nI n), .int (nI k), .ref a1, .ref a2, .int (bI wk), .int (bI fl), .int (nI cm1), .ref a3, .ref a4, .int bl, .int sd, .long sm, .int co, .ref a5, .ref a6, .ref a7, .ref a8, .ref a9, .ref a10, .ref a11, .ref a12, .ref a13, .int (bI cf), .ref a14])), (a1, .inl (cI, 36, .inl (fun i9 => nI (E i9)))), (a5, .inl (cI, 10, .inl ((pm_pl n k E x Dp Pr Yb nx sk).1))), (a6, .inl (cI, 10, .inl (fun i9 => oI (((pm_pl n k E x Dp Pr Yb nx sk).2.1) i9)))), (a7, .inl (cI, 10, .inl (fun i9 => oI (((pm_pl n k E x Dp Pr Yb nx sk).2.2.1) i9)))), (a8, .inl (cI, 10, .inl (fun i9 => nI (((pm_pl n k E x Dp Pr Yb nx sk).2.2.2.1) i9)))), (a9, .inl (cI, 10, .inl (fun i9 => nI (((pm_pl n k E x Dp Pr Yb nx sk).2.2.2.2) i9)))), (a10, .inl (cI, 18, .inl (fun i9 => nI (((fo (pm_p3 E (pm_pl n k E x Dp Pr Yb nx sk).1) k (dq, sh)).1) i9)))), (a11, .inl (cI, 18, .inl (fun i9 => nI (((fo (pm_p3 E (pm_pl n k E x Dp Pr Yb nx sk).1) k (dq, sh)).2) i9)))), (a3, .inl (cI, 10, .inl Cp1))] H → va_D A [(hm, .inr (5, [.int (nI n), .int (nI k), .ref a1, .ref a2, .int (bI wk), .int (bI fl), .int (nI cm1), .ref a3, .ref a4, .int bl, .int sd, .long sm, .int co, .ref a5, .ref a6, .ref a7, .ref a8, .ref a9, .ref a10, .ref a11, .ref a12, .ref a13, .int (bI cf), .ref a14])), (a1, .inl (cI, 36, .inl (fun i9 => nI (E i9)))), (a5, .inl (cI, 10, .inl ((pm_pl n k E x Dp Pr Yb nx sk).1))), (a6, .inl (cI, 10, .inl (fun i9 => oI (((pm_pl n k E x Dp Pr Yb nx sk).2.1) i9)))), (a7, .inl (cI, 10, .inl (fun i9 => oI (((pm_pl n k E x Dp Pr Yb nx sk).2.2.1) i9)))), (a8, .inl (cI, 10, .inl (fun i9 => nI (((pm_pl n k E x Dp Pr Yb nx sk).2.2.2.1) i9)))), (a9, .inl (cI, 10, .inl (fun i9 => nI (((pm_pl n k E x Dp Pr Yb nx sk).2.2.2.2) i9)))), (a10, .inl (cI, 18, .inl (fun i9 => nI (((fo (pm_p3 E (pm_pl n k E x Dp Pr Yb nx sk).1) k (dq, sh)).1) i9)))), (a11, .inl (cI, 18, .inl (fun i9 => nI (((fo (pm_p3 E (pm_pl n k E x Dp Pr Yb nx sk).1) k (dq, sh)).2) i9)))), (a3, .inl (cI, 10, .inl Cp1))] → va_S A s.heap H locs → lv_has ls 4 [(2, .int (nI i)), (0, .ref hm), (1, .int x)] → W p l e rm_M_findComponents s m args below meth c H locs 0 0 Q (F0 m 12 ls []) := by
    intro kk
    induction kk with
    | zero =>
      intro i hi12 Cp1 cm1 H locs ls he12 hP hD hS hl
      have hj12 : i = n := by omega
      rw [hj12] at hl he12
      have e_Cp1 : Cp1 = (fo (pm_fc1 (pm_pl n k E x Dp Pr Yb nx sk).2.1) n (Cp, 0)).1 := by rw [← he12]
      subst e_Cp1
      have e_cm1 : cm1 = (fo (pm_fc1 (pm_pl n k E x Dp Pr Yb nx sk).2.1) n (Cp, 0)).2 := by rw [← he12]
      subst e_cm1
      have hl : lv_has ls 4 [(2, .int (nI n)), (0, .ref hm), (1, .int x)] := hl
      have hP : va_P (dC, dI) pcl [(hm, .inr (5, [.int (nI n), .int (nI k), .ref a1, .ref a2, .int (bI wk), .int (bI fl), .int (nI ((fo (pm_fc1 (pm_pl n k E x Dp Pr Yb nx sk).2.1) n (Cp, 0)).2)), .ref a3, .ref a4, .int bl, .int sd, .long sm, .int co, .ref a5, .ref a6, .ref a7, .ref a8, .ref a9, .ref a10, .ref a11, .ref a12, .ref a13, .int (bI cf), .ref a14])), (a1, .inl (cI, 36, .inl (fun i9 => nI (E i9)))), (a5, .inl (cI, 10, .inl ((pm_pl n k E x Dp Pr Yb nx sk).1))), (a6, .inl (cI, 10, .inl (fun i9 => oI (((pm_pl n k E x Dp Pr Yb nx sk).2.1) i9)))), (a7, .inl (cI, 10, .inl (fun i9 => oI (((pm_pl n k E x Dp Pr Yb nx sk).2.2.1) i9)))), (a8, .inl (cI, 10, .inl (fun i9 => nI (((pm_pl n k E x Dp Pr Yb nx sk).2.2.2.1) i9)))), (a9, .inl (cI, 10, .inl (fun i9 => nI (((pm_pl n k E x Dp Pr Yb nx sk).2.2.2.2) i9)))), (a10, .inl (cI, 18, .inl (fun i9 => nI (((fo (pm_p3 E (pm_pl n k E x Dp Pr Yb nx sk).1) k (dq, sh)).1) i9)))), (a11, .inl (cI, 18, .inl (fun i9 => nI (((fo (pm_p3 E (pm_pl n k E x Dp Pr Yb nx sk).1) k (dq, sh)).2) i9)))), (a3, .inl (cI, 10, .inl ((fo (pm_fc1 (pm_pl n k E x Dp Pr Yb nx sk).2.1) n (Cp, 0)).1)))] H := hP
      have hD : va_D A [(hm, .inr (5, [.int (nI n), .int (nI k), .ref a1, .ref a2, .int (bI wk), .int (bI fl), .int (nI ((fo (pm_fc1 (pm_pl n k E x Dp Pr Yb nx sk).2.1) n (Cp, 0)).2)), .ref a3, .ref a4, .int bl, .int sd, .long sm, .int co, .ref a5, .ref a6, .ref a7, .ref a8, .ref a9, .ref a10, .ref a11, .ref a12, .ref a13, .int (bI cf), .ref a14])), (a1, .inl (cI, 36, .inl (fun i9 => nI (E i9)))), (a5, .inl (cI, 10, .inl ((pm_pl n k E x Dp Pr Yb nx sk).1))), (a6, .inl (cI, 10, .inl (fun i9 => oI (((pm_pl n k E x Dp Pr Yb nx sk).2.1) i9)))), (a7, .inl (cI, 10, .inl (fun i9 => oI (((pm_pl n k E x Dp Pr Yb nx sk).2.2.1) i9)))), (a8, .inl (cI, 10, .inl (fun i9 => nI (((pm_pl n k E x Dp Pr Yb nx sk).2.2.2.1) i9)))), (a9, .inl (cI, 10, .inl (fun i9 => nI (((pm_pl n k E x Dp Pr Yb nx sk).2.2.2.2) i9)))), (a10, .inl (cI, 18, .inl (fun i9 => nI (((fo (pm_p3 E (pm_pl n k E x Dp Pr Yb nx sk).1) k (dq, sh)).1) i9)))), (a11, .inl (cI, 18, .inl (fun i9 => nI (((fo (pm_p3 E (pm_pl n k E x Dp Pr Yb nx sk).1) k (dq, sh)).2) i9)))), (a3, .inl (cI, 10, .inl ((fo (pm_fc1 (pm_pl n k E x Dp Pr Yb nx sk).2.1) n (Cp, 0)).1)))] := hD
      refine lv_iload_n hx hb d_M_findComponents_12 rfl (lv_at hl 0 rfl) ?_
      refine lv_aload_n hx hb d_M_findComponents_13 rfl (lv_at hl 1 rfl) ?_
      refine g_get Sx gf_M hK hP 0 rfl rfl 0 (by decide) gm_419 rfl d_M_findComponents_14 ?_
      refine lv_icmp_ge hx hb d_M_findComponents_17 (tgt := 93) rfl (fun q1 => ?_) (fun q1 => ?_)
      · have q1 : n ≤ n := nq_le (by omega) (by omega) q1
        exact hret _ H locs _ d_M_findComponents_93 hP hD hS
      · have q1 : n < n := nq_nle (by omega) (by omega) q1
        exact absurd q1 (by omega)
    | succ kk ih12 =>
      intro i hi12 Cp1 cm1 H locs ls he12 hP hD hS hl
      refine lv_iload_n hx hb d_M_findComponents_12 rfl (lv_at hl 0 rfl) ?_
      refine lv_aload_n hx hb d_M_findComponents_13 rfl (lv_at hl 1 rfl) ?_
      refine g_get Sx gf_M hK hP 0 rfl rfl 0 (by decide) gm_419 rfl d_M_findComponents_14 ?_
      refine lv_icmp_ge hx hb d_M_findComponents_17 (tgt := 93) rfl (fun q2 => ?_) (fun q2 => ?_)
      · have q2 : n ≤ i := nq_le (by omega) (by omega) q2
        exact absurd q2 (by omega)
      · have q2 : i < n := nq_nle (by omega) (by omega) q2
        refine lv_iload_n hx hb d_M_findComponents_20 rfl (lv_at hl 0 rfl) ?_
        refine lv_istore_n hx hb d_M_findComponents_21 rfl hl (Nat.le_of_ble_eq_true rfl) rfl (fun ls hl => ?_)
        have hl : lv_has ls 4 [(3, .int (nI i)), (2, .int (nI i)), (0, .ref hm), (1, .int x)] := hl
        have hL22 : ∀ (fu22 : Nat) (r1 : Nat) (H : Heap) (locs : List Loc) (ls : Array Slot), wl (pm_rtD (pm_pl n k E x Dp Pr Yb nx sk).2.1) (pm_rtS (pm_pl n k E x Dp Pr Yb nx sk).2.1) fu22 r1 = (pm_rt (pm_pl n k E x Dp Pr Yb nx sk).2.1 i) → r1 < 10 → va_P (dC, dI) pcl [(hm, .inr (5, [.int (nI n), .int (nI k), .ref a1, .ref a2, .int (bI wk), .int (bI fl), .int (nI cm1), .ref a3, .ref a4, .int bl, .int sd, .long sm, .int co, .ref a5, .ref a6, .ref a7, .ref a8, .ref a9, .ref a10, .ref a11, .ref a12, .ref a13, .int (bI cf), .ref a14])), (a1, .inl (cI, 36, .inl (fun i9 => nI (E i9)))), (a5, .inl (cI, 10, .inl ((pm_pl n k E x Dp Pr Yb nx sk).1))), (a6, .inl (cI, 10, .inl (fun i9 => oI (((pm_pl n k E x Dp Pr Yb nx sk).2.1) i9)))), (a7, .inl (cI, 10, .inl (fun i9 => oI (((pm_pl n k E x Dp Pr Yb nx sk).2.2.1) i9)))), (a8, .inl (cI, 10, .inl (fun i9 => nI (((pm_pl n k E x Dp Pr Yb nx sk).2.2.2.1) i9)))), (a9, .inl (cI, 10, .inl (fun i9 => nI (((pm_pl n k E x Dp Pr Yb nx sk).2.2.2.2) i9)))), (a10, .inl (cI, 18, .inl (fun i9 => nI (((fo (pm_p3 E (pm_pl n k E x Dp Pr Yb nx sk).1) k (dq, sh)).1) i9)))), (a11, .inl (cI, 18, .inl (fun i9 => nI (((fo (pm_p3 E (pm_pl n k E x Dp Pr Yb nx sk).1) k (dq, sh)).2) i9)))), (a3, .inl (cI, 10, .inl Cp1))] H → va_D A [(hm, .inr (5, [.int (nI n), .int (nI k), .ref a1, .ref a2, .int (bI wk), .int (bI fl), .int (nI cm1), .ref a3, .ref a4, .int bl, .int sd, .long sm, .int co, .ref a5, .ref a6, .ref a7, .ref a8, .ref a9, .ref a10, .ref a11, .ref a12, .ref a13, .int (bI cf), .ref a14])), (a1, .inl (cI, 36, .inl (fun i9 => nI (E i9)))), (a5, .inl (cI, 10, .inl ((pm_pl n k E x Dp Pr Yb nx sk).1))), (a6, .inl (cI, 10, .inl (fun i9 => oI (((pm_pl n k E x Dp Pr Yb nx sk).2.1) i9)))), (a7, .inl (cI, 10, .inl (fun i9 => oI (((pm_pl n k E x Dp Pr Yb nx sk).2.2.1) i9)))), (a8, .inl (cI, 10, .inl (fun i9 => nI (((pm_pl n k E x Dp Pr Yb nx sk).2.2.2.1) i9)))), (a9, .inl (cI, 10, .inl (fun i9 => nI (((pm_pl n k E x Dp Pr Yb nx sk).2.2.2.2) i9)))), (a10, .inl (cI, 18, .inl (fun i9 => nI (((fo (pm_p3 E (pm_pl n k E x Dp Pr Yb nx sk).1) k (dq, sh)).1) i9)))), (a11, .inl (cI, 18, .inl (fun i9 => nI (((fo (pm_p3 E (pm_pl n k E x Dp Pr Yb nx sk).1) k (dq, sh)).2) i9)))), (a3, .inl (cI, 10, .inl Cp1))] → va_S A s.heap H locs → lv_has ls 4 [(3, .int (nI r1)), (2, .int (nI i)), (0, .ref hm), (1, .int x)] → W p l e rm_M_findComponents s m args below meth c H locs 0 0 Q (F0 m 22 ls []) := by
          intro fu22
          induction fu22 with
          | zero =>
            intro r1 H locs ls ht22 hr1 hP hD hS hl
            refine lv_aload_n hx hb d_M_findComponents_22 rfl (lv_at hl 2 rfl) ?_
            refine g_get Sx gf_M hK hP 0 rfl rfl 14 (by decide) gm_433 rfl d_M_findComponents_23 ?_
            refine lv_iload_n hx hb d_M_findComponents_26 rfl (lv_at hl 0 rfl) ?_
            refine g_ild (j := r1) Sx hK hP 3 0 rfl rfl (by omega) (by decide) d_M_findComponents_27 ?_
            refine lv_if_lt hx hb d_M_findComponents_28 (tgt := 41) rfl (fun q3 => ?_) (fun q3 => ?_)
            · skip
              have hd9 : (pm_rtD (pm_pl n k E x Dp Pr Yb nx sk).2.1) r1 = true := by simp [pm_rtD, pm_rtS, q3]
              have e9 : r1 = (pm_rt (pm_pl n k E x Dp Pr Yb nx sk).2.1 i) := by rw [← ht22]; exact (wl_dn hd9 _).symm
              have e_r1 : r1 = (pm_rt (pm_pl n k E x Dp Pr Yb nx sk).2.1 i) := by rw [← e9]
              subst e_r1
              have hl : lv_has ls 4 [(3, .int (nI (pm_rt (pm_pl n k E x Dp Pr Yb nx sk).2.1 i))), (2, .int (nI i)), (0, .ref hm), (1, .int x)] := hl
              have hP : va_P (dC, dI) pcl [(hm, .inr (5, [.int (nI n), .int (nI k), .ref a1, .ref a2, .int (bI wk), .int (bI fl), .int (nI cm1), .ref a3, .ref a4, .int bl, .int sd, .long sm, .int co, .ref a5, .ref a6, .ref a7, .ref a8, .ref a9, .ref a10, .ref a11, .ref a12, .ref a13, .int (bI cf), .ref a14])), (a1, .inl (cI, 36, .inl (fun i9 => nI (E i9)))), (a5, .inl (cI, 10, .inl ((pm_pl n k E x Dp Pr Yb nx sk).1))), (a6, .inl (cI, 10, .inl (fun i9 => oI (((pm_pl n k E x Dp Pr Yb nx sk).2.1) i9)))), (a7, .inl (cI, 10, .inl (fun i9 => oI (((pm_pl n k E x Dp Pr Yb nx sk).2.2.1) i9)))), (a8, .inl (cI, 10, .inl (fun i9 => nI (((pm_pl n k E x Dp Pr Yb nx sk).2.2.2.1) i9)))), (a9, .inl (cI, 10, .inl (fun i9 => nI (((pm_pl n k E x Dp Pr Yb nx sk).2.2.2.2) i9)))), (a10, .inl (cI, 18, .inl (fun i9 => nI (((fo (pm_p3 E (pm_pl n k E x Dp Pr Yb nx sk).1) k (dq, sh)).1) i9)))), (a11, .inl (cI, 18, .inl (fun i9 => nI (((fo (pm_p3 E (pm_pl n k E x Dp Pr Yb nx sk).1) k (dq, sh)).2) i9)))), (a3, .inl (cI, 10, .inl Cp1))] H := hP
              have hD : va_D A [(hm, .inr (5, [.int (nI n), .int (nI k), .ref a1, .ref a2, .int (bI wk), .int (bI fl), .int (nI cm1), .ref a3, .ref a4, .int bl, .int sd, .long sm, .int co, .ref a5, .ref a6, .ref a7, .ref a8, .ref a9, .ref a10, .ref a11, .ref a12, .ref a13, .int (bI cf), .ref a14])), (a1, .inl (cI, 36, .inl (fun i9 => nI (E i9)))), (a5, .inl (cI, 10, .inl ((pm_pl n k E x Dp Pr Yb nx sk).1))), (a6, .inl (cI, 10, .inl (fun i9 => oI (((pm_pl n k E x Dp Pr Yb nx sk).2.1) i9)))), (a7, .inl (cI, 10, .inl (fun i9 => oI (((pm_pl n k E x Dp Pr Yb nx sk).2.2.1) i9)))), (a8, .inl (cI, 10, .inl (fun i9 => nI (((pm_pl n k E x Dp Pr Yb nx sk).2.2.2.1) i9)))), (a9, .inl (cI, 10, .inl (fun i9 => nI (((pm_pl n k E x Dp Pr Yb nx sk).2.2.2.2) i9)))), (a10, .inl (cI, 18, .inl (fun i9 => nI (((fo (pm_p3 E (pm_pl n k E x Dp Pr Yb nx sk).1) k (dq, sh)).1) i9)))), (a11, .inl (cI, 18, .inl (fun i9 => nI (((fo (pm_p3 E (pm_pl n k E x Dp Pr Yb nx sk).1) k (dq, sh)).2) i9)))), (a3, .inl (cI, 10, .inl Cp1))] := hD
              refine lv_aload_n hx hb d_M_findComponents_41 rfl (lv_at hl 2 rfl) ?_
              refine g_get Sx gf_M hK hP 0 rfl rfl 7 (by decide) gm_426 rfl d_M_findComponents_42 ?_
              refine lv_iload_n hx hb d_M_findComponents_45 rfl (lv_at hl 1 rfl) ?_
              refine lv_iload_n hx hb d_M_findComponents_46 rfl (lv_at hl 0 rfl) ?_
              refine lv_iload_n hx hb d_M_findComponents_47 rfl (lv_at hl 1 rfl) ?_
              refine lv_icmp_ne hx hb d_M_findComponents_48 (tgt := 58) rfl (fun q4 => ?_) (fun q4 => ?_)
              · skip
                refine lv_aload_n hx hb d_M_findComponents_58 rfl (lv_at hl 2 rfl) ?_
                refine g_get Sx gf_M hK hP 0 rfl rfl 7 (by decide) gm_426 rfl d_M_findComponents_59 ?_
                refine lv_iload_n hx hb d_M_findComponents_62 rfl (lv_at hl 0 rfl) ?_
                refine g_ild (j := (pm_rt (pm_pl n k E x Dp Pr Yb nx sk).2.1 i)) Sx hK hP 9 0 rfl rfl (by omega) (by decide) d_M_findComponents_63 ?_
                refine g_ist (j := i) Sx hK hP hD hS 9 0 rfl rfl (by omega) (by decide) d_M_findComponents_64 (fun H locs hP hD hS => ?_)
                have hP : va_P (dC, dI) pcl [(hm, .inr (5, [.int (nI n), .int (nI k), .ref a1, .ref a2, .int (bI wk), .int (bI fl), .int (nI cm1), .ref a3, .ref a4, .int bl, .int sd, .long sm, .int co, .ref a5, .ref a6, .ref a7, .ref a8, .ref a9, .ref a10, .ref a11, .ref a12, .ref a13, .int (bI cf), .ref a14])), (a1, .inl (cI, 36, .inl (fun i9 => nI (E i9)))), (a5, .inl (cI, 10, .inl ((pm_pl n k E x Dp Pr Yb nx sk).1))), (a6, .inl (cI, 10, .inl (fun i9 => oI (((pm_pl n k E x Dp Pr Yb nx sk).2.1) i9)))), (a7, .inl (cI, 10, .inl (fun i9 => oI (((pm_pl n k E x Dp Pr Yb nx sk).2.2.1) i9)))), (a8, .inl (cI, 10, .inl (fun i9 => nI (((pm_pl n k E x Dp Pr Yb nx sk).2.2.2.1) i9)))), (a9, .inl (cI, 10, .inl (fun i9 => nI (((pm_pl n k E x Dp Pr Yb nx sk).2.2.2.2) i9)))), (a10, .inl (cI, 18, .inl (fun i9 => nI (((fo (pm_p3 E (pm_pl n k E x Dp Pr Yb nx sk).1) k (dq, sh)).1) i9)))), (a11, .inl (cI, 18, .inl (fun i9 => nI (((fo (pm_p3 E (pm_pl n k E x Dp Pr Yb nx sk).1) k (dq, sh)).2) i9)))), (a3, .inl (cI, 10, .inl (upd Cp1 i (Cp1 (pm_rt (pm_pl n k E x Dp Pr Yb nx sk).2.1 i)))))] H := hP
                have hD : va_D A [(hm, .inr (5, [.int (nI n), .int (nI k), .ref a1, .ref a2, .int (bI wk), .int (bI fl), .int (nI cm1), .ref a3, .ref a4, .int bl, .int sd, .long sm, .int co, .ref a5, .ref a6, .ref a7, .ref a8, .ref a9, .ref a10, .ref a11, .ref a12, .ref a13, .int (bI cf), .ref a14])), (a1, .inl (cI, 36, .inl (fun i9 => nI (E i9)))), (a5, .inl (cI, 10, .inl ((pm_pl n k E x Dp Pr Yb nx sk).1))), (a6, .inl (cI, 10, .inl (fun i9 => oI (((pm_pl n k E x Dp Pr Yb nx sk).2.1) i9)))), (a7, .inl (cI, 10, .inl (fun i9 => oI (((pm_pl n k E x Dp Pr Yb nx sk).2.2.1) i9)))), (a8, .inl (cI, 10, .inl (fun i9 => nI (((pm_pl n k E x Dp Pr Yb nx sk).2.2.2.1) i9)))), (a9, .inl (cI, 10, .inl (fun i9 => nI (((pm_pl n k E x Dp Pr Yb nx sk).2.2.2.2) i9)))), (a10, .inl (cI, 18, .inl (fun i9 => nI (((fo (pm_p3 E (pm_pl n k E x Dp Pr Yb nx sk).1) k (dq, sh)).1) i9)))), (a11, .inl (cI, 18, .inl (fun i9 => nI (((fo (pm_p3 E (pm_pl n k E x Dp Pr Yb nx sk).1) k (dq, sh)).2) i9)))), (a3, .inl (cI, 10, .inl (upd Cp1 i (Cp1 (pm_rt (pm_pl n k E x Dp Pr Yb nx sk).2.1 i)))))] := hD
                refine lv_aload_n hx hb d_M_findComponents_65 rfl (lv_at hl 2 rfl) ?_
                refine lv_iload_n hx hb d_M_findComponents_66 rfl (lv_at hl 0 rfl) ?_
                refine lv_iload_n hx hb d_M_findComponents_67 rfl (lv_at hl 1 rfl) ?_
                refine lv_icmp_ne hx hb d_M_findComponents_68 (tgt := 80) rfl (fun q5 => ?_) (fun q5 => ?_)
                · skip
                  refine lv_aload_n hx hb d_M_findComponents_80 rfl (lv_at hl 2 rfl) ?_
                  refine g_get Sx gf_M hK hP 0 rfl rfl 6 (by decide) gm_425 rfl d_M_findComponents_81 ?_
                  refine g_put Sx gf_M fk_M fn_M hK hP hD hS 0 rfl rfl 6 (by decide) gm_425 rfl rfl rfl (Nat.le_of_ble_eq_true rfl) d_M_findComponents_84 (fun H locs hP hD hS => ?_)
                  have hP : va_P (dC, dI) pcl [(hm, .inr (5, [.int (nI n), .int (nI k), .ref a1, .ref a2, .int (bI wk), .int (bI fl), .int (nI cm1), .ref a3, .ref a4, .int bl, .int sd, .long sm, .int co, .ref a5, .ref a6, .ref a7, .ref a8, .ref a9, .ref a10, .ref a11, .ref a12, .ref a13, .int (bI cf), .ref a14])), (a1, .inl (cI, 36, .inl (fun i9 => nI (E i9)))), (a5, .inl (cI, 10, .inl ((pm_pl n k E x Dp Pr Yb nx sk).1))), (a6, .inl (cI, 10, .inl (fun i9 => oI (((pm_pl n k E x Dp Pr Yb nx sk).2.1) i9)))), (a7, .inl (cI, 10, .inl (fun i9 => oI (((pm_pl n k E x Dp Pr Yb nx sk).2.2.1) i9)))), (a8, .inl (cI, 10, .inl (fun i9 => nI (((pm_pl n k E x Dp Pr Yb nx sk).2.2.2.1) i9)))), (a9, .inl (cI, 10, .inl (fun i9 => nI (((pm_pl n k E x Dp Pr Yb nx sk).2.2.2.2) i9)))), (a10, .inl (cI, 18, .inl (fun i9 => nI (((fo (pm_p3 E (pm_pl n k E x Dp Pr Yb nx sk).1) k (dq, sh)).1) i9)))), (a11, .inl (cI, 18, .inl (fun i9 => nI (((fo (pm_p3 E (pm_pl n k E x Dp Pr Yb nx sk).1) k (dq, sh)).2) i9)))), (a3, .inl (cI, 10, .inl (upd Cp1 i (Cp1 (pm_rt (pm_pl n k E x Dp Pr Yb nx sk).2.1 i)))))] H := hP
                  have hD : va_D A [(hm, .inr (5, [.int (nI n), .int (nI k), .ref a1, .ref a2, .int (bI wk), .int (bI fl), .int (nI cm1), .ref a3, .ref a4, .int bl, .int sd, .long sm, .int co, .ref a5, .ref a6, .ref a7, .ref a8, .ref a9, .ref a10, .ref a11, .ref a12, .ref a13, .int (bI cf), .ref a14])), (a1, .inl (cI, 36, .inl (fun i9 => nI (E i9)))), (a5, .inl (cI, 10, .inl ((pm_pl n k E x Dp Pr Yb nx sk).1))), (a6, .inl (cI, 10, .inl (fun i9 => oI (((pm_pl n k E x Dp Pr Yb nx sk).2.1) i9)))), (a7, .inl (cI, 10, .inl (fun i9 => oI (((pm_pl n k E x Dp Pr Yb nx sk).2.2.1) i9)))), (a8, .inl (cI, 10, .inl (fun i9 => nI (((pm_pl n k E x Dp Pr Yb nx sk).2.2.2.1) i9)))), (a9, .inl (cI, 10, .inl (fun i9 => nI (((pm_pl n k E x Dp Pr Yb nx sk).2.2.2.2) i9)))), (a10, .inl (cI, 18, .inl (fun i9 => nI (((fo (pm_p3 E (pm_pl n k E x Dp Pr Yb nx sk).1) k (dq, sh)).1) i9)))), (a11, .inl (cI, 18, .inl (fun i9 => nI (((fo (pm_p3 E (pm_pl n k E x Dp Pr Yb nx sk).1) k (dq, sh)).2) i9)))), (a3, .inl (cI, 10, .inl (upd Cp1 i (Cp1 (pm_rt (pm_pl n k E x Dp Pr Yb nx sk).2.1 i)))))] := hD
                  refine lv_iinc (k := 1) (v := nI (i + 1)) hx hb d_M_findComponents_87 hl rfl (inc_nI _) (Nat.le_of_ble_eq_true rfl) rfl (fun ls hl => ?_)
                  have hl : lv_has ls 4 [(2, .int (nI (i + 1))), (3, .int (nI (pm_rt (pm_pl n k E x Dp Pr Yb nx sk).2.1 i))), (0, .ref hm), (1, .int x)] := hl
                  refine lv_goto hx hb d_M_findComponents_90 (tgt := 12) rfl ?_
                  have he2 : (upd Cp1 i (Cp1 (pm_rt (pm_pl n k E x Dp Pr Yb nx sk).2.1 i)), cm1) = fo (pm_fc1 (pm_pl n k E x Dp Pr Yb nx sk).2.1) (i + 1) (Cp, 0) := by
                    rw [fo_s, ← he12]
                    simp [pm_fc1, q2, q3, q4, q5]
                  exact ih12 (i + 1) (by omega) (upd Cp1 i (Cp1 (pm_rt (pm_pl n k E x Dp Pr Yb nx sk).2.1 i))) cm1 H locs ls he2 hP hD hS (lv_sub hl [0, 2, 3] rfl)
                · skip
                  exact absurd q5 q4
              · skip
                refine lv_aload_n hx hb d_M_findComponents_51 rfl (lv_at hl 2 rfl) ?_
                refine g_get Sx gf_M hK hP 0 rfl rfl 6 (by decide) gm_425 rfl d_M_findComponents_52 ?_
                refine lv_goto hx hb d_M_findComponents_55 (tgt := 64) rfl ?_
                refine g_ist (j := i) Sx hK hP hD hS 9 0 rfl rfl (by omega) (by decide) d_M_findComponents_64 (fun H locs hP hD hS => ?_)
                have hP : va_P (dC, dI) pcl [(hm, .inr (5, [.int (nI n), .int (nI k), .ref a1, .ref a2, .int (bI wk), .int (bI fl), .int (nI cm1), .ref a3, .ref a4, .int bl, .int sd, .long sm, .int co, .ref a5, .ref a6, .ref a7, .ref a8, .ref a9, .ref a10, .ref a11, .ref a12, .ref a13, .int (bI cf), .ref a14])), (a1, .inl (cI, 36, .inl (fun i9 => nI (E i9)))), (a5, .inl (cI, 10, .inl ((pm_pl n k E x Dp Pr Yb nx sk).1))), (a6, .inl (cI, 10, .inl (fun i9 => oI (((pm_pl n k E x Dp Pr Yb nx sk).2.1) i9)))), (a7, .inl (cI, 10, .inl (fun i9 => oI (((pm_pl n k E x Dp Pr Yb nx sk).2.2.1) i9)))), (a8, .inl (cI, 10, .inl (fun i9 => nI (((pm_pl n k E x Dp Pr Yb nx sk).2.2.2.1) i9)))), (a9, .inl (cI, 10, .inl (fun i9 => nI (((pm_pl n k E x Dp Pr Yb nx sk).2.2.2.2) i9)))), (a10, .inl (cI, 18, .inl (fun i9 => nI (((fo (pm_p3 E (pm_pl n k E x Dp Pr Yb nx sk).1) k (dq, sh)).1) i9)))), (a11, .inl (cI, 18, .inl (fun i9 => nI (((fo (pm_p3 E (pm_pl n k E x Dp Pr Yb nx sk).1) k (dq, sh)).2) i9)))), (a3, .inl (cI, 10, .inl (upd Cp1 i (nI cm1))))] H := hP
                have hD : va_D A [(hm, .inr (5, [.int (nI n), .int (nI k), .ref a1, .ref a2, .int (bI wk), .int (bI fl), .int (nI cm1), .ref a3, .ref a4, .int bl, .int sd, .long sm, .int co, .ref a5, .ref a6, .ref a7, .ref a8, .ref a9, .ref a10, .ref a11, .ref a12, .ref a13, .int (bI cf), .ref a14])), (a1, .inl (cI, 36, .inl (fun i9 => nI (E i9)))), (a5, .inl (cI, 10, .inl ((pm_pl n k E x Dp Pr Yb nx sk).1))), (a6, .inl (cI, 10, .inl (fun i9 => oI (((pm_pl n k E x Dp Pr Yb nx sk).2.1) i9)))), (a7, .inl (cI, 10, .inl (fun i9 => oI (((pm_pl n k E x Dp Pr Yb nx sk).2.2.1) i9)))), (a8, .inl (cI, 10, .inl (fun i9 => nI (((pm_pl n k E x Dp Pr Yb nx sk).2.2.2.1) i9)))), (a9, .inl (cI, 10, .inl (fun i9 => nI (((pm_pl n k E x Dp Pr Yb nx sk).2.2.2.2) i9)))), (a10, .inl (cI, 18, .inl (fun i9 => nI (((fo (pm_p3 E (pm_pl n k E x Dp Pr Yb nx sk).1) k (dq, sh)).1) i9)))), (a11, .inl (cI, 18, .inl (fun i9 => nI (((fo (pm_p3 E (pm_pl n k E x Dp Pr Yb nx sk).1) k (dq, sh)).2) i9)))), (a3, .inl (cI, 10, .inl (upd Cp1 i (nI cm1))))] := hD
                refine lv_aload_n hx hb d_M_findComponents_65 rfl (lv_at hl 2 rfl) ?_
                refine lv_iload_n hx hb d_M_findComponents_66 rfl (lv_at hl 0 rfl) ?_
                refine lv_iload_n hx hb d_M_findComponents_67 rfl (lv_at hl 1 rfl) ?_
                refine lv_icmp_ne hx hb d_M_findComponents_68 (tgt := 80) rfl (fun q6 => ?_) (fun q6 => ?_)
                · skip
                  exact absurd q4 q6
                · skip
                  refine lv_aload_n hx hb d_M_findComponents_71 rfl (lv_at hl 2 rfl) ?_
                  refine g_get Sx gf_M hK hP 0 rfl rfl 6 (by decide) gm_425 rfl d_M_findComponents_72 ?_
                  refine lv_iconst (v := nI 1) hx hb d_M_findComponents_75 (by decide) ?_
                  refine lv_iadd hx hb d_M_findComponents_76 ?_
                  rw [show (((nI cm1) + (nI 1)) : Int32) = nI (cm1 + 1) from nI_add _ _]
                  refine lv_goto hx hb d_M_findComponents_77 (tgt := 84) rfl ?_
                  refine g_put Sx gf_M fk_M fn_M hK hP hD hS 0 rfl rfl 6 (by decide) gm_425 rfl rfl rfl (Nat.le_of_ble_eq_true rfl) d_M_findComponents_84 (fun H locs hP hD hS => ?_)
                  have hP : va_P (dC, dI) pcl [(hm, .inr (5, [.int (nI n), .int (nI k), .ref a1, .ref a2, .int (bI wk), .int (bI fl), .int (nI (cm1 + 1)), .ref a3, .ref a4, .int bl, .int sd, .long sm, .int co, .ref a5, .ref a6, .ref a7, .ref a8, .ref a9, .ref a10, .ref a11, .ref a12, .ref a13, .int (bI cf), .ref a14])), (a1, .inl (cI, 36, .inl (fun i9 => nI (E i9)))), (a5, .inl (cI, 10, .inl ((pm_pl n k E x Dp Pr Yb nx sk).1))), (a6, .inl (cI, 10, .inl (fun i9 => oI (((pm_pl n k E x Dp Pr Yb nx sk).2.1) i9)))), (a7, .inl (cI, 10, .inl (fun i9 => oI (((pm_pl n k E x Dp Pr Yb nx sk).2.2.1) i9)))), (a8, .inl (cI, 10, .inl (fun i9 => nI (((pm_pl n k E x Dp Pr Yb nx sk).2.2.2.1) i9)))), (a9, .inl (cI, 10, .inl (fun i9 => nI (((pm_pl n k E x Dp Pr Yb nx sk).2.2.2.2) i9)))), (a10, .inl (cI, 18, .inl (fun i9 => nI (((fo (pm_p3 E (pm_pl n k E x Dp Pr Yb nx sk).1) k (dq, sh)).1) i9)))), (a11, .inl (cI, 18, .inl (fun i9 => nI (((fo (pm_p3 E (pm_pl n k E x Dp Pr Yb nx sk).1) k (dq, sh)).2) i9)))), (a3, .inl (cI, 10, .inl (upd Cp1 i (nI cm1))))] H := hP
                  have hD : va_D A [(hm, .inr (5, [.int (nI n), .int (nI k), .ref a1, .ref a2, .int (bI wk), .int (bI fl), .int (nI (cm1 + 1)), .ref a3, .ref a4, .int bl, .int sd, .long sm, .int co, .ref a5, .ref a6, .ref a7, .ref a8, .ref a9, .ref a10, .ref a11, .ref a12, .ref a13, .int (bI cf), .ref a14])), (a1, .inl (cI, 36, .inl (fun i9 => nI (E i9)))), (a5, .inl (cI, 10, .inl ((pm_pl n k E x Dp Pr Yb nx sk).1))), (a6, .inl (cI, 10, .inl (fun i9 => oI (((pm_pl n k E x Dp Pr Yb nx sk).2.1) i9)))), (a7, .inl (cI, 10, .inl (fun i9 => oI (((pm_pl n k E x Dp Pr Yb nx sk).2.2.1) i9)))), (a8, .inl (cI, 10, .inl (fun i9 => nI (((pm_pl n k E x Dp Pr Yb nx sk).2.2.2.1) i9)))), (a9, .inl (cI, 10, .inl (fun i9 => nI (((pm_pl n k E x Dp Pr Yb nx sk).2.2.2.2) i9)))), (a10, .inl (cI, 18, .inl (fun i9 => nI (((fo (pm_p3 E (pm_pl n k E x Dp Pr Yb nx sk).1) k (dq, sh)).1) i9)))), (a11, .inl (cI, 18, .inl (fun i9 => nI (((fo (pm_p3 E (pm_pl n k E x Dp Pr Yb nx sk).1) k (dq, sh)).2) i9)))), (a3, .inl (cI, 10, .inl (upd Cp1 i (nI cm1))))] := hD
                  refine lv_iinc (k := 1) (v := nI (i + 1)) hx hb d_M_findComponents_87 hl rfl (inc_nI _) (Nat.le_of_ble_eq_true rfl) rfl (fun ls hl => ?_)
                  have hl : lv_has ls 4 [(2, .int (nI (i + 1))), (3, .int (nI (pm_rt (pm_pl n k E x Dp Pr Yb nx sk).2.1 i))), (0, .ref hm), (1, .int x)] := hl
                  refine lv_goto hx hb d_M_findComponents_90 (tgt := 12) rfl ?_
                  have he2 : (upd Cp1 i (nI cm1), cm1 + 1) = fo (pm_fc1 (pm_pl n k E x Dp Pr Yb nx sk).2.1) (i + 1) (Cp, 0) := by
                    rw [fo_s, ← he12]
                    simp [pm_fc1, q2, q3, q4, q6]
                  exact ih12 (i + 1) (by omega) (upd Cp1 i (nI cm1)) (cm1 + 1) H locs ls he2 hP hD hS (lv_sub hl [0, 2, 3] rfl)
            · skip
              have hd9 : (pm_rtD (pm_pl n k E x Dp Pr Yb nx sk).2.1) r1 = false := by simp [pm_rtD, pm_rtS, q3]
              have ht9 : r1 = (pm_rt (pm_pl n k E x Dp Pr Yb nx sk).2.1 i) := ht22
              rw [ht9, (hrt i (by omega))] at hd9
              cases hd9
          | succ fu22 ih22 =>
            intro r1 H locs ls ht22 hr1 hP hD hS hl
            refine lv_aload_n hx hb d_M_findComponents_22 rfl (lv_at hl 2 rfl) ?_
            refine g_get Sx gf_M hK hP 0 rfl rfl 14 (by decide) gm_433 rfl d_M_findComponents_23 ?_
            refine lv_iload_n hx hb d_M_findComponents_26 rfl (lv_at hl 0 rfl) ?_
            refine g_ild (j := r1) Sx hK hP 3 0 rfl rfl (by omega) (by decide) d_M_findComponents_27 ?_
            refine lv_if_lt hx hb d_M_findComponents_28 (tgt := 41) rfl (fun q7 => ?_) (fun q7 => ?_)
            · skip
              have hd9 : (pm_rtD (pm_pl n k E x Dp Pr Yb nx sk).2.1) r1 = true := by simp [pm_rtD, pm_rtS, q7]
              have e9 : r1 = (pm_rt (pm_pl n k E x Dp Pr Yb nx sk).2.1 i) := by rw [← ht22]; exact (wl_dn hd9 _).symm
              have e_r1 : r1 = (pm_rt (pm_pl n k E x Dp Pr Yb nx sk).2.1 i) := by rw [← e9]
              subst e_r1
              have hl : lv_has ls 4 [(3, .int (nI (pm_rt (pm_pl n k E x Dp Pr Yb nx sk).2.1 i))), (2, .int (nI i)), (0, .ref hm), (1, .int x)] := hl
              have hP : va_P (dC, dI) pcl [(hm, .inr (5, [.int (nI n), .int (nI k), .ref a1, .ref a2, .int (bI wk), .int (bI fl), .int (nI cm1), .ref a3, .ref a4, .int bl, .int sd, .long sm, .int co, .ref a5, .ref a6, .ref a7, .ref a8, .ref a9, .ref a10, .ref a11, .ref a12, .ref a13, .int (bI cf), .ref a14])), (a1, .inl (cI, 36, .inl (fun i9 => nI (E i9)))), (a5, .inl (cI, 10, .inl ((pm_pl n k E x Dp Pr Yb nx sk).1))), (a6, .inl (cI, 10, .inl (fun i9 => oI (((pm_pl n k E x Dp Pr Yb nx sk).2.1) i9)))), (a7, .inl (cI, 10, .inl (fun i9 => oI (((pm_pl n k E x Dp Pr Yb nx sk).2.2.1) i9)))), (a8, .inl (cI, 10, .inl (fun i9 => nI (((pm_pl n k E x Dp Pr Yb nx sk).2.2.2.1) i9)))), (a9, .inl (cI, 10, .inl (fun i9 => nI (((pm_pl n k E x Dp Pr Yb nx sk).2.2.2.2) i9)))), (a10, .inl (cI, 18, .inl (fun i9 => nI (((fo (pm_p3 E (pm_pl n k E x Dp Pr Yb nx sk).1) k (dq, sh)).1) i9)))), (a11, .inl (cI, 18, .inl (fun i9 => nI (((fo (pm_p3 E (pm_pl n k E x Dp Pr Yb nx sk).1) k (dq, sh)).2) i9)))), (a3, .inl (cI, 10, .inl Cp1))] H := hP
              have hD : va_D A [(hm, .inr (5, [.int (nI n), .int (nI k), .ref a1, .ref a2, .int (bI wk), .int (bI fl), .int (nI cm1), .ref a3, .ref a4, .int bl, .int sd, .long sm, .int co, .ref a5, .ref a6, .ref a7, .ref a8, .ref a9, .ref a10, .ref a11, .ref a12, .ref a13, .int (bI cf), .ref a14])), (a1, .inl (cI, 36, .inl (fun i9 => nI (E i9)))), (a5, .inl (cI, 10, .inl ((pm_pl n k E x Dp Pr Yb nx sk).1))), (a6, .inl (cI, 10, .inl (fun i9 => oI (((pm_pl n k E x Dp Pr Yb nx sk).2.1) i9)))), (a7, .inl (cI, 10, .inl (fun i9 => oI (((pm_pl n k E x Dp Pr Yb nx sk).2.2.1) i9)))), (a8, .inl (cI, 10, .inl (fun i9 => nI (((pm_pl n k E x Dp Pr Yb nx sk).2.2.2.1) i9)))), (a9, .inl (cI, 10, .inl (fun i9 => nI (((pm_pl n k E x Dp Pr Yb nx sk).2.2.2.2) i9)))), (a10, .inl (cI, 18, .inl (fun i9 => nI (((fo (pm_p3 E (pm_pl n k E x Dp Pr Yb nx sk).1) k (dq, sh)).1) i9)))), (a11, .inl (cI, 18, .inl (fun i9 => nI (((fo (pm_p3 E (pm_pl n k E x Dp Pr Yb nx sk).1) k (dq, sh)).2) i9)))), (a3, .inl (cI, 10, .inl Cp1))] := hD
              refine lv_aload_n hx hb d_M_findComponents_41 rfl (lv_at hl 2 rfl) ?_
              refine g_get Sx gf_M hK hP 0 rfl rfl 7 (by decide) gm_426 rfl d_M_findComponents_42 ?_
              refine lv_iload_n hx hb d_M_findComponents_45 rfl (lv_at hl 1 rfl) ?_
              refine lv_iload_n hx hb d_M_findComponents_46 rfl (lv_at hl 0 rfl) ?_
              refine lv_iload_n hx hb d_M_findComponents_47 rfl (lv_at hl 1 rfl) ?_
              refine lv_icmp_ne hx hb d_M_findComponents_48 (tgt := 58) rfl (fun q8 => ?_) (fun q8 => ?_)
              · skip
                refine lv_aload_n hx hb d_M_findComponents_58 rfl (lv_at hl 2 rfl) ?_
                refine g_get Sx gf_M hK hP 0 rfl rfl 7 (by decide) gm_426 rfl d_M_findComponents_59 ?_
                refine lv_iload_n hx hb d_M_findComponents_62 rfl (lv_at hl 0 rfl) ?_
                refine g_ild (j := (pm_rt (pm_pl n k E x Dp Pr Yb nx sk).2.1 i)) Sx hK hP 9 0 rfl rfl (by omega) (by decide) d_M_findComponents_63 ?_
                refine g_ist (j := i) Sx hK hP hD hS 9 0 rfl rfl (by omega) (by decide) d_M_findComponents_64 (fun H locs hP hD hS => ?_)
                have hP : va_P (dC, dI) pcl [(hm, .inr (5, [.int (nI n), .int (nI k), .ref a1, .ref a2, .int (bI wk), .int (bI fl), .int (nI cm1), .ref a3, .ref a4, .int bl, .int sd, .long sm, .int co, .ref a5, .ref a6, .ref a7, .ref a8, .ref a9, .ref a10, .ref a11, .ref a12, .ref a13, .int (bI cf), .ref a14])), (a1, .inl (cI, 36, .inl (fun i9 => nI (E i9)))), (a5, .inl (cI, 10, .inl ((pm_pl n k E x Dp Pr Yb nx sk).1))), (a6, .inl (cI, 10, .inl (fun i9 => oI (((pm_pl n k E x Dp Pr Yb nx sk).2.1) i9)))), (a7, .inl (cI, 10, .inl (fun i9 => oI (((pm_pl n k E x Dp Pr Yb nx sk).2.2.1) i9)))), (a8, .inl (cI, 10, .inl (fun i9 => nI (((pm_pl n k E x Dp Pr Yb nx sk).2.2.2.1) i9)))), (a9, .inl (cI, 10, .inl (fun i9 => nI (((pm_pl n k E x Dp Pr Yb nx sk).2.2.2.2) i9)))), (a10, .inl (cI, 18, .inl (fun i9 => nI (((fo (pm_p3 E (pm_pl n k E x Dp Pr Yb nx sk).1) k (dq, sh)).1) i9)))), (a11, .inl (cI, 18, .inl (fun i9 => nI (((fo (pm_p3 E (pm_pl n k E x Dp Pr Yb nx sk).1) k (dq, sh)).2) i9)))), (a3, .inl (cI, 10, .inl (upd Cp1 i (Cp1 (pm_rt (pm_pl n k E x Dp Pr Yb nx sk).2.1 i)))))] H := hP
                have hD : va_D A [(hm, .inr (5, [.int (nI n), .int (nI k), .ref a1, .ref a2, .int (bI wk), .int (bI fl), .int (nI cm1), .ref a3, .ref a4, .int bl, .int sd, .long sm, .int co, .ref a5, .ref a6, .ref a7, .ref a8, .ref a9, .ref a10, .ref a11, .ref a12, .ref a13, .int (bI cf), .ref a14])), (a1, .inl (cI, 36, .inl (fun i9 => nI (E i9)))), (a5, .inl (cI, 10, .inl ((pm_pl n k E x Dp Pr Yb nx sk).1))), (a6, .inl (cI, 10, .inl (fun i9 => oI (((pm_pl n k E x Dp Pr Yb nx sk).2.1) i9)))), (a7, .inl (cI, 10, .inl (fun i9 => oI (((pm_pl n k E x Dp Pr Yb nx sk).2.2.1) i9)))), (a8, .inl (cI, 10, .inl (fun i9 => nI (((pm_pl n k E x Dp Pr Yb nx sk).2.2.2.1) i9)))), (a9, .inl (cI, 10, .inl (fun i9 => nI (((pm_pl n k E x Dp Pr Yb nx sk).2.2.2.2) i9)))), (a10, .inl (cI, 18, .inl (fun i9 => nI (((fo (pm_p3 E (pm_pl n k E x Dp Pr Yb nx sk).1) k (dq, sh)).1) i9)))), (a11, .inl (cI, 18, .inl (fun i9 => nI (((fo (pm_p3 E (pm_pl n k E x Dp Pr Yb nx sk).1) k (dq, sh)).2) i9)))), (a3, .inl (cI, 10, .inl (upd Cp1 i (Cp1 (pm_rt (pm_pl n k E x Dp Pr Yb nx sk).2.1 i)))))] := hD
                refine lv_aload_n hx hb d_M_findComponents_65 rfl (lv_at hl 2 rfl) ?_
                refine lv_iload_n hx hb d_M_findComponents_66 rfl (lv_at hl 0 rfl) ?_
                refine lv_iload_n hx hb d_M_findComponents_67 rfl (lv_at hl 1 rfl) ?_
                refine lv_icmp_ne hx hb d_M_findComponents_68 (tgt := 80) rfl (fun q9 => ?_) (fun q9 => ?_)
                · skip
                  refine lv_aload_n hx hb d_M_findComponents_80 rfl (lv_at hl 2 rfl) ?_
                  refine g_get Sx gf_M hK hP 0 rfl rfl 6 (by decide) gm_425 rfl d_M_findComponents_81 ?_
                  refine g_put Sx gf_M fk_M fn_M hK hP hD hS 0 rfl rfl 6 (by decide) gm_425 rfl rfl rfl (Nat.le_of_ble_eq_true rfl) d_M_findComponents_84 (fun H locs hP hD hS => ?_)
                  have hP : va_P (dC, dI) pcl [(hm, .inr (5, [.int (nI n), .int (nI k), .ref a1, .ref a2, .int (bI wk), .int (bI fl), .int (nI cm1), .ref a3, .ref a4, .int bl, .int sd, .long sm, .int co, .ref a5, .ref a6, .ref a7, .ref a8, .ref a9, .ref a10, .ref a11, .ref a12, .ref a13, .int (bI cf), .ref a14])), (a1, .inl (cI, 36, .inl (fun i9 => nI (E i9)))), (a5, .inl (cI, 10, .inl ((pm_pl n k E x Dp Pr Yb nx sk).1))), (a6, .inl (cI, 10, .inl (fun i9 => oI (((pm_pl n k E x Dp Pr Yb nx sk).2.1) i9)))), (a7, .inl (cI, 10, .inl (fun i9 => oI (((pm_pl n k E x Dp Pr Yb nx sk).2.2.1) i9)))), (a8, .inl (cI, 10, .inl (fun i9 => nI (((pm_pl n k E x Dp Pr Yb nx sk).2.2.2.1) i9)))), (a9, .inl (cI, 10, .inl (fun i9 => nI (((pm_pl n k E x Dp Pr Yb nx sk).2.2.2.2) i9)))), (a10, .inl (cI, 18, .inl (fun i9 => nI (((fo (pm_p3 E (pm_pl n k E x Dp Pr Yb nx sk).1) k (dq, sh)).1) i9)))), (a11, .inl (cI, 18, .inl (fun i9 => nI (((fo (pm_p3 E (pm_pl n k E x Dp Pr Yb nx sk).1) k (dq, sh)).2) i9)))), (a3, .inl (cI, 10, .inl (upd Cp1 i (Cp1 (pm_rt (pm_pl n k E x Dp Pr Yb nx sk).2.1 i)))))] H := hP
                  have hD : va_D A [(hm, .inr (5, [.int (nI n), .int (nI k), .ref a1, .ref a2, .int (bI wk), .int (bI fl), .int (nI cm1), .ref a3, .ref a4, .int bl, .int sd, .long sm, .int co, .ref a5, .ref a6, .ref a7, .ref a8, .ref a9, .ref a10, .ref a11, .ref a12, .ref a13, .int (bI cf), .ref a14])), (a1, .inl (cI, 36, .inl (fun i9 => nI (E i9)))), (a5, .inl (cI, 10, .inl ((pm_pl n k E x Dp Pr Yb nx sk).1))), (a6, .inl (cI, 10, .inl (fun i9 => oI (((pm_pl n k E x Dp Pr Yb nx sk).2.1) i9)))), (a7, .inl (cI, 10, .inl (fun i9 => oI (((pm_pl n k E x Dp Pr Yb nx sk).2.2.1) i9)))), (a8, .inl (cI, 10, .inl (fun i9 => nI (((pm_pl n k E x Dp Pr Yb nx sk).2.2.2.1) i9)))), (a9, .inl (cI, 10, .inl (fun i9 => nI (((pm_pl n k E x Dp Pr Yb nx sk).2.2.2.2) i9)))), (a10, .inl (cI, 18, .inl (fun i9 => nI (((fo (pm_p3 E (pm_pl n k E x Dp Pr Yb nx sk).1) k (dq, sh)).1) i9)))), (a11, .inl (cI, 18, .inl (fun i9 => nI (((fo (pm_p3 E (pm_pl n k E x Dp Pr Yb nx sk).1) k (dq, sh)).2) i9)))), (a3, .inl (cI, 10, .inl (upd Cp1 i (Cp1 (pm_rt (pm_pl n k E x Dp Pr Yb nx sk).2.1 i)))))] := hD
                  refine lv_iinc (k := 1) (v := nI (i + 1)) hx hb d_M_findComponents_87 hl rfl (inc_nI _) (Nat.le_of_ble_eq_true rfl) rfl (fun ls hl => ?_)
                  have hl : lv_has ls 4 [(2, .int (nI (i + 1))), (3, .int (nI (pm_rt (pm_pl n k E x Dp Pr Yb nx sk).2.1 i))), (0, .ref hm), (1, .int x)] := hl
                  refine lv_goto hx hb d_M_findComponents_90 (tgt := 12) rfl ?_
                  have he2 : (upd Cp1 i (Cp1 (pm_rt (pm_pl n k E x Dp Pr Yb nx sk).2.1 i)), cm1) = fo (pm_fc1 (pm_pl n k E x Dp Pr Yb nx sk).2.1) (i + 1) (Cp, 0) := by
                    rw [fo_s, ← he12]
                    simp [pm_fc1, q2, q7, q8, q9]
                  exact ih12 (i + 1) (by omega) (upd Cp1 i (Cp1 (pm_rt (pm_pl n k E x Dp Pr Yb nx sk).2.1 i))) cm1 H locs ls he2 hP hD hS (lv_sub hl [0, 2, 3] rfl)
                · skip
                  exact absurd q9 q8
              · skip
                refine lv_aload_n hx hb d_M_findComponents_51 rfl (lv_at hl 2 rfl) ?_
                refine g_get Sx gf_M hK hP 0 rfl rfl 6 (by decide) gm_425 rfl d_M_findComponents_52 ?_
                refine lv_goto hx hb d_M_findComponents_55 (tgt := 64) rfl ?_
                refine g_ist (j := i) Sx hK hP hD hS 9 0 rfl rfl (by omega) (by decide) d_M_findComponents_64 (fun H locs hP hD hS => ?_)
                have hP : va_P (dC, dI) pcl [(hm, .inr (5, [.int (nI n), .int (nI k), .ref a1, .ref a2, .int (bI wk), .int (bI fl), .int (nI cm1), .ref a3, .ref a4, .int bl, .int sd, .long sm, .int co, .ref a5, .ref a6, .ref a7, .ref a8, .ref a9, .ref a10, .ref a11, .ref a12, .ref a13, .int (bI cf), .ref a14])), (a1, .inl (cI, 36, .inl (fun i9 => nI (E i9)))), (a5, .inl (cI, 10, .inl ((pm_pl n k E x Dp Pr Yb nx sk).1))), (a6, .inl (cI, 10, .inl (fun i9 => oI (((pm_pl n k E x Dp Pr Yb nx sk).2.1) i9)))), (a7, .inl (cI, 10, .inl (fun i9 => oI (((pm_pl n k E x Dp Pr Yb nx sk).2.2.1) i9)))), (a8, .inl (cI, 10, .inl (fun i9 => nI (((pm_pl n k E x Dp Pr Yb nx sk).2.2.2.1) i9)))), (a9, .inl (cI, 10, .inl (fun i9 => nI (((pm_pl n k E x Dp Pr Yb nx sk).2.2.2.2) i9)))), (a10, .inl (cI, 18, .inl (fun i9 => nI (((fo (pm_p3 E (pm_pl n k E x Dp Pr Yb nx sk).1) k (dq, sh)).1) i9)))), (a11, .inl (cI, 18, .inl (fun i9 => nI (((fo (pm_p3 E (pm_pl n k E x Dp Pr Yb nx sk).1) k (dq, sh)).2) i9)))), (a3, .inl (cI, 10, .inl (upd Cp1 i (nI cm1))))] H := hP
                have hD : va_D A [(hm, .inr (5, [.int (nI n), .int (nI k), .ref a1, .ref a2, .int (bI wk), .int (bI fl), .int (nI cm1), .ref a3, .ref a4, .int bl, .int sd, .long sm, .int co, .ref a5, .ref a6, .ref a7, .ref a8, .ref a9, .ref a10, .ref a11, .ref a12, .ref a13, .int (bI cf), .ref a14])), (a1, .inl (cI, 36, .inl (fun i9 => nI (E i9)))), (a5, .inl (cI, 10, .inl ((pm_pl n k E x Dp Pr Yb nx sk).1))), (a6, .inl (cI, 10, .inl (fun i9 => oI (((pm_pl n k E x Dp Pr Yb nx sk).2.1) i9)))), (a7, .inl (cI, 10, .inl (fun i9 => oI (((pm_pl n k E x Dp Pr Yb nx sk).2.2.1) i9)))), (a8, .inl (cI, 10, .inl (fun i9 => nI (((pm_pl n k E x Dp Pr Yb nx sk).2.2.2.1) i9)))), (a9, .inl (cI, 10, .inl (fun i9 => nI (((pm_pl n k E x Dp Pr Yb nx sk).2.2.2.2) i9)))), (a10, .inl (cI, 18, .inl (fun i9 => nI (((fo (pm_p3 E (pm_pl n k E x Dp Pr Yb nx sk).1) k (dq, sh)).1) i9)))), (a11, .inl (cI, 18, .inl (fun i9 => nI (((fo (pm_p3 E (pm_pl n k E x Dp Pr Yb nx sk).1) k (dq, sh)).2) i9)))), (a3, .inl (cI, 10, .inl (upd Cp1 i (nI cm1))))] := hD
                refine lv_aload_n hx hb d_M_findComponents_65 rfl (lv_at hl 2 rfl) ?_
                refine lv_iload_n hx hb d_M_findComponents_66 rfl (lv_at hl 0 rfl) ?_
                refine lv_iload_n hx hb d_M_findComponents_67 rfl (lv_at hl 1 rfl) ?_
                refine lv_icmp_ne hx hb d_M_findComponents_68 (tgt := 80) rfl (fun q10 => ?_) (fun q10 => ?_)
                · skip
                  exact absurd q8 q10
                · skip
                  refine lv_aload_n hx hb d_M_findComponents_71 rfl (lv_at hl 2 rfl) ?_
                  refine g_get Sx gf_M hK hP 0 rfl rfl 6 (by decide) gm_425 rfl d_M_findComponents_72 ?_
                  refine lv_iconst (v := nI 1) hx hb d_M_findComponents_75 (by decide) ?_
                  refine lv_iadd hx hb d_M_findComponents_76 ?_
                  rw [show (((nI cm1) + (nI 1)) : Int32) = nI (cm1 + 1) from nI_add _ _]
                  refine lv_goto hx hb d_M_findComponents_77 (tgt := 84) rfl ?_
                  refine g_put Sx gf_M fk_M fn_M hK hP hD hS 0 rfl rfl 6 (by decide) gm_425 rfl rfl rfl (Nat.le_of_ble_eq_true rfl) d_M_findComponents_84 (fun H locs hP hD hS => ?_)
                  have hP : va_P (dC, dI) pcl [(hm, .inr (5, [.int (nI n), .int (nI k), .ref a1, .ref a2, .int (bI wk), .int (bI fl), .int (nI (cm1 + 1)), .ref a3, .ref a4, .int bl, .int sd, .long sm, .int co, .ref a5, .ref a6, .ref a7, .ref a8, .ref a9, .ref a10, .ref a11, .ref a12, .ref a13, .int (bI cf), .ref a14])), (a1, .inl (cI, 36, .inl (fun i9 => nI (E i9)))), (a5, .inl (cI, 10, .inl ((pm_pl n k E x Dp Pr Yb nx sk).1))), (a6, .inl (cI, 10, .inl (fun i9 => oI (((pm_pl n k E x Dp Pr Yb nx sk).2.1) i9)))), (a7, .inl (cI, 10, .inl (fun i9 => oI (((pm_pl n k E x Dp Pr Yb nx sk).2.2.1) i9)))), (a8, .inl (cI, 10, .inl (fun i9 => nI (((pm_pl n k E x Dp Pr Yb nx sk).2.2.2.1) i9)))), (a9, .inl (cI, 10, .inl (fun i9 => nI (((pm_pl n k E x Dp Pr Yb nx sk).2.2.2.2) i9)))), (a10, .inl (cI, 18, .inl (fun i9 => nI (((fo (pm_p3 E (pm_pl n k E x Dp Pr Yb nx sk).1) k (dq, sh)).1) i9)))), (a11, .inl (cI, 18, .inl (fun i9 => nI (((fo (pm_p3 E (pm_pl n k E x Dp Pr Yb nx sk).1) k (dq, sh)).2) i9)))), (a3, .inl (cI, 10, .inl (upd Cp1 i (nI cm1))))] H := hP
                  have hD : va_D A [(hm, .inr (5, [.int (nI n), .int (nI k), .ref a1, .ref a2, .int (bI wk), .int (bI fl), .int (nI (cm1 + 1)), .ref a3, .ref a4, .int bl, .int sd, .long sm, .int co, .ref a5, .ref a6, .ref a7, .ref a8, .ref a9, .ref a10, .ref a11, .ref a12, .ref a13, .int (bI cf), .ref a14])), (a1, .inl (cI, 36, .inl (fun i9 => nI (E i9)))), (a5, .inl (cI, 10, .inl ((pm_pl n k E x Dp Pr Yb nx sk).1))), (a6, .inl (cI, 10, .inl (fun i9 => oI (((pm_pl n k E x Dp Pr Yb nx sk).2.1) i9)))), (a7, .inl (cI, 10, .inl (fun i9 => oI (((pm_pl n k E x Dp Pr Yb nx sk).2.2.1) i9)))), (a8, .inl (cI, 10, .inl (fun i9 => nI (((pm_pl n k E x Dp Pr Yb nx sk).2.2.2.1) i9)))), (a9, .inl (cI, 10, .inl (fun i9 => nI (((pm_pl n k E x Dp Pr Yb nx sk).2.2.2.2) i9)))), (a10, .inl (cI, 18, .inl (fun i9 => nI (((fo (pm_p3 E (pm_pl n k E x Dp Pr Yb nx sk).1) k (dq, sh)).1) i9)))), (a11, .inl (cI, 18, .inl (fun i9 => nI (((fo (pm_p3 E (pm_pl n k E x Dp Pr Yb nx sk).1) k (dq, sh)).2) i9)))), (a3, .inl (cI, 10, .inl (upd Cp1 i (nI cm1))))] := hD
                  refine lv_iinc (k := 1) (v := nI (i + 1)) hx hb d_M_findComponents_87 hl rfl (inc_nI _) (Nat.le_of_ble_eq_true rfl) rfl (fun ls hl => ?_)
                  have hl : lv_has ls 4 [(2, .int (nI (i + 1))), (3, .int (nI (pm_rt (pm_pl n k E x Dp Pr Yb nx sk).2.1 i))), (0, .ref hm), (1, .int x)] := hl
                  refine lv_goto hx hb d_M_findComponents_90 (tgt := 12) rfl ?_
                  have he2 : (upd Cp1 i (nI cm1), cm1 + 1) = fo (pm_fc1 (pm_pl n k E x Dp Pr Yb nx sk).2.1) (i + 1) (Cp, 0) := by
                    rw [fo_s, ← he12]
                    simp [pm_fc1, q2, q7, q8, q10]
                  exact ih12 (i + 1) (by omega) (upd Cp1 i (nI cm1)) (cm1 + 1) H locs ls he2 hP hD hS (lv_sub hl [0, 2, 3] rfl)
            · skip
              refine lv_aload_n hx hb d_M_findComponents_31 rfl (lv_at hl 2 rfl) ?_
              refine g_get Sx gf_M hK hP 0 rfl rfl 14 (by decide) gm_433 rfl d_M_findComponents_32 ?_
              refine lv_iload_n hx hb d_M_findComponents_35 rfl (lv_at hl 0 rfl) ?_
              refine g_ild (j := r1) Sx hK hP 3 0 rfl rfl (by omega) (by decide) d_M_findComponents_36 ?_
              rw [show (oI (((pm_pl n k E x Dp Pr Yb nx sk).2.1) r1) : Int32) = nI (((pm_pl n k E x Dp Pr Yb nx sk).2.1) r1 - 1) from (oI_pred (by assumption))]
              refine lv_istore_n hx hb d_M_findComponents_37 rfl hl (Nat.le_of_ble_eq_true rfl) rfl (fun ls hl => ?_)
              have hl : lv_has ls 4 [(3, .int (nI (((pm_pl n k E x Dp Pr Yb nx sk).2.1) r1 - 1))), (2, .int (nI i)), (0, .ref hm), (1, .int x)] := hl
              refine lv_goto hx hb d_M_findComponents_38 (tgt := 22) rfl ?_
              have hd9 : (pm_rtD (pm_pl n k E x Dp Pr Yb nx sk).2.1) r1 = false := by simp [pm_rtD, pm_rtS, q7]
              have hs9 : (pm_rtS (pm_pl n k E x Dp Pr Yb nx sk).2.1) r1 = (((pm_pl n k E x Dp Pr Yb nx sk).2.1) r1 - 1) := by simp [pm_rtD, pm_rtS, q7]
              have ht9 : wl (pm_rtD (pm_pl n k E x Dp Pr Yb nx sk).2.1) (pm_rtS (pm_pl n k E x Dp Pr Yb nx sk).2.1) fu22 (((pm_pl n k E x Dp Pr Yb nx sk).2.1) r1 - 1) = (pm_rt (pm_pl n k E x Dp Pr Yb nx sk).2.1 i) := by rw [← ht22, wl_st hd9, hs9]
              exact ih22 (((pm_pl n k E x Dp Pr Yb nx sk).2.1) r1 - 1) H locs ls ht9 (by have h8 := hPr r1; have h7 := oI_ne (by assumption : ¬ oI ((pm_pl n k E x Dp Pr Yb nx sk).2.1 r1) < 0); omega) hP hD hS (lv_sub hl [0, 1, 2, 3] rfl)
        exact hL22 12 i H locs ls rfl (by omega) hP hD hS (lv_sub hl [0, 1, 2, 3] rfl)
  exact hL12 n 0 (by omega) Cp 0 H locs ls rfl (va_P_map hP [1, 2, 3, 4, 5, 6, 7, 8, 9, 0] rfl) (hD.sub [1, 2, 3, 4, 5, 6, 7, 8, 9, 0] (by decide) rfl) hS (lv_sub hl [0, 1, 2] rfl)
theorem d_M_number_0 : decode k_M_number 0 = .ok (.iconst 0, 1) := by decide +kernel
theorem d_M_number_1 : decode k_M_number 1 = .ok (.istore_n 1, 1) := by decide +kernel
theorem d_M_number_2 : decode k_M_number 2 = .ok (.iconst 0, 1) := by decide +kernel
theorem d_M_number_3 : decode k_M_number 3 = .ok (.istore_n 2, 1) := by decide +kernel
theorem d_M_number_4 : decode k_M_number 4 = .ok (.iload_n 2, 1) := by decide +kernel
theorem d_M_number_5 : decode k_M_number 5 = .ok (.aload_n 0, 1) := by decide +kernel
theorem d_M_number_6 : decode k_M_number 6 = .ok (.getfield 56, 3) := by decide +kernel
theorem d_M_number_9 : decode k_M_number 9 = .ok (.if_icmp .ge 81, 3) := by decide +kernel
theorem d_M_number_12 : decode k_M_number 12 = .ok (.aload_n 0, 1) := by decide +kernel
theorem d_M_number_13 : decode k_M_number 13 = .ok (.getfield 19, 3) := by decide +kernel
theorem d_M_number_16 : decode k_M_number 16 = .ok (.iload_n 2, 1) := by decide +kernel
theorem d_M_number_17 : decode k_M_number 17 = .ok (.iaload, 1) := by decide +kernel
theorem d_M_number_18 : decode k_M_number 18 = .ok (.bipush 100, 2) := by decide +kernel
theorem d_M_number_20 : decode k_M_number 20 = .ok (.if_icmp .ge 64, 3) := by decide +kernel
theorem d_M_number_23 : decode k_M_number 23 = .ok (.aload_n 0, 1) := by decide +kernel
theorem d_M_number_24 : decode k_M_number 24 = .ok (.getfield 19, 3) := by decide +kernel
theorem d_M_number_27 : decode k_M_number 27 = .ok (.iload_n 2, 1) := by decide +kernel
theorem d_M_number_28 : decode k_M_number 28 = .ok (.iaload, 1) := by decide +kernel
theorem d_M_number_29 : decode k_M_number 29 = .ok (.istore_n 3, 1) := by decide +kernel
theorem d_M_number_30 : decode k_M_number 30 = .ok (.iload_n 2, 1) := by decide +kernel
theorem d_M_number_31 : decode k_M_number 31 = .ok (.istore 4, 2) := by decide +kernel
theorem d_M_number_33 : decode k_M_number 33 = .ok (.iload 4, 2) := by decide +kernel
theorem d_M_number_35 : decode k_M_number 35 = .ok (.aload_n 0, 1) := by decide +kernel
theorem d_M_number_36 : decode k_M_number 36 = .ok (.getfield 56, 3) := by decide +kernel
theorem d_M_number_39 : decode k_M_number 39 = .ok (.if_icmp .ge 41, 3) := by decide +kernel
theorem d_M_number_42 : decode k_M_number 42 = .ok (.aload_n 0, 1) := by decide +kernel
theorem d_M_number_43 : decode k_M_number 43 = .ok (.getfield 19, 3) := by decide +kernel
theorem d_M_number_46 : decode k_M_number 46 = .ok (.iload 4, 2) := by decide +kernel
theorem d_M_number_48 : decode k_M_number 48 = .ok (.aload_n 0, 1) := by decide +kernel
theorem d_M_number_49 : decode k_M_number 49 = .ok (.getfield 19, 3) := by decide +kernel
theorem d_M_number_52 : decode k_M_number 52 = .ok (.iload 4, 2) := by decide +kernel
theorem d_M_number_54 : decode k_M_number 54 = .ok (.iaload, 1) := by decide +kernel
theorem d_M_number_55 : decode k_M_number 55 = .ok (.iload_n 3, 1) := by decide +kernel
theorem d_M_number_56 : decode k_M_number 56 = .ok (.if_icmp .ne 10, 3) := by decide +kernel
theorem d_M_number_59 : decode k_M_number 59 = .ok (.bipush 100, 2) := by decide +kernel
theorem d_M_number_61 : decode k_M_number 61 = .ok (.iload_n 1, 1) := by decide +kernel
theorem d_M_number_62 : decode k_M_number 62 = .ok (.iadd, 1) := by decide +kernel
theorem d_M_number_63 : decode k_M_number 63 = .ok (.goto 10, 3) := by decide +kernel
theorem d_M_number_66 : decode k_M_number 66 = .ok (.aload_n 0, 1) := by decide +kernel
theorem d_M_number_67 : decode k_M_number 67 = .ok (.getfield 19, 3) := by decide +kernel
theorem d_M_number_70 : decode k_M_number 70 = .ok (.iload 4, 2) := by decide +kernel
theorem d_M_number_72 : decode k_M_number 72 = .ok (.iaload, 1) := by decide +kernel
theorem d_M_number_73 : decode k_M_number 73 = .ok (.iastore, 1) := by decide +kernel
theorem d_M_number_74 : decode k_M_number 74 = .ok (.iinc 4 1, 3) := by decide +kernel
theorem d_M_number_77 : decode k_M_number 77 = .ok (.goto (-44), 3) := by decide +kernel
theorem d_M_number_80 : decode k_M_number 80 = .ok (.iload_n 1, 1) := by decide +kernel
theorem d_M_number_81 : decode k_M_number 81 = .ok (.iconst 1, 1) := by decide +kernel
theorem d_M_number_82 : decode k_M_number 82 = .ok (.iadd, 1) := by decide +kernel
theorem d_M_number_83 : decode k_M_number 83 = .ok (.istore_n 1, 1) := by decide +kernel
theorem d_M_number_84 : decode k_M_number 84 = .ok (.iinc 2 1, 3) := by decide +kernel
theorem d_M_number_87 : decode k_M_number 87 = .ok (.goto (-83), 3) := by decide +kernel
theorem d_M_number_90 : decode k_M_number 90 = .ok (.iconst 0, 1) := by decide +kernel
theorem d_M_number_91 : decode k_M_number 91 = .ok (.istore_n 2, 1) := by decide +kernel
theorem d_M_number_92 : decode k_M_number 92 = .ok (.iload_n 2, 1) := by decide +kernel
theorem d_M_number_93 : decode k_M_number 93 = .ok (.aload_n 0, 1) := by decide +kernel
theorem d_M_number_94 : decode k_M_number 94 = .ok (.getfield 56, 3) := by decide +kernel
theorem d_M_number_97 : decode k_M_number 97 = .ok (.if_icmp .ge 24, 3) := by decide +kernel
theorem d_M_number_100 : decode k_M_number 100 = .ok (.aload_n 0, 1) := by decide +kernel
theorem d_M_number_101 : decode k_M_number 101 = .ok (.getfield 19, 3) := by decide +kernel
theorem d_M_number_104 : decode k_M_number 104 = .ok (.iload_n 2, 1) := by decide +kernel
theorem d_M_number_105 : decode k_M_number 105 = .ok (.aload_n 0, 1) := by decide +kernel
theorem d_M_number_106 : decode k_M_number 106 = .ok (.getfield 19, 3) := by decide +kernel
theorem d_M_number_109 : decode k_M_number 109 = .ok (.iload_n 2, 1) := by decide +kernel
theorem d_M_number_110 : decode k_M_number 110 = .ok (.iaload, 1) := by decide +kernel
theorem d_M_number_111 : decode k_M_number 111 = .ok (.bipush 100, 2) := by decide +kernel
theorem d_M_number_113 : decode k_M_number 113 = .ok (.isub, 1) := by decide +kernel
theorem d_M_number_114 : decode k_M_number 114 = .ok (.iastore, 1) := by decide +kernel
theorem d_M_number_115 : decode k_M_number 115 = .ok (.iinc 2 1, 3) := by decide +kernel
theorem d_M_number_118 : decode k_M_number 118 = .ok (.goto (-26), 3) := by decide +kernel
theorem d_M_number_121 : decode k_M_number 121 = .ok (.aload_n 0, 1) := by decide +kernel
theorem d_M_number_122 : decode k_M_number 122 = .ok (.iload_n 1, 1) := by decide +kernel
theorem d_M_number_123 : decode k_M_number 123 = .ok (.putfield 134, 3) := by decide +kernel
theorem d_M_number_126 : decode k_M_number 126 = .ok (.return_, 1) := by decide +kernel
abbrev rm_M_number : Room := { frames := 0, cells := 0, slots := 0, locals := 0 }
theorem hd_M_number : y_M_number.cls = n_M ∧ y_M_number.cls ≠ "java/lang/invoke/MethodHandle" ∧ y_M_number.cls ≠ "java/lang/invoke/VarHandle" ∧ (parseMethodDescriptor y_M_number.desc).map (fun d => d.parameters.length) = some 0 := by decide +kernel
set_option maxHeartbeats 4000000 in
set_option maxRecDepth 100000 in
theorem c_M_number (l : Launch) (dC : Nat → ClassId) (dI : Nat → Nat → Nat) (n : Nat) (k : Nat) (wk : Bool) (fl : Bool) (cm : Nat) (bl : Int32) (sd : Int32) (sm : Int64) (co : Int32) (cf : Bool) (hm : Nat) (a1 : Nat) (a2 : Nat) (a3 : Nat) (a4 : Nat) (a5 : Nat) (a6 : Nat) (a7 : Nat) (a8 : Nat) (a9 : Nat) (a10 : Nat) (a11 : Nat) (a12 : Nat) (a13 : Nat) (a14 : Nat) (cI : ClassId) (Bk : Nat → Int32) (sz : Nat) (hk : k ≤ 18) : Met l y_M_number (.code y_M_number k_M_number 5 none :: gw) rm_M_number (rwP [.ref hm] (dC, dI) [(hm, .inr (5, [.int (nI n), .int (nI k), .ref a1, .ref a2, .int (bI wk), .int (bI fl), .int (nI cm), .ref a3, .ref a4, .int bl, .int sd, .long sm, .int co, .ref a5, .ref a6, .ref a7, .ref a8, .ref a9, .ref a10, .ref a11, .ref a12, .ref a13, .int (bI cf), .ref a14])), (a4, .inl (cI, 18, .inl Bk))] [(cI, .int)] sz) (va_Qv (fun _ : Unit => True) (rwB (dC, dI) [(hm, .inr (5, [.int (nI n), .int (nI k), .ref a1, .ref a2, .int (bI wk), .int (bI fl), .int (nI cm), .ref a3, .ref a4, .int (nI (fo (pm_nu2 k) k (0, Bk)).1), .int sd, .long sm, .int co, .ref a5, .ref a6, .ref a7, .ref a8, .ref a9, .ref a10, .ref a11, .ref a12, .ref a13, .int (bI cf), .ref a14])), (a4, .inl (cI, 18, .inl (fo pm_nu3 k (fo (pm_nu2 k) k (0, Bk)).2)))] [(cI, .int)] (va_A [(hm, .inr (5, [.int (nI n), .int (nI k), .ref a1, .ref a2, .int (bI wk), .int (bI fl), .int (nI cm), .ref a3, .ref a4, .int bl, .int sd, .long sm, .int co, .ref a5, .ref a6, .ref a7, .ref a8, .ref a9, .ref a10, .ref a11, .ref a12, .ref a13, .int (bI cf), .ref a14])), (a4, .inl (cI, 18, .inl Bk))] sz)) (va_A [(hm, .inr (5, [.int (nI n), .int (nI k), .ref a1, .ref a2, .int (bI wk), .int (bI fl), .int (nI cm), .ref a3, .ref a4, .int bl, .int sd, .long sm, .int co, .ref a5, .ref a6, .ref a7, .ref a8, .ref a9, .ref a10, .ref a11, .ref a12, .ref a13, .int (bI cf), .ref a14])), (a4, .inl (cI, 18, .inl Bk))] sz)) 0 0 (va_A [(hm, .inr (5, [.int (nI n), .int (nI k), .ref a1, .ref a2, .int (bI wk), .int (bI fl), .int (nI cm), .ref a3, .ref a4, .int bl, .int sd, .long sm, .int co, .ref a5, .ref a6, .ref a7, .ref a8, .ref a9, .ref a10, .ref a11, .ref a12, .ref a13, .int (bI cf), .ref a14])), (a4, .inl (cI, 18, .inl Bk))] sz) := by
  refine rw_met (by decide) ⟨rfl, rfl⟩ (Nat.le_of_ble_eq_true rfl) ?_
  intro p e s m args below meth c Q A ls Sx hP hK hD hA hl hret
  have hx := Sx.1
  have hb := Sx.2.1
  have hl : lv_has ls 5 [(0, .ref hm)] := hl
  have hS : va_S A s.heap s.heap [] := va_S.rf
  obtain ⟨H, hH⟩ : ∃ H, H = s.heap := ⟨_, rfl⟩
  obtain ⟨locs, hlo⟩ : ∃ locs : List Loc, locs = [] := ⟨_, rfl⟩
  rw [← hlo]
  rw [← hlo] at hS
  have hP : va_P (dC, dI) pcl [(hm, .inr (5, [.int (nI n), .int (nI k), .ref a1, .ref a2, .int (bI wk), .int (bI fl), .int (nI cm), .ref a3, .ref a4, .int bl, .int sd, .long sm, .int co, .ref a5, .ref a6, .ref a7, .ref a8, .ref a9, .ref a10, .ref a11, .ref a12, .ref a13, .int (bI cf), .ref a14])), (a4, .inl (cI, 18, .inl Bk))] H := by rw [hH]; exact hP
  have hS : va_S A s.heap H locs := by rw [hH]; exact hS
  suffices hgo : W p l e rm_M_number s m args below meth c H locs 0 0 Q (F0 m 0 ls []) by rw [hH] at hgo; exact hgo
  refine lv_iconst (v := nI 0) hx hb d_M_number_0 (by decide) ?_
  refine lv_istore_n hx hb d_M_number_1 rfl hl (Nat.le_of_ble_eq_true rfl) rfl (fun ls hl => ?_)
  have hl : lv_has ls 5 [(1, .int (nI 0)), (0, .ref hm)] := hl
  refine lv_iconst (v := nI 0) hx hb d_M_number_2 (by decide) ?_
  refine lv_istore_n hx hb d_M_number_3 rfl hl (Nat.le_of_ble_eq_true rfl) rfl (fun ls hl => ?_)
  have hl : lv_has ls 5 [(2, .int (nI 0)), (1, .int (nI 0)), (0, .ref hm)] := hl
  have hL4 : ∀ (kk i : Nat), i + kk = k → ∀ (nn : Nat) (Bk1 : Nat → Int32) (H : Heap) (locs : List Loc) (ls : Array Slot), (nn, Bk1) = fo (pm_nu2 k) i (0, Bk) → va_P (dC, dI) pcl [(hm, .inr (5, [.int (nI n), .int (nI k), .ref a1, .ref a2, .int (bI wk), .int (bI fl), .int (nI cm), .ref a3, .ref a4, .int bl, .int sd, .long sm, .int co, .ref a5, .ref a6, .ref a7, .ref a8, .ref a9, .ref a10, .ref a11, .ref a12, .ref a13, .int (bI cf), .ref a14])), (a4, .inl (cI, 18, .inl Bk1))] H → va_D A [(hm, .inr (5, [.int (nI n), .int (nI k), .ref a1, .ref a2, .int (bI wk), .int (bI fl), .int (nI cm), .ref a3, .ref a4, .int bl, .int sd, .long sm, .int co, .ref a5, .ref a6, .ref a7, .ref a8, .ref a9, .ref a10, .ref a11, .ref a12, .ref a13, .int (bI cf), .ref a14])), (a4, .inl (cI, 18, .inl Bk1))] → va_S A s.heap H locs → lv_has ls 5 [(2, .int (nI i)), (1, .int (nI nn)), (0, .ref hm)] → W p l e rm_M_number s m args below meth c H locs 0 0 Q (F0 m 4 ls []) := by
    intro kk
    induction kk with
    | zero =>
      intro i hi4 nn Bk1 H locs ls he4 hP hD hS hl
      have hj4 : i = k := by omega
      rw [hj4] at hl he4
      have e_nn : nn = (fo (pm_nu2 k) k (0, Bk)).1 := by rw [← he4]
      subst e_nn
      have e_Bk1 : Bk1 = (fo (pm_nu2 k) k (0, Bk)).2 := by rw [← he4]
      subst e_Bk1
      have hl : lv_has ls 5 [(2, .int (nI k)), (1, .int (nI ((fo (pm_nu2 k) k (0, Bk)).1))), (0, .ref hm)] := hl
      have hP : va_P (dC, dI) pcl [(hm, .inr (5, [.int (nI n), .int (nI k), .ref a1, .ref a2, .int (bI wk), .int (bI fl), .int (nI cm), .ref a3, .ref a4, .int bl, .int sd, .long sm, .int co, .ref a5, .ref a6, .ref a7, .ref a8, .ref a9, .ref a10, .ref a11, .ref a12, .ref a13, .int (bI cf), .ref a14])), (a4, .inl (cI, 18, .inl ((fo (pm_nu2 k) k (0, Bk)).2)))] H := hP
      have hD : va_D A [(hm, .inr (5, [.int (nI n), .int (nI k), .ref a1, .ref a2, .int (bI wk), .int (bI fl), .int (nI cm), .ref a3, .ref a4, .int bl, .int sd, .long sm, .int co, .ref a5, .ref a6, .ref a7, .ref a8, .ref a9, .ref a10, .ref a11, .ref a12, .ref a13, .int (bI cf), .ref a14])), (a4, .inl (cI, 18, .inl ((fo (pm_nu2 k) k (0, Bk)).2)))] := hD
      refine lv_iload_n hx hb d_M_number_4 rfl (lv_at hl 0 rfl) ?_
      refine lv_aload_n hx hb d_M_number_5 rfl (lv_at hl 2 rfl) ?_
      refine g_get Sx gf_M hK hP 0 rfl rfl 1 (by decide) gm_420 rfl d_M_number_6 ?_
      refine lv_icmp_ge hx hb d_M_number_9 (tgt := 90) rfl (fun q1 => ?_) (fun q1 => ?_)
      · have q1 : k ≤ k := nq_le (by omega) (by omega) q1
        refine lv_iconst (v := nI 0) hx hb d_M_number_90 (by decide) ?_
        refine lv_istore_n hx hb d_M_number_91 rfl hl (Nat.le_of_ble_eq_true rfl) rfl (fun ls hl => ?_)
        have hl : lv_has ls 5 [(2, .int (nI 0)), (1, .int (nI ((fo (pm_nu2 k) k (0, Bk)).1))), (0, .ref hm)] := hl
        have hL92 : ∀ (kk i : Nat), i + kk = k → ∀ (Bk3 : Nat → Int32) (H : Heap) (locs : List Loc) (ls : Array Slot), Bk3 = fo pm_nu3 i ((fo (pm_nu2 k) k (0, Bk)).2) → va_P (dC, dI) pcl [(hm, .inr (5, [.int (nI n), .int (nI k), .ref a1, .ref a2, .int (bI wk), .int (bI fl), .int (nI cm), .ref a3, .ref a4, .int bl, .int sd, .long sm, .int co, .ref a5, .ref a6, .ref a7, .ref a8, .ref a9, .ref a10, .ref a11, .ref a12, .ref a13, .int (bI cf), .ref a14])), (a4, .inl (cI, 18, .inl Bk3))] H → va_D A [(hm, .inr (5, [.int (nI n), .int (nI k), .ref a1, .ref a2, .int (bI wk), .int (bI fl), .int (nI cm), .ref a3, .ref a4, .int bl, .int sd, .long sm, .int co, .ref a5, .ref a6, .ref a7, .ref a8, .ref a9, .ref a10, .ref a11, .ref a12, .ref a13, .int (bI cf), .ref a14])), (a4, .inl (cI, 18, .inl Bk3))] → va_S A s.heap H locs → lv_has ls 5 [(2, .int (nI i)), (1, .int (nI ((fo (pm_nu2 k) k (0, Bk)).1))), (0, .ref hm)] → W p l e rm_M_number s m args below meth c H locs 0 0 Q (F0 m 92 ls []) := by
          intro kk
          induction kk with
          | zero =>
            intro i hi92 Bk3 H locs ls he92 hP hD hS hl
            have hj92 : i = k := by omega
            rw [hj92] at hl he92
            have e_Bk3 : Bk3 = (fo pm_nu3 k ((fo (pm_nu2 k) k (0, Bk)).2)) := by rw [← he92]
            subst e_Bk3
            have hl : lv_has ls 5 [(2, .int (nI k)), (1, .int (nI ((fo (pm_nu2 k) k (0, Bk)).1))), (0, .ref hm)] := hl
            have hP : va_P (dC, dI) pcl [(hm, .inr (5, [.int (nI n), .int (nI k), .ref a1, .ref a2, .int (bI wk), .int (bI fl), .int (nI cm), .ref a3, .ref a4, .int bl, .int sd, .long sm, .int co, .ref a5, .ref a6, .ref a7, .ref a8, .ref a9, .ref a10, .ref a11, .ref a12, .ref a13, .int (bI cf), .ref a14])), (a4, .inl (cI, 18, .inl (fo pm_nu3 k ((fo (pm_nu2 k) k (0, Bk)).2))))] H := hP
            have hD : va_D A [(hm, .inr (5, [.int (nI n), .int (nI k), .ref a1, .ref a2, .int (bI wk), .int (bI fl), .int (nI cm), .ref a3, .ref a4, .int bl, .int sd, .long sm, .int co, .ref a5, .ref a6, .ref a7, .ref a8, .ref a9, .ref a10, .ref a11, .ref a12, .ref a13, .int (bI cf), .ref a14])), (a4, .inl (cI, 18, .inl (fo pm_nu3 k ((fo (pm_nu2 k) k (0, Bk)).2))))] := hD
            refine lv_iload_n hx hb d_M_number_92 rfl (lv_at hl 0 rfl) ?_
            refine lv_aload_n hx hb d_M_number_93 rfl (lv_at hl 2 rfl) ?_
            refine g_get Sx gf_M hK hP 0 rfl rfl 1 (by decide) gm_420 rfl d_M_number_94 ?_
            refine lv_icmp_ge hx hb d_M_number_97 (tgt := 121) rfl (fun q2 => ?_) (fun q2 => ?_)
            · have q2 : k ≤ k := nq_le (by omega) (by omega) q2
              refine lv_aload_n hx hb d_M_number_121 rfl (lv_at hl 2 rfl) ?_
              refine lv_iload_n hx hb d_M_number_122 rfl (lv_at hl 1 rfl) ?_
              refine g_put Sx gf_M fk_M fn_M hK hP hD hS 0 rfl rfl 9 (by decide) gm_428 rfl rfl rfl (Nat.le_of_ble_eq_true rfl) d_M_number_123 (fun H locs hP hD hS => ?_)
              have hP : va_P (dC, dI) pcl [(hm, .inr (5, [.int (nI n), .int (nI k), .ref a1, .ref a2, .int (bI wk), .int (bI fl), .int (nI cm), .ref a3, .ref a4, .int (nI ((fo (pm_nu2 k) k (0, Bk)).1)), .int sd, .long sm, .int co, .ref a5, .ref a6, .ref a7, .ref a8, .ref a9, .ref a10, .ref a11, .ref a12, .ref a13, .int (bI cf), .ref a14])), (a4, .inl (cI, 18, .inl (fo pm_nu3 k ((fo (pm_nu2 k) k (0, Bk)).2))))] H := hP
              have hD : va_D A [(hm, .inr (5, [.int (nI n), .int (nI k), .ref a1, .ref a2, .int (bI wk), .int (bI fl), .int (nI cm), .ref a3, .ref a4, .int (nI ((fo (pm_nu2 k) k (0, Bk)).1)), .int sd, .long sm, .int co, .ref a5, .ref a6, .ref a7, .ref a8, .ref a9, .ref a10, .ref a11, .ref a12, .ref a13, .int (bI cf), .ref a14])), (a4, .inl (cI, 18, .inl (fo pm_nu3 k ((fo (pm_nu2 k) k (0, Bk)).2))))] := hD
              exact hret _ H locs _ d_M_number_126 hP hD hS
            · have q2 : k < k := nq_nle (by omega) (by omega) q2
              exact absurd q2 (by omega)
          | succ kk ih92 =>
            intro i hi92 Bk3 H locs ls he92 hP hD hS hl
            refine lv_iload_n hx hb d_M_number_92 rfl (lv_at hl 0 rfl) ?_
            refine lv_aload_n hx hb d_M_number_93 rfl (lv_at hl 2 rfl) ?_
            refine g_get Sx gf_M hK hP 0 rfl rfl 1 (by decide) gm_420 rfl d_M_number_94 ?_
            refine lv_icmp_ge hx hb d_M_number_97 (tgt := 121) rfl (fun q3 => ?_) (fun q3 => ?_)
            · have q3 : k ≤ i := nq_le (by omega) (by omega) q3
              exact absurd q3 (by omega)
            · have q3 : i < k := nq_nle (by omega) (by omega) q3
              refine lv_aload_n hx hb d_M_number_100 rfl (lv_at hl 2 rfl) ?_
              refine g_get Sx gf_M hK hP 0 rfl rfl 8 (by decide) gm_427 rfl d_M_number_101 ?_
              refine lv_iload_n hx hb d_M_number_104 rfl (lv_at hl 0 rfl) ?_
              refine lv_aload_n hx hb d_M_number_105 rfl (lv_at hl 2 rfl) ?_
              refine g_get Sx gf_M hK hP 0 rfl rfl 8 (by decide) gm_427 rfl d_M_number_106 ?_
              refine lv_iload_n hx hb d_M_number_109 rfl (lv_at hl 0 rfl) ?_
              refine g_ild (j := i) Sx hK hP 1 0 rfl rfl (by omega) (by decide) d_M_number_110 ?_
              refine lv_bipush (v := 100) hx hb d_M_number_111 (by decide) ?_
              refine lv_isub hx hb d_M_number_113 ?_
              refine g_ist (j := i) Sx hK hP hD hS 1 0 rfl rfl (by omega) (by decide) d_M_number_114 (fun H locs hP hD hS => ?_)
              have hP : va_P (dC, dI) pcl [(hm, .inr (5, [.int (nI n), .int (nI k), .ref a1, .ref a2, .int (bI wk), .int (bI fl), .int (nI cm), .ref a3, .ref a4, .int bl, .int sd, .long sm, .int co, .ref a5, .ref a6, .ref a7, .ref a8, .ref a9, .ref a10, .ref a11, .ref a12, .ref a13, .int (bI cf), .ref a14])), (a4, .inl (cI, 18, .inl (upd Bk3 i ((Bk3 i) - 100))))] H := hP
              have hD : va_D A [(hm, .inr (5, [.int (nI n), .int (nI k), .ref a1, .ref a2, .int (bI wk), .int (bI fl), .int (nI cm), .ref a3, .ref a4, .int bl, .int sd, .long sm, .int co, .ref a5, .ref a6, .ref a7, .ref a8, .ref a9, .ref a10, .ref a11, .ref a12, .ref a13, .int (bI cf), .ref a14])), (a4, .inl (cI, 18, .inl (upd Bk3 i ((Bk3 i) - 100))))] := hD
              refine lv_iinc (k := 0) (v := nI (i + 1)) hx hb d_M_number_115 hl rfl (inc_nI _) (Nat.le_of_ble_eq_true rfl) rfl (fun ls hl => ?_)
              have hl : lv_has ls 5 [(2, .int (nI (i + 1))), (1, .int (nI ((fo (pm_nu2 k) k (0, Bk)).1))), (0, .ref hm)] := hl
              refine lv_goto hx hb d_M_number_118 (tgt := 92) rfl ?_
              have he2 : (upd Bk3 i ((Bk3 i) - 100)) = fo pm_nu3 (i + 1) ((fo (pm_nu2 k) k (0, Bk)).2) := by
                rw [fo_s, ← he92]
                simp [pm_nu3, q1, q3]
              exact ih92 (i + 1) (by omega) (upd Bk3 i ((Bk3 i) - 100)) H locs ls he2 hP hD hS (lv_sub hl [0, 1, 2] rfl)
        exact hL92 k 0 (by omega) ((fo (pm_nu2 k) k (0, Bk)).2) H locs ls rfl hP hD hS (lv_sub hl [0, 1, 2] rfl)
      · have q1 : k < k := nq_nle (by omega) (by omega) q1
        exact absurd q1 (by omega)
    | succ kk ih4 =>
      intro i hi4 nn Bk1 H locs ls he4 hP hD hS hl
      refine lv_iload_n hx hb d_M_number_4 rfl (lv_at hl 0 rfl) ?_
      refine lv_aload_n hx hb d_M_number_5 rfl (lv_at hl 2 rfl) ?_
      refine g_get Sx gf_M hK hP 0 rfl rfl 1 (by decide) gm_420 rfl d_M_number_6 ?_
      refine lv_icmp_ge hx hb d_M_number_9 (tgt := 90) rfl (fun q4 => ?_) (fun q4 => ?_)
      · have q4 : k ≤ i := nq_le (by omega) (by omega) q4
        exact absurd q4 (by omega)
      · have q4 : i < k := nq_nle (by omega) (by omega) q4
        refine lv_aload_n hx hb d_M_number_12 rfl (lv_at hl 2 rfl) ?_
        refine g_get Sx gf_M hK hP 0 rfl rfl 8 (by decide) gm_427 rfl d_M_number_13 ?_
        refine lv_iload_n hx hb d_M_number_16 rfl (lv_at hl 0 rfl) ?_
        refine g_ild (j := i) Sx hK hP 1 0 rfl rfl (by omega) (by decide) d_M_number_17 ?_
        refine lv_bipush (v := 100) hx hb d_M_number_18 (by decide) ?_
        refine lv_icmp_ge hx hb d_M_number_20 (tgt := 84) rfl (fun q5 => ?_) (fun q5 => ?_)
        · skip
          refine lv_iinc (k := 0) (v := nI (i + 1)) hx hb d_M_number_84 hl rfl (inc_nI _) (Nat.le_of_ble_eq_true rfl) rfl (fun ls hl => ?_)
          have hl : lv_has ls 5 [(2, .int (nI (i + 1))), (1, .int (nI nn)), (0, .ref hm)] := hl
          refine lv_goto hx hb d_M_number_87 (tgt := 4) rfl ?_
          have he2 : (nn, Bk1) = fo (pm_nu2 k) (i + 1) (0, Bk) := by
            rw [fo_s, ← he4]
            simp [pm_nu2, q4, q5]
          exact ih4 (i + 1) (by omega) nn Bk1 H locs ls he2 hP hD hS (lv_sub hl [0, 1, 2] rfl)
        · skip
          refine lv_aload_n hx hb d_M_number_23 rfl (lv_at hl 2 rfl) ?_
          refine g_get Sx gf_M hK hP 0 rfl rfl 8 (by decide) gm_427 rfl d_M_number_24 ?_
          refine lv_iload_n hx hb d_M_number_27 rfl (lv_at hl 0 rfl) ?_
          refine g_ild (j := i) Sx hK hP 1 0 rfl rfl (by omega) (by decide) d_M_number_28 ?_
          refine lv_istore_n hx hb d_M_number_29 rfl hl (Nat.le_of_ble_eq_true rfl) rfl (fun ls hl => ?_)
          have hl : lv_has ls 5 [(3, .int (Bk1 i)), (2, .int (nI i)), (1, .int (nI nn)), (0, .ref hm)] := hl
          refine lv_iload_n hx hb d_M_number_30 rfl (lv_at hl 1 rfl) ?_
          refine lv_istore hx hb d_M_number_31 hl (Nat.le_of_ble_eq_true rfl) rfl (fun ls hl => ?_)
          have hl : lv_has ls 5 [(4, .int (nI i)), (3, .int (Bk1 i)), (2, .int (nI i)), (1, .int (nI nn)), (0, .ref hm)] := hl
          have hL33 : ∀ (kk j : Nat), j + kk = (k - i) → ∀ (Bk2 : Nat → Int32) (H : Heap) (locs : List Loc) (ls : Array Slot), Bk2 = fo (pm_nu1 i (Bk1 i) (100 + nI nn)) j Bk1 → va_P (dC, dI) pcl [(hm, .inr (5, [.int (nI n), .int (nI k), .ref a1, .ref a2, .int (bI wk), .int (bI fl), .int (nI cm), .ref a3, .ref a4, .int bl, .int sd, .long sm, .int co, .ref a5, .ref a6, .ref a7, .ref a8, .ref a9, .ref a10, .ref a11, .ref a12, .ref a13, .int (bI cf), .ref a14])), (a4, .inl (cI, 18, .inl Bk2))] H → va_D A [(hm, .inr (5, [.int (nI n), .int (nI k), .ref a1, .ref a2, .int (bI wk), .int (bI fl), .int (nI cm), .ref a3, .ref a4, .int bl, .int sd, .long sm, .int co, .ref a5, .ref a6, .ref a7, .ref a8, .ref a9, .ref a10, .ref a11, .ref a12, .ref a13, .int (bI cf), .ref a14])), (a4, .inl (cI, 18, .inl Bk2))] → va_S A s.heap H locs → lv_has ls 5 [(4, .int (nI (i + j))), (3, .int (Bk1 i)), (2, .int (nI i)), (1, .int (nI nn)), (0, .ref hm)] → W p l e rm_M_number s m args below meth c H locs 0 0 Q (F0 m 33 ls []) := by
            intro kk
            induction kk with
            | zero =>
              intro j hi33 Bk2 H locs ls he33 hP hD hS hl
              have hj33 : j = k - i := by omega
              rw [hj33] at hl he33
              have e_Bk2 : Bk2 = (fo (pm_nu1 i (Bk1 i) (100 + nI nn)) (k - i) Bk1) := by rw [← he33]
              subst e_Bk2
              have hl : lv_has ls 5 [(4, .int (nI (i + (k - i)))), (3, .int (Bk1 i)), (2, .int (nI i)), (1, .int (nI nn)), (0, .ref hm)] := hl
              have hP : va_P (dC, dI) pcl [(hm, .inr (5, [.int (nI n), .int (nI k), .ref a1, .ref a2, .int (bI wk), .int (bI fl), .int (nI cm), .ref a3, .ref a4, .int bl, .int sd, .long sm, .int co, .ref a5, .ref a6, .ref a7, .ref a8, .ref a9, .ref a10, .ref a11, .ref a12, .ref a13, .int (bI cf), .ref a14])), (a4, .inl (cI, 18, .inl (fo (pm_nu1 i (Bk1 i) (100 + nI nn)) (k - i) Bk1)))] H := hP
              have hD : va_D A [(hm, .inr (5, [.int (nI n), .int (nI k), .ref a1, .ref a2, .int (bI wk), .int (bI fl), .int (nI cm), .ref a3, .ref a4, .int bl, .int sd, .long sm, .int co, .ref a5, .ref a6, .ref a7, .ref a8, .ref a9, .ref a10, .ref a11, .ref a12, .ref a13, .int (bI cf), .ref a14])), (a4, .inl (cI, 18, .inl (fo (pm_nu1 i (Bk1 i) (100 + nI nn)) (k - i) Bk1)))] := hD
              refine lv_iload hx hb d_M_number_33 (lv_at hl 0 rfl) ?_
              refine lv_aload_n hx hb d_M_number_35 rfl (lv_at hl 4 rfl) ?_
              refine g_get Sx gf_M hK hP 0 rfl rfl 1 (by decide) gm_420 rfl d_M_number_36 ?_
              refine lv_icmp_ge hx hb d_M_number_39 (tgt := 80) rfl (fun q6 => ?_) (fun q6 => ?_)
              · have q6 : k ≤ (i + (k - i)) := nq_le (by omega) (by omega) q6
                refine lv_iload_n hx hb d_M_number_80 rfl (lv_at hl 3 rfl) ?_
                refine lv_iconst (v := nI 1) hx hb d_M_number_81 (by decide) ?_
                refine lv_iadd hx hb d_M_number_82 ?_
                rw [show (((nI nn) + (nI 1)) : Int32) = nI (nn + 1) from nI_add _ _]
                refine lv_istore_n hx hb d_M_number_83 rfl hl (Nat.le_of_ble_eq_true rfl) rfl (fun ls hl => ?_)
                have hl : lv_has ls 5 [(1, .int (nI (nn + 1))), (4, .int (nI (i + (k - i)))), (3, .int (Bk1 i)), (2, .int (nI i)), (0, .ref hm)] := hl
                refine lv_iinc (k := 3) (v := nI (i + 1)) hx hb d_M_number_84 hl rfl (inc_nI _) (Nat.le_of_ble_eq_true rfl) rfl (fun ls hl => ?_)
                have hl : lv_has ls 5 [(2, .int (nI (i + 1))), (1, .int (nI (nn + 1))), (4, .int (nI (i + (k - i)))), (3, .int (Bk1 i)), (0, .ref hm)] := hl
                refine lv_goto hx hb d_M_number_87 (tgt := 4) rfl ?_
                have he2 : (nn + 1, (fo (pm_nu1 i (Bk1 i) (100 + nI nn)) (k - i) Bk1)) = fo (pm_nu2 k) (i + 1) (0, Bk) := by
                  rw [fo_s, ← he4]
                  simp [pm_nu2, q4, q5, q6]
                exact ih4 (i + 1) (by omega) (nn + 1) (fo (pm_nu1 i (Bk1 i) (100 + nI nn)) (k - i) Bk1) H locs ls he2 hP hD hS (lv_sub hl [0, 1, 4] rfl)
              · have q6 : (i + (k - i)) < k := nq_nle (by omega) (by omega) q6
                exact absurd q6 (by omega)
            | succ kk ih33 =>
              intro j hi33 Bk2 H locs ls he33 hP hD hS hl
              refine lv_iload hx hb d_M_number_33 (lv_at hl 0 rfl) ?_
              refine lv_aload_n hx hb d_M_number_35 rfl (lv_at hl 4 rfl) ?_
              refine g_get Sx gf_M hK hP 0 rfl rfl 1 (by decide) gm_420 rfl d_M_number_36 ?_
              refine lv_icmp_ge hx hb d_M_number_39 (tgt := 80) rfl (fun q7 => ?_) (fun q7 => ?_)
              · have q7 : k ≤ (i + j) := nq_le (by omega) (by omega) q7
                exact absurd q7 (by omega)
              · have q7 : (i + j) < k := nq_nle (by omega) (by omega) q7
                refine lv_aload_n hx hb d_M_number_42 rfl (lv_at hl 4 rfl) ?_
                refine g_get Sx gf_M hK hP 0 rfl rfl 8 (by decide) gm_427 rfl d_M_number_43 ?_
                refine lv_iload hx hb d_M_number_46 (lv_at hl 0 rfl) ?_
                refine lv_aload_n hx hb d_M_number_48 rfl (lv_at hl 4 rfl) ?_
                refine g_get Sx gf_M hK hP 0 rfl rfl 8 (by decide) gm_427 rfl d_M_number_49 ?_
                refine lv_iload hx hb d_M_number_52 (lv_at hl 0 rfl) ?_
                refine g_ild (j := (i + j)) Sx hK hP 1 0 rfl rfl (by omega) (by decide) d_M_number_54 ?_
                refine lv_iload_n hx hb d_M_number_55 rfl (lv_at hl 1 rfl) ?_
                refine lv_icmp_ne hx hb d_M_number_56 (tgt := 66) rfl (fun q8 => ?_) (fun q8 => ?_)
                · skip
                  refine lv_aload_n hx hb d_M_number_66 rfl (lv_at hl 4 rfl) ?_
                  refine g_get Sx gf_M hK hP 0 rfl rfl 8 (by decide) gm_427 rfl d_M_number_67 ?_
                  refine lv_iload hx hb d_M_number_70 (lv_at hl 0 rfl) ?_
                  refine g_ild (j := (i + j)) Sx hK hP 1 0 rfl rfl (by omega) (by decide) d_M_number_72 ?_
                  refine g_ist (j := (i + j)) Sx hK hP hD hS 1 0 rfl rfl (by omega) (by decide) d_M_number_73 (fun H locs hP hD hS => ?_)
                  have hP : va_P (dC, dI) pcl [(hm, .inr (5, [.int (nI n), .int (nI k), .ref a1, .ref a2, .int (bI wk), .int (bI fl), .int (nI cm), .ref a3, .ref a4, .int bl, .int sd, .long sm, .int co, .ref a5, .ref a6, .ref a7, .ref a8, .ref a9, .ref a10, .ref a11, .ref a12, .ref a13, .int (bI cf), .ref a14])), (a4, .inl (cI, 18, .inl (upd Bk2 (i + j) (Bk2 (i + j)))))] H := hP
                  have hD : va_D A [(hm, .inr (5, [.int (nI n), .int (nI k), .ref a1, .ref a2, .int (bI wk), .int (bI fl), .int (nI cm), .ref a3, .ref a4, .int bl, .int sd, .long sm, .int co, .ref a5, .ref a6, .ref a7, .ref a8, .ref a9, .ref a10, .ref a11, .ref a12, .ref a13, .int (bI cf), .ref a14])), (a4, .inl (cI, 18, .inl (upd Bk2 (i + j) (Bk2 (i + j)))))] := hD
                  refine lv_iinc (k := 0) (v := nI (i + j + 1)) hx hb d_M_number_74 hl rfl (inc_nI _) (Nat.le_of_ble_eq_true rfl) rfl (fun ls hl => ?_)
                  have hl : lv_has ls 5 [(4, .int (nI (i + j + 1))), (3, .int (Bk1 i)), (2, .int (nI i)), (1, .int (nI nn)), (0, .ref hm)] := hl
                  refine lv_goto hx hb d_M_number_77 (tgt := 33) rfl ?_
                  have he2 : (upd Bk2 (i + j) (Bk2 (i + j))) = fo (pm_nu1 i (Bk1 i) (100 + nI nn)) (j + 1) Bk1 := by
                    rw [fo_s, ← he33]
                    simp [pm_nu1, q4, q5, q7, q8]
                  exact ih33 (j + 1) (by omega) (upd Bk2 (i + j) (Bk2 (i + j))) H locs ls he2 hP hD hS (lv_sub hl [0, 1, 2, 3, 4] rfl)
                · skip
                  refine lv_bipush (v := 100) hx hb d_M_number_59 (by decide) ?_
                  refine lv_iload_n hx hb d_M_number_61 rfl (lv_at hl 3 rfl) ?_
                  refine lv_iadd hx hb d_M_number_62 ?_
                  refine lv_goto hx hb d_M_number_63 (tgt := 73) rfl ?_
                  refine g_ist (j := (i + j)) Sx hK hP hD hS 1 0 rfl rfl (by omega) (by decide) d_M_number_73 (fun H locs hP hD hS => ?_)
                  have hP : va_P (dC, dI) pcl [(hm, .inr (5, [.int (nI n), .int (nI k), .ref a1, .ref a2, .int (bI wk), .int (bI fl), .int (nI cm), .ref a3, .ref a4, .int bl, .int sd, .long sm, .int co, .ref a5, .ref a6, .ref a7, .ref a8, .ref a9, .ref a10, .ref a11, .ref a12, .ref a13, .int (bI cf), .ref a14])), (a4, .inl (cI, 18, .inl (upd Bk2 (i + j) (100 + (nI nn)))))] H := hP
                  have hD : va_D A [(hm, .inr (5, [.int (nI n), .int (nI k), .ref a1, .ref a2, .int (bI wk), .int (bI fl), .int (nI cm), .ref a3, .ref a4, .int bl, .int sd, .long sm, .int co, .ref a5, .ref a6, .ref a7, .ref a8, .ref a9, .ref a10, .ref a11, .ref a12, .ref a13, .int (bI cf), .ref a14])), (a4, .inl (cI, 18, .inl (upd Bk2 (i + j) (100 + (nI nn)))))] := hD
                  refine lv_iinc (k := 0) (v := nI (i + j + 1)) hx hb d_M_number_74 hl rfl (inc_nI _) (Nat.le_of_ble_eq_true rfl) rfl (fun ls hl => ?_)
                  have hl : lv_has ls 5 [(4, .int (nI (i + j + 1))), (3, .int (Bk1 i)), (2, .int (nI i)), (1, .int (nI nn)), (0, .ref hm)] := hl
                  refine lv_goto hx hb d_M_number_77 (tgt := 33) rfl ?_
                  have he2 : (upd Bk2 (i + j) (100 + (nI nn))) = fo (pm_nu1 i (Bk1 i) (100 + nI nn)) (j + 1) Bk1 := by
                    rw [fo_s, ← he33]
                    simp [pm_nu1, q4, q5, q7, q8]
                  exact ih33 (j + 1) (by omega) (upd Bk2 (i + j) (100 + (nI nn))) H locs ls he2 hP hD hS (lv_sub hl [0, 1, 2, 3, 4] rfl)
          exact hL33 (k - i) 0 (by omega) Bk1 H locs ls rfl hP hD hS (lv_sub hl [0, 1, 2, 3, 4] rfl)
  exact hL4 k 0 (by omega) 0 Bk H locs ls rfl hP hD hS (lv_sub hl [0, 1, 2] rfl)
theorem d_M_findBlocks_0 : decode k_M_findBlocks 0 = .ok (.aload_n 0, 1) := by decide +kernel
theorem d_M_findBlocks_1 : decode k_M_findBlocks 1 = .ok (.iload_n 1, 1) := by decide +kernel
theorem d_M_findBlocks_2 : decode k_M_findBlocks 2 = .ok (.invokevirtual 115, 3) := by decide +kernel
theorem d_M_findBlocks_5 : decode k_M_findBlocks 5 = .ok (.iconst 0, 1) := by decide +kernel
theorem d_M_findBlocks_6 : decode k_M_findBlocks 6 = .ok (.istore_n 2, 1) := by decide +kernel
theorem d_M_findBlocks_7 : decode k_M_findBlocks 7 = .ok (.iload_n 2, 1) := by decide +kernel
theorem d_M_findBlocks_8 : decode k_M_findBlocks 8 = .ok (.aload_n 0, 1) := by decide +kernel
theorem d_M_findBlocks_9 : decode k_M_findBlocks 9 = .ok (.getfield 56, 3) := by decide +kernel
theorem d_M_findBlocks_12 : decode k_M_findBlocks 12 = .ok (.if_icmp .ge 16, 3) := by decide +kernel
theorem d_M_findBlocks_15 : decode k_M_findBlocks 15 = .ok (.aload_n 0, 1) := by decide +kernel
theorem d_M_findBlocks_16 : decode k_M_findBlocks 16 = .ok (.getfield 19, 3) := by decide +kernel
theorem d_M_findBlocks_19 : decode k_M_findBlocks 19 = .ok (.iload_n 2, 1) := by decide +kernel
theorem d_M_findBlocks_20 : decode k_M_findBlocks 20 = .ok (.iload_n 2, 1) := by decide +kernel
theorem d_M_findBlocks_21 : decode k_M_findBlocks 21 = .ok (.iastore, 1) := by decide +kernel
theorem d_M_findBlocks_22 : decode k_M_findBlocks 22 = .ok (.iinc 2 1, 3) := by decide +kernel
theorem d_M_findBlocks_25 : decode k_M_findBlocks 25 = .ok (.goto (-18), 3) := by decide +kernel
theorem d_M_findBlocks_28 : decode k_M_findBlocks 28 = .ok (.iconst 0, 1) := by decide +kernel
theorem d_M_findBlocks_29 : decode k_M_findBlocks 29 = .ok (.istore_n 2, 1) := by decide +kernel
theorem d_M_findBlocks_30 : decode k_M_findBlocks 30 = .ok (.iload_n 2, 1) := by decide +kernel
theorem d_M_findBlocks_31 : decode k_M_findBlocks 31 = .ok (.aload_n 0, 1) := by decide +kernel
theorem d_M_findBlocks_32 : decode k_M_findBlocks 32 = .ok (.getfield 56, 3) := by decide +kernel
theorem d_M_findBlocks_35 : decode k_M_findBlocks 35 = .ok (.if_icmp .ge 56, 3) := by decide +kernel
theorem d_M_findBlocks_38 : decode k_M_findBlocks 38 = .ok (.aload_n 0, 1) := by decide +kernel
theorem d_M_findBlocks_39 : decode k_M_findBlocks 39 = .ok (.iload_n 1, 1) := by decide +kernel
theorem d_M_findBlocks_40 : decode k_M_findBlocks 40 = .ok (.iload_n 2, 1) := by decide +kernel
theorem d_M_findBlocks_41 : decode k_M_findBlocks 41 = .ok (.invokevirtual 88, 3) := by decide +kernel
theorem d_M_findBlocks_44 : decode k_M_findBlocks 44 = .ok (.ifCond .eq 41, 3) := by decide +kernel
theorem d_M_findBlocks_47 : decode k_M_findBlocks 47 = .ok (.aload_n 0, 1) := by decide +kernel
theorem d_M_findBlocks_48 : decode k_M_findBlocks 48 = .ok (.getfield 37, 3) := by decide +kernel
theorem d_M_findBlocks_51 : decode k_M_findBlocks 51 = .ok (.iload_n 2, 1) := by decide +kernel
theorem d_M_findBlocks_52 : decode k_M_findBlocks 52 = .ok (.iaload, 1) := by decide +kernel
theorem d_M_findBlocks_53 : decode k_M_findBlocks 53 = .ok (.istore_n 3, 1) := by decide +kernel
theorem d_M_findBlocks_54 : decode k_M_findBlocks 54 = .ok (.iload_n 3, 1) := by decide +kernel
theorem d_M_findBlocks_55 : decode k_M_findBlocks 55 = .ok (.aload_n 0, 1) := by decide +kernel
theorem d_M_findBlocks_56 : decode k_M_findBlocks 56 = .ok (.getfield 40, 3) := by decide +kernel
theorem d_M_findBlocks_59 : decode k_M_findBlocks 59 = .ok (.iload_n 2, 1) := by decide +kernel
theorem d_M_findBlocks_60 : decode k_M_findBlocks 60 = .ok (.iaload, 1) := by decide +kernel
theorem d_M_findBlocks_61 : decode k_M_findBlocks 61 = .ok (.if_icmp .eq 24, 3) := by decide +kernel
theorem d_M_findBlocks_64 : decode k_M_findBlocks 64 = .ok (.aload_n 0, 1) := by decide +kernel
theorem d_M_findBlocks_65 : decode k_M_findBlocks 65 = .ok (.iload_n 2, 1) := by decide +kernel
theorem d_M_findBlocks_66 : decode k_M_findBlocks 66 = .ok (.aload_n 0, 1) := by decide +kernel
theorem d_M_findBlocks_67 : decode k_M_findBlocks 67 = .ok (.getfield 28, 3) := by decide +kernel
theorem d_M_findBlocks_70 : decode k_M_findBlocks 70 = .ok (.iload_n 3, 1) := by decide +kernel
theorem d_M_findBlocks_71 : decode k_M_findBlocks 71 = .ok (.iaload, 1) := by decide +kernel
theorem d_M_findBlocks_72 : decode k_M_findBlocks 72 = .ok (.invokevirtual 128, 3) := by decide +kernel
theorem d_M_findBlocks_75 : decode k_M_findBlocks 75 = .ok (.aload_n 0, 1) := by decide +kernel
theorem d_M_findBlocks_76 : decode k_M_findBlocks 76 = .ok (.getfield 25, 3) := by decide +kernel
theorem d_M_findBlocks_79 : decode k_M_findBlocks 79 = .ok (.iload_n 3, 1) := by decide +kernel
theorem d_M_findBlocks_80 : decode k_M_findBlocks 80 = .ok (.iaload, 1) := by decide +kernel
theorem d_M_findBlocks_81 : decode k_M_findBlocks 81 = .ok (.istore_n 3, 1) := by decide +kernel
theorem d_M_findBlocks_82 : decode k_M_findBlocks 82 = .ok (.goto (-28), 3) := by decide +kernel
theorem d_M_findBlocks_85 : decode k_M_findBlocks 85 = .ok (.iinc 2 1, 3) := by decide +kernel
theorem d_M_findBlocks_88 : decode k_M_findBlocks 88 = .ok (.goto (-58), 3) := by decide +kernel
theorem d_M_findBlocks_91 : decode k_M_findBlocks 91 = .ok (.aload_n 0, 1) := by decide +kernel
theorem d_M_findBlocks_92 : decode k_M_findBlocks 92 = .ok (.invokevirtual 131, 3) := by decide +kernel
theorem d_M_findBlocks_95 : decode k_M_findBlocks 95 = .ok (.return_, 1) := by decide +kernel
abbrev rm_M_findBlocks : Room := { frames := 3, cells := 0, slots := 0, locals := 72 }
theorem hd_M_findBlocks : y_M_findBlocks.cls = n_M ∧ y_M_findBlocks.cls ≠ "java/lang/invoke/MethodHandle" ∧ y_M_findBlocks.cls ≠ "java/lang/invoke/VarHandle" ∧ (parseMethodDescriptor y_M_findBlocks.desc).map (fun d => d.parameters.length) = some 1 := by decide +kernel
set_option maxHeartbeats 4000000 in
set_option maxRecDepth 100000 in
theorem c_M_findBlocks (l : Launch) (dC : Nat → ClassId) (dI : Nat → Nat → Nat) (n : Nat) (k : Nat) (wk : Bool) (fl : Bool) (cm : Nat) (bl : Int32) (sd : Int32) (sm : Int64) (co : Int32) (cf : Bool) (hm : Nat) (a1 : Nat) (a2 : Nat) (a3 : Nat) (a4 : Nat) (a5 : Nat) (a6 : Nat) (a7 : Nat) (a8 : Nat) (a9 : Nat) (a10 : Nat) (a11 : Nat) (a12 : Nat) (a13 : Nat) (a14 : Nat) (cI : ClassId) (E : Nat → Nat) (Dp : Nat → Int32) (Pr : Nat → Nat) (Yb : Nat → Nat) (nx : Nat → Nat) (sk : Nat → Nat) (dq : Nat → Nat) (sh : Nat → Nat) (Bk : Nat → Int32) (x : Int32) (sz : Nat) (hn : n ≤ 10) (hk : k ≤ 18) (hE : ∀ j, E j < 10) (hdq0 : ∀ j, dq j < 10) (hsh0 : ∀ j, sh j < 10) (hpl : pm_plOK n k E x Dp Pr Yb nx sk) (hfb : pm_fbOK k x E ((pm_pl n k E x Dp Pr Yb nx sk).2.2.1) ((pm_pl n k E x Dp Pr Yb nx sk).2.1) ((fo (pm_p3 E (pm_pl n k E x Dp Pr Yb nx sk).1) k (dq, sh)).1) ((fo (pm_p3 E (pm_pl n k E x Dp Pr Yb nx sk).1) k (dq, sh)).2)) : Met l y_M_findBlocks (.code y_M_findBlocks k_M_findBlocks 4 none :: gw) rm_M_findBlocks (rwP [.ref hm, .int x] (dC, dI) [(hm, .inr (5, [.int (nI n), .int (nI k), .ref a1, .ref a2, .int (bI wk), .int (bI fl), .int (nI cm), .ref a3, .ref a4, .int bl, .int sd, .long sm, .int co, .ref a5, .ref a6, .ref a7, .ref a8, .ref a9, .ref a10, .ref a11, .ref a12, .ref a13, .int (bI cf), .ref a14])), (a1, .inl (cI, 36, .inl (fun i9 => nI (E i9)))), (a5, .inl (cI, 10, .inl Dp)), (a6, .inl (cI, 10, .inl (fun i9 => oI (Pr i9)))), (a7, .inl (cI, 10, .inl (fun i9 => oI (Yb i9)))), (a8, .inl (cI, 10, .inl (fun i9 => nI (nx i9)))), (a9, .inl (cI, 10, .inl (fun i9 => nI (sk i9)))), (a10, .inl (cI, 18, .inl (fun i9 => nI (dq i9)))), (a11, .inl (cI, 18, .inl (fun i9 => nI (sh i9)))), (a4, .inl (cI, 18, .inl Bk))] [(cI, .int)] sz) (va_Qv (fun _ : Unit => True) (rwB (dC, dI) [(hm, .inr (5, [.int (nI n), .int (nI k), .ref a1, .ref a2, .int (bI wk), .int (bI fl), .int (nI cm), .ref a3, .ref a4, .int (nI (fo (pm_nu2 k) k (0, fo (pm_f2 k x E ((pm_pl n k E x Dp Pr Yb nx sk).2.2.1) ((pm_pl n k E x Dp Pr Yb nx sk).2.1) ((fo (pm_p3 E (pm_pl n k E x Dp Pr Yb nx sk).1) k (dq, sh)).1) ((fo (pm_p3 E (pm_pl n k E x Dp Pr Yb nx sk).1) k (dq, sh)).2)) k (fo pm_f1 k Bk))).1), .int sd, .long sm, .int co, .ref a5, .ref a6, .ref a7, .ref a8, .ref a9, .ref a10, .ref a11, .ref a12, .ref a13, .int (bI cf), .ref a14])), (a1, .inl (cI, 36, .inl (fun i9 => nI (E i9)))), (a5, .inl (cI, 10, .inl ((pm_pl n k E x Dp Pr Yb nx sk).1))), (a6, .inl (cI, 10, .inl (fun i9 => oI (((pm_pl n k E x Dp Pr Yb nx sk).2.1) i9)))), (a7, .inl (cI, 10, .inl (fun i9 => oI (((pm_pl n k E x Dp Pr Yb nx sk).2.2.1) i9)))), (a8, .inl (cI, 10, .inl (fun i9 => nI (((pm_pl n k E x Dp Pr Yb nx sk).2.2.2.1) i9)))), (a9, .inl (cI, 10, .inl (fun i9 => nI (((pm_pl n k E x Dp Pr Yb nx sk).2.2.2.2) i9)))), (a10, .inl (cI, 18, .inl (fun i9 => nI (((fo (pm_p3 E (pm_pl n k E x Dp Pr Yb nx sk).1) k (dq, sh)).1) i9)))), (a11, .inl (cI, 18, .inl (fun i9 => nI (((fo (pm_p3 E (pm_pl n k E x Dp Pr Yb nx sk).1) k (dq, sh)).2) i9)))), (a4, .inl (cI, 18, .inl (fo pm_nu3 k (fo (pm_nu2 k) k (0, fo (pm_f2 k x E ((pm_pl n k E x Dp Pr Yb nx sk).2.2.1) ((pm_pl n k E x Dp Pr Yb nx sk).2.1) ((fo (pm_p3 E (pm_pl n k E x Dp Pr Yb nx sk).1) k (dq, sh)).1) ((fo (pm_p3 E (pm_pl n k E x Dp Pr Yb nx sk).1) k (dq, sh)).2)) k (fo pm_f1 k Bk))).2)))] [(cI, .int)] (va_A [(hm, .inr (5, [.int (nI n), .int (nI k), .ref a1, .ref a2, .int (bI wk), .int (bI fl), .int (nI cm), .ref a3, .ref a4, .int bl, .int sd, .long sm, .int co, .ref a5, .ref a6, .ref a7, .ref a8, .ref a9, .ref a10, .ref a11, .ref a12, .ref a13, .int (bI cf), .ref a14])), (a1, .inl (cI, 36, .inl (fun i9 => nI (E i9)))), (a5, .inl (cI, 10, .inl Dp)), (a6, .inl (cI, 10, .inl (fun i9 => oI (Pr i9)))), (a7, .inl (cI, 10, .inl (fun i9 => oI (Yb i9)))), (a8, .inl (cI, 10, .inl (fun i9 => nI (nx i9)))), (a9, .inl (cI, 10, .inl (fun i9 => nI (sk i9)))), (a10, .inl (cI, 18, .inl (fun i9 => nI (dq i9)))), (a11, .inl (cI, 18, .inl (fun i9 => nI (sh i9)))), (a4, .inl (cI, 18, .inl Bk))] sz)) (va_A [(hm, .inr (5, [.int (nI n), .int (nI k), .ref a1, .ref a2, .int (bI wk), .int (bI fl), .int (nI cm), .ref a3, .ref a4, .int bl, .int sd, .long sm, .int co, .ref a5, .ref a6, .ref a7, .ref a8, .ref a9, .ref a10, .ref a11, .ref a12, .ref a13, .int (bI cf), .ref a14])), (a1, .inl (cI, 36, .inl (fun i9 => nI (E i9)))), (a5, .inl (cI, 10, .inl Dp)), (a6, .inl (cI, 10, .inl (fun i9 => oI (Pr i9)))), (a7, .inl (cI, 10, .inl (fun i9 => oI (Yb i9)))), (a8, .inl (cI, 10, .inl (fun i9 => nI (nx i9)))), (a9, .inl (cI, 10, .inl (fun i9 => nI (sk i9)))), (a10, .inl (cI, 18, .inl (fun i9 => nI (dq i9)))), (a11, .inl (cI, 18, .inl (fun i9 => nI (sh i9)))), (a4, .inl (cI, 18, .inl Bk))] sz)) 0 0 (va_A [(hm, .inr (5, [.int (nI n), .int (nI k), .ref a1, .ref a2, .int (bI wk), .int (bI fl), .int (nI cm), .ref a3, .ref a4, .int bl, .int sd, .long sm, .int co, .ref a5, .ref a6, .ref a7, .ref a8, .ref a9, .ref a10, .ref a11, .ref a12, .ref a13, .int (bI cf), .ref a14])), (a1, .inl (cI, 36, .inl (fun i9 => nI (E i9)))), (a5, .inl (cI, 10, .inl Dp)), (a6, .inl (cI, 10, .inl (fun i9 => oI (Pr i9)))), (a7, .inl (cI, 10, .inl (fun i9 => oI (Yb i9)))), (a8, .inl (cI, 10, .inl (fun i9 => nI (nx i9)))), (a9, .inl (cI, 10, .inl (fun i9 => nI (sk i9)))), (a10, .inl (cI, 18, .inl (fun i9 => nI (dq i9)))), (a11, .inl (cI, 18, .inl (fun i9 => nI (sh i9)))), (a4, .inl (cI, 18, .inl Bk))] sz) := by
  refine rw_met (by decide) ⟨rfl, rfl⟩ (Nat.le_of_ble_eq_true rfl) ?_
  intro p e s m args below meth c Q A ls Sx hP hK hD hA hl hret
  have hx := Sx.1
  have hb := Sx.2.1
  have hl : lv_has ls 4 [(0, .ref hm), (1, .int x)] := hl
  have hS : va_S A s.heap s.heap [] := va_S.rf
  have hdq : ∀ j, ((fo (pm_p3 E (pm_pl n k E x Dp Pr Yb nx sk).1) k (dq, sh)).1) j < 10 := fun j => (pm_p3_lt hE hdq0 hsh0 k j).1
  have hsh : ∀ j, ((fo (pm_p3 E (pm_pl n k E x Dp Pr Yb nx sk).1) k (dq, sh)).2) j < 10 := fun j => (pm_p3_lt hE hdq0 hsh0 k j).2
  obtain ⟨H, hH⟩ : ∃ H, H = s.heap := ⟨_, rfl⟩
  obtain ⟨locs, hlo⟩ : ∃ locs : List Loc, locs = [] := ⟨_, rfl⟩
  rw [← hlo]
  rw [← hlo] at hS
  have hP : va_P (dC, dI) pcl [(hm, .inr (5, [.int (nI n), .int (nI k), .ref a1, .ref a2, .int (bI wk), .int (bI fl), .int (nI cm), .ref a3, .ref a4, .int bl, .int sd, .long sm, .int co, .ref a5, .ref a6, .ref a7, .ref a8, .ref a9, .ref a10, .ref a11, .ref a12, .ref a13, .int (bI cf), .ref a14])), (a1, .inl (cI, 36, .inl (fun i9 => nI (E i9)))), (a5, .inl (cI, 10, .inl Dp)), (a6, .inl (cI, 10, .inl (fun i9 => oI (Pr i9)))), (a7, .inl (cI, 10, .inl (fun i9 => oI (Yb i9)))), (a8, .inl (cI, 10, .inl (fun i9 => nI (nx i9)))), (a9, .inl (cI, 10, .inl (fun i9 => nI (sk i9)))), (a10, .inl (cI, 18, .inl (fun i9 => nI (dq i9)))), (a11, .inl (cI, 18, .inl (fun i9 => nI (sh i9)))), (a4, .inl (cI, 18, .inl Bk))] H := by rw [hH]; exact hP
  have hS : va_S A s.heap H locs := by rw [hH]; exact hS
  suffices hgo : W p l e rm_M_findBlocks s m args below meth c H locs 0 0 Q (F0 m 0 ls []) by rw [hH] at hgo; exact hgo
  refine lv_aload_n hx hb d_M_findBlocks_0 rfl (lv_at hl 0 rfl) ?_
  refine lv_iload_n hx hb d_M_findBlocks_1 rfl (lv_at hl 1 rfl) ?_
  refine rw_V (As := [.int x]) (rest := []) (wr := [(a4, .inl (cI, 18, .inl Bk))]) Sx (c_M_plant l dC dI n k wk fl cm bl sd sm co cf hm a1 a2 a3 a4 a5 a6 a7 a8 a9 a10 a11 a12 a13 a14 cI E Dp Pr Yb nx sk dq sh x H.size hn hk hE hpl) (gw_callV gm_503 gm_504 gm_29 gm_56 gm_505) hd_M_plant ⟨rfl, rfl⟩ ⟨Nat.le_of_ble_eq_true rfl, Nat.le_of_ble_eq_true rfl⟩ hP hD hS hA (hK.sub (tys' := [(cI, .int)]) [0] rfl) [0, 1, 2, 3, 4, 5, 6, 7, 8] [9] rfl rfl (by decide) (by decide) (by decide) rfl 0 rfl rfl hl.1 rfl (Nat.le_of_ble_eq_true rfl) d_M_findBlocks_2 ⟨Nat.zero_le _, Nat.zero_le _⟩ (fun H locs hP hD hS => ?_)
  have hP : va_P (dC, dI) pcl [(a4, .inl (cI, 18, .inl Bk)), (hm, .inr (5, [.int (nI n), .int (nI k), .ref a1, .ref a2, .int (bI wk), .int (bI fl), .int (nI cm), .ref a3, .ref a4, .int bl, .int sd, .long sm, .int co, .ref a5, .ref a6, .ref a7, .ref a8, .ref a9, .ref a10, .ref a11, .ref a12, .ref a13, .int (bI cf), .ref a14])), (a1, .inl (cI, 36, .inl (fun i9 => nI (E i9)))), (a5, .inl (cI, 10, .inl ((pm_pl n k E x Dp Pr Yb nx sk).1))), (a6, .inl (cI, 10, .inl (fun i9 => oI (((pm_pl n k E x Dp Pr Yb nx sk).2.1) i9)))), (a7, .inl (cI, 10, .inl (fun i9 => oI (((pm_pl n k E x Dp Pr Yb nx sk).2.2.1) i9)))), (a8, .inl (cI, 10, .inl (fun i9 => nI (((pm_pl n k E x Dp Pr Yb nx sk).2.2.2.1) i9)))), (a9, .inl (cI, 10, .inl (fun i9 => nI (((pm_pl n k E x Dp Pr Yb nx sk).2.2.2.2) i9)))), (a10, .inl (cI, 18, .inl (fun i9 => nI (((fo (pm_p3 E (pm_pl n k E x Dp Pr Yb nx sk).1) k (dq, sh)).1) i9)))), (a11, .inl (cI, 18, .inl (fun i9 => nI (((fo (pm_p3 E (pm_pl n k E x Dp Pr Yb nx sk).1) k (dq, sh)).2) i9))))] H := hP
  have hD : va_D A [(a4, .inl (cI, 18, .inl Bk)), (hm, .inr (5, [.int (nI n), .int (nI k), .ref a1, .ref a2, .int (bI wk), .int (bI fl), .int (nI cm), .ref a3, .ref a4, .int bl, .int sd, .long sm, .int co, .ref a5, .ref a6, .ref a7, .ref a8, .ref a9, .ref a10, .ref a11, .ref a12, .ref a13, .int (bI cf), .ref a14])), (a1, .inl (cI, 36, .inl (fun i9 => nI (E i9)))), (a5, .inl (cI, 10, .inl ((pm_pl n k E x Dp Pr Yb nx sk).1))), (a6, .inl (cI, 10, .inl (fun i9 => oI (((pm_pl n k E x Dp Pr Yb nx sk).2.1) i9)))), (a7, .inl (cI, 10, .inl (fun i9 => oI (((pm_pl n k E x Dp Pr Yb nx sk).2.2.1) i9)))), (a8, .inl (cI, 10, .inl (fun i9 => nI (((pm_pl n k E x Dp Pr Yb nx sk).2.2.2.1) i9)))), (a9, .inl (cI, 10, .inl (fun i9 => nI (((pm_pl n k E x Dp Pr Yb nx sk).2.2.2.2) i9)))), (a10, .inl (cI, 18, .inl (fun i9 => nI (((fo (pm_p3 E (pm_pl n k E x Dp Pr Yb nx sk).1) k (dq, sh)).1) i9)))), (a11, .inl (cI, 18, .inl (fun i9 => nI (((fo (pm_p3 E (pm_pl n k E x Dp Pr Yb nx sk).1) k (dq, sh)).2) i9))))] := hD
  refine lv_iconst (v := nI 0) hx hb d_M_findBlocks_5 (by decide) ?_
  refine lv_istore_n hx hb d_M_findBlocks_6 rfl hl (Nat.le_of_ble_eq_true rfl) rfl (fun ls hl => ?_)
  have hl : lv_has ls 4 [(2, .int (nI 0)), (0, .ref hm), (1, .int x)] := hl
  have hL7 : ∀ (kk i : Nat), i + kk = k → ∀ (Bk1 : Nat → Int32) (H : Heap) (locs : List Loc) (ls : Array Slot), Bk1 = fo pm_f1 i Bk → va_P (dC, dI) pcl [(hm, .inr (5, [.int (nI n), .int (nI k), .ref a1, .ref a2, .int (bI wk), .int (bI fl), .int (nI cm), .ref a3, .ref a4, .int bl, .int sd, .long sm, .int co, .ref a5, .ref a6, .ref a7, .ref a8, .ref a9, .ref a10, .ref a11, .ref a12, .ref a13, .int (bI cf), .ref a14])), (a1, .inl (cI, 36, .inl (fun i9 => nI (E i9)))), (a5, .inl (cI, 10, .inl ((pm_pl n k E x Dp Pr Yb nx sk).1))), (a6, .inl (cI, 10, .inl (fun i9 => oI (((pm_pl n k E x Dp Pr Yb nx sk).2.1) i9)))), (a7, .inl (cI, 10, .inl (fun i9 => oI (((pm_pl n k E x Dp Pr Yb nx sk).2.2.1) i9)))), (a8, .inl (cI, 10, .inl (fun i9 => nI (((pm_pl n k E x Dp Pr Yb nx sk).2.2.2.1) i9)))), (a9, .inl (cI, 10, .inl (fun i9 => nI (((pm_pl n k E x Dp Pr Yb nx sk).2.2.2.2) i9)))), (a10, .inl (cI, 18, .inl (fun i9 => nI (((fo (pm_p3 E (pm_pl n k E x Dp Pr Yb nx sk).1) k (dq, sh)).1) i9)))), (a11, .inl (cI, 18, .inl (fun i9 => nI (((fo (pm_p3 E (pm_pl n k E x Dp Pr Yb nx sk).1) k (dq, sh)).2) i9)))), (a4, .inl (cI, 18, .inl Bk1))] H → va_D A [(hm, .inr (5, [.int (nI n), .int (nI k), .ref a1, .ref a2, .int (bI wk), .int (bI fl), .int (nI cm), .ref a3, .ref a4, .int bl, .int sd, .long sm, .int co, .ref a5, .ref a6, .ref a7, .ref a8, .ref a9, .ref a10, .ref a11, .ref a12, .ref a13, .int (bI cf), .ref a14])), (a1, .inl (cI, 36, .inl (fun i9 => nI (E i9)))), (a5, .inl (cI, 10, .inl ((pm_pl n k E x Dp Pr Yb nx sk).1))), (a6, .inl (cI, 10, .inl (fun i9 => oI (((pm_pl n k E x Dp Pr Yb nx sk).2.1) i9)))), (a7, .inl (cI, 10, .inl (fun i9 => oI (((pm_pl n k E x Dp Pr Yb nx sk).2.2.1) i9)))), (a8, .inl (cI, 10, .inl (fun i9 => nI (((pm_pl n k E x Dp Pr Yb nx sk).2.2.2.1) i9)))), (a9, .inl (cI, 10, .inl (fun i9 => nI (((pm_pl n k E x Dp Pr Yb nx sk).2.2.2.2) i9)))), (a10, .inl (cI, 18, .inl (fun i9 => nI (((fo (pm_p3 E (pm_pl n k E x Dp Pr Yb nx sk).1) k (dq, sh)).1) i9)))), (a11, .inl (cI, 18, .inl (fun i9 => nI (((fo (pm_p3 E (pm_pl n k E x Dp Pr Yb nx sk).1) k (dq, sh)).2) i9)))), (a4, .inl (cI, 18, .inl Bk1))] → va_S A s.heap H locs → lv_has ls 4 [(2, .int (nI i)), (0, .ref hm), (1, .int x)] → W p l e rm_M_findBlocks s m args below meth c H locs 0 0 Q (F0 m 7 ls []) := by
    intro kk
    induction kk with
    | zero =>
      intro i hi7 Bk1 H locs ls he7 hP hD hS hl
      have hj7 : i = k := by omega
      rw [hj7] at hl he7
      have e_Bk1 : Bk1 = (fo pm_f1 k Bk) := by rw [← he7]
      subst e_Bk1
      have hl : lv_has ls 4 [(2, .int (nI k)), (0, .ref hm), (1, .int x)] := hl
      have hP : va_P (dC, dI) pcl [(hm, .inr (5, [.int (nI n), .int (nI k), .ref a1, .ref a2, .int (bI wk), .int (bI fl), .int (nI cm), .ref a3, .ref a4, .int bl, .int sd, .long sm, .int co, .ref a5, .ref a6, .ref a7, .ref a8, .ref a9, .ref a10, .ref a11, .ref a12, .ref a13, .int (bI cf), .ref a14])), (a1, .inl (cI, 36, .inl (fun i9 => nI (E i9)))), (a5, .inl (cI, 10, .inl ((pm_pl n k E x Dp Pr Yb nx sk).1))), (a6, .inl (cI, 10, .inl (fun i9 => oI (((pm_pl n k E x Dp Pr Yb nx sk).2.1) i9)))), (a7, .inl (cI, 10, .inl (fun i9 => oI (((pm_pl n k E x Dp Pr Yb nx sk).2.2.1) i9)))), (a8, .inl (cI, 10, .inl (fun i9 => nI (((pm_pl n k E x Dp Pr Yb nx sk).2.2.2.1) i9)))), (a9, .inl (cI, 10, .inl (fun i9 => nI (((pm_pl n k E x Dp Pr Yb nx sk).2.2.2.2) i9)))), (a10, .inl (cI, 18, .inl (fun i9 => nI (((fo (pm_p3 E (pm_pl n k E x Dp Pr Yb nx sk).1) k (dq, sh)).1) i9)))), (a11, .inl (cI, 18, .inl (fun i9 => nI (((fo (pm_p3 E (pm_pl n k E x Dp Pr Yb nx sk).1) k (dq, sh)).2) i9)))), (a4, .inl (cI, 18, .inl (fo pm_f1 k Bk)))] H := hP
      have hD : va_D A [(hm, .inr (5, [.int (nI n), .int (nI k), .ref a1, .ref a2, .int (bI wk), .int (bI fl), .int (nI cm), .ref a3, .ref a4, .int bl, .int sd, .long sm, .int co, .ref a5, .ref a6, .ref a7, .ref a8, .ref a9, .ref a10, .ref a11, .ref a12, .ref a13, .int (bI cf), .ref a14])), (a1, .inl (cI, 36, .inl (fun i9 => nI (E i9)))), (a5, .inl (cI, 10, .inl ((pm_pl n k E x Dp Pr Yb nx sk).1))), (a6, .inl (cI, 10, .inl (fun i9 => oI (((pm_pl n k E x Dp Pr Yb nx sk).2.1) i9)))), (a7, .inl (cI, 10, .inl (fun i9 => oI (((pm_pl n k E x Dp Pr Yb nx sk).2.2.1) i9)))), (a8, .inl (cI, 10, .inl (fun i9 => nI (((pm_pl n k E x Dp Pr Yb nx sk).2.2.2.1) i9)))), (a9, .inl (cI, 10, .inl (fun i9 => nI (((pm_pl n k E x Dp Pr Yb nx sk).2.2.2.2) i9)))), (a10, .inl (cI, 18, .inl (fun i9 => nI (((fo (pm_p3 E (pm_pl n k E x Dp Pr Yb nx sk).1) k (dq, sh)).1) i9)))), (a11, .inl (cI, 18, .inl (fun i9 => nI (((fo (pm_p3 E (pm_pl n k E x Dp Pr Yb nx sk).1) k (dq, sh)).2) i9)))), (a4, .inl (cI, 18, .inl (fo pm_f1 k Bk)))] := hD
      refine lv_iload_n hx hb d_M_findBlocks_7 rfl (lv_at hl 0 rfl) ?_
      refine lv_aload_n hx hb d_M_findBlocks_8 rfl (lv_at hl 1 rfl) ?_
      refine g_get Sx gf_M hK hP 0 rfl rfl 1 (by decide) gm_420 rfl d_M_findBlocks_9 ?_
      refine lv_icmp_ge hx hb d_M_findBlocks_12 (tgt := 28) rfl (fun q1 => ?_) (fun q1 => ?_)
      · have q1 : k ≤ k := nq_le (by omega) (by omega) q1
        refine lv_iconst (v := nI 0) hx hb d_M_findBlocks_28 (by decide) ?_
        refine lv_istore_n hx hb d_M_findBlocks_29 rfl hl (Nat.le_of_ble_eq_true rfl) rfl (fun ls hl => ?_)
        have hl : lv_has ls 4 [(2, .int (nI 0)), (0, .ref hm), (1, .int x)] := hl
        have hL30 : ∀ (kk i : Nat), i + kk = k → ∀ (Bk2 : Nat → Int32) (H : Heap) (locs : List Loc) (ls : Array Slot), Bk2 = fo (pm_f2 k x E ((pm_pl n k E x Dp Pr Yb nx sk).2.2.1) ((pm_pl n k E x Dp Pr Yb nx sk).2.1) ((fo (pm_p3 E (pm_pl n k E x Dp Pr Yb nx sk).1) k (dq, sh)).1) ((fo (pm_p3 E (pm_pl n k E x Dp Pr Yb nx sk).1) k (dq, sh)).2)) i (fo pm_f1 k Bk) → va_P (dC, dI) pcl [(hm, .inr (5, [.int (nI n), .int (nI k), .ref a1, .ref a2, .int (bI wk), .int (bI fl), .int (nI cm), .ref a3, .ref a4, .int bl, .int sd, .long sm, .int co, .ref a5, .ref a6, .ref a7, .ref a8, .ref a9, .ref a10, .ref a11, .ref a12, .ref a13, .int (bI cf), .ref a14])), (a1, .inl (cI, 36, .inl (fun i9 => nI (E i9)))), (a5, .inl (cI, 10, .inl ((pm_pl n k E x Dp Pr Yb nx sk).1))), (a6, .inl (cI, 10, .inl (fun i9 => oI (((pm_pl n k E x Dp Pr Yb nx sk).2.1) i9)))), (a7, .inl (cI, 10, .inl (fun i9 => oI (((pm_pl n k E x Dp Pr Yb nx sk).2.2.1) i9)))), (a8, .inl (cI, 10, .inl (fun i9 => nI (((pm_pl n k E x Dp Pr Yb nx sk).2.2.2.1) i9)))), (a9, .inl (cI, 10, .inl (fun i9 => nI (((pm_pl n k E x Dp Pr Yb nx sk).2.2.2.2) i9)))), (a10, .inl (cI, 18, .inl (fun i9 => nI (((fo (pm_p3 E (pm_pl n k E x Dp Pr Yb nx sk).1) k (dq, sh)).1) i9)))), (a11, .inl (cI, 18, .inl (fun i9 => nI (((fo (pm_p3 E (pm_pl n k E x Dp Pr Yb nx sk).1) k (dq, sh)).2) i9)))), (a4, .inl (cI, 18, .inl Bk2))] H → va_D A [(hm, .inr (5, [.int (nI n), .int (nI k), .ref a1, .ref a2, .int (bI wk), .int (bI fl), .int (nI cm), .ref a3, .ref a4, .int bl, .int sd, .long sm, .int co, .ref a5, .ref a6, .ref a7, .ref a8, .ref a9, .ref a10, .ref a11, .ref a12, .ref a13, .int (bI cf), .ref a14])), (a1, .inl (cI, 36, .inl (fun i9 => nI (E i9)))), (a5, .inl (cI, 10, .inl ((pm_pl n k E x Dp Pr Yb nx sk).1))), (a6, .inl (cI, 10, .inl (fun i9 => oI (((pm_pl n k E x Dp Pr Yb nx sk).2.1) i9)))), (a7, .inl (cI, 10, .inl (fun i9 => oI (((pm_pl n k E x Dp Pr Yb nx sk).2.2.1) i9)))), (a8, .inl (cI, 10, .inl (fun i9 => nI (((pm_pl n k E x Dp Pr Yb nx sk).2.2.2.1) i9)))), (a9, .inl (cI, 10, .inl (fun i9 => nI (((pm_pl n k E x Dp Pr Yb nx sk).2.2.2.2) i9)))), (a10, .inl (cI, 18, .inl (fun i9 => nI (((fo (pm_p3 E (pm_pl n k E x Dp Pr Yb nx sk).1) k (dq, sh)).1) i9)))), (a11, .inl (cI, 18, .inl (fun i9 => nI (((fo (pm_p3 E (pm_pl n k E x Dp Pr Yb nx sk).1) k (dq, sh)).2) i9)))), (a4, .inl (cI, 18, .inl Bk2))] → va_S A s.heap H locs → lv_has ls 4 [(2, .int (nI i)), (0, .ref hm), (1, .int x)] → W p l e rm_M_findBlocks s m args below meth c H locs 0 0 Q (F0 m 30 ls []) := by
          intro kk
          induction kk with
          | zero =>
            intro i hi30 Bk2 H locs ls he30 hP hD hS hl
            have hj30 : i = k := by omega
            rw [hj30] at hl he30
            have e_Bk2 : Bk2 = (fo (pm_f2 k x E ((pm_pl n k E x Dp Pr Yb nx sk).2.2.1) ((pm_pl n k E x Dp Pr Yb nx sk).2.1) ((fo (pm_p3 E (pm_pl n k E x Dp Pr Yb nx sk).1) k (dq, sh)).1) ((fo (pm_p3 E (pm_pl n k E x Dp Pr Yb nx sk).1) k (dq, sh)).2)) k (fo pm_f1 k Bk)) := by rw [← he30]
            subst e_Bk2
            have hl : lv_has ls 4 [(2, .int (nI k)), (0, .ref hm), (1, .int x)] := hl
            have hP : va_P (dC, dI) pcl [(hm, .inr (5, [.int (nI n), .int (nI k), .ref a1, .ref a2, .int (bI wk), .int (bI fl), .int (nI cm), .ref a3, .ref a4, .int bl, .int sd, .long sm, .int co, .ref a5, .ref a6, .ref a7, .ref a8, .ref a9, .ref a10, .ref a11, .ref a12, .ref a13, .int (bI cf), .ref a14])), (a1, .inl (cI, 36, .inl (fun i9 => nI (E i9)))), (a5, .inl (cI, 10, .inl ((pm_pl n k E x Dp Pr Yb nx sk).1))), (a6, .inl (cI, 10, .inl (fun i9 => oI (((pm_pl n k E x Dp Pr Yb nx sk).2.1) i9)))), (a7, .inl (cI, 10, .inl (fun i9 => oI (((pm_pl n k E x Dp Pr Yb nx sk).2.2.1) i9)))), (a8, .inl (cI, 10, .inl (fun i9 => nI (((pm_pl n k E x Dp Pr Yb nx sk).2.2.2.1) i9)))), (a9, .inl (cI, 10, .inl (fun i9 => nI (((pm_pl n k E x Dp Pr Yb nx sk).2.2.2.2) i9)))), (a10, .inl (cI, 18, .inl (fun i9 => nI (((fo (pm_p3 E (pm_pl n k E x Dp Pr Yb nx sk).1) k (dq, sh)).1) i9)))), (a11, .inl (cI, 18, .inl (fun i9 => nI (((fo (pm_p3 E (pm_pl n k E x Dp Pr Yb nx sk).1) k (dq, sh)).2) i9)))), (a4, .inl (cI, 18, .inl (fo (pm_f2 k x E ((pm_pl n k E x Dp Pr Yb nx sk).2.2.1) ((pm_pl n k E x Dp Pr Yb nx sk).2.1) ((fo (pm_p3 E (pm_pl n k E x Dp Pr Yb nx sk).1) k (dq, sh)).1) ((fo (pm_p3 E (pm_pl n k E x Dp Pr Yb nx sk).1) k (dq, sh)).2)) k (fo pm_f1 k Bk))))] H := hP
            have hD : va_D A [(hm, .inr (5, [.int (nI n), .int (nI k), .ref a1, .ref a2, .int (bI wk), .int (bI fl), .int (nI cm), .ref a3, .ref a4, .int bl, .int sd, .long sm, .int co, .ref a5, .ref a6, .ref a7, .ref a8, .ref a9, .ref a10, .ref a11, .ref a12, .ref a13, .int (bI cf), .ref a14])), (a1, .inl (cI, 36, .inl (fun i9 => nI (E i9)))), (a5, .inl (cI, 10, .inl ((pm_pl n k E x Dp Pr Yb nx sk).1))), (a6, .inl (cI, 10, .inl (fun i9 => oI (((pm_pl n k E x Dp Pr Yb nx sk).2.1) i9)))), (a7, .inl (cI, 10, .inl (fun i9 => oI (((pm_pl n k E x Dp Pr Yb nx sk).2.2.1) i9)))), (a8, .inl (cI, 10, .inl (fun i9 => nI (((pm_pl n k E x Dp Pr Yb nx sk).2.2.2.1) i9)))), (a9, .inl (cI, 10, .inl (fun i9 => nI (((pm_pl n k E x Dp Pr Yb nx sk).2.2.2.2) i9)))), (a10, .inl (cI, 18, .inl (fun i9 => nI (((fo (pm_p3 E (pm_pl n k E x Dp Pr Yb nx sk).1) k (dq, sh)).1) i9)))), (a11, .inl (cI, 18, .inl (fun i9 => nI (((fo (pm_p3 E (pm_pl n k E x Dp Pr Yb nx sk).1) k (dq, sh)).2) i9)))), (a4, .inl (cI, 18, .inl (fo (pm_f2 k x E ((pm_pl n k E x Dp Pr Yb nx sk).2.2.1) ((pm_pl n k E x Dp Pr Yb nx sk).2.1) ((fo (pm_p3 E (pm_pl n k E x Dp Pr Yb nx sk).1) k (dq, sh)).1) ((fo (pm_p3 E (pm_pl n k E x Dp Pr Yb nx sk).1) k (dq, sh)).2)) k (fo pm_f1 k Bk))))] := hD
            refine lv_iload_n hx hb d_M_findBlocks_30 rfl (lv_at hl 0 rfl) ?_
            refine lv_aload_n hx hb d_M_findBlocks_31 rfl (lv_at hl 1 rfl) ?_
            refine g_get Sx gf_M hK hP 0 rfl rfl 1 (by decide) gm_420 rfl d_M_findBlocks_32 ?_
            refine lv_icmp_ge hx hb d_M_findBlocks_35 (tgt := 91) rfl (fun q2 => ?_) (fun q2 => ?_)
            · have q2 : k ≤ k := nq_le (by omega) (by omega) q2
              refine lv_aload_n hx hb d_M_findBlocks_91 rfl (lv_at hl 1 rfl) ?_
              refine rw_V (As := []) (rest := []) (wr := [(a1, .inl (cI, 36, .inl (fun i9 => nI (E i9)))), (a5, .inl (cI, 10, .inl ((pm_pl n k E x Dp Pr Yb nx sk).1))), (a6, .inl (cI, 10, .inl (fun i9 => oI (((pm_pl n k E x Dp Pr Yb nx sk).2.1) i9)))), (a7, .inl (cI, 10, .inl (fun i9 => oI (((pm_pl n k E x Dp Pr Yb nx sk).2.2.1) i9)))), (a8, .inl (cI, 10, .inl (fun i9 => nI (((pm_pl n k E x Dp Pr Yb nx sk).2.2.2.1) i9)))), (a9, .inl (cI, 10, .inl (fun i9 => nI (((pm_pl n k E x Dp Pr Yb nx sk).2.2.2.2) i9)))), (a10, .inl (cI, 18, .inl (fun i9 => nI (((fo (pm_p3 E (pm_pl n k E x Dp Pr Yb nx sk).1) k (dq, sh)).1) i9)))), (a11, .inl (cI, 18, .inl (fun i9 => nI (((fo (pm_p3 E (pm_pl n k E x Dp Pr Yb nx sk).1) k (dq, sh)).2) i9))))]) Sx (c_M_number l dC dI n k wk fl cm bl sd sm co cf hm a1 a2 a3 a4 a5 a6 a7 a8 a9 a10 a11 a12 a13 a14 cI (fo (pm_f2 k x E ((pm_pl n k E x Dp Pr Yb nx sk).2.2.1) ((pm_pl n k E x Dp Pr Yb nx sk).2.1) ((fo (pm_p3 E (pm_pl n k E x Dp Pr Yb nx sk).1) k (dq, sh)).1) ((fo (pm_p3 E (pm_pl n k E x Dp Pr Yb nx sk).1) k (dq, sh)).2)) k (fo pm_f1 k Bk)) H.size hk) (gw_callV gm_557 gm_558 gm_45 gm_56 gm_559) hd_M_number ⟨rfl, rfl⟩ ⟨Nat.le_of_ble_eq_true rfl, Nat.le_of_ble_eq_true rfl⟩ hP hD hS hA (hK.sub (tys' := [(cI, .int)]) [0] rfl) [0, 9] [1, 2, 3, 4, 5, 6, 7, 8] rfl rfl (by decide) (by decide) (by decide) rfl 0 rfl rfl hl.1 rfl (Nat.le_of_ble_eq_true rfl) d_M_findBlocks_92 ⟨Nat.zero_le _, Nat.zero_le _⟩ (fun H locs hP hD hS => ?_)
              have hP : va_P (dC, dI) pcl [(a1, .inl (cI, 36, .inl (fun i9 => nI (E i9)))), (a5, .inl (cI, 10, .inl ((pm_pl n k E x Dp Pr Yb nx sk).1))), (a6, .inl (cI, 10, .inl (fun i9 => oI (((pm_pl n k E x Dp Pr Yb nx sk).2.1) i9)))), (a7, .inl (cI, 10, .inl (fun i9 => oI (((pm_pl n k E x Dp Pr Yb nx sk).2.2.1) i9)))), (a8, .inl (cI, 10, .inl (fun i9 => nI (((pm_pl n k E x Dp Pr Yb nx sk).2.2.2.1) i9)))), (a9, .inl (cI, 10, .inl (fun i9 => nI (((pm_pl n k E x Dp Pr Yb nx sk).2.2.2.2) i9)))), (a10, .inl (cI, 18, .inl (fun i9 => nI (((fo (pm_p3 E (pm_pl n k E x Dp Pr Yb nx sk).1) k (dq, sh)).1) i9)))), (a11, .inl (cI, 18, .inl (fun i9 => nI (((fo (pm_p3 E (pm_pl n k E x Dp Pr Yb nx sk).1) k (dq, sh)).2) i9)))), (hm, .inr (5, [.int (nI n), .int (nI k), .ref a1, .ref a2, .int (bI wk), .int (bI fl), .int (nI cm), .ref a3, .ref a4, .int (nI (fo (pm_nu2 k) k (0, (fo (pm_f2 k x E ((pm_pl n k E x Dp Pr Yb nx sk).2.2.1) ((pm_pl n k E x Dp Pr Yb nx sk).2.1) ((fo (pm_p3 E (pm_pl n k E x Dp Pr Yb nx sk).1) k (dq, sh)).1) ((fo (pm_p3 E (pm_pl n k E x Dp Pr Yb nx sk).1) k (dq, sh)).2)) k (fo pm_f1 k Bk)))).1), .int sd, .long sm, .int co, .ref a5, .ref a6, .ref a7, .ref a8, .ref a9, .ref a10, .ref a11, .ref a12, .ref a13, .int (bI cf), .ref a14])), (a4, .inl (cI, 18, .inl (fo pm_nu3 k (fo (pm_nu2 k) k (0, (fo (pm_f2 k x E ((pm_pl n k E x Dp Pr Yb nx sk).2.2.1) ((pm_pl n k E x Dp Pr Yb nx sk).2.1) ((fo (pm_p3 E (pm_pl n k E x Dp Pr Yb nx sk).1) k (dq, sh)).1) ((fo (pm_p3 E (pm_pl n k E x Dp Pr Yb nx sk).1) k (dq, sh)).2)) k (fo pm_f1 k Bk)))).2)))] H := hP
              have hD : va_D A [(a1, .inl (cI, 36, .inl (fun i9 => nI (E i9)))), (a5, .inl (cI, 10, .inl ((pm_pl n k E x Dp Pr Yb nx sk).1))), (a6, .inl (cI, 10, .inl (fun i9 => oI (((pm_pl n k E x Dp Pr Yb nx sk).2.1) i9)))), (a7, .inl (cI, 10, .inl (fun i9 => oI (((pm_pl n k E x Dp Pr Yb nx sk).2.2.1) i9)))), (a8, .inl (cI, 10, .inl (fun i9 => nI (((pm_pl n k E x Dp Pr Yb nx sk).2.2.2.1) i9)))), (a9, .inl (cI, 10, .inl (fun i9 => nI (((pm_pl n k E x Dp Pr Yb nx sk).2.2.2.2) i9)))), (a10, .inl (cI, 18, .inl (fun i9 => nI (((fo (pm_p3 E (pm_pl n k E x Dp Pr Yb nx sk).1) k (dq, sh)).1) i9)))), (a11, .inl (cI, 18, .inl (fun i9 => nI (((fo (pm_p3 E (pm_pl n k E x Dp Pr Yb nx sk).1) k (dq, sh)).2) i9)))), (hm, .inr (5, [.int (nI n), .int (nI k), .ref a1, .ref a2, .int (bI wk), .int (bI fl), .int (nI cm), .ref a3, .ref a4, .int (nI (fo (pm_nu2 k) k (0, (fo (pm_f2 k x E ((pm_pl n k E x Dp Pr Yb nx sk).2.2.1) ((pm_pl n k E x Dp Pr Yb nx sk).2.1) ((fo (pm_p3 E (pm_pl n k E x Dp Pr Yb nx sk).1) k (dq, sh)).1) ((fo (pm_p3 E (pm_pl n k E x Dp Pr Yb nx sk).1) k (dq, sh)).2)) k (fo pm_f1 k Bk)))).1), .int sd, .long sm, .int co, .ref a5, .ref a6, .ref a7, .ref a8, .ref a9, .ref a10, .ref a11, .ref a12, .ref a13, .int (bI cf), .ref a14])), (a4, .inl (cI, 18, .inl (fo pm_nu3 k (fo (pm_nu2 k) k (0, (fo (pm_f2 k x E ((pm_pl n k E x Dp Pr Yb nx sk).2.2.1) ((pm_pl n k E x Dp Pr Yb nx sk).2.1) ((fo (pm_p3 E (pm_pl n k E x Dp Pr Yb nx sk).1) k (dq, sh)).1) ((fo (pm_p3 E (pm_pl n k E x Dp Pr Yb nx sk).1) k (dq, sh)).2)) k (fo pm_f1 k Bk)))).2)))] := hD
              exact hret _ H locs _ d_M_findBlocks_95 (va_P_map hP [8, 0, 1, 2, 3, 4, 5, 6, 7, 9] rfl) (hD.sub [8, 0, 1, 2, 3, 4, 5, 6, 7, 9] (by decide) rfl) hS
            · have q2 : k < k := nq_nle (by omega) (by omega) q2
              exact absurd q2 (by omega)
          | succ kk ih30 =>
            intro i hi30 Bk2 H locs ls he30 hP hD hS hl
            refine lv_iload_n hx hb d_M_findBlocks_30 rfl (lv_at hl 0 rfl) ?_
            refine lv_aload_n hx hb d_M_findBlocks_31 rfl (lv_at hl 1 rfl) ?_
            refine g_get Sx gf_M hK hP 0 rfl rfl 1 (by decide) gm_420 rfl d_M_findBlocks_32 ?_
            refine lv_icmp_ge hx hb d_M_findBlocks_35 (tgt := 91) rfl (fun q3 => ?_) (fun q3 => ?_)
            · have q3 : k ≤ i := nq_le (by omega) (by omega) q3
              exact absurd q3 (by omega)
            · have q3 : i < k := nq_nle (by omega) (by omega) q3
              refine lv_aload_n hx hb d_M_findBlocks_38 rfl (lv_at hl 1 rfl) ?_
              refine lv_iload_n hx hb d_M_findBlocks_39 rfl (lv_at hl 2 rfl) ?_
              refine lv_iload_n hx hb d_M_findBlocks_40 rfl (lv_at hl 0 rfl) ?_
              refine ro_V (As := [.int x, .int (nI i)]) (rest := []) Sx (c_M_isBack l dC dI n k wk fl cm bl sd sm co cf hm a1 a2 a3 a4 a5 a6 a7 a8 a9 a10 a11 a12 a13 a14 cI E ((pm_pl n k E x Dp Pr Yb nx sk).2.2.1) x i (by omega) hE) (gw_callV gm_524 gm_525 gm_35 gm_56 gm_526) hd_M_isBack ⟨rfl, rfl⟩ ⟨Nat.le_of_ble_eq_true rfl, Nat.le_of_ble_eq_true rfl⟩ (va_P_map hP [0, 1, 4] rfl) (hK.sub (tys' := [(cI, .int)]) [0] rfl) rfl 0 rfl rfl hl.1 rfl (Nat.le_of_ble_eq_true rfl) d_M_findBlocks_41 ⟨Nat.zero_le _, Nat.zero_le _⟩ ?_
              refine lv_if_eq hx hb d_M_findBlocks_44 (tgt := 85) rfl (fun q4 => ?_) (fun q4 => ?_)
              · have q4 : (pm_bk x E ((pm_pl n k E x Dp Pr Yb nx sk).2.2.1) i) = false := bI_0.mp q4
                refine lv_iinc (k := 0) (v := nI (i + 1)) hx hb d_M_findBlocks_85 hl rfl (inc_nI _) (Nat.le_of_ble_eq_true rfl) rfl (fun ls hl => ?_)
                have hl : lv_has ls 4 [(2, .int (nI (i + 1))), (0, .ref hm), (1, .int x)] := hl
                refine lv_goto hx hb d_M_findBlocks_88 (tgt := 30) rfl ?_
                have he2 : Bk2 = fo (pm_f2 k x E ((pm_pl n k E x Dp Pr Yb nx sk).2.2.1) ((pm_pl n k E x Dp Pr Yb nx sk).2.1) ((fo (pm_p3 E (pm_pl n k E x Dp Pr Yb nx sk).1) k (dq, sh)).1) ((fo (pm_p3 E (pm_pl n k E x Dp Pr Yb nx sk).1) k (dq, sh)).2)) (i + 1) (fo pm_f1 k Bk) := by
                  rw [fo_s, ← he30]
                  simp [pm_f2, q1, q3, q4]
                exact ih30 (i + 1) (by omega) Bk2 H locs ls he2 hP hD hS (lv_sub hl [0, 1, 2] rfl)
              · have q4 : (pm_bk x E ((pm_pl n k E x Dp Pr Yb nx sk).2.2.1) i) = true := bI_1.mp q4
                obtain ⟨Inv, hI0, hI1, hIe⟩ := hfb i (by omega) q4
                refine lv_aload_n hx hb d_M_findBlocks_47 rfl (lv_at hl 1 rfl) ?_
                refine g_get Sx gf_M hK hP 0 rfl rfl 18 (by decide) gm_437 rfl d_M_findBlocks_48 ?_
                refine lv_iload_n hx hb d_M_findBlocks_51 rfl (lv_at hl 0 rfl) ?_
                refine g_ild (j := i) Sx hK hP 7 0 rfl rfl (by omega) (by decide) d_M_findBlocks_52 ?_
                refine lv_istore_n hx hb d_M_findBlocks_53 rfl hl (Nat.le_of_ble_eq_true rfl) rfl (fun ls hl => ?_)
                have hl : lv_has ls 4 [(3, .int (nI (((fo (pm_p3 E (pm_pl n k E x Dp Pr Yb nx sk).1) k (dq, sh)).1) i))), (2, .int (nI i)), (0, .ref hm), (1, .int x)] := hl
                have hL54 : ∀ (fu54 : Nat) (y1 : Nat) (Bk4 : Nat → Int32) (H : Heap) (locs : List Loc) (ls : Array Slot), wl (pm_f4D (((fo (pm_p3 E (pm_pl n k E x Dp Pr Yb nx sk).1) k (dq, sh)).2) i)) (pm_f4S k ((pm_pl n k E x Dp Pr Yb nx sk).2.2.1) ((pm_pl n k E x Dp Pr Yb nx sk).2.1) i) fu54 (y1, Bk4) = (pm_f4 k ((pm_pl n k E x Dp Pr Yb nx sk).2.2.1) ((pm_pl n k E x Dp Pr Yb nx sk).2.1) i (((fo (pm_p3 E (pm_pl n k E x Dp Pr Yb nx sk).1) k (dq, sh)).1) i) (((fo (pm_p3 E (pm_pl n k E x Dp Pr Yb nx sk).1) k (dq, sh)).2) i) Bk2) → Inv y1 → va_P (dC, dI) pcl [(hm, .inr (5, [.int (nI n), .int (nI k), .ref a1, .ref a2, .int (bI wk), .int (bI fl), .int (nI cm), .ref a3, .ref a4, .int bl, .int sd, .long sm, .int co, .ref a5, .ref a6, .ref a7, .ref a8, .ref a9, .ref a10, .ref a11, .ref a12, .ref a13, .int (bI cf), .ref a14])), (a1, .inl (cI, 36, .inl (fun i9 => nI (E i9)))), (a5, .inl (cI, 10, .inl ((pm_pl n k E x Dp Pr Yb nx sk).1))), (a6, .inl (cI, 10, .inl (fun i9 => oI (((pm_pl n k E x Dp Pr Yb nx sk).2.1) i9)))), (a7, .inl (cI, 10, .inl (fun i9 => oI (((pm_pl n k E x Dp Pr Yb nx sk).2.2.1) i9)))), (a8, .inl (cI, 10, .inl (fun i9 => nI (((pm_pl n k E x Dp Pr Yb nx sk).2.2.2.1) i9)))), (a9, .inl (cI, 10, .inl (fun i9 => nI (((pm_pl n k E x Dp Pr Yb nx sk).2.2.2.2) i9)))), (a10, .inl (cI, 18, .inl (fun i9 => nI (((fo (pm_p3 E (pm_pl n k E x Dp Pr Yb nx sk).1) k (dq, sh)).1) i9)))), (a11, .inl (cI, 18, .inl (fun i9 => nI (((fo (pm_p3 E (pm_pl n k E x Dp Pr Yb nx sk).1) k (dq, sh)).2) i9)))), (a4, .inl (cI, 18, .inl Bk4))] H → va_D A [(hm, .inr (5, [.int (nI n), .int (nI k), .ref a1, .ref a2, .int (bI wk), .int (bI fl), .int (nI cm), .ref a3, .ref a4, .int bl, .int sd, .long sm, .int co, .ref a5, .ref a6, .ref a7, .ref a8, .ref a9, .ref a10, .ref a11, .ref a12, .ref a13, .int (bI cf), .ref a14])), (a1, .inl (cI, 36, .inl (fun i9 => nI (E i9)))), (a5, .inl (cI, 10, .inl ((pm_pl n k E x Dp Pr Yb nx sk).1))), (a6, .inl (cI, 10, .inl (fun i9 => oI (((pm_pl n k E x Dp Pr Yb nx sk).2.1) i9)))), (a7, .inl (cI, 10, .inl (fun i9 => oI (((pm_pl n k E x Dp Pr Yb nx sk).2.2.1) i9)))), (a8, .inl (cI, 10, .inl (fun i9 => nI (((pm_pl n k E x Dp Pr Yb nx sk).2.2.2.1) i9)))), (a9, .inl (cI, 10, .inl (fun i9 => nI (((pm_pl n k E x Dp Pr Yb nx sk).2.2.2.2) i9)))), (a10, .inl (cI, 18, .inl (fun i9 => nI (((fo (pm_p3 E (pm_pl n k E x Dp Pr Yb nx sk).1) k (dq, sh)).1) i9)))), (a11, .inl (cI, 18, .inl (fun i9 => nI (((fo (pm_p3 E (pm_pl n k E x Dp Pr Yb nx sk).1) k (dq, sh)).2) i9)))), (a4, .inl (cI, 18, .inl Bk4))] → va_S A s.heap H locs → lv_has ls 4 [(3, .int (nI y1)), (2, .int (nI i)), (0, .ref hm), (1, .int x)] → W p l e rm_M_findBlocks s m args below meth c H locs 0 0 Q (F0 m 54 ls []) := by
                  intro fu54
                  induction fu54 with
                  | zero =>
                    intro y1 Bk4 H locs ls ht54 hI hP hD hS hl
                    refine lv_iload_n hx hb d_M_findBlocks_54 rfl (lv_at hl 0 rfl) ?_
                    refine lv_aload_n hx hb d_M_findBlocks_55 rfl (lv_at hl 2 rfl) ?_
                    refine g_get Sx gf_M hK hP 0 rfl rfl 19 (by decide) gm_438 rfl d_M_findBlocks_56 ?_
                    refine lv_iload_n hx hb d_M_findBlocks_59 rfl (lv_at hl 1 rfl) ?_
                    refine g_ild (j := i) Sx hK hP 8 0 rfl rfl (by omega) (by decide) d_M_findBlocks_60 ?_
                    refine lv_icmp_eq hx hb d_M_findBlocks_61 (tgt := 85) rfl (fun q5 => ?_) (fun q5 => ?_)
                    · skip
                      have hd9 : (pm_f4D (((fo (pm_p3 E (pm_pl n k E x Dp Pr Yb nx sk).1) k (dq, sh)).2) i)) (y1, Bk4) = true := by simp [pm_f4D, pm_f4S, q5]
                      have e9 : (y1, Bk4) = (pm_f4 k ((pm_pl n k E x Dp Pr Yb nx sk).2.2.1) ((pm_pl n k E x Dp Pr Yb nx sk).2.1) i (((fo (pm_p3 E (pm_pl n k E x Dp Pr Yb nx sk).1) k (dq, sh)).1) i) (((fo (pm_p3 E (pm_pl n k E x Dp Pr Yb nx sk).1) k (dq, sh)).2) i) Bk2) := by rw [← ht54]; exact (wl_dn hd9 _).symm
                      have e_y1 : y1 = ((pm_f4 k ((pm_pl n k E x Dp Pr Yb nx sk).2.2.1) ((pm_pl n k E x Dp Pr Yb nx sk).2.1) i (((fo (pm_p3 E (pm_pl n k E x Dp Pr Yb nx sk).1) k (dq, sh)).1) i) (((fo (pm_p3 E (pm_pl n k E x Dp Pr Yb nx sk).1) k (dq, sh)).2) i) Bk2)).1 := by rw [← e9]
                      have e_Bk4 : Bk4 = ((pm_f4 k ((pm_pl n k E x Dp Pr Yb nx sk).2.2.1) ((pm_pl n k E x Dp Pr Yb nx sk).2.1) i (((fo (pm_p3 E (pm_pl n k E x Dp Pr Yb nx sk).1) k (dq, sh)).1) i) (((fo (pm_p3 E (pm_pl n k E x Dp Pr Yb nx sk).1) k (dq, sh)).2) i) Bk2)).2 := by rw [← e9]
                      subst e_y1
                      subst e_Bk4
                      have hl : lv_has ls 4 [(3, .int (nI (((pm_f4 k ((pm_pl n k E x Dp Pr Yb nx sk).2.2.1) ((pm_pl n k E x Dp Pr Yb nx sk).2.1) i (((fo (pm_p3 E (pm_pl n k E x Dp Pr Yb nx sk).1) k (dq, sh)).1) i) (((fo (pm_p3 E (pm_pl n k E x Dp Pr Yb nx sk).1) k (dq, sh)).2) i) Bk2)).1))), (2, .int (nI i)), (0, .ref hm), (1, .int x)] := hl
                      have hP : va_P (dC, dI) pcl [(hm, .inr (5, [.int (nI n), .int (nI k), .ref a1, .ref a2, .int (bI wk), .int (bI fl), .int (nI cm), .ref a3, .ref a4, .int bl, .int sd, .long sm, .int co, .ref a5, .ref a6, .ref a7, .ref a8, .ref a9, .ref a10, .ref a11, .ref a12, .ref a13, .int (bI cf), .ref a14])), (a1, .inl (cI, 36, .inl (fun i9 => nI (E i9)))), (a5, .inl (cI, 10, .inl ((pm_pl n k E x Dp Pr Yb nx sk).1))), (a6, .inl (cI, 10, .inl (fun i9 => oI (((pm_pl n k E x Dp Pr Yb nx sk).2.1) i9)))), (a7, .inl (cI, 10, .inl (fun i9 => oI (((pm_pl n k E x Dp Pr Yb nx sk).2.2.1) i9)))), (a8, .inl (cI, 10, .inl (fun i9 => nI (((pm_pl n k E x Dp Pr Yb nx sk).2.2.2.1) i9)))), (a9, .inl (cI, 10, .inl (fun i9 => nI (((pm_pl n k E x Dp Pr Yb nx sk).2.2.2.2) i9)))), (a10, .inl (cI, 18, .inl (fun i9 => nI (((fo (pm_p3 E (pm_pl n k E x Dp Pr Yb nx sk).1) k (dq, sh)).1) i9)))), (a11, .inl (cI, 18, .inl (fun i9 => nI (((fo (pm_p3 E (pm_pl n k E x Dp Pr Yb nx sk).1) k (dq, sh)).2) i9)))), (a4, .inl (cI, 18, .inl (((pm_f4 k ((pm_pl n k E x Dp Pr Yb nx sk).2.2.1) ((pm_pl n k E x Dp Pr Yb nx sk).2.1) i (((fo (pm_p3 E (pm_pl n k E x Dp Pr Yb nx sk).1) k (dq, sh)).1) i) (((fo (pm_p3 E (pm_pl n k E x Dp Pr Yb nx sk).1) k (dq, sh)).2) i) Bk2)).2)))] H := hP
                      have hD : va_D A [(hm, .inr (5, [.int (nI n), .int (nI k), .ref a1, .ref a2, .int (bI wk), .int (bI fl), .int (nI cm), .ref a3, .ref a4, .int bl, .int sd, .long sm, .int co, .ref a5, .ref a6, .ref a7, .ref a8, .ref a9, .ref a10, .ref a11, .ref a12, .ref a13, .int (bI cf), .ref a14])), (a1, .inl (cI, 36, .inl (fun i9 => nI (E i9)))), (a5, .inl (cI, 10, .inl ((pm_pl n k E x Dp Pr Yb nx sk).1))), (a6, .inl (cI, 10, .inl (fun i9 => oI (((pm_pl n k E x Dp Pr Yb nx sk).2.1) i9)))), (a7, .inl (cI, 10, .inl (fun i9 => oI (((pm_pl n k E x Dp Pr Yb nx sk).2.2.1) i9)))), (a8, .inl (cI, 10, .inl (fun i9 => nI (((pm_pl n k E x Dp Pr Yb nx sk).2.2.2.1) i9)))), (a9, .inl (cI, 10, .inl (fun i9 => nI (((pm_pl n k E x Dp Pr Yb nx sk).2.2.2.2) i9)))), (a10, .inl (cI, 18, .inl (fun i9 => nI (((fo (pm_p3 E (pm_pl n k E x Dp Pr Yb nx sk).1) k (dq, sh)).1) i9)))), (a11, .inl (cI, 18, .inl (fun i9 => nI (((fo (pm_p3 E (pm_pl n k E x Dp Pr Yb nx sk).1) k (dq, sh)).2) i9)))), (a4, .inl (cI, 18, .inl (((pm_f4 k ((pm_pl n k E x Dp Pr Yb nx sk).2.2.1) ((pm_pl n k E x Dp Pr Yb nx sk).2.1) i (((fo (pm_p3 E (pm_pl n k E x Dp Pr Yb nx sk).1) k (dq, sh)).1) i) (((fo (pm_p3 E (pm_pl n k E x Dp Pr Yb nx sk).1) k (dq, sh)).2) i) Bk2)).2)))] := hD
                      refine lv_iinc (k := 1) (v := nI (i + 1)) hx hb d_M_findBlocks_85 hl rfl (inc_nI _) (Nat.le_of_ble_eq_true rfl) rfl (fun ls hl => ?_)
                      have hl : lv_has ls 4 [(2, .int (nI (i + 1))), (3, .int (nI (((pm_f4 k ((pm_pl n k E x Dp Pr Yb nx sk).2.2.1) ((pm_pl n k E x Dp Pr Yb nx sk).2.1) i (((fo (pm_p3 E (pm_pl n k E x Dp Pr Yb nx sk).1) k (dq, sh)).1) i) (((fo (pm_p3 E (pm_pl n k E x Dp Pr Yb nx sk).1) k (dq, sh)).2) i) Bk2)).1))), (0, .ref hm), (1, .int x)] := hl
                      refine lv_goto hx hb d_M_findBlocks_88 (tgt := 30) rfl ?_
                      have he2 : (((pm_f4 k ((pm_pl n k E x Dp Pr Yb nx sk).2.2.1) ((pm_pl n k E x Dp Pr Yb nx sk).2.1) i (((fo (pm_p3 E (pm_pl n k E x Dp Pr Yb nx sk).1) k (dq, sh)).1) i) (((fo (pm_p3 E (pm_pl n k E x Dp Pr Yb nx sk).1) k (dq, sh)).2) i) Bk2)).2) = fo (pm_f2 k x E ((pm_pl n k E x Dp Pr Yb nx sk).2.2.1) ((pm_pl n k E x Dp Pr Yb nx sk).2.1) ((fo (pm_p3 E (pm_pl n k E x Dp Pr Yb nx sk).1) k (dq, sh)).1) ((fo (pm_p3 E (pm_pl n k E x Dp Pr Yb nx sk).1) k (dq, sh)).2)) (i + 1) (fo pm_f1 k Bk) := by
                        rw [fo_s, ← he30]
                        simp [pm_f2, q1, q3, q4, q5]
                      exact ih30 (i + 1) (by omega) (((pm_f4 k ((pm_pl n k E x Dp Pr Yb nx sk).2.2.1) ((pm_pl n k E x Dp Pr Yb nx sk).2.1) i (((fo (pm_p3 E (pm_pl n k E x Dp Pr Yb nx sk).1) k (dq, sh)).1) i) (((fo (pm_p3 E (pm_pl n k E x Dp Pr Yb nx sk).1) k (dq, sh)).2) i) Bk2)).2) H locs ls he2 hP hD hS (lv_sub hl [0, 2, 3] rfl)
                    · skip
                      obtain ⟨hb1, hb2, hb3, hb4, hb5⟩ := hI1 _ hI q5
                      have hd9 : (pm_f4D (((fo (pm_p3 E (pm_pl n k E x Dp Pr Yb nx sk).1) k (dq, sh)).2) i)) (y1, Bk4) = false := by simp [pm_f4D, pm_f4S, q5]
                      have ht9 : (y1, Bk4) = (pm_f4 k ((pm_pl n k E x Dp Pr Yb nx sk).2.2.1) ((pm_pl n k E x Dp Pr Yb nx sk).2.1) i (((fo (pm_p3 E (pm_pl n k E x Dp Pr Yb nx sk).1) k (dq, sh)).1) i) (((fo (pm_p3 E (pm_pl n k E x Dp Pr Yb nx sk).1) k (dq, sh)).2) i) Bk2) := ht54
                      rw [ht9, (hIe Bk2)] at hd9
                      cases hd9
                  | succ fu54 ih54 =>
                    intro y1 Bk4 H locs ls ht54 hI hP hD hS hl
                    refine lv_iload_n hx hb d_M_findBlocks_54 rfl (lv_at hl 0 rfl) ?_
                    refine lv_aload_n hx hb d_M_findBlocks_55 rfl (lv_at hl 2 rfl) ?_
                    refine g_get Sx gf_M hK hP 0 rfl rfl 19 (by decide) gm_438 rfl d_M_findBlocks_56 ?_
                    refine lv_iload_n hx hb d_M_findBlocks_59 rfl (lv_at hl 1 rfl) ?_
                    refine g_ild (j := i) Sx hK hP 8 0 rfl rfl (by omega) (by decide) d_M_findBlocks_60 ?_
                    refine lv_icmp_eq hx hb d_M_findBlocks_61 (tgt := 85) rfl (fun q6 => ?_) (fun q6 => ?_)
                    · skip
                      have hd9 : (pm_f4D (((fo (pm_p3 E (pm_pl n k E x Dp Pr Yb nx sk).1) k (dq, sh)).2) i)) (y1, Bk4) = true := by simp [pm_f4D, pm_f4S, q6]
                      have e9 : (y1, Bk4) = (pm_f4 k ((pm_pl n k E x Dp Pr Yb nx sk).2.2.1) ((pm_pl n k E x Dp Pr Yb nx sk).2.1) i (((fo (pm_p3 E (pm_pl n k E x Dp Pr Yb nx sk).1) k (dq, sh)).1) i) (((fo (pm_p3 E (pm_pl n k E x Dp Pr Yb nx sk).1) k (dq, sh)).2) i) Bk2) := by rw [← ht54]; exact (wl_dn hd9 _).symm
                      have e_y1 : y1 = ((pm_f4 k ((pm_pl n k E x Dp Pr Yb nx sk).2.2.1) ((pm_pl n k E x Dp Pr Yb nx sk).2.1) i (((fo (pm_p3 E (pm_pl n k E x Dp Pr Yb nx sk).1) k (dq, sh)).1) i) (((fo (pm_p3 E (pm_pl n k E x Dp Pr Yb nx sk).1) k (dq, sh)).2) i) Bk2)).1 := by rw [← e9]
                      have e_Bk4 : Bk4 = ((pm_f4 k ((pm_pl n k E x Dp Pr Yb nx sk).2.2.1) ((pm_pl n k E x Dp Pr Yb nx sk).2.1) i (((fo (pm_p3 E (pm_pl n k E x Dp Pr Yb nx sk).1) k (dq, sh)).1) i) (((fo (pm_p3 E (pm_pl n k E x Dp Pr Yb nx sk).1) k (dq, sh)).2) i) Bk2)).2 := by rw [← e9]
                      subst e_y1
                      subst e_Bk4
                      have hl : lv_has ls 4 [(3, .int (nI (((pm_f4 k ((pm_pl n k E x Dp Pr Yb nx sk).2.2.1) ((pm_pl n k E x Dp Pr Yb nx sk).2.1) i (((fo (pm_p3 E (pm_pl n k E x Dp Pr Yb nx sk).1) k (dq, sh)).1) i) (((fo (pm_p3 E (pm_pl n k E x Dp Pr Yb nx sk).1) k (dq, sh)).2) i) Bk2)).1))), (2, .int (nI i)), (0, .ref hm), (1, .int x)] := hl
                      have hP : va_P (dC, dI) pcl [(hm, .inr (5, [.int (nI n), .int (nI k), .ref a1, .ref a2, .int (bI wk), .int (bI fl), .int (nI cm), .ref a3, .ref a4, .int bl, .int sd, .long sm, .int co, .ref a5, .ref a6, .ref a7, .ref a8, .ref a9, .ref a10, .ref a11, .ref a12, .ref a13, .int (bI cf), .ref a14])), (a1, .inl (cI, 36, .inl (fun i9 => nI (E i9)))), (a5, .inl (cI, 10, .inl ((pm_pl n k E x Dp Pr Yb nx sk).1))), (a6, .inl (cI, 10, .inl (fun i9 => oI (((pm_pl n k E x Dp Pr Yb nx sk).2.1) i9)))), (a7, .inl (cI, 10, .inl (fun i9 => oI (((pm_pl n k E x Dp Pr Yb nx sk).2.2.1) i9)))), (a8, .inl (cI, 10, .inl (fun i9 => nI (((pm_pl n k E x Dp Pr Yb nx sk).2.2.2.1) i9)))), (a9, .inl (cI, 10, .inl (fun i9 => nI (((pm_pl n k E x Dp Pr Yb nx sk).2.2.2.2) i9)))), (a10, .inl (cI, 18, .inl (fun i9 => nI (((fo (pm_p3 E (pm_pl n k E x Dp Pr Yb nx sk).1) k (dq, sh)).1) i9)))), (a11, .inl (cI, 18, .inl (fun i9 => nI (((fo (pm_p3 E (pm_pl n k E x Dp Pr Yb nx sk).1) k (dq, sh)).2) i9)))), (a4, .inl (cI, 18, .inl (((pm_f4 k ((pm_pl n k E x Dp Pr Yb nx sk).2.2.1) ((pm_pl n k E x Dp Pr Yb nx sk).2.1) i (((fo (pm_p3 E (pm_pl n k E x Dp Pr Yb nx sk).1) k (dq, sh)).1) i) (((fo (pm_p3 E (pm_pl n k E x Dp Pr Yb nx sk).1) k (dq, sh)).2) i) Bk2)).2)))] H := hP
                      have hD : va_D A [(hm, .inr (5, [.int (nI n), .int (nI k), .ref a1, .ref a2, .int (bI wk), .int (bI fl), .int (nI cm), .ref a3, .ref a4, .int bl, .int sd, .long sm, .int co, .ref a5, .ref a6, .ref a7, .ref a8, .ref a9, .ref a10, .ref a11, .ref a12, .ref a13, .int (bI cf), .ref a14])), (a1, .inl (cI, 36, .inl (fun i9 => nI (E i9)))), (a5, .inl (cI, 10, .inl ((pm_pl n k E x Dp Pr Yb nx sk).1))), (a6, .inl (cI, 10, .inl (fun i9 => oI (((pm_pl n k E x Dp Pr Yb nx sk).2.1) i9)))), (a7, .inl (cI, 10, .inl (fun i9 => oI (((pm_pl n k E x Dp Pr Yb nx sk).2.2.1) i9)))), (a8, .inl (cI, 10, .inl (fun i9 => nI (((pm_pl n k E x Dp Pr Yb nx sk).2.2.2.1) i9)))), (a9, .inl (cI, 10, .inl (fun i9 => nI (((pm_pl n k E x Dp Pr Yb nx sk).2.2.2.2) i9)))), (a10, .inl (cI, 18, .inl (fun i9 => nI (((fo (pm_p3 E (pm_pl n k E x Dp Pr Yb nx sk).1) k (dq, sh)).1) i9)))), (a11, .inl (cI, 18, .inl (fun i9 => nI (((fo (pm_p3 E (pm_pl n k E x Dp Pr Yb nx sk).1) k (dq, sh)).2) i9)))), (a4, .inl (cI, 18, .inl (((pm_f4 k ((pm_pl n k E x Dp Pr Yb nx sk).2.2.1) ((pm_pl n k E x Dp Pr Yb nx sk).2.1) i (((fo (pm_p3 E (pm_pl n k E x Dp Pr Yb nx sk).1) k (dq, sh)).1) i) (((fo (pm_p3 E (pm_pl n k E x Dp Pr Yb nx sk).1) k (dq, sh)).2) i) Bk2)).2)))] := hD
                      refine lv_iinc (k := 1) (v := nI (i + 1)) hx hb d_M_findBlocks_85 hl rfl (inc_nI _) (Nat.le_of_ble_eq_true rfl) rfl (fun ls hl => ?_)
                      have hl : lv_has ls 4 [(2, .int (nI (i + 1))), (3, .int (nI (((pm_f4 k ((pm_pl n k E x Dp Pr Yb nx sk).2.2.1) ((pm_pl n k E x Dp Pr Yb nx sk).2.1) i (((fo (pm_p3 E (pm_pl n k E x Dp Pr Yb nx sk).1) k (dq, sh)).1) i) (((fo (pm_p3 E (pm_pl n k E x Dp Pr Yb nx sk).1) k (dq, sh)).2) i) Bk2)).1))), (0, .ref hm), (1, .int x)] := hl
                      refine lv_goto hx hb d_M_findBlocks_88 (tgt := 30) rfl ?_
                      have he2 : (((pm_f4 k ((pm_pl n k E x Dp Pr Yb nx sk).2.2.1) ((pm_pl n k E x Dp Pr Yb nx sk).2.1) i (((fo (pm_p3 E (pm_pl n k E x Dp Pr Yb nx sk).1) k (dq, sh)).1) i) (((fo (pm_p3 E (pm_pl n k E x Dp Pr Yb nx sk).1) k (dq, sh)).2) i) Bk2)).2) = fo (pm_f2 k x E ((pm_pl n k E x Dp Pr Yb nx sk).2.2.1) ((pm_pl n k E x Dp Pr Yb nx sk).2.1) ((fo (pm_p3 E (pm_pl n k E x Dp Pr Yb nx sk).1) k (dq, sh)).1) ((fo (pm_p3 E (pm_pl n k E x Dp Pr Yb nx sk).1) k (dq, sh)).2)) (i + 1) (fo pm_f1 k Bk) := by
                        rw [fo_s, ← he30]
                        simp [pm_f2, q1, q3, q4, q6]
                      exact ih30 (i + 1) (by omega) (((pm_f4 k ((pm_pl n k E x Dp Pr Yb nx sk).2.2.1) ((pm_pl n k E x Dp Pr Yb nx sk).2.1) i (((fo (pm_p3 E (pm_pl n k E x Dp Pr Yb nx sk).1) k (dq, sh)).1) i) (((fo (pm_p3 E (pm_pl n k E x Dp Pr Yb nx sk).1) k (dq, sh)).2) i) Bk2)).2) H locs ls he2 hP hD hS (lv_sub hl [0, 2, 3] rfl)
                    · skip
                      obtain ⟨hb1, hb2, hb3, hb4, hb5⟩ := hI1 _ hI q6
                      refine lv_aload_n hx hb d_M_findBlocks_64 rfl (lv_at hl 2 rfl) ?_
                      refine lv_iload_n hx hb d_M_findBlocks_65 rfl (lv_at hl 1 rfl) ?_
                      refine lv_aload_n hx hb d_M_findBlocks_66 rfl (lv_at hl 2 rfl) ?_
                      refine g_get Sx gf_M hK hP 0 rfl rfl 15 (by decide) gm_434 rfl d_M_findBlocks_67 ?_
                      refine lv_iload_n hx hb d_M_findBlocks_70 rfl (lv_at hl 0 rfl) ?_
                      refine g_ild (j := y1) Sx hK hP 4 0 rfl rfl (by omega) (by decide) d_M_findBlocks_71 ?_
                      rw [show (oI (((pm_pl n k E x Dp Pr Yb nx sk).2.2.1) y1) : Int32) = nI (((pm_pl n k E x Dp Pr Yb nx sk).2.2.1) y1 - 1) from (oI_pre hb2)]
                      refine rw_V (As := [.int (nI i), .int (nI (((pm_pl n k E x Dp Pr Yb nx sk).2.2.1) y1 - 1))]) (rest := []) (wr := [(a1, .inl (cI, 36, .inl (fun i9 => nI (E i9)))), (a5, .inl (cI, 10, .inl ((pm_pl n k E x Dp Pr Yb nx sk).1))), (a6, .inl (cI, 10, .inl (fun i9 => oI (((pm_pl n k E x Dp Pr Yb nx sk).2.1) i9)))), (a7, .inl (cI, 10, .inl (fun i9 => oI (((pm_pl n k E x Dp Pr Yb nx sk).2.2.1) i9)))), (a8, .inl (cI, 10, .inl (fun i9 => nI (((pm_pl n k E x Dp Pr Yb nx sk).2.2.2.1) i9)))), (a9, .inl (cI, 10, .inl (fun i9 => nI (((pm_pl n k E x Dp Pr Yb nx sk).2.2.2.2) i9)))), (a10, .inl (cI, 18, .inl (fun i9 => nI (((fo (pm_p3 E (pm_pl n k E x Dp Pr Yb nx sk).1) k (dq, sh)).1) i9)))), (a11, .inl (cI, 18, .inl (fun i9 => nI (((fo (pm_p3 E (pm_pl n k E x Dp Pr Yb nx sk).1) k (dq, sh)).2) i9))))]) Sx (c_M_join l dC dI n k wk fl cm bl sd sm co cf hm a1 a2 a3 a4 a5 a6 a7 a8 a9 a10 a11 a12 a13 a14 cI Bk4 i (((pm_pl n k E x Dp Pr Yb nx sk).2.2.1) y1 - 1) H.size hk (by omega) (by omega)) (gw_callV gm_554 gm_555 gm_44 gm_56 gm_556) hd_M_join ⟨rfl, rfl⟩ ⟨Nat.le_of_ble_eq_true rfl, Nat.le_of_ble_eq_true rfl⟩ hP hD hS hA (hK.sub (tys' := [(cI, .int)]) [0] rfl) [0, 9] [1, 2, 3, 4, 5, 6, 7, 8] rfl rfl (by decide) (by decide) (by decide) rfl 0 rfl rfl hl.1 rfl (Nat.le_of_ble_eq_true rfl) d_M_findBlocks_72 ⟨Nat.zero_le _, Nat.zero_le _⟩ (fun H locs hP hD hS => ?_)
                      have hP : va_P (dC, dI) pcl [(a1, .inl (cI, 36, .inl (fun i9 => nI (E i9)))), (a5, .inl (cI, 10, .inl ((pm_pl n k E x Dp Pr Yb nx sk).1))), (a6, .inl (cI, 10, .inl (fun i9 => oI (((pm_pl n k E x Dp Pr Yb nx sk).2.1) i9)))), (a7, .inl (cI, 10, .inl (fun i9 => oI (((pm_pl n k E x Dp Pr Yb nx sk).2.2.1) i9)))), (a8, .inl (cI, 10, .inl (fun i9 => nI (((pm_pl n k E x Dp Pr Yb nx sk).2.2.2.1) i9)))), (a9, .inl (cI, 10, .inl (fun i9 => nI (((pm_pl n k E x Dp Pr Yb nx sk).2.2.2.2) i9)))), (a10, .inl (cI, 18, .inl (fun i9 => nI (((fo (pm_p3 E (pm_pl n k E x Dp Pr Yb nx sk).1) k (dq, sh)).1) i9)))), (a11, .inl (cI, 18, .inl (fun i9 => nI (((fo (pm_p3 E (pm_pl n k E x Dp Pr Yb nx sk).1) k (dq, sh)).2) i9)))), (hm, .inr (5, [.int (nI n), .int (nI k), .ref a1, .ref a2, .int (bI wk), .int (bI fl), .int (nI cm), .ref a3, .ref a4, .int bl, .int sd, .long sm, .int co, .ref a5, .ref a6, .ref a7, .ref a8, .ref a9, .ref a10, .ref a11, .ref a12, .ref a13, .int (bI cf), .ref a14])), (a4, .inl (cI, 18, .inl (fo (pm_jn i (Bk4 (((pm_pl n k E x Dp Pr Yb nx sk).2.2.1) y1 - 1))) k Bk4)))] H := hP
                      have hD : va_D A [(a1, .inl (cI, 36, .inl (fun i9 => nI (E i9)))), (a5, .inl (cI, 10, .inl ((pm_pl n k E x Dp Pr Yb nx sk).1))), (a6, .inl (cI, 10, .inl (fun i9 => oI (((pm_pl n k E x Dp Pr Yb nx sk).2.1) i9)))), (a7, .inl (cI, 10, .inl (fun i9 => oI (((pm_pl n k E x Dp Pr Yb nx sk).2.2.1) i9)))), (a8, .inl (cI, 10, .inl (fun i9 => nI (((pm_pl n k E x Dp Pr Yb nx sk).2.2.2.1) i9)))), (a9, .inl (cI, 10, .inl (fun i9 => nI (((pm_pl n k E x Dp Pr Yb nx sk).2.2.2.2) i9)))), (a10, .inl (cI, 18, .inl (fun i9 => nI (((fo (pm_p3 E (pm_pl n k E x Dp Pr Yb nx sk).1) k (dq, sh)).1) i9)))), (a11, .inl (cI, 18, .inl (fun i9 => nI (((fo (pm_p3 E (pm_pl n k E x Dp Pr Yb nx sk).1) k (dq, sh)).2) i9)))), (hm, .inr (5, [.int (nI n), .int (nI k), .ref a1, .ref a2, .int (bI wk), .int (bI fl), .int (nI cm), .ref a3, .ref a4, .int bl, .int sd, .long sm, .int co, .ref a5, .ref a6, .ref a7, .ref a8, .ref a9, .ref a10, .ref a11, .ref a12, .ref a13, .int (bI cf), .ref a14])), (a4, .inl (cI, 18, .inl (fo (pm_jn i (Bk4 (((pm_pl n k E x Dp Pr Yb nx sk).2.2.1) y1 - 1))) k Bk4)))] := hD
                      refine lv_aload_n hx hb d_M_findBlocks_75 rfl (lv_at hl 2 rfl) ?_
                      refine g_get Sx gf_M hK hP 8 rfl rfl 14 (by decide) gm_433 rfl d_M_findBlocks_76 ?_
                      refine lv_iload_n hx hb d_M_findBlocks_79 rfl (lv_at hl 0 rfl) ?_
                      refine g_ild (j := y1) Sx hK hP 2 0 rfl rfl (by omega) (by decide) d_M_findBlocks_80 ?_
                      rw [show (oI (((pm_pl n k E x Dp Pr Yb nx sk).2.1) y1) : Int32) = nI (((pm_pl n k E x Dp Pr Yb nx sk).2.1) y1 - 1) from (oI_pre hb4)]
                      refine lv_istore_n hx hb d_M_findBlocks_81 rfl hl (Nat.le_of_ble_eq_true rfl) rfl (fun ls hl => ?_)
                      have hl : lv_has ls 4 [(3, .int (nI (((pm_pl n k E x Dp Pr Yb nx sk).2.1) y1 - 1))), (2, .int (nI i)), (0, .ref hm), (1, .int x)] := hl
                      refine lv_goto hx hb d_M_findBlocks_82 (tgt := 54) rfl ?_
                      have hd9 : (pm_f4D (((fo (pm_p3 E (pm_pl n k E x Dp Pr Yb nx sk).1) k (dq, sh)).2) i)) (y1, Bk4) = false := by simp [pm_f4D, pm_f4S, q6]
                      have hs9 : (pm_f4S k ((pm_pl n k E x Dp Pr Yb nx sk).2.2.1) ((pm_pl n k E x Dp Pr Yb nx sk).2.1) i) (y1, Bk4) = (((pm_pl n k E x Dp Pr Yb nx sk).2.1) y1 - 1, fo (pm_jn i (Bk4 (((pm_pl n k E x Dp Pr Yb nx sk).2.2.1) y1 - 1))) k Bk4) := by simp [pm_f4D, pm_f4S, q6]
                      have ht9 : wl (pm_f4D (((fo (pm_p3 E (pm_pl n k E x Dp Pr Yb nx sk).1) k (dq, sh)).2) i)) (pm_f4S k ((pm_pl n k E x Dp Pr Yb nx sk).2.2.1) ((pm_pl n k E x Dp Pr Yb nx sk).2.1) i) fu54 (((pm_pl n k E x Dp Pr Yb nx sk).2.1) y1 - 1, fo (pm_jn i (Bk4 (((pm_pl n k E x Dp Pr Yb nx sk).2.2.1) y1 - 1))) k Bk4) = (pm_f4 k ((pm_pl n k E x Dp Pr Yb nx sk).2.2.1) ((pm_pl n k E x Dp Pr Yb nx sk).2.1) i (((fo (pm_p3 E (pm_pl n k E x Dp Pr Yb nx sk).1) k (dq, sh)).1) i) (((fo (pm_p3 E (pm_pl n k E x Dp Pr Yb nx sk).1) k (dq, sh)).2) i) Bk2) := by rw [← ht54, wl_st hd9, hs9]
                      exact ih54 (((pm_pl n k E x Dp Pr Yb nx sk).2.1) y1 - 1) (fo (pm_jn i (Bk4 (((pm_pl n k E x Dp Pr Yb nx sk).2.2.1) y1 - 1))) k Bk4) H locs ls ht9 hb5 (va_P_map hP [8, 0, 1, 2, 3, 4, 5, 6, 7, 9] rfl) (hD.sub [8, 0, 1, 2, 3, 4, 5, 6, 7, 9] (by decide) rfl) hS (lv_sub hl [0, 1, 2, 3] rfl)
                exact hL54 12 (((fo (pm_p3 E (pm_pl n k E x Dp Pr Yb nx sk).1) k (dq, sh)).1) i) Bk2 H locs ls rfl hI0 hP hD hS (lv_sub hl [0, 1, 2, 3] rfl)
        exact hL30 k 0 (by omega) (fo pm_f1 k Bk) H locs ls rfl hP hD hS (lv_sub hl [0, 1, 2] rfl)
      · have q1 : k < k := nq_nle (by omega) (by omega) q1
        exact absurd q1 (by omega)
    | succ kk ih7 =>
      intro i hi7 Bk1 H locs ls he7 hP hD hS hl
      refine lv_iload_n hx hb d_M_findBlocks_7 rfl (lv_at hl 0 rfl) ?_
      refine lv_aload_n hx hb d_M_findBlocks_8 rfl (lv_at hl 1 rfl) ?_
      refine g_get Sx gf_M hK hP 0 rfl rfl 1 (by decide) gm_420 rfl d_M_findBlocks_9 ?_
      refine lv_icmp_ge hx hb d_M_findBlocks_12 (tgt := 28) rfl (fun q7 => ?_) (fun q7 => ?_)
      · have q7 : k ≤ i := nq_le (by omega) (by omega) q7
        exact absurd q7 (by omega)
      · have q7 : i < k := nq_nle (by omega) (by omega) q7
        refine lv_aload_n hx hb d_M_findBlocks_15 rfl (lv_at hl 1 rfl) ?_
        refine g_get Sx gf_M hK hP 0 rfl rfl 8 (by decide) gm_427 rfl d_M_findBlocks_16 ?_
        refine lv_iload_n hx hb d_M_findBlocks_19 rfl (lv_at hl 0 rfl) ?_
        refine lv_iload_n hx hb d_M_findBlocks_20 rfl (lv_at hl 0 rfl) ?_
        refine g_ist (j := i) Sx hK hP hD hS 9 0 rfl rfl (by omega) (by decide) d_M_findBlocks_21 (fun H locs hP hD hS => ?_)
        have hP : va_P (dC, dI) pcl [(hm, .inr (5, [.int (nI n), .int (nI k), .ref a1, .ref a2, .int (bI wk), .int (bI fl), .int (nI cm), .ref a3, .ref a4, .int bl, .int sd, .long sm, .int co, .ref a5, .ref a6, .ref a7, .ref a8, .ref a9, .ref a10, .ref a11, .ref a12, .ref a13, .int (bI cf), .ref a14])), (a1, .inl (cI, 36, .inl (fun i9 => nI (E i9)))), (a5, .inl (cI, 10, .inl ((pm_pl n k E x Dp Pr Yb nx sk).1))), (a6, .inl (cI, 10, .inl (fun i9 => oI (((pm_pl n k E x Dp Pr Yb nx sk).2.1) i9)))), (a7, .inl (cI, 10, .inl (fun i9 => oI (((pm_pl n k E x Dp Pr Yb nx sk).2.2.1) i9)))), (a8, .inl (cI, 10, .inl (fun i9 => nI (((pm_pl n k E x Dp Pr Yb nx sk).2.2.2.1) i9)))), (a9, .inl (cI, 10, .inl (fun i9 => nI (((pm_pl n k E x Dp Pr Yb nx sk).2.2.2.2) i9)))), (a10, .inl (cI, 18, .inl (fun i9 => nI (((fo (pm_p3 E (pm_pl n k E x Dp Pr Yb nx sk).1) k (dq, sh)).1) i9)))), (a11, .inl (cI, 18, .inl (fun i9 => nI (((fo (pm_p3 E (pm_pl n k E x Dp Pr Yb nx sk).1) k (dq, sh)).2) i9)))), (a4, .inl (cI, 18, .inl (upd Bk1 i (nI i))))] H := hP
        have hD : va_D A [(hm, .inr (5, [.int (nI n), .int (nI k), .ref a1, .ref a2, .int (bI wk), .int (bI fl), .int (nI cm), .ref a3, .ref a4, .int bl, .int sd, .long sm, .int co, .ref a5, .ref a6, .ref a7, .ref a8, .ref a9, .ref a10, .ref a11, .ref a12, .ref a13, .int (bI cf), .ref a14])), (a1, .inl (cI, 36, .inl (fun i9 => nI (E i9)))), (a5, .inl (cI, 10, .inl ((pm_pl n k E x Dp Pr Yb nx sk).1))), (a6, .inl (cI, 10, .inl (fun i9 => oI (((pm_pl n k E x Dp Pr Yb nx sk).2.1) i9)))), (a7, .inl (cI, 10, .inl (fun i9 => oI (((pm_pl n k E x Dp Pr Yb nx sk).2.2.1) i9)))), (a8, .inl (cI, 10, .inl (fun i9 => nI (((pm_pl n k E x Dp Pr Yb nx sk).2.2.2.1) i9)))), (a9, .inl (cI, 10, .inl (fun i9 => nI (((pm_pl n k E x Dp Pr Yb nx sk).2.2.2.2) i9)))), (a10, .inl (cI, 18, .inl (fun i9 => nI (((fo (pm_p3 E (pm_pl n k E x Dp Pr Yb nx sk).1) k (dq, sh)).1) i9)))), (a11, .inl (cI, 18, .inl (fun i9 => nI (((fo (pm_p3 E (pm_pl n k E x Dp Pr Yb nx sk).1) k (dq, sh)).2) i9)))), (a4, .inl (cI, 18, .inl (upd Bk1 i (nI i))))] := hD
        refine lv_iinc (k := 0) (v := nI (i + 1)) hx hb d_M_findBlocks_22 hl rfl (inc_nI _) (Nat.le_of_ble_eq_true rfl) rfl (fun ls hl => ?_)
        have hl : lv_has ls 4 [(2, .int (nI (i + 1))), (0, .ref hm), (1, .int x)] := hl
        refine lv_goto hx hb d_M_findBlocks_25 (tgt := 7) rfl ?_
        have he2 : (upd Bk1 i (nI i)) = fo pm_f1 (i + 1) Bk := by
          rw [fo_s, ← he7]
          simp [pm_f1, q7]
        exact ih7 (i + 1) (by omega) (upd Bk1 i (nI i)) H locs ls he2 hP hD hS (lv_sub hl [0, 1, 2] rfl)
  exact hL7 k 0 (by omega) Bk H locs ls rfl (va_P_map hP [1, 2, 3, 4, 5, 6, 7, 8, 9, 0] rfl) (hD.sub [1, 2, 3, 4, 5, 6, 7, 8, 9, 0] (by decide) rfl) hS (lv_sub hl [0, 1, 2] rfl)
theorem d_M_begins_0 : decode k_M_begins 0 = .ok (.iconst 1, 1) := by decide +kernel
theorem d_M_begins_1 : decode k_M_begins 1 = .ok (.istore_n 2, 1) := by decide +kernel
theorem d_M_begins_2 : decode k_M_begins 2 = .ok (.iconst 0, 1) := by decide +kernel
theorem d_M_begins_3 : decode k_M_begins 3 = .ok (.istore_n 3, 1) := by decide +kernel
theorem d_M_begins_4 : decode k_M_begins 4 = .ok (.iload_n 3, 1) := by decide +kernel
theorem d_M_begins_5 : decode k_M_begins 5 = .ok (.aload_n 0, 1) := by decide +kernel
theorem d_M_begins_6 : decode k_M_begins 6 = .ok (.getfield 52, 3) := by decide +kernel
theorem d_M_begins_9 : decode k_M_begins 9 = .ok (.if_icmp .ge 78, 3) := by decide +kernel
theorem d_M_begins_12 : decode k_M_begins 12 = .ok (.iconst 1, 1) := by decide +kernel
theorem d_M_begins_13 : decode k_M_begins 13 = .ok (.istore 4, 2) := by decide +kernel
theorem d_M_begins_15 : decode k_M_begins 15 = .ok (.iconst 0, 1) := by decide +kernel
theorem d_M_begins_16 : decode k_M_begins 16 = .ok (.istore 5, 2) := by decide +kernel
theorem d_M_begins_18 : decode k_M_begins 18 = .ok (.iload 5, 2) := by decide +kernel
theorem d_M_begins_20 : decode k_M_begins 20 = .ok (.iload_n 3, 1) := by decide +kernel
theorem d_M_begins_21 : decode k_M_begins 21 = .ok (.if_icmp .ge 37, 3) := by decide +kernel
theorem d_M_begins_24 : decode k_M_begins 24 = .ok (.iload 4, 2) := by decide +kernel
theorem d_M_begins_26 : decode k_M_begins 26 = .ok (.ifCond .eq 23, 3) := by decide +kernel
theorem d_M_begins_29 : decode k_M_begins 29 = .ok (.aload_n 0, 1) := by decide +kernel
theorem d_M_begins_30 : decode k_M_begins 30 = .ok (.getfield 16, 3) := by decide +kernel
theorem d_M_begins_33 : decode k_M_begins 33 = .ok (.iload 5, 2) := by decide +kernel
theorem d_M_begins_35 : decode k_M_begins 35 = .ok (.iaload, 1) := by decide +kernel
theorem d_M_begins_36 : decode k_M_begins 36 = .ok (.aload_n 0, 1) := by decide +kernel
theorem d_M_begins_37 : decode k_M_begins 37 = .ok (.getfield 16, 3) := by decide +kernel
theorem d_M_begins_40 : decode k_M_begins 40 = .ok (.iload_n 3, 1) := by decide +kernel
theorem d_M_begins_41 : decode k_M_begins 41 = .ok (.iaload, 1) := by decide +kernel
theorem d_M_begins_42 : decode k_M_begins 42 = .ok (.if_icmp .eq 7, 3) := by decide +kernel
theorem d_M_begins_45 : decode k_M_begins 45 = .ok (.iconst 1, 1) := by decide +kernel
theorem d_M_begins_46 : decode k_M_begins 46 = .ok (.goto 4, 3) := by decide +kernel
theorem d_M_begins_49 : decode k_M_begins 49 = .ok (.iconst 0, 1) := by decide +kernel
theorem d_M_begins_50 : decode k_M_begins 50 = .ok (.istore 4, 2) := by decide +kernel
theorem d_M_begins_52 : decode k_M_begins 52 = .ok (.iinc 5 1, 3) := by decide +kernel
theorem d_M_begins_55 : decode k_M_begins 55 = .ok (.goto (-37), 3) := by decide +kernel
theorem d_M_begins_58 : decode k_M_begins 58 = .ok (.iload_n 2, 1) := by decide +kernel
theorem d_M_begins_59 : decode k_M_begins 59 = .ok (.ifCond .eq 20, 3) := by decide +kernel
theorem d_M_begins_62 : decode k_M_begins 62 = .ok (.iload 4, 2) := by decide +kernel
theorem d_M_begins_64 : decode k_M_begins 64 = .ok (.ifCond .eq 11, 3) := by decide +kernel
theorem d_M_begins_67 : decode k_M_begins 67 = .ok (.iload_n 1, 1) := by decide +kernel
theorem d_M_begins_68 : decode k_M_begins 68 = .ok (.iload_n 3, 1) := by decide +kernel
theorem d_M_begins_69 : decode k_M_begins 69 = .ok (.invokestatic 70, 3) := by decide +kernel
theorem d_M_begins_72 : decode k_M_begins 72 = .ok (.ifCond .ne 7, 3) := by decide +kernel
theorem d_M_begins_75 : decode k_M_begins 75 = .ok (.iconst 1, 1) := by decide +kernel
theorem d_M_begins_76 : decode k_M_begins 76 = .ok (.goto 4, 3) := by decide +kernel
theorem d_M_begins_79 : decode k_M_begins 79 = .ok (.iconst 0, 1) := by decide +kernel
theorem d_M_begins_80 : decode k_M_begins 80 = .ok (.istore_n 2, 1) := by decide +kernel
theorem d_M_begins_81 : decode k_M_begins 81 = .ok (.iinc 3 1, 3) := by decide +kernel
theorem d_M_begins_84 : decode k_M_begins 84 = .ok (.goto (-80), 3) := by decide +kernel
theorem d_M_begins_87 : decode k_M_begins 87 = .ok (.iload_n 2, 1) := by decide +kernel
theorem d_M_begins_88 : decode k_M_begins 88 = .ok (.ireturn, 1) := by decide +kernel
abbrev rm_M_begins : Room := { frames := 1, cells := 0, slots := 0, locals := 21 }
theorem hd_M_begins : y_M_begins.cls = n_M ∧ y_M_begins.cls ≠ "java/lang/invoke/MethodHandle" ∧ y_M_begins.cls ≠ "java/lang/invoke/VarHandle" ∧ (parseMethodDescriptor y_M_begins.desc).map (fun d => d.parameters.length) = some 1 := by decide +kernel
set_option maxHeartbeats 4000000 in
set_option maxRecDepth 100000 in
theorem c_M_begins (l : Launch) (dC : Nat → ClassId) (dI : Nat → Nat → Nat) (n : Nat) (k : Nat) (wk : Bool) (fl : Bool) (cm : Nat) (bl : Int32) (sd : Int32) (sm : Int64) (co : Int32) (cf : Bool) (hm : Nat) (a1 : Nat) (a2 : Nat) (a3 : Nat) (a4 : Nat) (a5 : Nat) (a6 : Nat) (a7 : Nat) (a8 : Nat) (a9 : Nat) (a10 : Nat) (a11 : Nat) (a12 : Nat) (a13 : Nat) (a14 : Nat) (cI : ClassId) (Cp : Nat → Int32) (x : Int32) (hn : n ≤ 10) : Met l y_M_begins (.code y_M_begins k_M_begins 6 (.some FieldType.boolean) :: gw) rm_M_begins (roP [.ref hm, .int x] (dC, dI) [(hm, .inr (5, [.int (nI n), .int (nI k), .ref a1, .ref a2, .int (bI wk), .int (bI fl), .int (nI cm), .ref a3, .ref a4, .int bl, .int sd, .long sm, .int co, .ref a5, .ref a6, .ref a7, .ref a8, .ref a9, .ref a10, .ref a11, .ref a12, .ref a13, .int (bI cf), .ref a14])), (a3, .inl (cI, 10, .inl Cp))] [(cI, .int)]) (vp_Si (fun r => r = bI (fo (pm_bg2 Cp x) n true))) 0 0 (fun _ => False) := by
  refine ro_met (by decide) ⟨rfl, rfl⟩ (bI_nar _) (Nat.le_of_ble_eq_true rfl) ?_
  intro p e s m args below meth c Q ls Sx hP hK hl hret
  have hx := Sx.1
  have hb := Sx.2.1
  have hl : lv_has ls 6 [(0, .ref hm), (1, .int x)] := hl
  refine lv_iconst (v := 1) hx hb d_M_begins_0 (by decide) ?_
  refine lv_istore_n hx hb d_M_begins_1 rfl hl (Nat.le_of_ble_eq_true rfl) rfl (fun ls hl => ?_)
  have hl : lv_has ls 6 [(2, .int 1), (0, .ref hm), (1, .int x)] := hl
  refine lv_iconst (v := nI 0) hx hb d_M_begins_2 (by decide) ?_
  refine lv_istore_n hx hb d_M_begins_3 rfl hl (Nat.le_of_ble_eq_true rfl) rfl (fun ls hl => ?_)
  have hl : lv_has ls 6 [(3, .int (nI 0)), (2, .int 1), (0, .ref hm), (1, .int x)] := hl
  have hL4 : ∀ (kk i : Nat), i + kk = n → ∀ (g1 : Bool) (ls : Array Slot), g1 = fo (pm_bg2 Cp x) i true → lv_has ls 6 [(3, .int (nI i)), (2, .int (bI g1)), (0, .ref hm), (1, .int x)] → W p l e rm_M_begins s m args below meth c s.heap [] 0 0 Q (F0 m 4 ls []) := by
    intro kk
    induction kk with
    | zero =>
      intro i hi4 g1 ls he4 hl
      have hj4 : i = n := by omega
      rw [hj4] at hl he4
      have e_g1 : g1 = (fo (pm_bg2 Cp x) n true) := by rw [← he4]
      subst e_g1
      have hl : lv_has ls 6 [(3, .int (nI n)), (2, .int (bI (fo (pm_bg2 Cp x) n true))), (0, .ref hm), (1, .int x)] := hl
      refine lv_iload_n hx hb d_M_begins_4 rfl (lv_at hl 0 rfl) ?_
      refine lv_aload_n hx hb d_M_begins_5 rfl (lv_at hl 2 rfl) ?_
      refine g_get Sx gf_M hK hP 0 rfl rfl 0 (by decide) gm_419 rfl d_M_begins_6 ?_
      refine lv_icmp_ge hx hb d_M_begins_9 (tgt := 87) rfl (fun q1 => ?_) (fun q1 => ?_)
      · have q1 : n ≤ n := nq_le (by omega) (by omega) q1
        refine lv_iload_n hx hb d_M_begins_87 rfl (lv_at hl 1 rfl) ?_
        exact hret _ _ d_M_begins_88
      · have q1 : n < n := nq_nle (by omega) (by omega) q1
        exact absurd q1 (by omega)
    | succ kk ih4 =>
      intro i hi4 g1 ls he4 hl
      refine lv_iload_n hx hb d_M_begins_4 rfl (lv_at hl 0 rfl) ?_
      refine lv_aload_n hx hb d_M_begins_5 rfl (lv_at hl 2 rfl) ?_
      refine g_get Sx gf_M hK hP 0 rfl rfl 0 (by decide) gm_419 rfl d_M_begins_6 ?_
      refine lv_icmp_ge hx hb d_M_begins_9 (tgt := 87) rfl (fun q2 => ?_) (fun q2 => ?_)
      · have q2 : n ≤ i := nq_le (by omega) (by omega) q2
        exact absurd q2 (by omega)
      · have q2 : i < n := nq_nle (by omega) (by omega) q2
        refine lv_iconst (v := 1) hx hb d_M_begins_12 (by decide) ?_
        refine lv_istore hx hb d_M_begins_13 hl (Nat.le_of_ble_eq_true rfl) rfl (fun ls hl => ?_)
        have hl : lv_has ls 6 [(4, .int 1), (3, .int (nI i)), (2, .int (bI g1)), (0, .ref hm), (1, .int x)] := hl
        refine lv_iconst (v := nI 0) hx hb d_M_begins_15 (by decide) ?_
        refine lv_istore hx hb d_M_begins_16 hl (Nat.le_of_ble_eq_true rfl) rfl (fun ls hl => ?_)
        have hl : lv_has ls 6 [(5, .int (nI 0)), (4, .int 1), (3, .int (nI i)), (2, .int (bI g1)), (0, .ref hm), (1, .int x)] := hl
        have hL18 : ∀ (kk j : Nat), j + kk = i → ∀ (g2 : Bool) (ls : Array Slot), g2 = fo (pm_bg1 Cp i) j true → lv_has ls 6 [(5, .int (nI j)), (4, .int (bI g2)), (3, .int (nI i)), (2, .int (bI g1)), (0, .ref hm), (1, .int x)] → W p l e rm_M_begins s m args below meth c s.heap [] 0 0 Q (F0 m 18 ls []) := by
          intro kk
          induction kk with
          | zero =>
            intro j hi18 g2 ls he18 hl
            have hj18 : j = i := by omega
            rw [hj18] at hl he18
            have e_g2 : g2 = (fo (pm_bg1 Cp i) i true) := by rw [← he18]
            subst e_g2
            have hl : lv_has ls 6 [(5, .int (nI i)), (4, .int (bI (fo (pm_bg1 Cp i) i true))), (3, .int (nI i)), (2, .int (bI g1)), (0, .ref hm), (1, .int x)] := hl
            refine lv_iload hx hb d_M_begins_18 (lv_at hl 0 rfl) ?_
            refine lv_iload_n hx hb d_M_begins_20 rfl (lv_at hl 2 rfl) ?_
            refine lv_icmp_ge hx hb d_M_begins_21 (tgt := 58) rfl (fun q3 => ?_) (fun q3 => ?_)
            · have q3 : i ≤ i := nq_le (by omega) (by omega) q3
              refine lv_iload_n hx hb d_M_begins_58 rfl (lv_at hl 3 rfl) ?_
              refine lv_if_eq hx hb d_M_begins_59 (tgt := 79) rfl (fun q4 => ?_) (fun q4 => ?_)
              · have q4 : g1 = false := bI_0.mp q4
                refine lv_iconst (v := 0) hx hb d_M_begins_79 (by decide) ?_
                refine lv_istore_n hx hb d_M_begins_80 rfl hl (Nat.le_of_ble_eq_true rfl) rfl (fun ls hl => ?_)
                have hl : lv_has ls 6 [(2, .int 0), (5, .int (nI i)), (4, .int (bI (fo (pm_bg1 Cp i) i true))), (3, .int (nI i)), (0, .ref hm), (1, .int x)] := hl
                refine lv_iinc (k := 3) (v := nI (i + 1)) hx hb d_M_begins_81 hl rfl (inc_nI _) (Nat.le_of_ble_eq_true rfl) rfl (fun ls hl => ?_)
                have hl : lv_has ls 6 [(3, .int (nI (i + 1))), (2, .int 0), (5, .int (nI i)), (4, .int (bI (fo (pm_bg1 Cp i) i true))), (0, .ref hm), (1, .int x)] := hl
                refine lv_goto hx hb d_M_begins_84 (tgt := 4) rfl ?_
                have he2 : false = fo (pm_bg2 Cp x) (i + 1) true := by
                  rw [fo_s, ← he4]
                  simp [pm_bg2, q2, q3, q4]
                exact ih4 (i + 1) (by omega) false  ls he2  (lv_sub hl [0, 1, 4, 5] rfl)
              · have q4 : g1 = true := bI_1.mp q4
                refine lv_iload hx hb d_M_begins_62 (lv_at hl 1 rfl) ?_
                refine lv_if_eq hx hb d_M_begins_64 (tgt := 75) rfl (fun q5 => ?_) (fun q5 => ?_)
                · have q5 : (fo (pm_bg1 Cp i) i true) = false := bI_0.mp q5
                  refine lv_iconst (v := 1) hx hb d_M_begins_75 (by decide) ?_
                  refine lv_goto hx hb d_M_begins_76 (tgt := 80) rfl ?_
                  refine lv_istore_n hx hb d_M_begins_80 rfl hl (Nat.le_of_ble_eq_true rfl) rfl (fun ls hl => ?_)
                  have hl : lv_has ls 6 [(2, .int 1), (5, .int (nI i)), (4, .int (bI (fo (pm_bg1 Cp i) i true))), (3, .int (nI i)), (0, .ref hm), (1, .int x)] := hl
                  refine lv_iinc (k := 3) (v := nI (i + 1)) hx hb d_M_begins_81 hl rfl (inc_nI _) (Nat.le_of_ble_eq_true rfl) rfl (fun ls hl => ?_)
                  have hl : lv_has ls 6 [(3, .int (nI (i + 1))), (2, .int 1), (5, .int (nI i)), (4, .int (bI (fo (pm_bg1 Cp i) i true))), (0, .ref hm), (1, .int x)] := hl
                  refine lv_goto hx hb d_M_begins_84 (tgt := 4) rfl ?_
                  have he2 : true = fo (pm_bg2 Cp x) (i + 1) true := by
                    rw [fo_s, ← he4]
                    simp [pm_bg2, q2, q3, q4, q5]
                  exact ih4 (i + 1) (by omega) true  ls he2  (lv_sub hl [0, 1, 4, 5] rfl)
                · have q5 : (fo (pm_bg1 Cp i) i true) = true := bI_1.mp q5
                  refine lv_iload_n hx hb d_M_begins_67 rfl (lv_at hl 5 rfl) ?_
                  refine lv_iload_n hx hb d_M_begins_68 rfl (lv_at hl 2 rfl) ?_
                  refine ro_S (As := [.int x, .int (nI i)]) (rest := []) Sx (c_M_has l dC dI x (nI i)) (gw_callS gm_509 gm_510 gm_56 gm_511) hd_M_has ⟨rfl, rfl⟩ ⟨Nat.le_of_ble_eq_true rfl, Nat.le_of_ble_eq_true rfl⟩ (va_P_map hP [] rfl) (hK.sub (tys' := []) [] rfl) rfl hl.1 rfl (Nat.le_of_ble_eq_true rfl) d_M_begins_69 ⟨Nat.zero_le _, Nat.zero_le _⟩ ?_
                  refine lv_if_ne hx hb d_M_begins_72 (tgt := 79) rfl (fun q6 => ?_) (fun q6 => ?_)
                  · have q6 : (pm_has x (nI i)) = true := bI_1.mp q6
                    refine lv_iconst (v := 0) hx hb d_M_begins_79 (by decide) ?_
                    refine lv_istore_n hx hb d_M_begins_80 rfl hl (Nat.le_of_ble_eq_true rfl) rfl (fun ls hl => ?_)
                    have hl : lv_has ls 6 [(2, .int 0), (5, .int (nI i)), (4, .int (bI (fo (pm_bg1 Cp i) i true))), (3, .int (nI i)), (0, .ref hm), (1, .int x)] := hl
                    refine lv_iinc (k := 3) (v := nI (i + 1)) hx hb d_M_begins_81 hl rfl (inc_nI _) (Nat.le_of_ble_eq_true rfl) rfl (fun ls hl => ?_)
                    have hl : lv_has ls 6 [(3, .int (nI (i + 1))), (2, .int 0), (5, .int (nI i)), (4, .int (bI (fo (pm_bg1 Cp i) i true))), (0, .ref hm), (1, .int x)] := hl
                    refine lv_goto hx hb d_M_begins_84 (tgt := 4) rfl ?_
                    have he2 : false = fo (pm_bg2 Cp x) (i + 1) true := by
                      rw [fo_s, ← he4]
                      simp [pm_bg2, q2, q3, q4, q5, q6]
                    exact ih4 (i + 1) (by omega) false  ls he2  (lv_sub hl [0, 1, 4, 5] rfl)
                  · have q6 : (pm_has x (nI i)) = false := bI_0.mp q6
                    refine lv_iconst (v := 1) hx hb d_M_begins_75 (by decide) ?_
                    refine lv_goto hx hb d_M_begins_76 (tgt := 80) rfl ?_
                    refine lv_istore_n hx hb d_M_begins_80 rfl hl (Nat.le_of_ble_eq_true rfl) rfl (fun ls hl => ?_)
                    have hl : lv_has ls 6 [(2, .int 1), (5, .int (nI i)), (4, .int (bI (fo (pm_bg1 Cp i) i true))), (3, .int (nI i)), (0, .ref hm), (1, .int x)] := hl
                    refine lv_iinc (k := 3) (v := nI (i + 1)) hx hb d_M_begins_81 hl rfl (inc_nI _) (Nat.le_of_ble_eq_true rfl) rfl (fun ls hl => ?_)
                    have hl : lv_has ls 6 [(3, .int (nI (i + 1))), (2, .int 1), (5, .int (nI i)), (4, .int (bI (fo (pm_bg1 Cp i) i true))), (0, .ref hm), (1, .int x)] := hl
                    refine lv_goto hx hb d_M_begins_84 (tgt := 4) rfl ?_
                    have he2 : true = fo (pm_bg2 Cp x) (i + 1) true := by
                      rw [fo_s, ← he4]
                      simp [pm_bg2, q2, q3, q4, q5, q6]
                    exact ih4 (i + 1) (by omega) true  ls he2  (lv_sub hl [0, 1, 4, 5] rfl)
            · have q3 : i < i := nq_nle (by omega) (by omega) q3
              exact absurd q3 (by omega)
          | succ kk ih18 =>
            intro j hi18 g2 ls he18 hl
            refine lv_iload hx hb d_M_begins_18 (lv_at hl 0 rfl) ?_
            refine lv_iload_n hx hb d_M_begins_20 rfl (lv_at hl 2 rfl) ?_
            refine lv_icmp_ge hx hb d_M_begins_21 (tgt := 58) rfl (fun q7 => ?_) (fun q7 => ?_)
            · have q7 : i ≤ j := nq_le (by omega) (by omega) q7
              exact absurd q7 (by omega)
            · have q7 : j < i := nq_nle (by omega) (by omega) q7
              refine lv_iload hx hb d_M_begins_24 (lv_at hl 1 rfl) ?_
              refine lv_if_eq hx hb d_M_begins_26 (tgt := 49) rfl (fun q8 => ?_) (fun q8 => ?_)
              · have q8 : g2 = false := bI_0.mp q8
                refine lv_iconst (v := 0) hx hb d_M_begins_49 (by decide) ?_
                refine lv_istore hx hb d_M_begins_50 hl (Nat.le_of_ble_eq_true rfl) rfl (fun ls hl => ?_)
                have hl : lv_has ls 6 [(4, .int 0), (5, .int (nI j)), (3, .int (nI i)), (2, .int (bI g1)), (0, .ref hm), (1, .int x)] := hl
                refine lv_iinc (k := 1) (v := nI (j + 1)) hx hb d_M_begins_52 hl rfl (inc_nI _) (Nat.le_of_ble_eq_true rfl) rfl (fun ls hl => ?_)
                have hl : lv_has ls 6 [(5, .int (nI (j + 1))), (4, .int 0), (3, .int (nI i)), (2, .int (bI g1)), (0, .ref hm), (1, .int x)] := hl
                refine lv_goto hx hb d_M_begins_55 (tgt := 18) rfl ?_
                have he2 : false = fo (pm_bg1 Cp i) (j + 1) true := by
                  rw [fo_s, ← he18]
                  simp [pm_bg1, q2, q7, q8]
                exact ih18 (j + 1) (by omega) false  ls he2  (lv_sub hl [0, 1, 2, 3, 4, 5] rfl)
              · have q8 : g2 = true := bI_1.mp q8
                refine lv_aload_n hx hb d_M_begins_29 rfl (lv_at hl 4 rfl) ?_
                refine g_get Sx gf_M hK hP 0 rfl rfl 7 (by decide) gm_426 rfl d_M_begins_30 ?_
                refine lv_iload hx hb d_M_begins_33 (lv_at hl 0 rfl) ?_
                refine g_ild (j := j) Sx hK hP 1 0 rfl rfl (by omega) (by decide) d_M_begins_35 ?_
                refine lv_aload_n hx hb d_M_begins_36 rfl (lv_at hl 4 rfl) ?_
                refine g_get Sx gf_M hK hP 0 rfl rfl 7 (by decide) gm_426 rfl d_M_begins_37 ?_
                refine lv_iload_n hx hb d_M_begins_40 rfl (lv_at hl 2 rfl) ?_
                refine g_ild (j := i) Sx hK hP 1 0 rfl rfl (by omega) (by decide) d_M_begins_41 ?_
                refine lv_icmp_eq hx hb d_M_begins_42 (tgt := 49) rfl (fun q9 => ?_) (fun q9 => ?_)
                · skip
                  refine lv_iconst (v := 0) hx hb d_M_begins_49 (by decide) ?_
                  refine lv_istore hx hb d_M_begins_50 hl (Nat.le_of_ble_eq_true rfl) rfl (fun ls hl => ?_)
                  have hl : lv_has ls 6 [(4, .int 0), (5, .int (nI j)), (3, .int (nI i)), (2, .int (bI g1)), (0, .ref hm), (1, .int x)] := hl
                  refine lv_iinc (k := 1) (v := nI (j + 1)) hx hb d_M_begins_52 hl rfl (inc_nI _) (Nat.le_of_ble_eq_true rfl) rfl (fun ls hl => ?_)
                  have hl : lv_has ls 6 [(5, .int (nI (j + 1))), (4, .int 0), (3, .int (nI i)), (2, .int (bI g1)), (0, .ref hm), (1, .int x)] := hl
                  refine lv_goto hx hb d_M_begins_55 (tgt := 18) rfl ?_
                  have he2 : false = fo (pm_bg1 Cp i) (j + 1) true := by
                    rw [fo_s, ← he18]
                    simp [pm_bg1, q2, q7, q8, q9]
                  exact ih18 (j + 1) (by omega) false  ls he2  (lv_sub hl [0, 1, 2, 3, 4, 5] rfl)
                · skip
                  refine lv_iconst (v := 1) hx hb d_M_begins_45 (by decide) ?_
                  refine lv_goto hx hb d_M_begins_46 (tgt := 50) rfl ?_
                  refine lv_istore hx hb d_M_begins_50 hl (Nat.le_of_ble_eq_true rfl) rfl (fun ls hl => ?_)
                  have hl : lv_has ls 6 [(4, .int 1), (5, .int (nI j)), (3, .int (nI i)), (2, .int (bI g1)), (0, .ref hm), (1, .int x)] := hl
                  refine lv_iinc (k := 1) (v := nI (j + 1)) hx hb d_M_begins_52 hl rfl (inc_nI _) (Nat.le_of_ble_eq_true rfl) rfl (fun ls hl => ?_)
                  have hl : lv_has ls 6 [(5, .int (nI (j + 1))), (4, .int 1), (3, .int (nI i)), (2, .int (bI g1)), (0, .ref hm), (1, .int x)] := hl
                  refine lv_goto hx hb d_M_begins_55 (tgt := 18) rfl ?_
                  have he2 : true = fo (pm_bg1 Cp i) (j + 1) true := by
                    rw [fo_s, ← he18]
                    simp [pm_bg1, q2, q7, q8, q9]
                  exact ih18 (j + 1) (by omega) true  ls he2  (lv_sub hl [0, 1, 2, 3, 4, 5] rfl)
        exact hL18 i 0 (by omega) true  ls rfl  (lv_sub hl [0, 1, 2, 3, 4, 5] rfl)
  exact hL4 n 0 (by omega) true  ls rfl  (lv_sub hl [0, 1, 2, 3] rfl)
