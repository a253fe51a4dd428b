/-! the reference's loops that are left by a test -/
def pm_leD (x : Int32) (j : Nat) : Bool := pm_has x (nI j)
def pm_leS (j : Nat) : Nat := j + 1
def pm_least (x : Int32) : Nat := wl (pm_leD x) pm_leS 32 0
def pm_upD (t : Nat) (y : Nat) : Bool := decide (oI y < 0) || decide (oI y = nI t)
def pm_upS (Pr : Nat → Nat) (y : Nat) : Nat := Pr (y - 1)
def pm_up (Pr : Nat → Nat) (x t : Nat) : Nat := wl (pm_upD t) (pm_upS Pr) 12 (x + 1)
def pm_below (Pr : Nat → Nat) (x t : Nat) : Bool := decide (oI (pm_up Pr x t) = nI t)
theorem d_M_least_0 : decode k_M_least 0 = .ok (.iconst 0, 1) := by decide +kernel
theorem d_M_least_1 : decode k_M_least 1 = .ok (.istore_n 1, 1) := by decide +kernel
theorem d_M_least_2 : decode k_M_least 2 = .ok (.iload_n 0, 1) := by decide +kernel
theorem d_M_least_3 : decode k_M_least 3 = .ok (.iload_n 1, 1) := by decide +kernel
theorem d_M_least_4 : decode k_M_least 4 = .ok (.invokestatic 70, 3) := by decide +kernel
theorem d_M_least_7 : decode k_M_least 7 = .ok (.ifCond .ne 10, 3) := by decide +kernel
theorem d_M_least_10 : decode k_M_least 10 = .ok (.iload_n 1, 1) := by decide +kernel
theorem d_M_least_11 : decode k_M_least 11 = .ok (.iconst 1, 1) := by decide +kernel
theorem d_M_least_12 : decode k_M_least 12 = .ok (.iadd, 1) := by decide +kernel
theorem d_M_least_13 : decode k_M_least 13 = .ok (.istore_n 1, 1) := by decide +kernel
theorem d_M_least_14 : decode k_M_least 14 = .ok (.goto (-12), 3) := by decide +kernel
theorem d_M_least_17 : decode k_M_least 17 = .ok (.iload_n 1, 1) := by decide +kernel
theorem d_M_least_18 : decode k_M_least 18 = .ok (.ireturn, 1) := by decide +kernel
abbrev rm_M_least : Room := { frames := 1, cells := 0, slots := 0, locals := 21 }
theorem hd_M_least : y_M_least.cls ≠ "java/lang/invoke/MethodHandle" ∧ y_M_least.cls ≠ "java/lang/invoke/VarHandle" ∧ (parseMethodDescriptor y_M_least.desc).map (fun d => d.parameters.length) = some 1 := by decide +kernel
set_option maxHeartbeats 4000000 in
set_option maxRecDepth 100000 in
theorem c_M_least (l : Launch) (dC : Nat → ClassId) (dI : Nat → Nat → Nat) (x : Int32) (hx9 : pm_leD x (pm_least x) = true) : Met l y_M_least (.code y_M_least k_M_least 2 (.some FieldType.int) :: gw) rm_M_least (roP [.int x] (dC, dI) [] []) (vp_Si (fun r => r = nI (pm_least x))) 0 0 (fun _ => False) := by
  refine ro_met (by decide) ⟨rfl, rfl⟩ rfl (Nat.le_of_ble_eq_true rfl) ?_
  intro p e s m args below meth c Q ls Sx hP hK hl hret
  have hx := Sx.1
  have hb := Sx.2.1
  have hl : lv_has ls 2 [(0, .int x)] := hl
  refine lv_iconst (v := nI 0) hx hb d_M_least_0 (by decide) ?_
  refine lv_istore_n hx hb d_M_least_1 rfl hl (Nat.le_of_ble_eq_true rfl) rfl (fun ls hl => ?_)
  have hl : lv_has ls 2 [(1, .int (nI 0)), (0, .int x)] := hl
  have hL2 : ∀ (fu2 : Nat) (j : Nat) (ls : Array Slot), wl (pm_leD x) pm_leS fu2 j = (pm_least x) → lv_has ls 2 [(1, .int (nI j)), (0, .int x)] → W p l e rm_M_least s m args below meth c s.heap [] 0 0 Q (F0 m 2 ls []) := by
    intro fu2
    induction fu2 with
    | zero =>
      intro j ls ht2 hl
      refine lv_iload_n hx hb d_M_least_2 rfl (lv_at hl 1 rfl) ?_
      refine lv_iload_n hx hb d_M_least_3 rfl (lv_at hl 0 rfl) ?_
      refine ro_S (As := [.int x, .int (nI j)]) (rest := []) Sx (c_M_has l dC dI x (nI j)) (gw_callS gm_509 gm_510 gm_56 gm_511) hd_M_has ⟨rfl, rfl⟩ ⟨Nat.le_of_ble_eq_true rfl, Nat.le_of_ble_eq_true rfl⟩ hP (hK.sub (tys' := []) [] rfl) rfl hl.1 rfl (Nat.le_of_ble_eq_true rfl) d_M_least_4 ⟨Nat.zero_le _, Nat.zero_le _⟩ ?_
      refine lv_if_ne hx hb d_M_least_7 (tgt := 17) rfl (fun q1 => ?_) (fun q1 => ?_)
      · have q1 : (pm_has x (nI j)) = true := bI_1.mp q1
        have hd9 : (pm_leD x) j = true := by simp [pm_leD, pm_leS, q1]
        have e9 : j = (pm_least x) := by rw [← ht2]; exact (wl_dn hd9 _).symm
        have e_j : j = (pm_least x) := by rw [← e9]
        subst e_j
        have hl : lv_has ls 2 [(1, .int (nI (pm_least x))), (0, .int x)] := hl
        refine lv_iload_n hx hb d_M_least_17 rfl (lv_at hl 0 rfl) ?_
        exact hret _ _ d_M_least_18
      · have q1 : (pm_has x (nI j)) = false := bI_0.mp q1
        have hd9 : (pm_leD x) j = false := by simp [pm_leD, pm_leS, q1]
        have ht9 : j = (pm_least x) := ht2
        rw [ht9, hx9] at hd9
        cases hd9
    | succ fu2 ih2 =>
      intro j ls ht2 hl
      refine lv_iload_n hx hb d_M_least_2 rfl (lv_at hl 1 rfl) ?_
      refine lv_iload_n hx hb d_M_least_3 rfl (lv_at hl 0 rfl) ?_
      refine ro_S (As := [.int x, .int (nI j)]) (rest := []) Sx (c_M_has l dC dI x (nI j)) (gw_callS gm_509 gm_510 gm_56 gm_511) hd_M_has ⟨rfl, rfl⟩ ⟨Nat.le_of_ble_eq_true rfl, Nat.le_of_ble_eq_true rfl⟩ hP (hK.sub (tys' := []) [] rfl) rfl hl.1 rfl (Nat.le_of_ble_eq_true rfl) d_M_least_4 ⟨Nat.zero_le _, Nat.zero_le _⟩ ?_
      refine lv_if_ne hx hb d_M_least_7 (tgt := 17) rfl (fun q2 => ?_) (fun q2 => ?_)
      · have q2 : (pm_has x (nI j)) = true := bI_1.mp q2
        have hd9 : (pm_leD x) j = true := by simp [pm_leD, pm_leS, q2]
        have e9 : j = (pm_least x) := by rw [← ht2]; exact (wl_dn hd9 _).symm
        have e_j : j = (pm_least x) := by rw [← e9]
        subst e_j
        have hl : lv_has ls 2 [(1, .int (nI (pm_least x))), (0, .int x)] := hl
        refine lv_iload_n hx hb d_M_least_17 rfl (lv_at hl 0 rfl) ?_
        exact hret _ _ d_M_least_18
      · have q2 : (pm_has x (nI j)) = false := bI_0.mp q2
        refine lv_iload_n hx hb d_M_least_10 rfl (lv_at hl 0 rfl) ?_
        refine lv_iconst (v := nI 1) hx hb d_M_least_11 (by decide) ?_
        refine lv_iadd hx hb d_M_least_12 ?_
        rw [show (((nI j) + (nI 1)) : Int32) = nI (j + 1) from nI_add _ _]
        refine lv_istore_n hx hb d_M_least_13 rfl hl (Nat.le_of_ble_eq_true rfl) rfl (fun ls hl => ?_)
        have hl : lv_has ls 2 [(1, .int (nI (j + 1))), (0, .int x)] := hl
        refine lv_goto hx hb d_M_least_14 (tgt := 2) rfl ?_
        have hd9 : (pm_leD x) j = false := by simp [pm_leD, pm_leS, q2]
        have hs9 : pm_leS j = (j + 1) := by simp [pm_leD, pm_leS, q2]
        have ht9 : wl (pm_leD x) pm_leS fu2 (j + 1) = (pm_least x) := by rw [← ht2, wl_st hd9, hs9]
        exact ih2 (j + 1)  ls ht9  (lv_sub hl [0, 1] rfl)
  exact hL2 32 0  ls rfl  (lv_sub hl [0, 1] rfl)
theorem d_M_isBelow_0 : decode k_M_isBelow 0 = .ok (.iload_n 1, 1) := by decide +kernel
theorem d_M_isBelow_1 : decode k_M_isBelow 1 = .ok (.istore_n 3, 1) := by decide +kernel
theorem d_M_isBelow_2 : decode k_M_isBelow 2 = .ok (.iload_n 3, 1) := by decide +kernel
theorem d_M_isBelow_3 : decode k_M_isBelow 3 = .ok (.ifCond .lt 18, 3) := by decide +kernel
theorem d_M_isBelow_6 : decode k_M_isBelow 6 = .ok (.iload_n 3, 1) := by decide +kernel
theorem d_M_isBelow_7 : decode k_M_isBelow 7 = .ok (.iload_n 2, 1) := by decide +kernel
theorem d_M_isBelow_8 : decode k_M_isBelow 8 = .ok (.if_icmp .eq 13, 3) := by decide +kernel
theorem d_M_isBelow_11 : decode k_M_isBelow 11 = .ok (.aload_n 0, 1) := by decide +kernel
theorem d_M_isBelow_12 : decode k_M_isBelow 12 = .ok (.getfield 25, 3) := by decide +kernel
theorem d_M_isBelow_15 : decode k_M_isBelow 15 = .ok (.iload_n 3, 1) := by decide +kernel
theorem d_M_isBelow_16 : decode k_M_isBelow 16 = .ok (.iaload, 1) := by decide +kernel
theorem d_M_isBelow_17 : decode k_M_isBelow 17 = .ok (.istore_n 3, 1) := by decide +kernel
theorem d_M_isBelow_18 : decode k_M_isBelow 18 = .ok (.goto (-16), 3) := by decide +kernel
theorem d_M_isBelow_21 : decode k_M_isBelow 21 = .ok (.iload_n 3, 1) := by decide +kernel
theorem d_M_isBelow_22 : decode k_M_isBelow 22 = .ok (.iload_n 2, 1) := by decide +kernel
theorem d_M_isBelow_23 : decode k_M_isBelow 23 = .ok (.if_icmp .ne 7, 3) := by decide +kernel
theorem d_M_isBelow_26 : decode k_M_isBelow 26 = .ok (.iconst 1, 1) := by decide +kernel
theorem d_M_isBelow_27 : decode k_M_isBelow 27 = .ok (.goto 4, 3) := by decide +kernel
theorem d_M_isBelow_30 : decode k_M_isBelow 30 = .ok (.iconst 0, 1) := by decide +kernel
theorem d_M_isBelow_31 : decode k_M_isBelow 31 = .ok (.ireturn, 1) := by decide +kernel
abbrev rm_M_isBelow : Room := { frames := 0, cells := 0, slots := 0, locals := 0 }
theorem hd_M_isBelow : y_M_isBelow.cls = n_M ∧ y_M_isBelow.cls ≠ "java/lang/invoke/MethodHandle" ∧ y_M_isBelow.cls ≠ "java/lang/invoke/VarHandle" ∧ (parseMethodDescriptor y_M_isBelow.desc).map (fun d => d.parameters.length) = some 2 := by decide +kernel
set_option maxHeartbeats 4000000 in
set_option maxRecDepth 100000 in
theorem c_M_isBelow (l : Launch) (dC : Nat → ClassId) (dI : Nat → Nat → Nat) (n : Nat) (k : Nat) (wk : Bool) (fl : Bool) (cm : Nat) (bl : Int32) (sd : Int32) (sm : Int64) (co : Int32) (cf : Bool) (hm : Nat) (a1 : Nat) (a2 : Nat) (a3 : Nat) (a4 : Nat) (a5 : Nat) (a6 : Nat) (a7 : Nat) (a8 : Nat) (a9 : Nat) (a10 : Nat) (a11 : Nat) (a12 : Nat) (a13 : Nat) (a14 : Nat) (cI : ClassId) (Pr : Nat → Nat) (x0 : Nat) (t0 : Nat) (hx0 : x0 < 10) (hPr : ∀ j, Pr j ≤ 10) (hup : pm_upD t0 (pm_up Pr x0 t0) = true) : Met l y_M_isBelow (.code y_M_isBelow k_M_isBelow 4 (.some FieldType.boolean) :: gw) rm_M_isBelow (roP [.ref hm, .int (nI x0), .int (nI t0)] (dC, dI) [(hm, .inr (5, [.int (nI n), .int (nI k), .ref a1, .ref a2, .int (bI wk), .int (bI fl), .int (nI cm), .ref a3, .ref a4, .int bl, .int sd, .long sm, .int co, .ref a5, .ref a6, .ref a7, .ref a8, .ref a9, .ref a10, .ref a11, .ref a12, .ref a13, .int (bI cf), .ref a14])), (a6, .inl (cI, 10, .inl (fun i9 => oI (Pr i9))))] [(cI, .int)]) (vp_Si (fun r => r = bI (pm_below Pr x0 t0))) 0 0 (fun _ => False) := by
  refine ro_met (by decide) ⟨rfl, rfl⟩ (bI_nar _) (Nat.le_of_ble_eq_true rfl) ?_
  intro p e s m args below meth c Q ls Sx hP hK hl hret
  have hx := Sx.1
  have hb := Sx.2.1
  have hl : lv_has ls 4 [(0, .ref hm), (1, .int (nI x0)), (2, .int (nI t0))] := hl
  refine lv_iload_n hx hb d_M_isBelow_0 rfl (lv_at hl 1 rfl) ?_
  refine lv_istore_n hx hb d_M_isBelow_1 rfl hl (Nat.le_of_ble_eq_true rfl) rfl (fun ls hl => ?_)
  have hl : lv_has ls 4 [(3, .int (nI x0)), (0, .ref hm), (1, .int (nI x0)), (2, .int (nI t0))] := hl
  have hL2 : ∀ (fu2 : Nat) (y : Nat) (ls : Array Slot), wl (pm_upD t0) (pm_upS Pr) fu2 y = (pm_up Pr x0 t0) → y ≤ 10 → lv_has ls 4 [(3, .int (oI y)), (0, .ref hm), (1, .int (nI x0)), (2, .int (nI t0))] → W p l e rm_M_isBelow s m args below meth c s.heap [] 0 0 Q (F0 m 2 ls []) := by
    intro fu2
    induction fu2 with
    | zero =>
      intro y ls ht2 hy hl
      refine lv_iload_n hx hb d_M_isBelow_2 rfl (lv_at hl 0 rfl) ?_
      refine lv_if_lt hx hb d_M_isBelow_3 (tgt := 21) rfl (fun q1 => ?_) (fun q1 => ?_)
      · skip
        have hd9 : (pm_upD t0) y = true := by simp [pm_upD, pm_upS, oI_s, q1]
        have e9 : y = (pm_up Pr x0 t0) := by rw [← ht2]; exact (wl_dn hd9 _).symm
        have e_y : y = (pm_up Pr x0 t0) := by rw [← e9]
        subst e_y
        have hl : lv_has ls 4 [(3, .int (oI (pm_up Pr x0 t0))), (0, .ref hm), (1, .int (nI x0)), (2, .int (nI t0))] := hl
        refine lv_iload_n hx hb d_M_isBelow_21 rfl (lv_at hl 0 rfl) ?_
        refine lv_iload_n hx hb d_M_isBelow_22 rfl (lv_at hl 3 rfl) ?_
        refine lv_icmp_ne hx hb d_M_isBelow_23 (tgt := 30) rfl (fun q2 => ?_) (fun q2 => ?_)
        · skip
          refine lv_iconst (v := 0) hx hb d_M_isBelow_30 (by decide) ?_
          rw [show (0 : Int32) = (bI (pm_below Pr x0 t0)) from by first | contradiction | (simp [pm_below, bI, *]; done) | (rw [pm_below, ← e9, oI_s]; simp [bI, *])]
          exact hret _ _ d_M_isBelow_31
        · skip
          refine lv_iconst (v := 1) hx hb d_M_isBelow_26 (by decide) ?_
          refine lv_goto hx hb d_M_isBelow_27 (tgt := 31) rfl ?_
          rw [show (1 : Int32) = (bI (pm_below Pr x0 t0)) from by first | contradiction | (simp [pm_below, bI, *]; done) | (rw [pm_below, ← e9, oI_s]; simp [bI, *])]
          exact hret _ _ d_M_isBelow_31
      · skip
        obtain ⟨u9, rfl⟩ : ∃ u9, y = u9 + 1 := by
          cases y with
          | zero => exact absurd oI_neg q1
          | succ u9 => exact ⟨u9, rfl⟩
        rw [oI_s] at hl q1
        refine lv_iload_n hx hb d_M_isBelow_6 rfl (lv_at hl 0 rfl) ?_
        refine lv_iload_n hx hb d_M_isBelow_7 rfl (lv_at hl 3 rfl) ?_
        refine lv_icmp_eq hx hb d_M_isBelow_8 (tgt := 21) rfl (fun q3 => ?_) (fun q3 => ?_)
        · skip
          have hd9 : (pm_upD t0) (u9 + 1) = true := by simp [pm_upD, pm_upS, oI_s, q1, q3]
          have e9 : (u9 + 1) = (pm_up Pr x0 t0) := by rw [← ht2]; exact (wl_dn hd9 _).symm
          have hl : lv_has ls 4 [(3, .int (nI u9)), (0, .ref hm), (1, .int (nI x0)), (2, .int (nI t0))] := hl
          refine lv_iload_n hx hb d_M_isBelow_21 rfl (lv_at hl 0 rfl) ?_
          refine lv_iload_n hx hb d_M_isBelow_22 rfl (lv_at hl 3 rfl) ?_
          refine lv_icmp_ne hx hb d_M_isBelow_23 (tgt := 30) rfl (fun q4 => ?_) (fun q4 => ?_)
          · skip
            refine lv_iconst (v := 0) hx hb d_M_isBelow_30 (by decide) ?_
            rw [show (0 : Int32) = (bI (pm_below Pr x0 t0)) from by first | contradiction | (simp [pm_below, bI, *]; done) | (rw [pm_below, ← e9, oI_s]; simp [bI, *])]
            exact hret _ _ d_M_isBelow_31
          · skip
            refine lv_iconst (v := 1) hx hb d_M_isBelow_26 (by decide) ?_
            refine lv_goto hx hb d_M_isBelow_27 (tgt := 31) rfl ?_
            rw [show (1 : Int32) = (bI (pm_below Pr x0 t0)) from by first | contradiction | (simp [pm_below, bI, *]; done) | (rw [pm_below, ← e9, oI_s]; simp [bI, *])]
            exact hret _ _ d_M_isBelow_31
        · skip
          have hd9 : (pm_upD t0) (u9 + 1) = false := by simp [pm_upD, pm_upS, oI_s, q1, q3]
          have ht9 : (u9 + 1) = (pm_up Pr x0 t0) := ht2
          rw [ht9, hup] at hd9
          cases hd9
    | succ fu2 ih2 =>
      intro y ls ht2 hy hl
      refine lv_iload_n hx hb d_M_isBelow_2 rfl (lv_at hl 0 rfl) ?_
      refine lv_if_lt hx hb d_M_isBelow_3 (tgt := 21) rfl (fun q5 => ?_) (fun q5 => ?_)
      · skip
        have hd9 : (pm_upD t0) y = true := by simp [pm_upD, pm_upS, oI_s, q5]
        have e9 : y = (pm_up Pr x0 t0) := by rw [← ht2]; exact (wl_dn hd9 _).symm
        have e_y : y = (pm_up Pr x0 t0) := by rw [← e9]
        subst e_y
        have hl : lv_has ls 4 [(3, .int (oI (pm_up Pr x0 t0))), (0, .ref hm), (1, .int (nI x0)), (2, .int (nI t0))] := hl
        refine lv_iload_n hx hb d_M_isBelow_21 rfl (lv_at hl 0 rfl) ?_
        refine lv_iload_n hx hb d_M_isBelow_22 rfl (lv_at hl 3 rfl) ?_
        refine lv_icmp_ne hx hb d_M_isBelow_23 (tgt := 30) rfl (fun q6 => ?_) (fun q6 => ?_)
        · skip
          refine lv_iconst (v := 0) hx hb d_M_isBelow_30 (by decide) ?_
          rw [show (0 : Int32) = (bI (pm_below Pr x0 t0)) from by first | contradiction | (simp [pm_below, bI, *]; done) | (rw [pm_below, ← e9, oI_s]; simp [bI, *])]
          exact hret _ _ d_M_isBelow_31
        · skip
          refine lv_iconst (v := 1) hx hb d_M_isBelow_26 (by decide) ?_
          refine lv_goto hx hb d_M_isBelow_27 (tgt := 31) rfl ?_
          rw [show (1 : Int32) = (bI (pm_below Pr x0 t0)) from by first | contradiction | (simp [pm_below, bI, *]; done) | (rw [pm_below, ← e9, oI_s]; simp [bI, *])]
          exact hret _ _ d_M_isBelow_31
      · skip
        obtain ⟨u9, rfl⟩ : ∃ u9, y = u9 + 1 := by
          cases y with
          | zero => exact absurd oI_neg q5
          | succ u9 => exact ⟨u9, rfl⟩
        rw [oI_s] at hl q5
        refine lv_iload_n hx hb d_M_isBelow_6 rfl (lv_at hl 0 rfl) ?_
        refine lv_iload_n hx hb d_M_isBelow_7 rfl (lv_at hl 3 rfl) ?_
        refine lv_icmp_eq hx hb d_M_isBelow_8 (tgt := 21) rfl (fun q7 => ?_) (fun q7 => ?_)
        · skip
          have hd9 : (pm_upD t0) (u9 + 1) = true := by simp [pm_upD, pm_upS, oI_s, q5, q7]
          have e9 : (u9 + 1) = (pm_up Pr x0 t0) := by rw [← ht2]; exact (wl_dn hd9 _).symm
          have hl : lv_has ls 4 [(3, .int (nI u9)), (0, .ref hm), (1, .int (nI x0)), (2, .int (nI t0))] := hl
          refine lv_iload_n hx hb d_M_isBelow_21 rfl (lv_at hl 0 rfl) ?_
          refine lv_iload_n hx hb d_M_isBelow_22 rfl (lv_at hl 3 rfl) ?_
          refine lv_icmp_ne hx hb d_M_isBelow_23 (tgt := 30) rfl (fun q8 => ?_) (fun q8 => ?_)
          · skip
            refine lv_iconst (v := 0) hx hb d_M_isBelow_30 (by decide) ?_
            rw [show (0 : Int32) = (bI (pm_below Pr x0 t0)) from by first | contradiction | (simp [pm_below, bI, *]; done) | (rw [pm_below, ← e9, oI_s]; simp [bI, *])]
            exact hret _ _ d_M_isBelow_31
          · skip
            refine lv_iconst (v := 1) hx hb d_M_isBelow_26 (by decide) ?_
            refine lv_goto hx hb d_M_isBelow_27 (tgt := 31) rfl ?_
            rw [show (1 : Int32) = (bI (pm_below Pr x0 t0)) from by first | contradiction | (simp [pm_below, bI, *]; done) | (rw [pm_below, ← e9, oI_s]; simp [bI, *])]
            exact hret _ _ d_M_isBelow_31
        · skip
          refine lv_aload_n hx hb d_M_isBelow_11 rfl (lv_at hl 1 rfl) ?_
          refine g_get Sx gf_M hK hP 0 rfl rfl 14 (by decide) gm_433 rfl d_M_isBelow_12 ?_
          refine lv_iload_n hx hb d_M_isBelow_15 rfl (lv_at hl 0 rfl) ?_
          refine g_ild (j := u9) Sx hK hP 1 0 rfl rfl (by omega) (by decide) d_M_isBelow_16 ?_
          refine lv_istore_n hx hb d_M_isBelow_17 rfl hl (Nat.le_of_ble_eq_true rfl) rfl (fun ls hl => ?_)
          have hl : lv_has ls 4 [(3, .int (oI (Pr u9))), (0, .ref hm), (1, .int (nI x0)), (2, .int (nI t0))] := hl
          refine lv_goto hx hb d_M_isBelow_18 (tgt := 2) rfl ?_
          have hd9 : (pm_upD t0) (u9 + 1) = false := by simp [pm_upD, pm_upS, oI_s, q5, q7]
          have hs9 : (pm_upS Pr) (u9 + 1) = (Pr u9) := by simp [pm_upD, pm_upS, oI_s, q5, q7]
          have ht9 : wl (pm_upD t0) (pm_upS Pr) fu2 (Pr u9) = (pm_up Pr x0 t0) := by rw [← ht2, wl_st hd9, hs9]
          exact ih2 (Pr u9)  ls ht9 (hPr _)  (lv_sub hl [0, 1, 2, 3] rfl)
  have hl : lv_has ls 4 [(3, .int (oI (x0 + 1))), (0, .ref hm), (1, .int (nI x0)), (2, .int (nI t0))] := by rw [oI_s]; exact hl
  exact hL2 12 (x0 + 1)  ls rfl (by omega)  (lv_sub hl [0, 1, 2, 3] rfl)
