/-! the split, as the class makes it -/
def sp_w (w : Nat → Int32) : Nat → (Nat → Int64) → (Nat → Int64) := fun e V => vp_updL V e (((w e : Int32).toInt64 <<< ((18 : Int32).toInt64 &&& 63)) + ((1 : Int64) <<< (((17 - nI e) : Int32).toInt64 &&& 63)))
def sp_b (F S : Nat → Nat) (V : Nat → Int64) (x : Int32) : Nat → Int64 → Int64 := fun e d => if ps_betw F S e x = true then d + V e else d
def sp_m (k : Nat) (F S : Nat → Nat) (V : Nat → Int64) (z : Int32) : Nat → Int32 × Int64 → Int32 × Int64 := fun c s => if nI c &&& z = 0 then (if lg_cmp (fo (sp_b F S V (nI c)) k 0) s.2 ≤ 0 then s else (nI c, fo (sp_b F S V (nI c)) k 0)) else s
def sp_make (n k : Nat) (F S : Nat → Nat) (V : Nat → Int64) (z so : Int32) : Int32 × Int64 := fo (sp_m k F S V z) (2 ^ n) (so, -1)
theorem d_S_heaviest_0 : decode k_S_heaviest 0 = .ok (.aload_n 0, 1) := by decide +kernel
theorem d_S_heaviest_1 : decode k_S_heaviest 1 = .ok (.getfield 19, 3) := by decide +kernel
theorem d_S_heaviest_4 : decode k_S_heaviest 4 = .ok (.bipush 18, 2) := by decide +kernel
theorem d_S_heaviest_6 : decode k_S_heaviest 6 = .ok (.lshr, 1) := by decide +kernel
theorem d_S_heaviest_7 : decode k_S_heaviest 7 = .ok (.lreturn, 1) := by decide +kernel
abbrev rm_S_heaviest : Room := { frames := 0, cells := 0, slots := 0, locals := 0 }
theorem hd_S_heaviest : y_S_heaviest.cls = n_S ∧ y_S_heaviest.cls ≠ "java/lang/invoke/MethodHandle" ∧ y_S_heaviest.cls ≠ "java/lang/invoke/VarHandle" ∧ (parseMethodDescriptor y_S_heaviest.desc).map (fun d => d.parameters.length) = some 0 := by decide +kernel
set_option maxHeartbeats 4000000 in
set_option maxRecDepth 100000 in
theorem c_S_heaviest (l : Launch) (dC : Nat → ClassId) (dI : Nat → Nat → Nat) (n : Nat) (k : Nat) (F : Nat → Nat) (S : Nat → Nat) (w : Nat → Int32) (hg : Nat) (g1 : Nat) (g2 : Nat) (g3 : Nat) (cI : ClassId) (V : Nat → Int64) (so : Int32) (gr : Int64) (hs : Nat) (s1 : Nat) (cL : ClassId) : Met l y_S_heaviest (.code y_S_heaviest k_S_heaviest 1 (.some FieldType.long) :: gw) rm_S_heaviest (roP [.ref hs] (dC, dI) [(hs, .inr (3, [.ref hg, .int so, .long gr, .ref s1])), (s1, .inl (cL, 18, .inr (.inl V))), (hg, .inr (1, [.int (nI n), .int (nI k), .ref g1, .ref g2, .ref g3])), (g1, .inl (cI, 18, .inl (fun i9 => nI (F i9)))), (g2, .inl (cI, 18, .inl (fun i9 => nI (S i9)))), (g3, .inl (cI, 18, .inl w))] [(cI, .int), (cL, .long)]) (vp_Sl (fun r => r = (gr >>> ((18 : Int32).toInt64 &&& 63)))) 0 0 (fun _ => False) := by
  refine ro_metL (by decide) ⟨rfl, rfl⟩ (Nat.le_of_ble_eq_true rfl) ?_
  intro p e s m args below meth c Q ls Sx hP hK hl hret
  have hx := Sx.1
  have hb := Sx.2.1
  have hl : lv_has ls 1 [(0, .ref hs)] := hl
  refine lv_aload_n hx hb d_S_heaviest_0 rfl (lv_at hl 0 rfl) ?_
  refine g_get Sx gf_S hK hP 0 rfl rfl 2 (by decide) gm_174 rfl d_S_heaviest_1 ?_
  refine lv_bipush (v := 18) hx hb d_S_heaviest_4 (by decide) ?_
  refine lv_lshr hx hb d_S_heaviest_6 rfl ?_
  exact hret _ _ d_S_heaviest_7
theorem d_S_setWorths_0 : decode k_S_setWorths 0 = .ok (.iconst 0, 1) := by decide +kernel
theorem d_S_setWorths_1 : decode k_S_setWorths 1 = .ok (.istore_n 1, 1) := by decide +kernel
theorem d_S_setWorths_2 : decode k_S_setWorths 2 = .ok (.iload_n 1, 1) := by decide +kernel
theorem d_S_setWorths_3 : decode k_S_setWorths 3 = .ok (.aload_n 0, 1) := by decide +kernel
theorem d_S_setWorths_4 : decode k_S_setWorths 4 = .ok (.getfield 15, 3) := by decide +kernel
theorem d_S_setWorths_7 : decode k_S_setWorths 7 = .ok (.getfield 41, 3) := by decide +kernel
theorem d_S_setWorths_10 : decode k_S_setWorths 10 = .ok (.if_icmp .ge 35, 3) := by decide +kernel
theorem d_S_setWorths_13 : decode k_S_setWorths 13 = .ok (.aload_n 0, 1) := by decide +kernel
theorem d_S_setWorths_14 : decode k_S_setWorths 14 = .ok (.getfield 9, 3) := by decide +kernel
theorem d_S_setWorths_17 : decode k_S_setWorths 17 = .ok (.iload_n 1, 1) := by decide +kernel
theorem d_S_setWorths_18 : decode k_S_setWorths 18 = .ok (.aload_n 0, 1) := by decide +kernel
theorem d_S_setWorths_19 : decode k_S_setWorths 19 = .ok (.getfield 15, 3) := by decide +kernel
theorem d_S_setWorths_22 : decode k_S_setWorths 22 = .ok (.getfield 44, 3) := by decide +kernel
theorem d_S_setWorths_25 : decode k_S_setWorths 25 = .ok (.iload_n 1, 1) := by decide +kernel
theorem d_S_setWorths_26 : decode k_S_setWorths 26 = .ok (.iaload, 1) := by decide +kernel
theorem d_S_setWorths_27 : decode k_S_setWorths 27 = .ok (.i2l, 1) := by decide +kernel
theorem d_S_setWorths_28 : decode k_S_setWorths 28 = .ok (.bipush 18, 2) := by decide +kernel
theorem d_S_setWorths_30 : decode k_S_setWorths 30 = .ok (.lshl, 1) := by decide +kernel
theorem d_S_setWorths_31 : decode k_S_setWorths 31 = .ok (.lconst 1, 1) := by decide +kernel
theorem d_S_setWorths_32 : decode k_S_setWorths 32 = .ok (.bipush 17, 2) := by decide +kernel
theorem d_S_setWorths_34 : decode k_S_setWorths 34 = .ok (.iload_n 1, 1) := by decide +kernel
theorem d_S_setWorths_35 : decode k_S_setWorths 35 = .ok (.isub, 1) := by decide +kernel
theorem d_S_setWorths_36 : decode k_S_setWorths 36 = .ok (.lshl, 1) := by decide +kernel
theorem d_S_setWorths_37 : decode k_S_setWorths 37 = .ok (.ladd, 1) := by decide +kernel
theorem d_S_setWorths_38 : decode k_S_setWorths 38 = .ok (.lastore, 1) := by decide +kernel
theorem d_S_setWorths_39 : decode k_S_setWorths 39 = .ok (.iinc 1 1, 3) := by decide +kernel
theorem d_S_setWorths_42 : decode k_S_setWorths 42 = .ok (.goto (-40), 3) := by decide +kernel
theorem d_S_setWorths_45 : decode k_S_setWorths 45 = .ok (.return_, 1) := by decide +kernel
abbrev rm_S_setWorths : Room := { frames := 0, cells := 0, slots := 0, locals := 0 }
theorem hd_S_setWorths : y_S_setWorths.cls = n_S ∧ y_S_setWorths.cls ≠ "java/lang/invoke/MethodHandle" ∧ y_S_setWorths.cls ≠ "java/lang/invoke/VarHandle" ∧ (parseMethodDescriptor y_S_setWorths.desc).map (fun d => d.parameters.length) = some 0 := by decide +kernel
set_option maxHeartbeats 4000000 in
set_option maxRecDepth 100000 in
theorem c_S_setWorths (l : Launch) (dC : Nat → ClassId) (dI : Nat → Nat → Nat) (n : Nat) (k : Nat) (F : Nat → Nat) (S : Nat → Nat) (w : Nat → Int32) (hg : Nat) (g1 : Nat) (g2 : Nat) (g3 : Nat) (cI : ClassId) (V : Nat → Int64) (so : Int32) (gr : Int64) (hs : Nat) (s1 : Nat) (cL : ClassId) (sz : Nat) (hk : k ≤ 18) : Met l y_S_setWorths (.code y_S_setWorths k_S_setWorths 2 none :: gw) rm_S_setWorths (rwP [.ref hs] (dC, dI) [(hs, .inr (3, [.ref hg, .int so, .long gr, .ref s1])), (s1, .inl (cL, 18, .inr (.inl V))), (hg, .inr (1, [.int (nI n), .int (nI k), .ref g1, .ref g2, .ref g3])), (g1, .inl (cI, 18, .inl (fun i9 => nI (F i9)))), (g2, .inl (cI, 18, .inl (fun i9 => nI (S i9)))), (g3, .inl (cI, 18, .inl w))] [(cI, .int), (cL, .long)] sz) (va_Qv (fun _ : Unit => True) (rwB (dC, dI) [(hs, .inr (3, [.ref hg, .int so, .long gr, .ref s1])), (s1, .inl (cL, 18, .inr (.inl (fo (sp_w w) k V)))), (hg, .inr (1, [.int (nI n), .int (nI k), .ref g1, .ref g2, .ref g3])), (g1, .inl (cI, 18, .inl (fun i9 => nI (F i9)))), (g2, .inl (cI, 18, .inl (fun i9 => nI (S i9)))), (g3, .inl (cI, 18, .inl w))] [(cI, .int), (cL, .long)] (va_A [(hs, .inr (3, [.ref hg, .int so, .long gr, .ref s1])), (s1, .inl (cL, 18, .inr (.inl V))), (hg, .inr (1, [.int (nI n), .int (nI k), .ref g1, .ref g2, .ref g3])), (g1, .inl (cI, 18, .inl (fun i9 => nI (F i9)))), (g2, .inl (cI, 18, .inl (fun i9 => nI (S i9)))), (g3, .inl (cI, 18, .inl w))] sz)) (va_A [(hs, .inr (3, [.ref hg, .int so, .long gr, .ref s1])), (s1, .inl (cL, 18, .inr (.inl V))), (hg, .inr (1, [.int (nI n), .int (nI k), .ref g1, .ref g2, .ref g3])), (g1, .inl (cI, 18, .inl (fun i9 => nI (F i9)))), (g2, .inl (cI, 18, .inl (fun i9 => nI (S i9)))), (g3, .inl (cI, 18, .inl w))] sz)) 0 0 (va_A [(hs, .inr (3, [.ref hg, .int so, .long gr, .ref s1])), (s1, .inl (cL, 18, .inr (.inl V))), (hg, .inr (1, [.int (nI n), .int (nI k), .ref g1, .ref g2, .ref g3])), (g1, .inl (cI, 18, .inl (fun i9 => nI (F i9)))), (g2, .inl (cI, 18, .inl (fun i9 => nI (S i9)))), (g3, .inl (cI, 18, .inl w))] sz) := by
  refine rw_met (by decide) ⟨rfl, rfl⟩ (Nat.le_of_ble_eq_true rfl) ?_
  intro p e s m args below meth c Q A ls Sx hP hK hD hA hl hret
  have hx := Sx.1
  have hb := Sx.2.1
  have hl : lv_has ls 2 [(0, .ref hs)] := hl
  have hS : va_S A s.heap s.heap [] := va_S.rf
  obtain ⟨H, hH⟩ : ∃ H, H = s.heap := ⟨_, rfl⟩
  obtain ⟨locs, hlo⟩ : ∃ locs : List Loc, locs = [] := ⟨_, rfl⟩
  rw [← hlo]
  rw [← hlo] at hS
  have hP : va_P (dC, dI) pcl [(hs, .inr (3, [.ref hg, .int so, .long gr, .ref s1])), (s1, .inl (cL, 18, .inr (.inl V))), (hg, .inr (1, [.int (nI n), .int (nI k), .ref g1, .ref g2, .ref g3])), (g1, .inl (cI, 18, .inl (fun i9 => nI (F i9)))), (g2, .inl (cI, 18, .inl (fun i9 => nI (S i9)))), (g3, .inl (cI, 18, .inl w))] H := by rw [hH]; exact hP
  have hS : va_S A s.heap H locs := by rw [hH]; exact hS
  suffices hgo : W p l e rm_S_setWorths s m args below meth c H locs 0 0 Q (F0 m 0 ls []) by rw [hH] at hgo; exact hgo
  refine lv_iconst (v := nI 0) hx hb d_S_setWorths_0 (by decide) ?_
  refine lv_istore_n hx hb d_S_setWorths_1 rfl hl (Nat.le_of_ble_eq_true rfl) rfl (fun ls hl => ?_)
  have hl : lv_has ls 2 [(1, .int (nI 0)), (0, .ref hs)] := hl
  have hL2 : ∀ (kk i : Nat), i + kk = k → ∀ (V1 : Nat → Int64) (H : Heap) (locs : List Loc) (ls : Array Slot), V1 = fo (sp_w w) i V → va_P (dC, dI) pcl [(hs, .inr (3, [.ref hg, .int so, .long gr, .ref s1])), (s1, .inl (cL, 18, .inr (.inl V1))), (hg, .inr (1, [.int (nI n), .int (nI k), .ref g1, .ref g2, .ref g3])), (g1, .inl (cI, 18, .inl (fun i9 => nI (F i9)))), (g2, .inl (cI, 18, .inl (fun i9 => nI (S i9)))), (g3, .inl (cI, 18, .inl w))] H → va_D A [(hs, .inr (3, [.ref hg, .int so, .long gr, .ref s1])), (s1, .inl (cL, 18, .inr (.inl V1))), (hg, .inr (1, [.int (nI n), .int (nI k), .ref g1, .ref g2, .ref g3])), (g1, .inl (cI, 18, .inl (fun i9 => nI (F i9)))), (g2, .inl (cI, 18, .inl (fun i9 => nI (S i9)))), (g3, .inl (cI, 18, .inl w))] → va_S A s.heap H locs → lv_has ls 2 [(1, .int (nI i)), (0, .ref hs)] → W p l e rm_S_setWorths s m args below meth c H locs 0 0 Q (F0 m 2 ls []) := by
    intro kk
    induction kk with
    | zero =>
      intro i hi2 V1 H locs ls he2 hP hD hS hl
      have hj2 : i = k := by omega
      rw [hj2] at hl he2
      have e_V1 : V1 = (fo (sp_w w) k V) := by rw [← he2]
      subst e_V1
      have hl : lv_has ls 2 [(1, .int (nI k)), (0, .ref hs)] := hl
      have hP : va_P (dC, dI) pcl [(hs, .inr (3, [.ref hg, .int so, .long gr, .ref s1])), (s1, .inl (cL, 18, .inr (.inl (fo (sp_w w) k V)))), (hg, .inr (1, [.int (nI n), .int (nI k), .ref g1, .ref g2, .ref g3])), (g1, .inl (cI, 18, .inl (fun i9 => nI (F i9)))), (g2, .inl (cI, 18, .inl (fun i9 => nI (S i9)))), (g3, .inl (cI, 18, .inl w))] H := hP
      have hD : va_D A [(hs, .inr (3, [.ref hg, .int so, .long gr, .ref s1])), (s1, .inl (cL, 18, .inr (.inl (fo (sp_w w) k V)))), (hg, .inr (1, [.int (nI n), .int (nI k), .ref g1, .ref g2, .ref g3])), (g1, .inl (cI, 18, .inl (fun i9 => nI (F i9)))), (g2, .inl (cI, 18, .inl (fun i9 => nI (S i9)))), (g3, .inl (cI, 18, .inl w))] := hD
      refine lv_iload_n hx hb d_S_setWorths_2 rfl (lv_at hl 0 rfl) ?_
      refine lv_aload_n hx hb d_S_setWorths_3 rfl (lv_at hl 1 rfl) ?_
      refine g_get Sx gf_S hK hP 0 rfl rfl 0 (by decide) gm_171 rfl d_S_setWorths_4 ?_
      refine g_get Sx gf_G hK hP 2 rfl rfl 1 (by decide) gm_82 rfl d_S_setWorths_7 ?_
      refine lv_icmp_ge hx hb d_S_setWorths_10 (tgt := 45) rfl (fun q1 => ?_) (fun q1 => ?_)
      · have q1 : k ≤ k := nq_le (by omega) (by omega) q1
        exact hret _ H locs _ d_S_setWorths_45 hP hD hS
      · have q1 : k < k := nq_nle (by omega) (by omega) q1
        exact absurd q1 (by omega)
    | succ kk ih2 =>
      intro i hi2 V1 H locs ls he2 hP hD hS hl
      refine lv_iload_n hx hb d_S_setWorths_2 rfl (lv_at hl 0 rfl) ?_
      refine lv_aload_n hx hb d_S_setWorths_3 rfl (lv_at hl 1 rfl) ?_
      refine g_get Sx gf_S hK hP 0 rfl rfl 0 (by decide) gm_171 rfl d_S_setWorths_4 ?_
      refine g_get Sx gf_G hK hP 2 rfl rfl 1 (by decide) gm_82 rfl d_S_setWorths_7 ?_
      refine lv_icmp_ge hx hb d_S_setWorths_10 (tgt := 45) rfl (fun q2 => ?_) (fun q2 => ?_)
      · have q2 : k ≤ i := nq_le (by omega) (by omega) q2
        exact absurd q2 (by omega)
      · have q2 : i < k := nq_nle (by omega) (by omega) q2
        refine lv_aload_n hx hb d_S_setWorths_13 rfl (lv_at hl 1 rfl) ?_
        refine g_get Sx gf_S hK hP 0 rfl rfl 3 (by decide) gm_175 rfl d_S_setWorths_14 ?_
        refine lv_iload_n hx hb d_S_setWorths_17 rfl (lv_at hl 0 rfl) ?_
        refine lv_aload_n hx hb d_S_setWorths_18 rfl (lv_at hl 1 rfl) ?_
        refine g_get Sx gf_S hK hP 0 rfl rfl 0 (by decide) gm_171 rfl d_S_setWorths_19 ?_
        refine g_get Sx gf_G hK hP 2 rfl rfl 4 (by decide) gm_93 rfl d_S_setWorths_22 ?_
        refine lv_iload_n hx hb d_S_setWorths_25 rfl (lv_at hl 0 rfl) ?_
        refine g_ild (j := i) Sx hK hP 5 0 rfl rfl (by omega) (by decide) d_S_setWorths_26 ?_
        refine lv_i2l hx hb d_S_setWorths_27 rfl ?_
        refine lv_bipush (v := 18) hx hb d_S_setWorths_28 (by decide) ?_
        refine lv_lshl hx hb d_S_setWorths_30 rfl ?_
        refine lv_lconst (v := 1) hx hb d_S_setWorths_31 (by decide) ?_
        refine lv_bipush (v := 17) hx hb d_S_setWorths_32 (by decide) ?_
        refine lv_iload_n hx hb d_S_setWorths_34 rfl (lv_at hl 0 rfl) ?_
        refine lv_isub hx hb d_S_setWorths_35 ?_
        refine lv_lshl hx hb d_S_setWorths_36 rfl ?_
        refine lv_ladd hx hb d_S_setWorths_37 ?_
        refine g_lst (j := i) Sx hK hP hD hS 1 1 rfl rfl (by omega) (by decide) d_S_setWorths_38 (fun H locs hP hD hS => ?_)
        have hP : va_P (dC, dI) pcl [(hs, .inr (3, [.ref hg, .int so, .long gr, .ref s1])), (s1, .inl (cL, 18, .inr (.inl (vp_updL V1 i (((((w i) : Int32).toInt64) <<< ((18 : Int32).toInt64 &&& 63)) + ((1 : Int64) <<< (((17 - (nI i)) : Int32).toInt64 &&& 63))))))), (hg, .inr (1, [.int (nI n), .int (nI k), .ref g1, .ref g2, .ref g3])), (g1, .inl (cI, 18, .inl (fun i9 => nI (F i9)))), (g2, .inl (cI, 18, .inl (fun i9 => nI (S i9)))), (g3, .inl (cI, 18, .inl w))] H := hP
        have hD : va_D A [(hs, .inr (3, [.ref hg, .int so, .long gr, .ref s1])), (s1, .inl (cL, 18, .inr (.inl (vp_updL V1 i (((((w i) : Int32).toInt64) <<< ((18 : Int32).toInt64 &&& 63)) + ((1 : Int64) <<< (((17 - (nI i)) : Int32).toInt64 &&& 63))))))), (hg, .inr (1, [.int (nI n), .int (nI k), .ref g1, .ref g2, .ref g3])), (g1, .inl (cI, 18, .inl (fun i9 => nI (F i9)))), (g2, .inl (cI, 18, .inl (fun i9 => nI (S i9)))), (g3, .inl (cI, 18, .inl w))] := hD
        refine lv_iinc (k := 0) (v := nI (i + 1)) hx hb d_S_setWorths_39 hl rfl (inc_nI _) (Nat.le_of_ble_eq_true rfl) rfl (fun ls hl => ?_)
        have hl : lv_has ls 2 [(1, .int (nI (i + 1))), (0, .ref hs)] := hl
        refine lv_goto hx hb d_S_setWorths_42 (tgt := 2) rfl ?_
        have he2 : (vp_updL V1 i (((((w i) : Int32).toInt64) <<< ((18 : Int32).toInt64 &&& 63)) + ((1 : Int64) <<< (((17 - (nI i)) : Int32).toInt64 &&& 63)))) = fo (sp_w w) (i + 1) V := by
          rw [fo_s, ← he2]
          simp [sp_w, q2]
        exact ih2 (i + 1) (by omega) (vp_updL V1 i (((((w i) : Int32).toInt64) <<< ((18 : Int32).toInt64 &&& 63)) + ((1 : Int64) <<< (((17 - (nI i)) : Int32).toInt64 &&& 63)))) H locs ls he2 hP hD hS (lv_sub hl [0, 1] rfl)
  exact hL2 k 0 (by omega) V H locs ls rfl hP hD hS (lv_sub hl [0, 1] rfl)
theorem d_S_worthBetween_0 : decode k_S_worthBetween 0 = .ok (.lconst 0, 1) := by decide +kernel
theorem d_S_worthBetween_1 : decode k_S_worthBetween 1 = .ok (.lstore_n 2, 1) := by decide +kernel
theorem d_S_worthBetween_2 : decode k_S_worthBetween 2 = .ok (.iconst 0, 1) := by decide +kernel
theorem d_S_worthBetween_3 : decode k_S_worthBetween 3 = .ok (.istore 4, 2) := by decide +kernel
theorem d_S_worthBetween_5 : decode k_S_worthBetween 5 = .ok (.iload 4, 2) := by decide +kernel
theorem d_S_worthBetween_7 : decode k_S_worthBetween 7 = .ok (.aload_n 0, 1) := by decide +kernel
theorem d_S_worthBetween_8 : decode k_S_worthBetween 8 = .ok (.getfield 15, 3) := by decide +kernel
theorem d_S_worthBetween_11 : decode k_S_worthBetween 11 = .ok (.getfield 41, 3) := by decide +kernel
theorem d_S_worthBetween_14 : decode k_S_worthBetween 14 = .ok (.if_icmp .ge 32, 3) := by decide +kernel
theorem d_S_worthBetween_17 : decode k_S_worthBetween 17 = .ok (.aload_n 0, 1) := by decide +kernel
theorem d_S_worthBetween_18 : decode k_S_worthBetween 18 = .ok (.getfield 15, 3) := by decide +kernel
theorem d_S_worthBetween_21 : decode k_S_worthBetween 21 = .ok (.iload 4, 2) := by decide +kernel
theorem d_S_worthBetween_23 : decode k_S_worthBetween 23 = .ok (.iload_n 1, 1) := by decide +kernel
theorem d_S_worthBetween_24 : decode k_S_worthBetween 24 = .ok (.invokevirtual 48, 3) := by decide +kernel
theorem d_S_worthBetween_27 : decode k_S_worthBetween 27 = .ok (.ifCond .eq 13, 3) := by decide +kernel
theorem d_S_worthBetween_30 : decode k_S_worthBetween 30 = .ok (.lload_n 2, 1) := by decide +kernel
theorem d_S_worthBetween_31 : decode k_S_worthBetween 31 = .ok (.aload_n 0, 1) := by decide +kernel
theorem d_S_worthBetween_32 : decode k_S_worthBetween 32 = .ok (.getfield 9, 3) := by decide +kernel
theorem d_S_worthBetween_35 : decode k_S_worthBetween 35 = .ok (.iload 4, 2) := by decide +kernel
theorem d_S_worthBetween_37 : decode k_S_worthBetween 37 = .ok (.laload, 1) := by decide +kernel
theorem d_S_worthBetween_38 : decode k_S_worthBetween 38 = .ok (.ladd, 1) := by decide +kernel
theorem d_S_worthBetween_39 : decode k_S_worthBetween 39 = .ok (.lstore_n 2, 1) := by decide +kernel
theorem d_S_worthBetween_40 : decode k_S_worthBetween 40 = .ok (.iinc 4 1, 3) := by decide +kernel
theorem d_S_worthBetween_43 : decode k_S_worthBetween 43 = .ok (.goto (-38), 3) := by decide +kernel
theorem d_S_worthBetween_46 : decode k_S_worthBetween 46 = .ok (.lload_n 2, 1) := by decide +kernel
theorem d_S_worthBetween_47 : decode k_S_worthBetween 47 = .ok (.lreturn, 1) := by decide +kernel
abbrev rm_S_worthBetween : Room := { frames := 1, cells := 0, slots := 0, locals := 22 }
theorem hd_S_worthBetween : y_S_worthBetween.cls = n_S ∧ y_S_worthBetween.cls ≠ "java/lang/invoke/MethodHandle" ∧ y_S_worthBetween.cls ≠ "java/lang/invoke/VarHandle" ∧ (parseMethodDescriptor y_S_worthBetween.desc).map (fun d => d.parameters.length) = some 1 := by decide +kernel
set_option maxHeartbeats 4000000 in
set_option maxRecDepth 100000 in
theorem c_S_worthBetween (l : Launch) (dC : Nat → ClassId) (dI : Nat → Nat → Nat) (n : Nat) (k : Nat) (F : Nat → Nat) (S : Nat → Nat) (w : Nat → Int32) (hg : Nat) (g1 : Nat) (g2 : Nat) (g3 : Nat) (cI : ClassId) (V : Nat → Int64) (so : Int32) (gr : Int64) (hs : Nat) (s1 : Nat) (cL : ClassId) (x : Int32) (hk : k ≤ 18) : Met l y_S_worthBetween (.code y_S_worthBetween k_S_worthBetween 5 (.some FieldType.long) :: gw) rm_S_worthBetween (roP [.ref hs, .int x] (dC, dI) [(hs, .inr (3, [.ref hg, .int so, .long gr, .ref s1])), (s1, .inl (cL, 18, .inr (.inl V))), (hg, .inr (1, [.int (nI n), .int (nI k), .ref g1, .ref g2, .ref g3])), (g1, .inl (cI, 18, .inl (fun i9 => nI (F i9)))), (g2, .inl (cI, 18, .inl (fun i9 => nI (S i9)))), (g3, .inl (cI, 18, .inl w))] [(cI, .int), (cL, .long)]) (vp_Sl (fun r => r = fo (sp_b F S V x) k 0)) 0 0 (fun _ => False) := by
  refine ro_metL (by decide) ⟨rfl, rfl⟩ (Nat.le_of_ble_eq_true rfl) ?_
  intro p e s m args below meth c Q ls Sx hP hK hl hret
  have hx := Sx.1
  have hb := Sx.2.1
  have hl : lv_has ls 5 [(0, .ref hs), (1, .int x)] := hl
  refine lv_lconst (v := 0) hx hb d_S_worthBetween_0 (by decide) ?_
  refine lv_lstore_n hx hb d_S_worthBetween_1 rfl hl (Nat.le_of_ble_eq_true rfl) rfl (fun ls hl => ?_)
  have hl : lv_has ls 5 [(2, .long (0 : Int64)), (0, .ref hs), (1, .int x)] := hl
  refine lv_iconst (v := nI 0) hx hb d_S_worthBetween_2 (by decide) ?_
  refine lv_istore hx hb d_S_worthBetween_3 hl (Nat.le_of_ble_eq_true rfl) rfl (fun ls hl => ?_)
  have hl : lv_has ls 5 [(4, .int (nI 0)), (2, .long (0 : Int64)), (0, .ref hs), (1, .int x)] := hl
  have hL5 : ∀ (kk i : Nat), i + kk = k → ∀ (d : Int64) (ls : Array Slot), d = fo (sp_b F S V x) i 0 → lv_has ls 5 [(4, .int (nI i)), (2, .long d), (0, .ref hs), (1, .int x)] → W p l e rm_S_worthBetween s m args below meth c s.heap [] 0 0 Q (F0 m 5 ls []) := by
    intro kk
    induction kk with
    | zero =>
      intro i hi5 d ls he5 hl
      have hj5 : i = k := by omega
      rw [hj5] at hl he5
      have e_d : d = (fo (sp_b F S V x) k 0) := by rw [← he5]
      subst e_d
      have hl : lv_has ls 5 [(4, .int (nI k)), (2, .long (fo (sp_b F S V x) k 0)), (0, .ref hs), (1, .int x)] := hl
      refine lv_iload hx hb d_S_worthBetween_5 (lv_at hl 0 rfl) ?_
      refine lv_aload_n hx hb d_S_worthBetween_7 rfl (lv_at hl 2 rfl) ?_
      refine g_get Sx gf_S hK hP 0 rfl rfl 0 (by decide) gm_171 rfl d_S_worthBetween_8 ?_
      refine g_get Sx gf_G hK hP 2 rfl rfl 1 (by decide) gm_82 rfl d_S_worthBetween_11 ?_
      refine lv_icmp_ge hx hb d_S_worthBetween_14 (tgt := 46) rfl (fun q1 => ?_) (fun q1 => ?_)
      · have q1 : k ≤ k := nq_le (by omega) (by omega) q1
        refine lv_lload_n hx hb d_S_worthBetween_46 rfl (lv_at hl 1 rfl) ?_
        exact hret _ _ d_S_worthBetween_47
      · have q1 : k < k := nq_nle (by omega) (by omega) q1
        exact absurd q1 (by omega)
    | succ kk ih5 =>
      intro i hi5 d ls he5 hl
      refine lv_iload hx hb d_S_worthBetween_5 (lv_at hl 0 rfl) ?_
      refine lv_aload_n hx hb d_S_worthBetween_7 rfl (lv_at hl 2 rfl) ?_
      refine g_get Sx gf_S hK hP 0 rfl rfl 0 (by decide) gm_171 rfl d_S_worthBetween_8 ?_
      refine g_get Sx gf_G hK hP 2 rfl rfl 1 (by decide) gm_82 rfl d_S_worthBetween_11 ?_
      refine lv_icmp_ge hx hb d_S_worthBetween_14 (tgt := 46) rfl (fun q2 => ?_) (fun q2 => ?_)
      · have q2 : k ≤ i := nq_le (by omega) (by omega) q2
        exact absurd q2 (by omega)
      · have q2 : i < k := nq_nle (by omega) (by omega) q2
        refine lv_aload_n hx hb d_S_worthBetween_17 rfl (lv_at hl 2 rfl) ?_
        refine g_get Sx gf_S hK hP 0 rfl rfl 0 (by decide) gm_171 rfl d_S_worthBetween_18 ?_
        refine lv_iload hx hb d_S_worthBetween_21 (lv_at hl 0 rfl) ?_
        refine lv_iload_n hx hb d_S_worthBetween_23 rfl (lv_at hl 3 rfl) ?_
        refine ro_V (As := [.int (nI i), .int x]) (rest := []) Sx (c_G_isBetween l dC dI n k F S w hg g1 g2 g3 cI i x (by omega)) (gw_callV gm_383 gm_331 gm_332 gm_52 gm_333) hd_G_isBetween ⟨rfl, rfl⟩ ⟨Nat.le_of_ble_eq_true rfl, Nat.le_of_ble_eq_true rfl⟩ (va_P_map hP [2, 3, 4, 5] rfl) (hK.sub (tys' := [(cI, .int)]) [0] rfl) rfl 0 rfl rfl hl.1 rfl (Nat.le_of_ble_eq_true rfl) d_S_worthBetween_24 ⟨Nat.zero_le _, Nat.zero_le _⟩ ?_
        refine lv_if_eq hx hb d_S_worthBetween_27 (tgt := 40) rfl (fun q3 => ?_) (fun q3 => ?_)
        · have q3 : (ps_betw F S i x) = false := bI_0.mp q3
          refine lv_iinc (k := 0) (v := nI (i + 1)) hx hb d_S_worthBetween_40 hl rfl (inc_nI _) (Nat.le_of_ble_eq_true rfl) rfl (fun ls hl => ?_)
          have hl : lv_has ls 5 [(4, .int (nI (i + 1))), (2, .long d), (0, .ref hs), (1, .int x)] := hl
          refine lv_goto hx hb d_S_worthBetween_43 (tgt := 5) rfl ?_
          have he2 : d = fo (sp_b F S V x) (i + 1) 0 := by
            rw [fo_s, ← he5]
            simp [sp_b, q2, q3]
          exact ih5 (i + 1) (by omega) d  ls he2  (lv_sub hl [0, 1, 2, 3] rfl)
        · have q3 : (ps_betw F S i x) = true := bI_1.mp q3
          refine lv_lload_n hx hb d_S_worthBetween_30 rfl (lv_at hl 1 rfl) ?_
          refine lv_aload_n hx hb d_S_worthBetween_31 rfl (lv_at hl 2 rfl) ?_
          refine g_get Sx gf_S hK hP 0 rfl rfl 3 (by decide) gm_175 rfl d_S_worthBetween_32 ?_
          refine lv_iload hx hb d_S_worthBetween_35 (lv_at hl 0 rfl) ?_
          refine g_lld (j := i) Sx hK hP 1 1 rfl rfl (by omega) (by decide) d_S_worthBetween_37 ?_
          refine lv_ladd hx hb d_S_worthBetween_38 ?_
          refine lv_lstore_n hx hb d_S_worthBetween_39 rfl hl (Nat.le_of_ble_eq_true rfl) rfl (fun ls hl => ?_)
          have hl : lv_has ls 5 [(2, .long (d + (V i))), (4, .int (nI i)), (0, .ref hs), (1, .int x)] := hl
          refine lv_iinc (k := 1) (v := nI (i + 1)) hx hb d_S_worthBetween_40 hl rfl (inc_nI _) (Nat.le_of_ble_eq_true rfl) rfl (fun ls hl => ?_)
          have hl : lv_has ls 5 [(4, .int (nI (i + 1))), (2, .long (d + (V i))), (0, .ref hs), (1, .int x)] := hl
          refine lv_goto hx hb d_S_worthBetween_43 (tgt := 5) rfl ?_
          have he2 : (d + (V i)) = fo (sp_b F S V x) (i + 1) 0 := by
            rw [fo_s, ← he5]
            simp [sp_b, q2, q3]
          exact ih5 (i + 1) (by omega) (d + (V i))  ls he2  (lv_sub hl [0, 1, 2, 3] rfl)
  exact hL5 k 0 (by omega) 0  ls rfl  (lv_sub hl [0, 1, 2, 3] rfl)
theorem d_S_make_0 : decode k_S_make 0 = .ok (.aload_n 0, 1) := by decide +kernel
theorem d_S_make_1 : decode k_S_make 1 = .ok (.invokevirtual 23, 3) := by decide +kernel
theorem d_S_make_4 : decode k_S_make 4 = .ok (.aload_n 0, 1) := by decide +kernel
theorem d_S_make_5 : decode k_S_make 5 = .ok (.ldc2_w 26, 3) := by decide +kernel
theorem d_S_make_8 : decode k_S_make 8 = .ok (.putfield 19, 3) := by decide +kernel
theorem d_S_make_11 : decode k_S_make 11 = .ok (.iconst 0, 1) := by decide +kernel
theorem d_S_make_12 : decode k_S_make 12 = .ok (.istore_n 2, 1) := by decide +kernel
theorem d_S_make_13 : decode k_S_make 13 = .ok (.iload_n 2, 1) := by decide +kernel
theorem d_S_make_14 : decode k_S_make 14 = .ok (.iconst 1, 1) := by decide +kernel
theorem d_S_make_15 : decode k_S_make 15 = .ok (.aload_n 0, 1) := by decide +kernel
theorem d_S_make_16 : decode k_S_make 16 = .ok (.getfield 15, 3) := by decide +kernel
theorem d_S_make_19 : decode k_S_make 19 = .ok (.getfield 28, 3) := by decide +kernel
theorem d_S_make_22 : decode k_S_make 22 = .ok (.ishl, 1) := by decide +kernel
theorem d_S_make_23 : decode k_S_make 23 = .ok (.if_icmp .ge 40, 3) := by decide +kernel
theorem d_S_make_26 : decode k_S_make 26 = .ok (.iload_n 2, 1) := by decide +kernel
theorem d_S_make_27 : decode k_S_make 27 = .ok (.iload_n 1, 1) := by decide +kernel
theorem d_S_make_28 : decode k_S_make 28 = .ok (.iand, 1) := by decide +kernel
theorem d_S_make_29 : decode k_S_make 29 = .ok (.ifCond .ne 28, 3) := by decide +kernel
theorem d_S_make_32 : decode k_S_make 32 = .ok (.aload_n 0, 1) := by decide +kernel
theorem d_S_make_33 : decode k_S_make 33 = .ok (.iload_n 2, 1) := by decide +kernel
theorem d_S_make_34 : decode k_S_make 34 = .ok (.invokevirtual 34, 3) := by decide +kernel
theorem d_S_make_37 : decode k_S_make 37 = .ok (.lstore_n 3, 1) := by decide +kernel
theorem d_S_make_38 : decode k_S_make 38 = .ok (.lload_n 3, 1) := by decide +kernel
theorem d_S_make_39 : decode k_S_make 39 = .ok (.aload_n 0, 1) := by decide +kernel
theorem d_S_make_40 : decode k_S_make 40 = .ok (.getfield 19, 3) := by decide +kernel
theorem d_S_make_43 : decode k_S_make 43 = .ok (.lcmp, 1) := by decide +kernel
theorem d_S_make_44 : decode k_S_make 44 = .ok (.ifCond .le 13, 3) := by decide +kernel
theorem d_S_make_47 : decode k_S_make 47 = .ok (.aload_n 0, 1) := by decide +kernel
theorem d_S_make_48 : decode k_S_make 48 = .ok (.lload_n 3, 1) := by decide +kernel
theorem d_S_make_49 : decode k_S_make 49 = .ok (.putfield 19, 3) := by decide +kernel
theorem d_S_make_52 : decode k_S_make 52 = .ok (.aload_n 0, 1) := by decide +kernel
theorem d_S_make_53 : decode k_S_make 53 = .ok (.iload_n 2, 1) := by decide +kernel
theorem d_S_make_54 : decode k_S_make 54 = .ok (.putfield 38, 3) := by decide +kernel
theorem d_S_make_57 : decode k_S_make 57 = .ok (.iinc 2 1, 3) := by decide +kernel
theorem d_S_make_60 : decode k_S_make 60 = .ok (.goto (-47), 3) := by decide +kernel
theorem d_S_make_63 : decode k_S_make 63 = .ok (.return_, 1) := by decide +kernel
abbrev rm_S_make : Room := { frames := 2, cells := 0, slots := 0, locals := 46 }
theorem hd_S_make : y_S_make.cls = n_S ∧ y_S_make.cls ≠ "java/lang/invoke/MethodHandle" ∧ y_S_make.cls ≠ "java/lang/invoke/VarHandle" ∧ (parseMethodDescriptor y_S_make.desc).map (fun d => d.parameters.length) = some 1 := by decide +kernel
set_option maxHeartbeats 4000000 in
set_option maxRecDepth 100000 in
theorem c_S_make (l : Launch) (dC : Nat → ClassId) (dI : Nat → Nat → Nat) (n : Nat) (k : Nat) (F : Nat → Nat) (S : Nat → Nat) (w : Nat → Int32) (hg : Nat) (g1 : Nat) (g2 : Nat) (g3 : Nat) (cI : ClassId) (V : Nat → Int64) (so : Int32) (gr : Int64) (hs : Nat) (s1 : Nat) (cL : ClassId) (z : Int32) (sz : Nat) (hn : n ≤ 10) (hk : k ≤ 18) : Met l y_S_make (.code y_S_make k_S_make 5 none :: gw) rm_S_make (rwP [.ref hs, .int z] (dC, dI) [(hs, .inr (3, [.ref hg, .int so, .long gr, .ref s1])), (s1, .inl (cL, 18, .inr (.inl V))), (hg, .inr (1, [.int (nI n), .int (nI k), .ref g1, .ref g2, .ref g3])), (g1, .inl (cI, 18, .inl (fun i9 => nI (F i9)))), (g2, .inl (cI, 18, .inl (fun i9 => nI (S i9)))), (g3, .inl (cI, 18, .inl w))] [(cI, .int), (cL, .long)] sz) (va_Qv (fun _ : Unit => True) (rwB (dC, dI) [(hs, .inr (3, [.ref hg, .int ((sp_make n k F S (fo (sp_w w) k V) z so).1), .long ((sp_make n k F S (fo (sp_w w) k V) z so).2), .ref s1])), (s1, .inl (cL, 18, .inr (.inl (fo (sp_w w) k V)))), (hg, .inr (1, [.int (nI n), .int (nI k), .ref g1, .ref g2, .ref g3])), (g1, .inl (cI, 18, .inl (fun i9 => nI (F i9)))), (g2, .inl (cI, 18, .inl (fun i9 => nI (S i9)))), (g3, .inl (cI, 18, .inl w))] [(cI, .int), (cL, .long)] (va_A [(hs, .inr (3, [.ref hg, .int so, .long gr, .ref s1])), (s1, .inl (cL, 18, .inr (.inl V))), (hg, .inr (1, [.int (nI n), .int (nI k), .ref g1, .ref g2, .ref g3])), (g1, .inl (cI, 18, .inl (fun i9 => nI (F i9)))), (g2, .inl (cI, 18, .inl (fun i9 => nI (S i9)))), (g3, .inl (cI, 18, .inl w))] sz)) (va_A [(hs, .inr (3, [.ref hg, .int so, .long gr, .ref s1])), (s1, .inl (cL, 18, .inr (.inl V))), (hg, .inr (1, [.int (nI n), .int (nI k), .ref g1, .ref g2, .ref g3])), (g1, .inl (cI, 18, .inl (fun i9 => nI (F i9)))), (g2, .inl (cI, 18, .inl (fun i9 => nI (S i9)))), (g3, .inl (cI, 18, .inl w))] sz)) 0 0 (va_A [(hs, .inr (3, [.ref hg, .int so, .long gr, .ref s1])), (s1, .inl (cL, 18, .inr (.inl V))), (hg, .inr (1, [.int (nI n), .int (nI k), .ref g1, .ref g2, .ref g3])), (g1, .inl (cI, 18, .inl (fun i9 => nI (F i9)))), (g2, .inl (cI, 18, .inl (fun i9 => nI (S i9)))), (g3, .inl (cI, 18, .inl w))] sz) := by
  refine rw_met (by decide) ⟨rfl, rfl⟩ (Nat.le_of_ble_eq_true rfl) ?_
  intro p e s m args below meth c Q A ls Sx hP hK hD hA hl hret
  have hx := Sx.1
  have hb := Sx.2.1
  have hl : lv_has ls 5 [(0, .ref hs), (1, .int z)] := hl
  have hS : va_S A s.heap s.heap [] := va_S.rf
  obtain ⟨M, hM⟩ : ∃ M, M = 2 ^ n := ⟨_, rfl⟩
  have hM2 : M ≤ 1024 := by rw [hM]; exact Nat.le_trans (Nat.pow_le_pow_right (n := 2) (by decide) hn) (by decide)
  obtain ⟨H, hH⟩ : ∃ H, H = s.heap := ⟨_, rfl⟩
  obtain ⟨locs, hlo⟩ : ∃ locs : List Loc, locs = [] := ⟨_, rfl⟩
  rw [← hlo]
  rw [← hlo] at hS
  have hP : va_P (dC, dI) pcl [(hs, .inr (3, [.ref hg, .int so, .long gr, .ref s1])), (s1, .inl (cL, 18, .inr (.inl V))), (hg, .inr (1, [.int (nI n), .int (nI k), .ref g1, .ref g2, .ref g3])), (g1, .inl (cI, 18, .inl (fun i9 => nI (F i9)))), (g2, .inl (cI, 18, .inl (fun i9 => nI (S i9)))), (g3, .inl (cI, 18, .inl w))] H := by rw [hH]; exact hP
  have hS : va_S A s.heap H locs := by rw [hH]; exact hS
  suffices hgo : W p l e rm_S_make s m args below meth c H locs 0 0 Q (F0 m 0 ls []) by rw [hH] at hgo; exact hgo
  refine lv_aload_n hx hb d_S_make_0 rfl (lv_at hl 0 rfl) ?_
  refine rw_V (As := []) (rest := []) (wr := []) Sx (c_S_setWorths l dC dI n k F S w hg g1 g2 g3 cI V so gr hs s1 cL H.size hk) (gw_callV gm_376 gm_377 gm_22 gm_55 gm_378) hd_S_setWorths ⟨rfl, rfl⟩ ⟨Nat.le_of_ble_eq_true rfl, Nat.le_of_ble_eq_true rfl⟩ hP hD hS hA (hK.sub (tys' := [(cI, .int), (cL, .long)]) [0, 1] rfl) [0, 1, 2, 3, 4, 5] [] rfl rfl (by decide) (by decide) (by decide) rfl 0 rfl rfl hl.1 rfl (Nat.le_of_ble_eq_true rfl) d_S_make_1 ⟨Nat.zero_le _, Nat.zero_le _⟩ (fun H locs hP hD hS => ?_)
  have hP : va_P (dC, dI) pcl [(hs, .inr (3, [.ref hg, .int so, .long gr, .ref s1])), (s1, .inl (cL, 18, .inr (.inl (fo (sp_w w) k V)))), (hg, .inr (1, [.int (nI n), .int (nI k), .ref g1, .ref g2, .ref g3])), (g1, .inl (cI, 18, .inl (fun i9 => nI (F i9)))), (g2, .inl (cI, 18, .inl (fun i9 => nI (S i9)))), (g3, .inl (cI, 18, .inl w))] H := hP
  have hD : va_D A [(hs, .inr (3, [.ref hg, .int so, .long gr, .ref s1])), (s1, .inl (cL, 18, .inr (.inl (fo (sp_w w) k V)))), (hg, .inr (1, [.int (nI n), .int (nI k), .ref g1, .ref g2, .ref g3])), (g1, .inl (cI, 18, .inl (fun i9 => nI (F i9)))), (g2, .inl (cI, 18, .inl (fun i9 => nI (S i9)))), (g3, .inl (cI, 18, .inl w))] := hD
  refine lv_aload_n hx hb d_S_make_4 rfl (lv_at hl 0 rfl) ?_
  refine lv_ldc2 hx hb Sx.2.2.2.1 (Sx.2.2.2.2 _ gm_379) d_S_make_5 ?_
  refine g_put Sx gf_S fk_S fn_S hK hP hD hS 0 rfl rfl 2 (by decide) gm_174 rfl rfl rfl (Nat.le_of_ble_eq_true rfl) d_S_make_8 (fun H locs hP hD hS => ?_)
  have hP : va_P (dC, dI) pcl [(hs, .inr (3, [.ref hg, .int so, .long (-1 : Int64), .ref s1])), (s1, .inl (cL, 18, .inr (.inl (fo (sp_w w) k V)))), (hg, .inr (1, [.int (nI n), .int (nI k), .ref g1, .ref g2, .ref g3])), (g1, .inl (cI, 18, .inl (fun i9 => nI (F i9)))), (g2, .inl (cI, 18, .inl (fun i9 => nI (S i9)))), (g3, .inl (cI, 18, .inl w))] H := hP
  have hD : va_D A [(hs, .inr (3, [.ref hg, .int so, .long (-1 : Int64), .ref s1])), (s1, .inl (cL, 18, .inr (.inl (fo (sp_w w) k V)))), (hg, .inr (1, [.int (nI n), .int (nI k), .ref g1, .ref g2, .ref g3])), (g1, .inl (cI, 18, .inl (fun i9 => nI (F i9)))), (g2, .inl (cI, 18, .inl (fun i9 => nI (S i9)))), (g3, .inl (cI, 18, .inl w))] := hD
  refine lv_iconst (v := nI 0) hx hb d_S_make_11 (by decide) ?_
  refine lv_istore_n hx hb d_S_make_12 rfl hl (Nat.le_of_ble_eq_true rfl) rfl (fun ls hl => ?_)
  have hl : lv_has ls 5 [(2, .int (nI 0)), (0, .ref hs), (1, .int z)] := hl
  have hL13 : ∀ (kk i : Nat), i + kk = M → ∀ (so1 : Int32) (gr1 : Int64) (H : Heap) (locs : List Loc) (ls : Array Slot), (so1, gr1) = fo (sp_m k F S (fo (sp_w w) k V) z) i (so, -1) → va_P (dC, dI) pcl [(hs, .inr (3, [.ref hg, .int so1, .long gr1, .ref s1])), (s1, .inl (cL, 18, .inr (.inl (fo (sp_w w) k V)))), (hg, .inr (1, [.int (nI n), .int (nI k), .ref g1, .ref g2, .ref g3])), (g1, .inl (cI, 18, .inl (fun i9 => nI (F i9)))), (g2, .inl (cI, 18, .inl (fun i9 => nI (S i9)))), (g3, .inl (cI, 18, .inl w))] H → va_D A [(hs, .inr (3, [.ref hg, .int so1, .long gr1, .ref s1])), (s1, .inl (cL, 18, .inr (.inl (fo (sp_w w) k V)))), (hg, .inr (1, [.int (nI n), .int (nI k), .ref g1, .ref g2, .ref g3])), (g1, .inl (cI, 18, .inl (fun i9 => nI (F i9)))), (g2, .inl (cI, 18, .inl (fun i9 => nI (S i9)))), (g3, .inl (cI, 18, .inl w))] → va_S A s.heap H locs → lv_has ls 5 [(2, .int (nI i)), (0, .ref hs), (1, .int z)] → W p l e rm_S_make s m args below meth c H locs 0 0 Q (F0 m 13 ls []) := by
    intro kk
    induction kk with
    | zero =>
      intro i hi13 so1 gr1 H locs ls he13 hP hD hS hl
      have hj13 : i = M := by omega
      rw [hj13] at hl he13
      have e_so1 : so1 = (fo (sp_m k F S (fo (sp_w w) k V) z) M (so, -1)).1 := by rw [← he13]
      subst e_so1
      have e_gr1 : gr1 = (fo (sp_m k F S (fo (sp_w w) k V) z) M (so, -1)).2 := by rw [← he13]
      subst e_gr1
      have hl : lv_has ls 5 [(2, .int (nI M)), (0, .ref hs), (1, .int z)] := hl
      have hP : va_P (dC, dI) pcl [(hs, .inr (3, [.ref hg, .int ((fo (sp_m k F S (fo (sp_w w) k V) z) M (so, -1)).1), .long ((fo (sp_m k F S (fo (sp_w w) k V) z) M (so, -1)).2), .ref s1])), (s1, .inl (cL, 18, .inr (.inl (fo (sp_w w) k V)))), (hg, .inr (1, [.int (nI n), .int (nI k), .ref g1, .ref g2, .ref g3])), (g1, .inl (cI, 18, .inl (fun i9 => nI (F i9)))), (g2, .inl (cI, 18, .inl (fun i9 => nI (S i9)))), (g3, .inl (cI, 18, .inl w))] H := hP
      have hD : va_D A [(hs, .inr (3, [.ref hg, .int ((fo (sp_m k F S (fo (sp_w w) k V) z) M (so, -1)).1), .long ((fo (sp_m k F S (fo (sp_w w) k V) z) M (so, -1)).2), .ref s1])), (s1, .inl (cL, 18, .inr (.inl (fo (sp_w w) k V)))), (hg, .inr (1, [.int (nI n), .int (nI k), .ref g1, .ref g2, .ref g3])), (g1, .inl (cI, 18, .inl (fun i9 => nI (F i9)))), (g2, .inl (cI, 18, .inl (fun i9 => nI (S i9)))), (g3, .inl (cI, 18, .inl w))] := hD
      refine lv_iload_n hx hb d_S_make_13 rfl (lv_at hl 0 rfl) ?_
      refine lv_iconst (v := 1) hx hb d_S_make_14 (by decide) ?_
      refine lv_aload_n hx hb d_S_make_15 rfl (lv_at hl 1 rfl) ?_
      refine g_get Sx gf_S hK hP 0 rfl rfl 0 (by decide) gm_171 rfl d_S_make_16 ?_
      refine g_get Sx gf_G hK hP 2 rfl rfl 0 (by decide) gm_76 rfl d_S_make_19 ?_
      refine lv_ishl hx hb d_S_make_22 ?_
      rw [show ((1 <<< ((nI n) &&& 31)) : Int32) = nI M from (by rw [hM]; exact sh_pow n (by omega))]
      refine lv_icmp_ge hx hb d_S_make_23 (tgt := 63) rfl (fun q1 => ?_) (fun q1 => ?_)
      · have q1 : M ≤ M := nq_le (by omega) (by omega) q1
        subst hM
        exact hret _ H locs _ d_S_make_63 hP hD hS
      · have q1 : M < M := nq_nle (by omega) (by omega) q1
        exact absurd q1 (by omega)
    | succ kk ih13 =>
      intro i hi13 so1 gr1 H locs ls he13 hP hD hS hl
      refine lv_iload_n hx hb d_S_make_13 rfl (lv_at hl 0 rfl) ?_
      refine lv_iconst (v := 1) hx hb d_S_make_14 (by decide) ?_
      refine lv_aload_n hx hb d_S_make_15 rfl (lv_at hl 1 rfl) ?_
      refine g_get Sx gf_S hK hP 0 rfl rfl 0 (by decide) gm_171 rfl d_S_make_16 ?_
      refine g_get Sx gf_G hK hP 2 rfl rfl 0 (by decide) gm_76 rfl d_S_make_19 ?_
      refine lv_ishl hx hb d_S_make_22 ?_
      rw [show ((1 <<< ((nI n) &&& 31)) : Int32) = nI M from (by rw [hM]; exact sh_pow n (by omega))]
      refine lv_icmp_ge hx hb d_S_make_23 (tgt := 63) rfl (fun q2 => ?_) (fun q2 => ?_)
      · have q2 : M ≤ i := nq_le (by omega) (by omega) q2
        exact absurd q2 (by omega)
      · have q2 : i < M := nq_nle (by omega) (by omega) q2
        refine lv_iload_n hx hb d_S_make_26 rfl (lv_at hl 0 rfl) ?_
        refine lv_iload_n hx hb d_S_make_27 rfl (lv_at hl 2 rfl) ?_
        refine lv_iand hx hb d_S_make_28 ?_
        refine lv_if_ne hx hb d_S_make_29 (tgt := 57) rfl (fun q3 => ?_) (fun q3 => ?_)
        · skip
          refine lv_iinc (k := 0) (v := nI (i + 1)) hx hb d_S_make_57 hl rfl (inc_nI _) (Nat.le_of_ble_eq_true rfl) rfl (fun ls hl => ?_)
          have hl : lv_has ls 5 [(2, .int (nI (i + 1))), (0, .ref hs), (1, .int z)] := hl
          refine lv_goto hx hb d_S_make_60 (tgt := 13) rfl ?_
          have he2 : (so1, gr1) = fo (sp_m k F S (fo (sp_w w) k V) z) (i + 1) (so, -1) := by
            rw [fo_s, ← he13]
            simp [sp_m, q2, q3]
          exact ih13 (i + 1) (by omega) so1 gr1 H locs ls he2 hP hD hS (lv_sub hl [0, 1, 2] rfl)
        · skip
          refine lv_aload_n hx hb d_S_make_32 rfl (lv_at hl 1 rfl) ?_
          refine lv_iload_n hx hb d_S_make_33 rfl (lv_at hl 0 rfl) ?_
          refine ro_VL (As := [.int (nI i)]) (rest := []) Sx (c_S_worthBetween l dC dI n k F S w hg g1 g2 g3 cI (fo (sp_w w) k V) so1 gr1 hs s1 cL (nI i) hk) (gw_callV gm_380 gm_381 gm_23 gm_55 gm_382) hd_S_worthBetween ⟨rfl, rfl⟩ ⟨Nat.le_of_ble_eq_true rfl, Nat.le_of_ble_eq_true rfl⟩ hP (hK.sub (tys' := [(cI, .int), (cL, .long)]) [0, 1] rfl) rfl 0 rfl rfl hl.1 rfl (Nat.le_of_ble_eq_true rfl) d_S_make_34 ⟨Nat.zero_le _, Nat.zero_le _⟩ ?_
          refine lv_lstore_n hx hb d_S_make_37 rfl hl (Nat.le_of_ble_eq_true rfl) rfl (fun ls hl => ?_)
          have hl : lv_has ls 5 [(3, .long (fo (sp_b F S (fo (sp_w w) k V) (nI i)) k 0)), (2, .int (nI i)), (0, .ref hs), (1, .int z)] := hl
          refine lv_lload_n hx hb d_S_make_38 rfl (lv_at hl 0 rfl) ?_
          refine lv_aload_n hx hb d_S_make_39 rfl (lv_at hl 2 rfl) ?_
          refine g_get Sx gf_S hK hP 0 rfl rfl 2 (by decide) gm_174 rfl d_S_make_40 ?_
          refine W.lcmp hx hb d_S_make_43 ?_
          refine lv_if_le hx hb d_S_make_44 (tgt := 57) rfl (fun q4 => ?_) (fun q4 => ?_)
          · skip
            refine lv_iinc (k := 1) (v := nI (i + 1)) hx hb d_S_make_57 hl rfl (inc_nI _) (Nat.le_of_ble_eq_true rfl) rfl (fun ls hl => ?_)
            have hl : lv_has ls 5 [(2, .int (nI (i + 1))), (3, .long (fo (sp_b F S (fo (sp_w w) k V) (nI i)) k 0)), (0, .ref hs), (1, .int z)] := hl
            refine lv_goto hx hb d_S_make_60 (tgt := 13) rfl ?_
            have he2 : (so1, gr1) = fo (sp_m k F S (fo (sp_w w) k V) z) (i + 1) (so, -1) := by
              rw [fo_s, ← he13]
              simp [sp_m, q2, q3, q4]
            exact ih13 (i + 1) (by omega) so1 gr1 H locs ls he2 hP hD hS (lv_sub hl [0, 2, 3] rfl)
          · skip
            refine lv_aload_n hx hb d_S_make_47 rfl (lv_at hl 2 rfl) ?_
            refine lv_lload_n hx hb d_S_make_48 rfl (lv_at hl 0 rfl) ?_
            refine g_put Sx gf_S fk_S fn_S hK hP hD hS 0 rfl rfl 2 (by decide) gm_174 rfl rfl rfl (Nat.le_of_ble_eq_true rfl) d_S_make_49 (fun H locs hP hD hS => ?_)
            have hP : va_P (dC, dI) pcl [(hs, .inr (3, [.ref hg, .int so1, .long (fo (sp_b F S (fo (sp_w w) k V) (nI i)) k 0), .ref s1])), (s1, .inl (cL, 18, .inr (.inl (fo (sp_w w) k V)))), (hg, .inr (1, [.int (nI n), .int (nI k), .ref g1, .ref g2, .ref g3])), (g1, .inl (cI, 18, .inl (fun i9 => nI (F i9)))), (g2, .inl (cI, 18, .inl (fun i9 => nI (S i9)))), (g3, .inl (cI, 18, .inl w))] H := hP
            have hD : va_D A [(hs, .inr (3, [.ref hg, .int so1, .long (fo (sp_b F S (fo (sp_w w) k V) (nI i)) k 0), .ref s1])), (s1, .inl (cL, 18, .inr (.inl (fo (sp_w w) k V)))), (hg, .inr (1, [.int (nI n), .int (nI k), .ref g1, .ref g2, .ref g3])), (g1, .inl (cI, 18, .inl (fun i9 => nI (F i9)))), (g2, .inl (cI, 18, .inl (fun i9 => nI (S i9)))), (g3, .inl (cI, 18, .inl w))] := hD
            refine lv_aload_n hx hb d_S_make_52 rfl (lv_at hl 2 rfl) ?_
            refine lv_iload_n hx hb d_S_make_53 rfl (lv_at hl 1 rfl) ?_
            refine g_put Sx gf_S fk_S fn_S hK hP hD hS 0 rfl rfl 1 (by decide) gm_172 rfl rfl rfl (Nat.le_of_ble_eq_true rfl) d_S_make_54 (fun H locs hP hD hS => ?_)
            have hP : va_P (dC, dI) pcl [(hs, .inr (3, [.ref hg, .int (nI i), .long (fo (sp_b F S (fo (sp_w w) k V) (nI i)) k 0), .ref s1])), (s1, .inl (cL, 18, .inr (.inl (fo (sp_w w) k V)))), (hg, .inr (1, [.int (nI n), .int (nI k), .ref g1, .ref g2, .ref g3])), (g1, .inl (cI, 18, .inl (fun i9 => nI (F i9)))), (g2, .inl (cI, 18, .inl (fun i9 => nI (S i9)))), (g3, .inl (cI, 18, .inl w))] H := hP
            have hD : va_D A [(hs, .inr (3, [.ref hg, .int (nI i), .long (fo (sp_b F S (fo (sp_w w) k V) (nI i)) k 0), .ref s1])), (s1, .inl (cL, 18, .inr (.inl (fo (sp_w w) k V)))), (hg, .inr (1, [.int (nI n), .int (nI k), .ref g1, .ref g2, .ref g3])), (g1, .inl (cI, 18, .inl (fun i9 => nI (F i9)))), (g2, .inl (cI, 18, .inl (fun i9 => nI (S i9)))), (g3, .inl (cI, 18, .inl w))] := hD
            refine lv_iinc (k := 1) (v := nI (i + 1)) hx hb d_S_make_57 hl rfl (inc_nI _) (Nat.le_of_ble_eq_true rfl) rfl (fun ls hl => ?_)
            have hl : lv_has ls 5 [(2, .int (nI (i + 1))), (3, .long (fo (sp_b F S (fo (sp_w w) k V) (nI i)) k 0)), (0, .ref hs), (1, .int z)] := hl
            refine lv_goto hx hb d_S_make_60 (tgt := 13) rfl ?_
            have he2 : (nI i, fo (sp_b F S (fo (sp_w w) k V) (nI i)) k 0) = fo (sp_m k F S (fo (sp_w w) k V) z) (i + 1) (so, -1) := by
              rw [fo_s, ← he13]
              simp [sp_m, q2, q3, q4]
            exact ih13 (i + 1) (by omega) (nI i) (fo (sp_b F S (fo (sp_w w) k V) (nI i)) k 0) H locs ls he2 hP hD hS (lv_sub hl [0, 2, 3] rfl)
  exact hL13 M 0 (by omega) so (-1) H locs ls rfl hP hD hS (lv_sub hl [0, 1, 2] rfl)
