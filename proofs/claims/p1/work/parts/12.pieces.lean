/-! the components and blocks of a part, as the class finds them -/
def pp_hd (f : Nat → Int32) : Nat → Int32 → Int32 := fun i s => s ||| (f i &&& (-(f i)))
def pp_u1 (B : Nat → Int32) (c : Int32) : Nat → Int32 → Int32 := fun e u => if ps_has c (nI e) = true then u ||| B e else u
def pp_u2 (u : Int32) : Nat → (Nat → Int32) → (Nat → Int32) := fun e B => if ps_has u (nI e) = true then upd B e u else B
def pp_unite (k : Nat) (B : Nat → Int32) (c : Int32) : Nat → Int32 := fo (pp_u2 (fo (pp_u1 B c) k 0)) k B
def pp_jn (a b st : Int32) : Nat → (Nat → Int32) × (Nat → Int32) → (Nat → Int32) × (Nat → Int32) := fun w s => (if ps_has (a ||| b) (nI w) = true then upd s.1 w (a ||| b) else s.1, if ps_has b (nI w) = true then upd s.2 w (s.2 w ^^^ st) else s.2)
def pp_st (Y : Nat → Int32) (u v e : Nat) : Int32 := (Y u ^^^ Y v) ^^^ (1 <<< (nI e &&& 31))
def pp_place (n k u v e : Nat) (C B Y : Nat → Int32) : (Nat → Int32) × (Nat → Int32) × (Nat → Int32) := if ps_has (C u) (nI v) = true then (C, pp_unite k B (pp_st Y u v e), Y) else ((fo (pp_jn (C u) (C v) (pp_st Y u v e)) n (C, Y)).1, B, (fo (pp_jn (C u) (C v) (pp_st Y u v e)) n (C, Y)).2)
def pp_s1 : Nat → (Nat → Int32) × (Nat → Int32) → (Nat → Int32) × (Nat → Int32) := fun v s => (upd s.1 v (1 <<< (nI v &&& 31)), upd s.2 v 0)
def pp_s2 (x : Int32) : Nat → (Nat → Int32) → (Nat → Int32) := fun e B => upd B e (x &&& (1 <<< (nI e &&& 31)))
def pp_s3 (n k : Nat) (F S : Nat → Nat) (x : Int32) : Nat → (Nat → Int32) × (Nat → Int32) × (Nat → Int32) → (Nat → Int32) × (Nat → Int32) × (Nat → Int32) := fun e s => if ps_has x (nI e) = true then pp_place n k (F e) (S e) e s.1 s.2.1 s.2.2 else s
def pp_sort (n k : Nat) (F S : Nat → Nat) (x : Int32) (C B Y : Nat → Int32) : (Nat → Int32) × (Nat → Int32) × (Nat → Int32) := fo (pp_s3 n k F S x) k ((fo pp_s1 n (C, Y)).1, fo (pp_s2 x) k B, (fo pp_s1 n (C, Y)).2)
theorem d_P_heads_0 : decode k_P_heads 0 = .ok (.iconst 0, 1) := by decide +kernel
theorem d_P_heads_1 : decode k_P_heads 1 = .ok (.istore_n 2, 1) := by decide +kernel
theorem d_P_heads_2 : decode k_P_heads 2 = .ok (.iconst 0, 1) := by decide +kernel
theorem d_P_heads_3 : decode k_P_heads 3 = .ok (.istore_n 3, 1) := by decide +kernel
theorem d_P_heads_4 : decode k_P_heads 4 = .ok (.iload_n 3, 1) := by decide +kernel
theorem d_P_heads_5 : decode k_P_heads 5 = .ok (.iload_n 1, 1) := by decide +kernel
theorem d_P_heads_6 : decode k_P_heads 6 = .ok (.if_icmp .ge 20, 3) := by decide +kernel
theorem d_P_heads_9 : decode k_P_heads 9 = .ok (.iload_n 2, 1) := by decide +kernel
theorem d_P_heads_10 : decode k_P_heads 10 = .ok (.aload_n 0, 1) := by decide +kernel
theorem d_P_heads_11 : decode k_P_heads 11 = .ok (.iload_n 3, 1) := by decide +kernel
theorem d_P_heads_12 : decode k_P_heads 12 = .ok (.iaload, 1) := by decide +kernel
theorem d_P_heads_13 : decode k_P_heads 13 = .ok (.aload_n 0, 1) := by decide +kernel
theorem d_P_heads_14 : decode k_P_heads 14 = .ok (.iload_n 3, 1) := by decide +kernel
theorem d_P_heads_15 : decode k_P_heads 15 = .ok (.iaload, 1) := by decide +kernel
theorem d_P_heads_16 : decode k_P_heads 16 = .ok (.ineg, 1) := by decide +kernel
theorem d_P_heads_17 : decode k_P_heads 17 = .ok (.iand, 1) := by decide +kernel
theorem d_P_heads_18 : decode k_P_heads 18 = .ok (.ior, 1) := by decide +kernel
theorem d_P_heads_19 : decode k_P_heads 19 = .ok (.istore_n 2, 1) := by decide +kernel
theorem d_P_heads_20 : decode k_P_heads 20 = .ok (.iinc 3 1, 3) := by decide +kernel
theorem d_P_heads_23 : decode k_P_heads 23 = .ok (.goto (-19), 3) := by decide +kernel
theorem d_P_heads_26 : decode k_P_heads 26 = .ok (.iload_n 2, 1) := by decide +kernel
theorem d_P_heads_27 : decode k_P_heads 27 = .ok (.ireturn, 1) := by decide +kernel
abbrev rm_P_heads : Room := { frames := 0, cells := 0, slots := 0, locals := 0 }
theorem hd_P_heads : y_P_heads.cls ≠ "java/lang/invoke/MethodHandle" ∧ y_P_heads.cls ≠ "java/lang/invoke/VarHandle" ∧ (parseMethodDescriptor y_P_heads.desc).map (fun d => d.parameters.length) = some 2 := by decide +kernel
set_option maxHeartbeats 4000000 in
set_option maxRecDepth 100000 in
theorem c_P_heads (l : Launch) (dC : Nat → ClassId) (dI : Nat → Nat → Nat) (f : Nat → Int32) (ha : Nat) (len : Nat) (cI : ClassId) (q : Nat) (hq : q ≤ len) (hle : len < 100) : Met l y_P_heads (.code y_P_heads k_P_heads 4 (.some FieldType.int) :: gw) rm_P_heads (roP [.ref ha, .int (nI q)] (dC, dI) [(ha, .inl (cI, len, .inl f))] [(cI, .int)]) (vp_Si (fun r => r = fo (pp_hd f) q 0)) 0 0 (fun _ => False) := by
  refine ro_met (by decide) ⟨rfl, rfl⟩ rfl (Nat.le_of_ble_eq_true rfl) ?_
  intro p e s m args below meth c Q ls Sx hP hK hl hret
  have hx := Sx.1
  have hb := Sx.2.1
  have hl : lv_has ls 4 [(0, .ref ha), (1, .int (nI q))] := hl
  refine lv_iconst (v := 0) hx hb d_P_heads_0 (by decide) ?_
  refine lv_istore_n hx hb d_P_heads_1 rfl hl (Nat.le_of_ble_eq_true rfl) rfl (fun ls hl => ?_)
  have hl : lv_has ls 4 [(2, .int 0), (0, .ref ha), (1, .int (nI q))] := hl
  refine lv_iconst (v := nI 0) hx hb d_P_heads_2 (by decide) ?_
  refine lv_istore_n hx hb d_P_heads_3 rfl hl (Nat.le_of_ble_eq_true rfl) rfl (fun ls hl => ?_)
  have hl : lv_has ls 4 [(3, .int (nI 0)), (2, .int 0), (0, .ref ha), (1, .int (nI q))] := hl
  have hL4 : ∀ (kk i : Nat), i + kk = q → ∀ (d : Int32) (ls : Array Slot), d = fo (pp_hd f) i 0 → lv_has ls 4 [(3, .int (nI i)), (2, .int d), (0, .ref ha), (1, .int (nI q))] → W p l e rm_P_heads s m args below meth c s.heap [] 0 0 Q (F0 m 4 ls []) := by
    intro kk
    induction kk with
    | zero =>
      intro i hi4 d ls he4 hl
      have hj4 : i = q := by omega
      rw [hj4] at hl he4
      have e_d : d = (fo (pp_hd f) q 0) := by rw [← he4]
      subst e_d
      have hl : lv_has ls 4 [(3, .int (nI q)), (2, .int (fo (pp_hd f) q 0)), (0, .ref ha), (1, .int (nI q))] := hl
      refine lv_iload_n hx hb d_P_heads_4 rfl (lv_at hl 0 rfl) ?_
      refine lv_iload_n hx hb d_P_heads_5 rfl (lv_at hl 3 rfl) ?_
      refine lv_icmp_ge hx hb d_P_heads_6 (tgt := 26) rfl (fun q1 => ?_) (fun q1 => ?_)
      · have q1 : q ≤ q := nq_le (by omega) (by omega) q1
        refine lv_iload_n hx hb d_P_heads_26 rfl (lv_at hl 1 rfl) ?_
        exact hret _ _ d_P_heads_27
      · have q1 : q < q := nq_nle (by omega) (by omega) q1
        exact absurd q1 (by omega)
    | succ kk ih4 =>
      intro i hi4 d ls he4 hl
      refine lv_iload_n hx hb d_P_heads_4 rfl (lv_at hl 0 rfl) ?_
      refine lv_iload_n hx hb d_P_heads_5 rfl (lv_at hl 3 rfl) ?_
      refine lv_icmp_ge hx hb d_P_heads_6 (tgt := 26) rfl (fun q2 => ?_) (fun q2 => ?_)
      · have q2 : q ≤ i := nq_le (by omega) (by omega) q2
        exact absurd q2 (by omega)
      · have q2 : i < q := nq_nle (by omega) (by omega) q2
        refine lv_iload_n hx hb d_P_heads_9 rfl (lv_at hl 1 rfl) ?_
        refine lv_aload_n hx hb d_P_heads_10 rfl (lv_at hl 2 rfl) ?_
        refine lv_iload_n hx hb d_P_heads_11 rfl (lv_at hl 0 rfl) ?_
        refine g_ild (j := i) Sx hK hP 0 0 rfl rfl (by omega) (by omega) d_P_heads_12 ?_
        refine lv_aload_n hx hb d_P_heads_13 rfl (lv_at hl 2 rfl) ?_
        refine lv_iload_n hx hb d_P_heads_14 rfl (lv_at hl 0 rfl) ?_
        refine g_ild (j := i) Sx hK hP 0 0 rfl rfl (by omega) (by omega) d_P_heads_15 ?_
        refine lv_ineg hx hb d_P_heads_16 ?_
        refine lv_iand hx hb d_P_heads_17 ?_
        refine lv_ior hx hb d_P_heads_18 ?_
        refine lv_istore_n hx hb d_P_heads_19 rfl hl (Nat.le_of_ble_eq_true rfl) rfl (fun ls hl => ?_)
        have hl : lv_has ls 4 [(2, .int (d ||| ((f i) &&& (-(f i))))), (3, .int (nI i)), (0, .ref ha), (1, .int (nI q))] := hl
        refine lv_iinc (k := 1) (v := nI (i + 1)) hx hb d_P_heads_20 hl rfl (inc_nI _) (Nat.le_of_ble_eq_true rfl) rfl (fun ls hl => ?_)
        have hl : lv_has ls 4 [(3, .int (nI (i + 1))), (2, .int (d ||| ((f i) &&& (-(f i))))), (0, .ref ha), (1, .int (nI q))] := hl
        refine lv_goto hx hb d_P_heads_23 (tgt := 4) rfl ?_
        have he2 : (d ||| ((f i) &&& (-(f i)))) = fo (pp_hd f) (i + 1) 0 := by
          rw [fo_s, ← he4]
          simp [pp_hd, q2]
        exact ih4 (i + 1) (by omega) (d ||| ((f i) &&& (-(f i))))  ls he2  (lv_sub hl [0, 1, 2, 3] rfl)
  exact hL4 q 0 (by omega) 0  ls rfl  (lv_sub hl [0, 1, 2, 3] rfl)
theorem d_P_uniteBlocks_0 : decode k_P_uniteBlocks 0 = .ok (.iconst 0, 1) := by decide +kernel
theorem d_P_uniteBlocks_1 : decode k_P_uniteBlocks 1 = .ok (.istore_n 2, 1) := by decide +kernel
theorem d_P_uniteBlocks_2 : decode k_P_uniteBlocks 2 = .ok (.iconst 0, 1) := by decide +kernel
theorem d_P_uniteBlocks_3 : decode k_P_uniteBlocks 3 = .ok (.istore_n 3, 1) := by decide +kernel
theorem d_P_uniteBlocks_4 : decode k_P_uniteBlocks 4 = .ok (.iload_n 3, 1) := by decide +kernel
theorem d_P_uniteBlocks_5 : decode k_P_uniteBlocks 5 = .ok (.aload_n 0, 1) := by decide +kernel
theorem d_P_uniteBlocks_6 : decode k_P_uniteBlocks 6 = .ok (.getfield 21, 3) := by decide +kernel
theorem d_P_uniteBlocks_9 : decode k_P_uniteBlocks 9 = .ok (.getfield 31, 3) := by decide +kernel
theorem d_P_uniteBlocks_12 : decode k_P_uniteBlocks 12 = .ok (.if_icmp .ge 26, 3) := by decide +kernel
theorem d_P_uniteBlocks_15 : decode k_P_uniteBlocks 15 = .ok (.iload_n 1, 1) := by decide +kernel
theorem d_P_uniteBlocks_16 : decode k_P_uniteBlocks 16 = .ok (.iload_n 3, 1) := by decide +kernel
theorem d_P_uniteBlocks_17 : decode k_P_uniteBlocks 17 = .ok (.invokestatic 34, 3) := by decide +kernel
theorem d_P_uniteBlocks_20 : decode k_P_uniteBlocks 20 = .ok (.ifCond .eq 12, 3) := by decide +kernel
theorem d_P_uniteBlocks_23 : decode k_P_uniteBlocks 23 = .ok (.iload_n 2, 1) := by decide +kernel
theorem d_P_uniteBlocks_24 : decode k_P_uniteBlocks 24 = .ok (.aload_n 0, 1) := by decide +kernel
theorem d_P_uniteBlocks_25 : decode k_P_uniteBlocks 25 = .ok (.getfield 15, 3) := by decide +kernel
theorem d_P_uniteBlocks_28 : decode k_P_uniteBlocks 28 = .ok (.iload_n 3, 1) := by decide +kernel
theorem d_P_uniteBlocks_29 : decode k_P_uniteBlocks 29 = .ok (.iaload, 1) := by decide +kernel
theorem d_P_uniteBlocks_30 : decode k_P_uniteBlocks 30 = .ok (.ior, 1) := by decide +kernel
theorem d_P_uniteBlocks_31 : decode k_P_uniteBlocks 31 = .ok (.istore_n 2, 1) := by decide +kernel
theorem d_P_uniteBlocks_32 : decode k_P_uniteBlocks 32 = .ok (.iinc 3 1, 3) := by decide +kernel
theorem d_P_uniteBlocks_35 : decode k_P_uniteBlocks 35 = .ok (.goto (-31), 3) := by decide +kernel
theorem d_P_uniteBlocks_38 : decode k_P_uniteBlocks 38 = .ok (.iconst 0, 1) := by decide +kernel
theorem d_P_uniteBlocks_39 : decode k_P_uniteBlocks 39 = .ok (.istore_n 3, 1) := by decide +kernel
theorem d_P_uniteBlocks_40 : decode k_P_uniteBlocks 40 = .ok (.iload_n 3, 1) := by decide +kernel
theorem d_P_uniteBlocks_41 : decode k_P_uniteBlocks 41 = .ok (.aload_n 0, 1) := by decide +kernel
theorem d_P_uniteBlocks_42 : decode k_P_uniteBlocks 42 = .ok (.getfield 21, 3) := by decide +kernel
theorem d_P_uniteBlocks_45 : decode k_P_uniteBlocks 45 = .ok (.getfield 31, 3) := by decide +kernel
theorem d_P_uniteBlocks_48 : decode k_P_uniteBlocks 48 = .ok (.if_icmp .ge 24, 3) := by decide +kernel
theorem d_P_uniteBlocks_51 : decode k_P_uniteBlocks 51 = .ok (.iload_n 2, 1) := by decide +kernel
theorem d_P_uniteBlocks_52 : decode k_P_uniteBlocks 52 = .ok (.iload_n 3, 1) := by decide +kernel
theorem d_P_uniteBlocks_53 : decode k_P_uniteBlocks 53 = .ok (.invokestatic 34, 3) := by decide +kernel
theorem d_P_uniteBlocks_56 : decode k_P_uniteBlocks 56 = .ok (.ifCond .eq 10, 3) := by decide +kernel
theorem d_P_uniteBlocks_59 : decode k_P_uniteBlocks 59 = .ok (.aload_n 0, 1) := by decide +kernel
theorem d_P_uniteBlocks_60 : decode k_P_uniteBlocks 60 = .ok (.getfield 15, 3) := by decide +kernel
theorem d_P_uniteBlocks_63 : decode k_P_uniteBlocks 63 = .ok (.iload_n 3, 1) := by decide +kernel
theorem d_P_uniteBlocks_64 : decode k_P_uniteBlocks 64 = .ok (.iload_n 2, 1) := by decide +kernel
theorem d_P_uniteBlocks_65 : decode k_P_uniteBlocks 65 = .ok (.iastore, 1) := by decide +kernel
theorem d_P_uniteBlocks_66 : decode k_P_uniteBlocks 66 = .ok (.iinc 3 1, 3) := by decide +kernel
theorem d_P_uniteBlocks_69 : decode k_P_uniteBlocks 69 = .ok (.goto (-29), 3) := by decide +kernel
theorem d_P_uniteBlocks_72 : decode k_P_uniteBlocks 72 = .ok (.return_, 1) := by decide +kernel
abbrev rm_P_uniteBlocks : Room := { frames := 1, cells := 0, slots := 0, locals := 21 }
theorem hd_P_uniteBlocks : y_P_uniteBlocks.cls = n_P ∧ y_P_uniteBlocks.cls ≠ "java/lang/invoke/MethodHandle" ∧ y_P_uniteBlocks.cls ≠ "java/lang/invoke/VarHandle" ∧ (parseMethodDescriptor y_P_uniteBlocks.desc).map (fun d => d.parameters.length) = some 1 := by decide +kernel
set_option maxHeartbeats 4000000 in
set_option maxRecDepth 100000 in
theorem c_P_uniteBlocks (l : Launch) (dC : Nat → ClassId) (dI : Nat → Nat → Nat) (n : Nat) (k : Nat) (F : Nat → Nat) (S : Nat → Nat) (w : Nat → Int32) (hg : Nat) (g1 : Nat) (g2 : Nat) (g3 : Nat) (cI : ClassId) (C : Nat → Int32) (B : Nat → Int32) (Y : Nat → Int32) (ch : Int32) (bh : Int32) (hp : Nat) (p1 : Nat) (p2 : Nat) (p3 : Nat) (cr : Int32) (sz : Nat) (hk : k ≤ 18) : Met l y_P_uniteBlocks (.code y_P_uniteBlocks k_P_uniteBlocks 4 none :: gw) rm_P_uniteBlocks (rwP [.ref hp, .int cr] (dC, dI) [(hp, .inr (2, [.ref hg, .ref p1, .ref p2, .int ch, .int bh, .ref p3])), (p1, .inl (cI, 10, .inl C)), (p2, .inl (cI, 18, .inl B)), (p3, .inl (cI, 10, .inl Y)), (hg, .inr (1, [.int (nI n), .int (nI k), .ref g1, .ref g2, .ref g3])), (g1, .inl (cI, 18, .inl (fun i9 => nI (F i9)))), (g2, .inl (cI, 18, .inl (fun i9 => nI (S i9)))), (g3, .inl (cI, 18, .inl w))] [(cI, .int)] sz) (va_Qv (fun _ : Unit => True) (rwB (dC, dI) [(hp, .inr (2, [.ref hg, .ref p1, .ref p2, .int ch, .int bh, .ref p3])), (p1, .inl (cI, 10, .inl C)), (p2, .inl (cI, 18, .inl (pp_unite k B cr))), (p3, .inl (cI, 10, .inl Y)), (hg, .inr (1, [.int (nI n), .int (nI k), .ref g1, .ref g2, .ref g3])), (g1, .inl (cI, 18, .inl (fun i9 => nI (F i9)))), (g2, .inl (cI, 18, .inl (fun i9 => nI (S i9)))), (g3, .inl (cI, 18, .inl w))] [(cI, .int)] (va_A [(hp, .inr (2, [.ref hg, .ref p1, .ref p2, .int ch, .int bh, .ref p3])), (p1, .inl (cI, 10, .inl C)), (p2, .inl (cI, 18, .inl B)), (p3, .inl (cI, 10, .inl Y)), (hg, .inr (1, [.int (nI n), .int (nI k), .ref g1, .ref g2, .ref g3])), (g1, .inl (cI, 18, .inl (fun i9 => nI (F i9)))), (g2, .inl (cI, 18, .inl (fun i9 => nI (S i9)))), (g3, .inl (cI, 18, .inl w))] sz)) (va_A [(hp, .inr (2, [.ref hg, .ref p1, .ref p2, .int ch, .int bh, .ref p3])), (p1, .inl (cI, 10, .inl C)), (p2, .inl (cI, 18, .inl B)), (p3, .inl (cI, 10, .inl Y)), (hg, .inr (1, [.int (nI n), .int (nI k), .ref g1, .ref g2, .ref g3])), (g1, .inl (cI, 18, .inl (fun i9 => nI (F i9)))), (g2, .inl (cI, 18, .inl (fun i9 => nI (S i9)))), (g3, .inl (cI, 18, .inl w))] sz)) 0 0 (va_A [(hp, .inr (2, [.ref hg, .ref p1, .ref p2, .int ch, .int bh, .ref p3])), (p1, .inl (cI, 10, .inl C)), (p2, .inl (cI, 18, .inl B)), (p3, .inl (cI, 10, .inl Y)), (hg, .inr (1, [.int (nI n), .int (nI k), .ref g1, .ref g2, .ref g3])), (g1, .inl (cI, 18, .inl (fun i9 => nI (F i9)))), (g2, .inl (cI, 18, .inl (fun i9 => nI (S i9)))), (g3, .inl (cI, 18, .inl w))] sz) := by
  refine rw_met (by decide) ⟨rfl, rfl⟩ (Nat.le_of_ble_eq_true rfl) ?_
  intro p e s m args below meth c Q A ls Sx hP hK hD hA hl hret
  have hx := Sx.1
  have hb := Sx.2.1
  have hl : lv_has ls 4 [(0, .ref hp), (1, .int cr)] := hl
  have hS : va_S A s.heap s.heap [] := va_S.rf
  obtain ⟨H, hH⟩ : ∃ H, H = s.heap := ⟨_, rfl⟩
  obtain ⟨locs, hlo⟩ : ∃ locs : List Loc, locs = [] := ⟨_, rfl⟩
  rw [← hlo]
  rw [← hlo] at hS
  have hP : va_P (dC, dI) pcl [(hp, .inr (2, [.ref hg, .ref p1, .ref p2, .int ch, .int bh, .ref p3])), (p1, .inl (cI, 10, .inl C)), (p2, .inl (cI, 18, .inl B)), (p3, .inl (cI, 10, .inl Y)), (hg, .inr (1, [.int (nI n), .int (nI k), .ref g1, .ref g2, .ref g3])), (g1, .inl (cI, 18, .inl (fun i9 => nI (F i9)))), (g2, .inl (cI, 18, .inl (fun i9 => nI (S i9)))), (g3, .inl (cI, 18, .inl w))] H := by rw [hH]; exact hP
  have hS : va_S A s.heap H locs := by rw [hH]; exact hS
  suffices hgo : W p l e rm_P_uniteBlocks s m args below meth c H locs 0 0 Q (F0 m 0 ls []) by rw [hH] at hgo; exact hgo
  refine lv_iconst (v := 0) hx hb d_P_uniteBlocks_0 (by decide) ?_
  refine lv_istore_n hx hb d_P_uniteBlocks_1 rfl hl (Nat.le_of_ble_eq_true rfl) rfl (fun ls hl => ?_)
  have hl : lv_has ls 4 [(2, .int 0), (0, .ref hp), (1, .int cr)] := hl
  refine lv_iconst (v := nI 0) hx hb d_P_uniteBlocks_2 (by decide) ?_
  refine lv_istore_n hx hb d_P_uniteBlocks_3 rfl hl (Nat.le_of_ble_eq_true rfl) rfl (fun ls hl => ?_)
  have hl : lv_has ls 4 [(3, .int (nI 0)), (2, .int 0), (0, .ref hp), (1, .int cr)] := hl
  have hL4 : ∀ (kk i : Nat), i + kk = k → ∀ (d : Int32) (H : Heap) (locs : List Loc) (ls : Array Slot), d = fo (pp_u1 B cr) i 0 → va_P (dC, dI) pcl [(hp, .inr (2, [.ref hg, .ref p1, .ref p2, .int ch, .int bh, .ref p3])), (p1, .inl (cI, 10, .inl C)), (p2, .inl (cI, 18, .inl B)), (p3, .inl (cI, 10, .inl Y)), (hg, .inr (1, [.int (nI n), .int (nI k), .ref g1, .ref g2, .ref g3])), (g1, .inl (cI, 18, .inl (fun i9 => nI (F i9)))), (g2, .inl (cI, 18, .inl (fun i9 => nI (S i9)))), (g3, .inl (cI, 18, .inl w))] H → va_D A [(hp, .inr (2, [.ref hg, .ref p1, .ref p2, .int ch, .int bh, .ref p3])), (p1, .inl (cI, 10, .inl C)), (p2, .inl (cI, 18, .inl B)), (p3, .inl (cI, 10, .inl Y)), (hg, .inr (1, [.int (nI n), .int (nI k), .ref g1, .ref g2, .ref g3])), (g1, .inl (cI, 18, .inl (fun i9 => nI (F i9)))), (g2, .inl (cI, 18, .inl (fun i9 => nI (S i9)))), (g3, .inl (cI, 18, .inl w))] → va_S A s.heap H locs → lv_has ls 4 [(3, .int (nI i)), (2, .int d), (0, .ref hp), (1, .int cr)] → W p l e rm_P_uniteBlocks s m args below meth c H locs 0 0 Q (F0 m 4 ls []) := by
    intro kk
    induction kk with
    | zero =>
      intro i hi4 d H locs ls he4 hP hD hS hl
      have hj4 : i = k := by omega
      rw [hj4] at hl he4
      have e_d : d = (fo (pp_u1 B cr) k 0) := by rw [← he4]
      subst e_d
      have hl : lv_has ls 4 [(3, .int (nI k)), (2, .int (fo (pp_u1 B cr) k 0)), (0, .ref hp), (1, .int cr)] := hl
      have hP : va_P (dC, dI) pcl [(hp, .inr (2, [.ref hg, .ref p1, .ref p2, .int ch, .int bh, .ref p3])), (p1, .inl (cI, 10, .inl C)), (p2, .inl (cI, 18, .inl B)), (p3, .inl (cI, 10, .inl Y)), (hg, .inr (1, [.int (nI n), .int (nI k), .ref g1, .ref g2, .ref g3])), (g1, .inl (cI, 18, .inl (fun i9 => nI (F i9)))), (g2, .inl (cI, 18, .inl (fun i9 => nI (S i9)))), (g3, .inl (cI, 18, .inl w))] H := hP
      have hD : va_D A [(hp, .inr (2, [.ref hg, .ref p1, .ref p2, .int ch, .int bh, .ref p3])), (p1, .inl (cI, 10, .inl C)), (p2, .inl (cI, 18, .inl B)), (p3, .inl (cI, 10, .inl Y)), (hg, .inr (1, [.int (nI n), .int (nI k), .ref g1, .ref g2, .ref g3])), (g1, .inl (cI, 18, .inl (fun i9 => nI (F i9)))), (g2, .inl (cI, 18, .inl (fun i9 => nI (S i9)))), (g3, .inl (cI, 18, .inl w))] := hD
      refine lv_iload_n hx hb d_P_uniteBlocks_4 rfl (lv_at hl 0 rfl) ?_
      refine lv_aload_n hx hb d_P_uniteBlocks_5 rfl (lv_at hl 2 rfl) ?_
      refine g_get Sx gf_P hK hP 0 rfl rfl 0 (by decide) gm_106 rfl d_P_uniteBlocks_6 ?_
      refine g_get Sx gf_G hK hP 4 rfl rfl 1 (by decide) gm_80 rfl d_P_uniteBlocks_9 ?_
      refine lv_icmp_ge hx hb d_P_uniteBlocks_12 (tgt := 38) rfl (fun q1 => ?_) (fun q1 => ?_)
      · have q1 : k ≤ k := nq_le (by omega) (by omega) q1
        refine lv_iconst (v := nI 0) hx hb d_P_uniteBlocks_38 (by decide) ?_
        refine lv_istore_n hx hb d_P_uniteBlocks_39 rfl hl (Nat.le_of_ble_eq_true rfl) rfl (fun ls hl => ?_)
        have hl : lv_has ls 4 [(3, .int (nI 0)), (2, .int (fo (pp_u1 B cr) k 0)), (0, .ref hp), (1, .int cr)] := hl
        have hL40 : ∀ (kk i : Nat), i + kk = k → ∀ (B1 : Nat → Int32) (H : Heap) (locs : List Loc) (ls : Array Slot), B1 = fo (pp_u2 (fo (pp_u1 B cr) k 0)) i B → va_P (dC, dI) pcl [(hp, .inr (2, [.ref hg, .ref p1, .ref p2, .int ch, .int bh, .ref p3])), (p1, .inl (cI, 10, .inl C)), (p2, .inl (cI, 18, .inl B1)), (p3, .inl (cI, 10, .inl Y)), (hg, .inr (1, [.int (nI n), .int (nI k), .ref g1, .ref g2, .ref g3])), (g1, .inl (cI, 18, .inl (fun i9 => nI (F i9)))), (g2, .inl (cI, 18, .inl (fun i9 => nI (S i9)))), (g3, .inl (cI, 18, .inl w))] H → va_D A [(hp, .inr (2, [.ref hg, .ref p1, .ref p2, .int ch, .int bh, .ref p3])), (p1, .inl (cI, 10, .inl C)), (p2, .inl (cI, 18, .inl B1)), (p3, .inl (cI, 10, .inl Y)), (hg, .inr (1, [.int (nI n), .int (nI k), .ref g1, .ref g2, .ref g3])), (g1, .inl (cI, 18, .inl (fun i9 => nI (F i9)))), (g2, .inl (cI, 18, .inl (fun i9 => nI (S i9)))), (g3, .inl (cI, 18, .inl w))] → va_S A s.heap H locs → lv_has ls 4 [(3, .int (nI i)), (2, .int (fo (pp_u1 B cr) k 0)), (0, .ref hp), (1, .int cr)] → W p l e rm_P_uniteBlocks s m args below meth c H locs 0 0 Q (F0 m 40 ls []) := by
          intro kk
          induction kk with
          | zero =>
            intro i hi40 B1 H locs ls he40 hP hD hS hl
            have hj40 : i = k := by omega
            rw [hj40] at hl he40
            have e_B1 : B1 = (fo (pp_u2 (fo (pp_u1 B cr) k 0)) k B) := by rw [← he40]
            subst e_B1
            have hl : lv_has ls 4 [(3, .int (nI k)), (2, .int (fo (pp_u1 B cr) k 0)), (0, .ref hp), (1, .int cr)] := hl
            have hP : va_P (dC, dI) pcl [(hp, .inr (2, [.ref hg, .ref p1, .ref p2, .int ch, .int bh, .ref p3])), (p1, .inl (cI, 10, .inl C)), (p2, .inl (cI, 18, .inl (fo (pp_u2 (fo (pp_u1 B cr) k 0)) k B))), (p3, .inl (cI, 10, .inl Y)), (hg, .inr (1, [.int (nI n), .int (nI k), .ref g1, .ref g2, .ref g3])), (g1, .inl (cI, 18, .inl (fun i9 => nI (F i9)))), (g2, .inl (cI, 18, .inl (fun i9 => nI (S i9)))), (g3, .inl (cI, 18, .inl w))] H := hP
            have hD : va_D A [(hp, .inr (2, [.ref hg, .ref p1, .ref p2, .int ch, .int bh, .ref p3])), (p1, .inl (cI, 10, .inl C)), (p2, .inl (cI, 18, .inl (fo (pp_u2 (fo (pp_u1 B cr) k 0)) k B))), (p3, .inl (cI, 10, .inl Y)), (hg, .inr (1, [.int (nI n), .int (nI k), .ref g1, .ref g2, .ref g3])), (g1, .inl (cI, 18, .inl (fun i9 => nI (F i9)))), (g2, .inl (cI, 18, .inl (fun i9 => nI (S i9)))), (g3, .inl (cI, 18, .inl w))] := hD
            refine lv_iload_n hx hb d_P_uniteBlocks_40 rfl (lv_at hl 0 rfl) ?_
            refine lv_aload_n hx hb d_P_uniteBlocks_41 rfl (lv_at hl 2 rfl) ?_
            refine g_get Sx gf_P hK hP 0 rfl rfl 0 (by decide) gm_106 rfl d_P_uniteBlocks_42 ?_
            refine g_get Sx gf_G hK hP 4 rfl rfl 1 (by decide) gm_80 rfl d_P_uniteBlocks_45 ?_
            refine lv_icmp_ge hx hb d_P_uniteBlocks_48 (tgt := 72) rfl (fun q2 => ?_) (fun q2 => ?_)
            · have q2 : k ≤ k := nq_le (by omega) (by omega) q2
              exact hret _ H locs _ d_P_uniteBlocks_72 hP hD hS
            · have q2 : k < k := nq_nle (by omega) (by omega) q2
              exact absurd q2 (by omega)
          | succ kk ih40 =>
            intro i hi40 B1 H locs ls he40 hP hD hS hl
            refine lv_iload_n hx hb d_P_uniteBlocks_40 rfl (lv_at hl 0 rfl) ?_
            refine lv_aload_n hx hb d_P_uniteBlocks_41 rfl (lv_at hl 2 rfl) ?_
            refine g_get Sx gf_P hK hP 0 rfl rfl 0 (by decide) gm_106 rfl d_P_uniteBlocks_42 ?_
            refine g_get Sx gf_G hK hP 4 rfl rfl 1 (by decide) gm_80 rfl d_P_uniteBlocks_45 ?_
            refine lv_icmp_ge hx hb d_P_uniteBlocks_48 (tgt := 72) rfl (fun q3 => ?_) (fun q3 => ?_)
            · have q3 : k ≤ i := nq_le (by omega) (by omega) q3
              exact absurd q3 (by omega)
            · have q3 : i < k := nq_nle (by omega) (by omega) q3
              refine lv_iload_n hx hb d_P_uniteBlocks_51 rfl (lv_at hl 1 rfl) ?_
              refine lv_iload_n hx hb d_P_uniteBlocks_52 rfl (lv_at hl 0 rfl) ?_
              refine ro_S (As := [.int (fo (pp_u1 B cr) k 0), .int (nI i)]) (rest := []) Sx (c_B_has l dC dI (fo (pp_u1 B cr) k 0) (nI i)) (gw_callS gm_249 gm_250 gm_57 gm_251) hd_B_has ⟨rfl, rfl⟩ ⟨Nat.le_of_ble_eq_true rfl, Nat.le_of_ble_eq_true rfl⟩ (va_P_map hP [] rfl) (hK.sub (tys' := []) [] rfl) rfl hl.1 rfl (Nat.le_of_ble_eq_true rfl) d_P_uniteBlocks_53 ⟨Nat.zero_le _, Nat.zero_le _⟩ ?_
              refine lv_if_eq hx hb d_P_uniteBlocks_56 (tgt := 66) rfl (fun q4 => ?_) (fun q4 => ?_)
              · have q4 : (ps_has (fo (pp_u1 B cr) k 0) (nI i)) = false := bI_0.mp q4
                refine lv_iinc (k := 0) (v := nI (i + 1)) hx hb d_P_uniteBlocks_66 hl rfl (inc_nI _) (Nat.le_of_ble_eq_true rfl) rfl (fun ls hl => ?_)
                have hl : lv_has ls 4 [(3, .int (nI (i + 1))), (2, .int (fo (pp_u1 B cr) k 0)), (0, .ref hp), (1, .int cr)] := hl
                refine lv_goto hx hb d_P_uniteBlocks_69 (tgt := 40) rfl ?_
                have he2 : B1 = fo (pp_u2 (fo (pp_u1 B cr) k 0)) (i + 1) B := by
                  rw [fo_s, ← he40]
                  simp [pp_u2, q1, q3, q4]
                exact ih40 (i + 1) (by omega) B1 H locs ls he2 hP hD hS (lv_sub hl [0, 1, 2, 3] rfl)
              · have q4 : (ps_has (fo (pp_u1 B cr) k 0) (nI i)) = true := bI_1.mp q4
                refine lv_aload_n hx hb d_P_uniteBlocks_59 rfl (lv_at hl 2 rfl) ?_
                refine g_get Sx gf_P hK hP 0 rfl rfl 2 (by decide) gm_109 rfl d_P_uniteBlocks_60 ?_
                refine lv_iload_n hx hb d_P_uniteBlocks_63 rfl (lv_at hl 0 rfl) ?_
                refine lv_iload_n hx hb d_P_uniteBlocks_64 rfl (lv_at hl 1 rfl) ?_
                refine g_ist (j := i) Sx hK hP hD hS 2 0 rfl rfl (by omega) (by decide) d_P_uniteBlocks_65 (fun H locs hP hD hS => ?_)
                have hP : va_P (dC, dI) pcl [(hp, .inr (2, [.ref hg, .ref p1, .ref p2, .int ch, .int bh, .ref p3])), (p1, .inl (cI, 10, .inl C)), (p2, .inl (cI, 18, .inl (upd B1 i (fo (pp_u1 B cr) k 0)))), (p3, .inl (cI, 10, .inl Y)), (hg, .inr (1, [.int (nI n), .int (nI k), .ref g1, .ref g2, .ref g3])), (g1, .inl (cI, 18, .inl (fun i9 => nI (F i9)))), (g2, .inl (cI, 18, .inl (fun i9 => nI (S i9)))), (g3, .inl (cI, 18, .inl w))] H := hP
                have hD : va_D A [(hp, .inr (2, [.ref hg, .ref p1, .ref p2, .int ch, .int bh, .ref p3])), (p1, .inl (cI, 10, .inl C)), (p2, .inl (cI, 18, .inl (upd B1 i (fo (pp_u1 B cr) k 0)))), (p3, .inl (cI, 10, .inl Y)), (hg, .inr (1, [.int (nI n), .int (nI k), .ref g1, .ref g2, .ref g3])), (g1, .inl (cI, 18, .inl (fun i9 => nI (F i9)))), (g2, .inl (cI, 18, .inl (fun i9 => nI (S i9)))), (g3, .inl (cI, 18, .inl w))] := hD
                refine lv_iinc (k := 0) (v := nI (i + 1)) hx hb d_P_uniteBlocks_66 hl rfl (inc_nI _) (Nat.le_of_ble_eq_true rfl) rfl (fun ls hl => ?_)
                have hl : lv_has ls 4 [(3, .int (nI (i + 1))), (2, .int (fo (pp_u1 B cr) k 0)), (0, .ref hp), (1, .int cr)] := hl
                refine lv_goto hx hb d_P_uniteBlocks_69 (tgt := 40) rfl ?_
                have he2 : (upd B1 i (fo (pp_u1 B cr) k 0)) = fo (pp_u2 (fo (pp_u1 B cr) k 0)) (i + 1) B := by
                  rw [fo_s, ← he40]
                  simp [pp_u2, q1, q3, q4]
                exact ih40 (i + 1) (by omega) (upd B1 i (fo (pp_u1 B cr) k 0)) H locs ls he2 hP hD hS (lv_sub hl [0, 1, 2, 3] rfl)
        exact hL40 k 0 (by omega) B H locs ls rfl hP hD hS (lv_sub hl [0, 1, 2, 3] rfl)
      · have q1 : k < k := nq_nle (by omega) (by omega) q1
        exact absurd q1 (by omega)
    | succ kk ih4 =>
      intro i hi4 d H locs ls he4 hP hD hS hl
      refine lv_iload_n hx hb d_P_uniteBlocks_4 rfl (lv_at hl 0 rfl) ?_
      refine lv_aload_n hx hb d_P_uniteBlocks_5 rfl (lv_at hl 2 rfl) ?_
      refine g_get Sx gf_P hK hP 0 rfl rfl 0 (by decide) gm_106 rfl d_P_uniteBlocks_6 ?_
      refine g_get Sx gf_G hK hP 4 rfl rfl 1 (by decide) gm_80 rfl d_P_uniteBlocks_9 ?_
      refine lv_icmp_ge hx hb d_P_uniteBlocks_12 (tgt := 38) rfl (fun q5 => ?_) (fun q5 => ?_)
      · have q5 : k ≤ i := nq_le (by omega) (by omega) q5
        exact absurd q5 (by omega)
      · have q5 : i < k := nq_nle (by omega) (by omega) q5
        refine lv_iload_n hx hb d_P_uniteBlocks_15 rfl (lv_at hl 3 rfl) ?_
        refine lv_iload_n hx hb d_P_uniteBlocks_16 rfl (lv_at hl 0 rfl) ?_
        refine ro_S (As := [.int cr, .int (nI i)]) (rest := []) Sx (c_B_has l dC dI cr (nI i)) (gw_callS gm_249 gm_250 gm_57 gm_251) hd_B_has ⟨rfl, rfl⟩ ⟨Nat.le_of_ble_eq_true rfl, Nat.le_of_ble_eq_true rfl⟩ (va_P_map hP [] rfl) (hK.sub (tys' := []) [] rfl) rfl hl.1 rfl (Nat.le_of_ble_eq_true rfl) d_P_uniteBlocks_17 ⟨Nat.zero_le _, Nat.zero_le _⟩ ?_
        refine lv_if_eq hx hb d_P_uniteBlocks_20 (tgt := 32) rfl (fun q6 => ?_) (fun q6 => ?_)
        · have q6 : (ps_has cr (nI i)) = false := bI_0.mp q6
          refine lv_iinc (k := 0) (v := nI (i + 1)) hx hb d_P_uniteBlocks_32 hl rfl (inc_nI _) (Nat.le_of_ble_eq_true rfl) rfl (fun ls hl => ?_)
          have hl : lv_has ls 4 [(3, .int (nI (i + 1))), (2, .int d), (0, .ref hp), (1, .int cr)] := hl
          refine lv_goto hx hb d_P_uniteBlocks_35 (tgt := 4) rfl ?_
          have he2 : d = fo (pp_u1 B cr) (i + 1) 0 := by
            rw [fo_s, ← he4]
            simp [pp_u1, q5, q6]
          exact ih4 (i + 1) (by omega) d H locs ls he2 hP hD hS (lv_sub hl [0, 1, 2, 3] rfl)
        · have q6 : (ps_has cr (nI i)) = true := bI_1.mp q6
          refine lv_iload_n hx hb d_P_uniteBlocks_23 rfl (lv_at hl 1 rfl) ?_
          refine lv_aload_n hx hb d_P_uniteBlocks_24 rfl (lv_at hl 2 rfl) ?_
          refine g_get Sx gf_P hK hP 0 rfl rfl 2 (by decide) gm_109 rfl d_P_uniteBlocks_25 ?_
          refine lv_iload_n hx hb d_P_uniteBlocks_28 rfl (lv_at hl 0 rfl) ?_
          refine g_ild (j := i) Sx hK hP 2 0 rfl rfl (by omega) (by decide) d_P_uniteBlocks_29 ?_
          refine lv_ior hx hb d_P_uniteBlocks_30 ?_
          refine lv_istore_n hx hb d_P_uniteBlocks_31 rfl hl (Nat.le_of_ble_eq_true rfl) rfl (fun ls hl => ?_)
          have hl : lv_has ls 4 [(2, .int (d ||| (B i))), (3, .int (nI i)), (0, .ref hp), (1, .int cr)] := hl
          refine lv_iinc (k := 1) (v := nI (i + 1)) hx hb d_P_uniteBlocks_32 hl rfl (inc_nI _) (Nat.le_of_ble_eq_true rfl) rfl (fun ls hl => ?_)
          have hl : lv_has ls 4 [(3, .int (nI (i + 1))), (2, .int (d ||| (B i))), (0, .ref hp), (1, .int cr)] := hl
          refine lv_goto hx hb d_P_uniteBlocks_35 (tgt := 4) rfl ?_
          have he2 : (d ||| (B i)) = fo (pp_u1 B cr) (i + 1) 0 := by
            rw [fo_s, ← he4]
            simp [pp_u1, q5, q6]
          exact ih4 (i + 1) (by omega) (d ||| (B i)) H locs ls he2 hP hD hS (lv_sub hl [0, 1, 2, 3] rfl)
  exact hL4 k 0 (by omega) 0 H locs ls rfl hP hD hS (lv_sub hl [0, 1, 2, 3] rfl)
theorem d_P_joinComponents_0 : decode k_P_joinComponents 0 = .ok (.iconst 0, 1) := by decide +kernel
theorem d_P_joinComponents_1 : decode k_P_joinComponents 1 = .ok (.istore 4, 2) := by decide +kernel
theorem d_P_joinComponents_3 : decode k_P_joinComponents 3 = .ok (.iload 4, 2) := by decide +kernel
theorem d_P_joinComponents_5 : decode k_P_joinComponents 5 = .ok (.aload_n 0, 1) := by decide +kernel
theorem d_P_joinComponents_6 : decode k_P_joinComponents 6 = .ok (.getfield 21, 3) := by decide +kernel
theorem d_P_joinComponents_9 : decode k_P_joinComponents 9 = .ok (.getfield 25, 3) := by decide +kernel
theorem d_P_joinComponents_12 : decode k_P_joinComponents 12 = .ok (.if_icmp .ge 50, 3) := by decide +kernel
theorem d_P_joinComponents_15 : decode k_P_joinComponents 15 = .ok (.iload_n 1, 1) := by decide +kernel
theorem d_P_joinComponents_16 : decode k_P_joinComponents 16 = .ok (.iload_n 2, 1) := by decide +kernel
theorem d_P_joinComponents_17 : decode k_P_joinComponents 17 = .ok (.ior, 1) := by decide +kernel
theorem d_P_joinComponents_18 : decode k_P_joinComponents 18 = .ok (.iload 4, 2) := by decide +kernel
theorem d_P_joinComponents_20 : decode k_P_joinComponents 20 = .ok (.invokestatic 34, 3) := by decide +kernel
theorem d_P_joinComponents_23 : decode k_P_joinComponents 23 = .ok (.ifCond .eq 13, 3) := by decide +kernel
theorem d_P_joinComponents_26 : decode k_P_joinComponents 26 = .ok (.aload_n 0, 1) := by decide +kernel
theorem d_P_joinComponents_27 : decode k_P_joinComponents 27 = .ok (.getfield 9, 3) := by decide +kernel
theorem d_P_joinComponents_30 : decode k_P_joinComponents 30 = .ok (.iload 4, 2) := by decide +kernel
theorem d_P_joinComponents_32 : decode k_P_joinComponents 32 = .ok (.iload_n 1, 1) := by decide +kernel
theorem d_P_joinComponents_33 : decode k_P_joinComponents 33 = .ok (.iload_n 2, 1) := by decide +kernel
theorem d_P_joinComponents_34 : decode k_P_joinComponents 34 = .ok (.ior, 1) := by decide +kernel
theorem d_P_joinComponents_35 : decode k_P_joinComponents 35 = .ok (.iastore, 1) := by decide +kernel
theorem d_P_joinComponents_36 : decode k_P_joinComponents 36 = .ok (.iload_n 2, 1) := by decide +kernel
theorem d_P_joinComponents_37 : decode k_P_joinComponents 37 = .ok (.iload 4, 2) := by decide +kernel
theorem d_P_joinComponents_39 : decode k_P_joinComponents 39 = .ok (.invokestatic 34, 3) := by decide +kernel
theorem d_P_joinComponents_42 : decode k_P_joinComponents 42 = .ok (.ifCond .eq 14, 3) := by decide +kernel
theorem d_P_joinComponents_45 : decode k_P_joinComponents 45 = .ok (.aload_n 0, 1) := by decide +kernel
theorem d_P_joinComponents_46 : decode k_P_joinComponents 46 = .ok (.getfield 18, 3) := by decide +kernel
theorem d_P_joinComponents_49 : decode k_P_joinComponents 49 = .ok (.iload 4, 2) := by decide +kernel
theorem d_P_joinComponents_51 : decode k_P_joinComponents 51 = .ok (.dup2, 1) := by decide +kernel
theorem d_P_joinComponents_52 : decode k_P_joinComponents 52 = .ok (.iaload, 1) := by decide +kernel
theorem d_P_joinComponents_53 : decode k_P_joinComponents 53 = .ok (.iload_n 3, 1) := by decide +kernel
theorem d_P_joinComponents_54 : decode k_P_joinComponents 54 = .ok (.ixor, 1) := by decide +kernel
theorem d_P_joinComponents_55 : decode k_P_joinComponents 55 = .ok (.iastore, 1) := by decide +kernel
theorem d_P_joinComponents_56 : decode k_P_joinComponents 56 = .ok (.iinc 4 1, 3) := by decide +kernel
theorem d_P_joinComponents_59 : decode k_P_joinComponents 59 = .ok (.goto (-56), 3) := by decide +kernel
theorem d_P_joinComponents_62 : decode k_P_joinComponents 62 = .ok (.return_, 1) := by decide +kernel
abbrev rm_P_joinComponents : Room := { frames := 1, cells := 0, slots := 0, locals := 21 }
theorem hd_P_joinComponents : y_P_joinComponents.cls = n_P ∧ y_P_joinComponents.cls ≠ "java/lang/invoke/MethodHandle" ∧ y_P_joinComponents.cls ≠ "java/lang/invoke/VarHandle" ∧ (parseMethodDescriptor y_P_joinComponents.desc).map (fun d => d.parameters.length) = some 3 := by decide +kernel
set_option maxHeartbeats 4000000 in
set_option maxRecDepth 100000 in
theorem c_P_joinComponents (l : Launch) (dC : Nat → ClassId) (dI : Nat → Nat → Nat) (n : Nat) (k : Nat) (F : Nat → Nat) (S : Nat → Nat) (w : Nat → Int32) (hg : Nat) (g1 : Nat) (g2 : Nat) (g3 : Nat) (cI : ClassId) (C : Nat → Int32) (B : Nat → Int32) (Y : Nat → Int32) (ch : Int32) (bh : Int32) (hp : Nat) (p1 : Nat) (p2 : Nat) (p3 : Nat) (a : Int32) (b : Int32) (z : Int32) (sz : Nat) (hn : n ≤ 10) : Met l y_P_joinComponents (.code y_P_joinComponents k_P_joinComponents 5 none :: gw) rm_P_joinComponents (rwP [.ref hp, .int a, .int b, .int z] (dC, dI) [(hp, .inr (2, [.ref hg, .ref p1, .ref p2, .int ch, .int bh, .ref p3])), (p1, .inl (cI, 10, .inl C)), (p2, .inl (cI, 18, .inl B)), (p3, .inl (cI, 10, .inl Y)), (hg, .inr (1, [.int (nI n), .int (nI k), .ref g1, .ref g2, .ref g3])), (g1, .inl (cI, 18, .inl (fun i9 => nI (F i9)))), (g2, .inl (cI, 18, .inl (fun i9 => nI (S i9)))), (g3, .inl (cI, 18, .inl w))] [(cI, .int)] sz) (va_Qv (fun _ : Unit => True) (rwB (dC, dI) [(hp, .inr (2, [.ref hg, .ref p1, .ref p2, .int ch, .int bh, .ref p3])), (p1, .inl (cI, 10, .inl ((fo (pp_jn a b z) n (C, Y)).1))), (p2, .inl (cI, 18, .inl B)), (p3, .inl (cI, 10, .inl ((fo (pp_jn a b z) n (C, Y)).2))), (hg, .inr (1, [.int (nI n), .int (nI k), .ref g1, .ref g2, .ref g3])), (g1, .inl (cI, 18, .inl (fun i9 => nI (F i9)))), (g2, .inl (cI, 18, .inl (fun i9 => nI (S i9)))), (g3, .inl (cI, 18, .inl w))] [(cI, .int)] (va_A [(hp, .inr (2, [.ref hg, .ref p1, .ref p2, .int ch, .int bh, .ref p3])), (p1, .inl (cI, 10, .inl C)), (p2, .inl (cI, 18, .inl B)), (p3, .inl (cI, 10, .inl Y)), (hg, .inr (1, [.int (nI n), .int (nI k), .ref g1, .ref g2, .ref g3])), (g1, .inl (cI, 18, .inl (fun i9 => nI (F i9)))), (g2, .inl (cI, 18, .inl (fun i9 => nI (S i9)))), (g3, .inl (cI, 18, .inl w))] sz)) (va_A [(hp, .inr (2, [.ref hg, .ref p1, .ref p2, .int ch, .int bh, .ref p3])), (p1, .inl (cI, 10, .inl C)), (p2, .inl (cI, 18, .inl B)), (p3, .inl (cI, 10, .inl Y)), (hg, .inr (1, [.int (nI n), .int (nI k), .ref g1, .ref g2, .ref g3])), (g1, .inl (cI, 18, .inl (fun i9 => nI (F i9)))), (g2, .inl (cI, 18, .inl (fun i9 => nI (S i9)))), (g3, .inl (cI, 18, .inl w))] sz)) 0 0 (va_A [(hp, .inr (2, [.ref hg, .ref p1, .ref p2, .int ch, .int bh, .ref p3])), (p1, .inl (cI, 10, .inl C)), (p2, .inl (cI, 18, .inl B)), (p3, .inl (cI, 10, .inl Y)), (hg, .inr (1, [.int (nI n), .int (nI k), .ref g1, .ref g2, .ref g3])), (g1, .inl (cI, 18, .inl (fun i9 => nI (F i9)))), (g2, .inl (cI, 18, .inl (fun i9 => nI (S i9)))), (g3, .inl (cI, 18, .inl w))] sz) := by
  refine rw_met (by decide) ⟨rfl, rfl⟩ (Nat.le_of_ble_eq_true rfl) ?_
  intro p e s m args below meth c Q A ls Sx hP hK hD hA hl hret
  have hx := Sx.1
  have hb := Sx.2.1
  have hl : lv_has ls 5 [(0, .ref hp), (1, .int a), (2, .int b), (3, .int z)] := hl
  have hS : va_S A s.heap s.heap [] := va_S.rf
  obtain ⟨H, hH⟩ : ∃ H, H = s.heap := ⟨_, rfl⟩
  obtain ⟨locs, hlo⟩ : ∃ locs : List Loc, locs = [] := ⟨_, rfl⟩
  rw [← hlo]
  rw [← hlo] at hS
  have hP : va_P (dC, dI) pcl [(hp, .inr (2, [.ref hg, .ref p1, .ref p2, .int ch, .int bh, .ref p3])), (p1, .inl (cI, 10, .inl C)), (p2, .inl (cI, 18, .inl B)), (p3, .inl (cI, 10, .inl Y)), (hg, .inr (1, [.int (nI n), .int (nI k), .ref g1, .ref g2, .ref g3])), (g1, .inl (cI, 18, .inl (fun i9 => nI (F i9)))), (g2, .inl (cI, 18, .inl (fun i9 => nI (S i9)))), (g3, .inl (cI, 18, .inl w))] H := by rw [hH]; exact hP
  have hS : va_S A s.heap H locs := by rw [hH]; exact hS
  suffices hgo : W p l e rm_P_joinComponents s m args below meth c H locs 0 0 Q (F0 m 0 ls []) by rw [hH] at hgo; exact hgo
  refine lv_iconst (v := nI 0) hx hb d_P_joinComponents_0 (by decide) ?_
  refine lv_istore hx hb d_P_joinComponents_1 hl (Nat.le_of_ble_eq_true rfl) rfl (fun ls hl => ?_)
  have hl : lv_has ls 5 [(4, .int (nI 0)), (0, .ref hp), (1, .int a), (2, .int b), (3, .int z)] := hl
  have hL3 : ∀ (kk i : Nat), i + kk = n → ∀ (C1 : Nat → Int32) (Y1 : Nat → Int32) (H : Heap) (locs : List Loc) (ls : Array Slot), (C1, Y1) = fo (pp_jn a b z) i (C, Y) → va_P (dC, dI) pcl [(hp, .inr (2, [.ref hg, .ref p1, .ref p2, .int ch, .int bh, .ref p3])), (p1, .inl (cI, 10, .inl C1)), (p2, .inl (cI, 18, .inl B)), (p3, .inl (cI, 10, .inl Y1)), (hg, .inr (1, [.int (nI n), .int (nI k), .ref g1, .ref g2, .ref g3])), (g1, .inl (cI, 18, .inl (fun i9 => nI (F i9)))), (g2, .inl (cI, 18, .inl (fun i9 => nI (S i9)))), (g3, .inl (cI, 18, .inl w))] H → va_D A [(hp, .inr (2, [.ref hg, .ref p1, .ref p2, .int ch, .int bh, .ref p3])), (p1, .inl (cI, 10, .inl C1)), (p2, .inl (cI, 18, .inl B)), (p3, .inl (cI, 10, .inl Y1)), (hg, .inr (1, [.int (nI n), .int (nI k), .ref g1, .ref g2, .ref g3])), (g1, .inl (cI, 18, .inl (fun i9 => nI (F i9)))), (g2, .inl (cI, 18, .inl (fun i9 => nI (S i9)))), (g3, .inl (cI, 18, .inl w))] → va_S A s.heap H locs → lv_has ls 5 [(4, .int (nI i)), (0, .ref hp), (1, .int a), (2, .int b), (3, .int z)] → W p l e rm_P_joinComponents s m args below meth c H locs 0 0 Q (F0 m 3 ls []) := by
    intro kk
    induction kk with
    | zero =>
      intro i hi3 C1 Y1 H locs ls he3 hP hD hS hl
      have hj3 : i = n := by omega
      rw [hj3] at hl he3
      have e_C1 : C1 = (fo (pp_jn a b z) n (C, Y)).1 := by rw [← he3]
      subst e_C1
      have e_Y1 : Y1 = (fo (pp_jn a b z) n (C, Y)).2 := by rw [← he3]
      subst e_Y1
      have hl : lv_has ls 5 [(4, .int (nI n)), (0, .ref hp), (1, .int a), (2, .int b), (3, .int z)] := hl
      have hP : va_P (dC, dI) pcl [(hp, .inr (2, [.ref hg, .ref p1, .ref p2, .int ch, .int bh, .ref p3])), (p1, .inl (cI, 10, .inl ((fo (pp_jn a b z) n (C, Y)).1))), (p2, .inl (cI, 18, .inl B)), (p3, .inl (cI, 10, .inl ((fo (pp_jn a b z) n (C, Y)).2))), (hg, .inr (1, [.int (nI n), .int (nI k), .ref g1, .ref g2, .ref g3])), (g1, .inl (cI, 18, .inl (fun i9 => nI (F i9)))), (g2, .inl (cI, 18, .inl (fun i9 => nI (S i9)))), (g3, .inl (cI, 18, .inl w))] H := hP
      have hD : va_D A [(hp, .inr (2, [.ref hg, .ref p1, .ref p2, .int ch, .int bh, .ref p3])), (p1, .inl (cI, 10, .inl ((fo (pp_jn a b z) n (C, Y)).1))), (p2, .inl (cI, 18, .inl B)), (p3, .inl (cI, 10, .inl ((fo (pp_jn a b z) n (C, Y)).2))), (hg, .inr (1, [.int (nI n), .int (nI k), .ref g1, .ref g2, .ref g3])), (g1, .inl (cI, 18, .inl (fun i9 => nI (F i9)))), (g2, .inl (cI, 18, .inl (fun i9 => nI (S i9)))), (g3, .inl (cI, 18, .inl w))] := hD
      refine lv_iload hx hb d_P_joinComponents_3 (lv_at hl 0 rfl) ?_
      refine lv_aload_n hx hb d_P_joinComponents_5 rfl (lv_at hl 1 rfl) ?_
      refine g_get Sx gf_P hK hP 0 rfl rfl 0 (by decide) gm_106 rfl d_P_joinComponents_6 ?_
      refine g_get Sx gf_G hK hP 4 rfl rfl 0 (by decide) gm_74 rfl d_P_joinComponents_9 ?_
      refine lv_icmp_ge hx hb d_P_joinComponents_12 (tgt := 62) rfl (fun q1 => ?_) (fun q1 => ?_)
      · have q1 : n ≤ n := nq_le (by omega) (by omega) q1
        exact hret _ H locs _ d_P_joinComponents_62 hP hD hS
      · have q1 : n < n := nq_nle (by omega) (by omega) q1
        exact absurd q1 (by omega)
    | succ kk ih3 =>
      intro i hi3 C1 Y1 H locs ls he3 hP hD hS hl
      refine lv_iload hx hb d_P_joinComponents_3 (lv_at hl 0 rfl) ?_
      refine lv_aload_n hx hb d_P_joinComponents_5 rfl (lv_at hl 1 rfl) ?_
      refine g_get Sx gf_P hK hP 0 rfl rfl 0 (by decide) gm_106 rfl d_P_joinComponents_6 ?_
      refine g_get Sx gf_G hK hP 4 rfl rfl 0 (by decide) gm_74 rfl d_P_joinComponents_9 ?_
      refine lv_icmp_ge hx hb d_P_joinComponents_12 (tgt := 62) rfl (fun q2 => ?_) (fun q2 => ?_)
      · have q2 : n ≤ i := nq_le (by omega) (by omega) q2
        exact absurd q2 (by omega)
      · have q2 : i < n := nq_nle (by omega) (by omega) q2
        refine lv_iload_n hx hb d_P_joinComponents_15 rfl (lv_at hl 2 rfl) ?_
        refine lv_iload_n hx hb d_P_joinComponents_16 rfl (lv_at hl 3 rfl) ?_
        refine lv_ior hx hb d_P_joinComponents_17 ?_
        refine lv_iload hx hb d_P_joinComponents_18 (lv_at hl 0 rfl) ?_
        refine ro_S (As := [.int (a ||| b), .int (nI i)]) (rest := []) Sx (c_B_has l dC dI (a ||| b) (nI i)) (gw_callS gm_249 gm_250 gm_57 gm_251) hd_B_has ⟨rfl, rfl⟩ ⟨Nat.le_of_ble_eq_true rfl, Nat.le_of_ble_eq_true rfl⟩ (va_P_map hP [] rfl) (hK.sub (tys' := []) [] rfl) rfl hl.1 rfl (Nat.le_of_ble_eq_true rfl) d_P_joinComponents_20 ⟨Nat.zero_le _, Nat.zero_le _⟩ ?_
        refine lv_if_eq hx hb d_P_joinComponents_23 (tgt := 36) rfl (fun q3 => ?_) (fun q3 => ?_)
        · have q3 : (ps_has (a ||| b) (nI i)) = false := bI_0.mp q3
          refine lv_iload_n hx hb d_P_joinComponents_36 rfl (lv_at hl 3 rfl) ?_
          refine lv_iload hx hb d_P_joinComponents_37 (lv_at hl 0 rfl) ?_
          refine ro_S (As := [.int b, .int (nI i)]) (rest := []) Sx (c_B_has l dC dI b (nI i)) (gw_callS gm_249 gm_250 gm_57 gm_251) hd_B_has ⟨rfl, rfl⟩ ⟨Nat.le_of_ble_eq_true rfl, Nat.le_of_ble_eq_true rfl⟩ (va_P_map hP [] rfl) (hK.sub (tys' := []) [] rfl) rfl hl.1 rfl (Nat.le_of_ble_eq_true rfl) d_P_joinComponents_39 ⟨Nat.zero_le _, Nat.zero_le _⟩ ?_
          refine lv_if_eq hx hb d_P_joinComponents_42 (tgt := 56) rfl (fun q4 => ?_) (fun q4 => ?_)
          · have q4 : (ps_has b (nI i)) = false := bI_0.mp q4
            refine lv_iinc (k := 0) (v := nI (i + 1)) hx hb d_P_joinComponents_56 hl rfl (inc_nI _) (Nat.le_of_ble_eq_true rfl) rfl (fun ls hl => ?_)
            have hl : lv_has ls 5 [(4, .int (nI (i + 1))), (0, .ref hp), (1, .int a), (2, .int b), (3, .int z)] := hl
            refine lv_goto hx hb d_P_joinComponents_59 (tgt := 3) rfl ?_
            have he2 : (C1, Y1) = fo (pp_jn a b z) (i + 1) (C, Y) := by
              rw [fo_s, ← he3]
              simp [pp_jn, q2, q3, q4]
            exact ih3 (i + 1) (by omega) C1 Y1 H locs ls he2 hP hD hS (lv_sub hl [0, 1, 2, 3, 4] rfl)
          · have q4 : (ps_has b (nI i)) = true := bI_1.mp q4
            refine lv_aload_n hx hb d_P_joinComponents_45 rfl (lv_at hl 1 rfl) ?_
            refine g_get Sx gf_P hK hP 0 rfl rfl 5 (by decide) gm_117 rfl d_P_joinComponents_46 ?_
            refine lv_iload hx hb d_P_joinComponents_49 (lv_at hl 0 rfl) ?_
            refine lv_dup2_11 hx hb d_P_joinComponents_51 rfl rfl ?_
            refine g_ild (j := i) Sx hK hP 3 0 rfl rfl (by omega) (by decide) d_P_joinComponents_52 ?_
            refine lv_iload_n hx hb d_P_joinComponents_53 rfl (lv_at hl 4 rfl) ?_
            refine lv_ixor hx hb d_P_joinComponents_54 ?_
            refine g_ist (j := i) Sx hK hP hD hS 3 0 rfl rfl (by omega) (by decide) d_P_joinComponents_55 (fun H locs hP hD hS => ?_)
            have hP : va_P (dC, dI) pcl [(hp, .inr (2, [.ref hg, .ref p1, .ref p2, .int ch, .int bh, .ref p3])), (p1, .inl (cI, 10, .inl C1)), (p2, .inl (cI, 18, .inl B)), (p3, .inl (cI, 10, .inl (upd Y1 i ((Y1 i) ^^^ z)))), (hg, .inr (1, [.int (nI n), .int (nI k), .ref g1, .ref g2, .ref g3])), (g1, .inl (cI, 18, .inl (fun i9 => nI (F i9)))), (g2, .inl (cI, 18, .inl (fun i9 => nI (S i9)))), (g3, .inl (cI, 18, .inl w))] H := hP
            have hD : va_D A [(hp, .inr (2, [.ref hg, .ref p1, .ref p2, .int ch, .int bh, .ref p3])), (p1, .inl (cI, 10, .inl C1)), (p2, .inl (cI, 18, .inl B)), (p3, .inl (cI, 10, .inl (upd Y1 i ((Y1 i) ^^^ z)))), (hg, .inr (1, [.int (nI n), .int (nI k), .ref g1, .ref g2, .ref g3])), (g1, .inl (cI, 18, .inl (fun i9 => nI (F i9)))), (g2, .inl (cI, 18, .inl (fun i9 => nI (S i9)))), (g3, .inl (cI, 18, .inl w))] := hD
            refine lv_iinc (k := 0) (v := nI (i + 1)) hx hb d_P_joinComponents_56 hl rfl (inc_nI _) (Nat.le_of_ble_eq_true rfl) rfl (fun ls hl => ?_)
            have hl : lv_has ls 5 [(4, .int (nI (i + 1))), (0, .ref hp), (1, .int a), (2, .int b), (3, .int z)] := hl
            refine lv_goto hx hb d_P_joinComponents_59 (tgt := 3) rfl ?_
            have he2 : (C1, upd Y1 i ((Y1 i) ^^^ z)) = fo (pp_jn a b z) (i + 1) (C, Y) := by
              rw [fo_s, ← he3]
              simp [pp_jn, q2, q3, q4]
            exact ih3 (i + 1) (by omega) C1 (upd Y1 i ((Y1 i) ^^^ z)) H locs ls he2 hP hD hS (lv_sub hl [0, 1, 2, 3, 4] rfl)
        · have q3 : (ps_has (a ||| b) (nI i)) = true := bI_1.mp q3
          refine lv_aload_n hx hb d_P_joinComponents_26 rfl (lv_at hl 1 rfl) ?_
          refine g_get Sx gf_P hK hP 0 rfl rfl 1 (by decide) gm_107 rfl d_P_joinComponents_27 ?_
          refine lv_iload hx hb d_P_joinComponents_30 (lv_at hl 0 rfl) ?_
          refine lv_iload_n hx hb d_P_joinComponents_32 rfl (lv_at hl 2 rfl) ?_
          refine lv_iload_n hx hb d_P_joinComponents_33 rfl (lv_at hl 3 rfl) ?_
          refine lv_ior hx hb d_P_joinComponents_34 ?_
          refine g_ist (j := i) Sx hK hP hD hS 1 0 rfl rfl (by omega) (by decide) d_P_joinComponents_35 (fun H locs hP hD hS => ?_)
          have hP : va_P (dC, dI) pcl [(hp, .inr (2, [.ref hg, .ref p1, .ref p2, .int ch, .int bh, .ref p3])), (p1, .inl (cI, 10, .inl (upd C1 i (a ||| b)))), (p2, .inl (cI, 18, .inl B)), (p3, .inl (cI, 10, .inl Y1)), (hg, .inr (1, [.int (nI n), .int (nI k), .ref g1, .ref g2, .ref g3])), (g1, .inl (cI, 18, .inl (fun i9 => nI (F i9)))), (g2, .inl (cI, 18, .inl (fun i9 => nI (S i9)))), (g3, .inl (cI, 18, .inl w))] H := hP
          have hD : va_D A [(hp, .inr (2, [.ref hg, .ref p1, .ref p2, .int ch, .int bh, .ref p3])), (p1, .inl (cI, 10, .inl (upd C1 i (a ||| b)))), (p2, .inl (cI, 18, .inl B)), (p3, .inl (cI, 10, .inl Y1)), (hg, .inr (1, [.int (nI n), .int (nI k), .ref g1, .ref g2, .ref g3])), (g1, .inl (cI, 18, .inl (fun i9 => nI (F i9)))), (g2, .inl (cI, 18, .inl (fun i9 => nI (S i9)))), (g3, .inl (cI, 18, .inl w))] := hD
          refine lv_iload_n hx hb d_P_joinComponents_36 rfl (lv_at hl 3 rfl) ?_
          refine lv_iload hx hb d_P_joinComponents_37 (lv_at hl 0 rfl) ?_
          refine ro_S (As := [.int b, .int (nI i)]) (rest := []) Sx (c_B_has l dC dI b (nI i)) (gw_callS gm_249 gm_250 gm_57 gm_251) hd_B_has ⟨rfl, rfl⟩ ⟨Nat.le_of_ble_eq_true rfl, Nat.le_of_ble_eq_true rfl⟩ (va_P_map hP [] rfl) (hK.sub (tys' := []) [] rfl) rfl hl.1 rfl (Nat.le_of_ble_eq_true rfl) d_P_joinComponents_39 ⟨Nat.zero_le _, Nat.zero_le _⟩ ?_
          refine lv_if_eq hx hb d_P_joinComponents_42 (tgt := 56) rfl (fun q5 => ?_) (fun q5 => ?_)
          · have q5 : (ps_has b (nI i)) = false := bI_0.mp q5
            refine lv_iinc (k := 0) (v := nI (i + 1)) hx hb d_P_joinComponents_56 hl rfl (inc_nI _) (Nat.le_of_ble_eq_true rfl) rfl (fun ls hl => ?_)
            have hl : lv_has ls 5 [(4, .int (nI (i + 1))), (0, .ref hp), (1, .int a), (2, .int b), (3, .int z)] := hl
            refine lv_goto hx hb d_P_joinComponents_59 (tgt := 3) rfl ?_
            have he2 : (upd C1 i (a ||| b), Y1) = fo (pp_jn a b z) (i + 1) (C, Y) := by
              rw [fo_s, ← he3]
              simp [pp_jn, q2, q3, q5]
            exact ih3 (i + 1) (by omega) (upd C1 i (a ||| b)) Y1 H locs ls he2 hP hD hS (lv_sub hl [0, 1, 2, 3, 4] rfl)
          · have q5 : (ps_has b (nI i)) = true := bI_1.mp q5
            refine lv_aload_n hx hb d_P_joinComponents_45 rfl (lv_at hl 1 rfl) ?_
            refine g_get Sx gf_P hK hP 0 rfl rfl 5 (by decide) gm_117 rfl d_P_joinComponents_46 ?_
            refine lv_iload hx hb d_P_joinComponents_49 (lv_at hl 0 rfl) ?_
            refine lv_dup2_11 hx hb d_P_joinComponents_51 rfl rfl ?_
            refine g_ild (j := i) Sx hK hP 3 0 rfl rfl (by omega) (by decide) d_P_joinComponents_52 ?_
            refine lv_iload_n hx hb d_P_joinComponents_53 rfl (lv_at hl 4 rfl) ?_
            refine lv_ixor hx hb d_P_joinComponents_54 ?_
            refine g_ist (j := i) Sx hK hP hD hS 3 0 rfl rfl (by omega) (by decide) d_P_joinComponents_55 (fun H locs hP hD hS => ?_)
            have hP : va_P (dC, dI) pcl [(hp, .inr (2, [.ref hg, .ref p1, .ref p2, .int ch, .int bh, .ref p3])), (p1, .inl (cI, 10, .inl (upd C1 i (a ||| b)))), (p2, .inl (cI, 18, .inl B)), (p3, .inl (cI, 10, .inl (upd Y1 i ((Y1 i) ^^^ z)))), (hg, .inr (1, [.int (nI n), .int (nI k), .ref g1, .ref g2, .ref g3])), (g1, .inl (cI, 18, .inl (fun i9 => nI (F i9)))), (g2, .inl (cI, 18, .inl (fun i9 => nI (S i9)))), (g3, .inl (cI, 18, .inl w))] H := hP
            have hD : va_D A [(hp, .inr (2, [.ref hg, .ref p1, .ref p2, .int ch, .int bh, .ref p3])), (p1, .inl (cI, 10, .inl (upd C1 i (a ||| b)))), (p2, .inl (cI, 18, .inl B)), (p3, .inl (cI, 10, .inl (upd Y1 i ((Y1 i) ^^^ z)))), (hg, .inr (1, [.int (nI n), .int (nI k), .ref g1, .ref g2, .ref g3])), (g1, .inl (cI, 18, .inl (fun i9 => nI (F i9)))), (g2, .inl (cI, 18, .inl (fun i9 => nI (S i9)))), (g3, .inl (cI, 18, .inl w))] := hD
            refine lv_iinc (k := 0) (v := nI (i + 1)) hx hb d_P_joinComponents_56 hl rfl (inc_nI _) (Nat.le_of_ble_eq_true rfl) rfl (fun ls hl => ?_)
            have hl : lv_has ls 5 [(4, .int (nI (i + 1))), (0, .ref hp), (1, .int a), (2, .int b), (3, .int z)] := hl
            refine lv_goto hx hb d_P_joinComponents_59 (tgt := 3) rfl ?_
            have he2 : (upd C1 i (a ||| b), upd Y1 i ((Y1 i) ^^^ z)) = fo (pp_jn a b z) (i + 1) (C, Y) := by
              rw [fo_s, ← he3]
              simp [pp_jn, q2, q3, q5]
            exact ih3 (i + 1) (by omega) (upd C1 i (a ||| b)) (upd Y1 i ((Y1 i) ^^^ z)) H locs ls he2 hP hD hS (lv_sub hl [0, 1, 2, 3, 4] rfl)
  exact hL3 n 0 (by omega) C Y H locs ls rfl hP hD hS (lv_sub hl [0, 1, 2, 3, 4] rfl)
theorem d_P_place_0 : decode k_P_place 0 = .ok (.aload_n 0, 1) := by decide +kernel
theorem d_P_place_1 : decode k_P_place 1 = .ok (.getfield 18, 3) := by decide +kernel
theorem d_P_place_4 : decode k_P_place 4 = .ok (.iload_n 1, 1) := by decide +kernel
theorem d_P_place_5 : decode k_P_place 5 = .ok (.iaload, 1) := by decide +kernel
theorem d_P_place_6 : decode k_P_place 6 = .ok (.aload_n 0, 1) := by decide +kernel
theorem d_P_place_7 : decode k_P_place 7 = .ok (.getfield 18, 3) := by decide +kernel
theorem d_P_place_10 : decode k_P_place 10 = .ok (.iload_n 2, 1) := by decide +kernel
theorem d_P_place_11 : decode k_P_place 11 = .ok (.iaload, 1) := by decide +kernel
theorem d_P_place_12 : decode k_P_place 12 = .ok (.ixor, 1) := by decide +kernel
theorem d_P_place_13 : decode k_P_place 13 = .ok (.iconst 1, 1) := by decide +kernel
theorem d_P_place_14 : decode k_P_place 14 = .ok (.iload_n 3, 1) := by decide +kernel
theorem d_P_place_15 : decode k_P_place 15 = .ok (.ishl, 1) := by decide +kernel
theorem d_P_place_16 : decode k_P_place 16 = .ok (.ixor, 1) := by decide +kernel
theorem d_P_place_17 : decode k_P_place 17 = .ok (.istore 4, 2) := by decide +kernel
theorem d_P_place_19 : decode k_P_place 19 = .ok (.aload_n 0, 1) := by decide +kernel
theorem d_P_place_20 : decode k_P_place 20 = .ok (.getfield 9, 3) := by decide +kernel
theorem d_P_place_23 : decode k_P_place 23 = .ok (.iload_n 1, 1) := by decide +kernel
theorem d_P_place_24 : decode k_P_place 24 = .ok (.iaload, 1) := by decide +kernel
theorem d_P_place_25 : decode k_P_place 25 = .ok (.iload_n 2, 1) := by decide +kernel
theorem d_P_place_26 : decode k_P_place 26 = .ok (.invokestatic 34, 3) := by decide +kernel
theorem d_P_place_29 : decode k_P_place 29 = .ok (.ifCond .eq 12, 3) := by decide +kernel
theorem d_P_place_32 : decode k_P_place 32 = .ok (.aload_n 0, 1) := by decide +kernel
theorem d_P_place_33 : decode k_P_place 33 = .ok (.iload 4, 2) := by decide +kernel
theorem d_P_place_35 : decode k_P_place 35 = .ok (.invokevirtual 60, 3) := by decide +kernel
theorem d_P_place_38 : decode k_P_place 38 = .ok (.goto 21, 3) := by decide +kernel
theorem d_P_place_41 : decode k_P_place 41 = .ok (.aload_n 0, 1) := by decide +kernel
theorem d_P_place_42 : decode k_P_place 42 = .ok (.aload_n 0, 1) := by decide +kernel
theorem d_P_place_43 : decode k_P_place 43 = .ok (.getfield 9, 3) := by decide +kernel
theorem d_P_place_46 : decode k_P_place 46 = .ok (.iload_n 1, 1) := by decide +kernel
theorem d_P_place_47 : decode k_P_place 47 = .ok (.iaload, 1) := by decide +kernel
theorem d_P_place_48 : decode k_P_place 48 = .ok (.aload_n 0, 1) := by decide +kernel
theorem d_P_place_49 : decode k_P_place 49 = .ok (.getfield 9, 3) := by decide +kernel
theorem d_P_place_52 : decode k_P_place 52 = .ok (.iload_n 2, 1) := by decide +kernel
theorem d_P_place_53 : decode k_P_place 53 = .ok (.iaload, 1) := by decide +kernel
theorem d_P_place_54 : decode k_P_place 54 = .ok (.iload 4, 2) := by decide +kernel
theorem d_P_place_56 : decode k_P_place 56 = .ok (.invokevirtual 64, 3) := by decide +kernel
theorem d_P_place_59 : decode k_P_place 59 = .ok (.return_, 1) := by decide +kernel
abbrev rm_P_place : Room := { frames := 2, cells := 0, slots := 0, locals := 45 }
theorem hd_P_place : y_P_place.cls = n_P ∧ y_P_place.cls ≠ "java/lang/invoke/MethodHandle" ∧ y_P_place.cls ≠ "java/lang/invoke/VarHandle" ∧ (parseMethodDescriptor y_P_place.desc).map (fun d => d.parameters.length) = some 3 := by decide +kernel
set_option maxHeartbeats 4000000 in
set_option maxRecDepth 100000 in
theorem c_P_place (l : Launch) (dC : Nat → ClassId) (dI : Nat → Nat → Nat) (n : Nat) (k : Nat) (F : Nat → Nat) (S : Nat → Nat) (w : Nat → Int32) (hg : Nat) (g1 : Nat) (g2 : Nat) (g3 : Nat) (cI : ClassId) (C : Nat → Int32) (B : Nat → Int32) (Y : Nat → Int32) (ch : Int32) (bh : Int32) (hp : Nat) (p1 : Nat) (p2 : Nat) (p3 : Nat) (u : Nat) (v : Nat) (e9 : Nat) (sz : Nat) (hn : n ≤ 10) (hk : k ≤ 18) (hu : u < 10) (hv : v < 10) : Met l y_P_place (.code y_P_place k_P_place 5 none :: gw) rm_P_place (rwP [.ref hp, .int (nI u), .int (nI v), .int (nI e9)] (dC, dI) [(hp, .inr (2, [.ref hg, .ref p1, .ref p2, .int ch, .int bh, .ref p3])), (p1, .inl (cI, 10, .inl C)), (p2, .inl (cI, 18, .inl B)), (p3, .inl (cI, 10, .inl Y)), (hg, .inr (1, [.int (nI n), .int (nI k), .ref g1, .ref g2, .ref g3])), (g1, .inl (cI, 18, .inl (fun i9 => nI (F i9)))), (g2, .inl (cI, 18, .inl (fun i9 => nI (S i9)))), (g3, .inl (cI, 18, .inl w))] [(cI, .int)] sz) (va_Qv (fun _ : Unit => True) (rwB (dC, dI) [(hp, .inr (2, [.ref hg, .ref p1, .ref p2, .int ch, .int bh, .ref p3])), (p1, .inl (cI, 10, .inl ((pp_place n k u v e9 C B Y).1))), (p2, .inl (cI, 18, .inl ((pp_place n k u v e9 C B Y).2.1))), (p3, .inl (cI, 10, .inl ((pp_place n k u v e9 C B Y).2.2))), (hg, .inr (1, [.int (nI n), .int (nI k), .ref g1, .ref g2, .ref g3])), (g1, .inl (cI, 18, .inl (fun i9 => nI (F i9)))), (g2, .inl (cI, 18, .inl (fun i9 => nI (S i9)))), (g3, .inl (cI, 18, .inl w))] [(cI, .int)] (va_A [(hp, .inr (2, [.ref hg, .ref p1, .ref p2, .int ch, .int bh, .ref p3])), (p1, .inl (cI, 10, .inl C)), (p2, .inl (cI, 18, .inl B)), (p3, .inl (cI, 10, .inl Y)), (hg, .inr (1, [.int (nI n), .int (nI k), .ref g1, .ref g2, .ref g3])), (g1, .inl (cI, 18, .inl (fun i9 => nI (F i9)))), (g2, .inl (cI, 18, .inl (fun i9 => nI (S i9)))), (g3, .inl (cI, 18, .inl w))] sz)) (va_A [(hp, .inr (2, [.ref hg, .ref p1, .ref p2, .int ch, .int bh, .ref p3])), (p1, .inl (cI, 10, .inl C)), (p2, .inl (cI, 18, .inl B)), (p3, .inl (cI, 10, .inl Y)), (hg, .inr (1, [.int (nI n), .int (nI k), .ref g1, .ref g2, .ref g3])), (g1, .inl (cI, 18, .inl (fun i9 => nI (F i9)))), (g2, .inl (cI, 18, .inl (fun i9 => nI (S i9)))), (g3, .inl (cI, 18, .inl w))] sz)) 0 0 (va_A [(hp, .inr (2, [.ref hg, .ref p1, .ref p2, .int ch, .int bh, .ref p3])), (p1, .inl (cI, 10, .inl C)), (p2, .inl (cI, 18, .inl B)), (p3, .inl (cI, 10, .inl Y)), (hg, .inr (1, [.int (nI n), .int (nI k), .ref g1, .ref g2, .ref g3])), (g1, .inl (cI, 18, .inl (fun i9 => nI (F i9)))), (g2, .inl (cI, 18, .inl (fun i9 => nI (S i9)))), (g3, .inl (cI, 18, .inl w))] sz) := by
  refine rw_met (by decide) ⟨rfl, rfl⟩ (Nat.le_of_ble_eq_true rfl) ?_
  intro p e s m args below meth c Q A ls Sx hP hK hD hA hl hret
  have hx := Sx.1
  have hb := Sx.2.1
  have hl : lv_has ls 5 [(0, .ref hp), (1, .int (nI u)), (2, .int (nI v)), (3, .int (nI e9))] := hl
  have hS : va_S A s.heap s.heap [] := va_S.rf
  obtain ⟨H, hH⟩ : ∃ H, H = s.heap := ⟨_, rfl⟩
  obtain ⟨locs, hlo⟩ : ∃ locs : List Loc, locs = [] := ⟨_, rfl⟩
  rw [← hlo]
  rw [← hlo] at hS
  have hP : va_P (dC, dI) pcl [(hp, .inr (2, [.ref hg, .ref p1, .ref p2, .int ch, .int bh, .ref p3])), (p1, .inl (cI, 10, .inl C)), (p2, .inl (cI, 18, .inl B)), (p3, .inl (cI, 10, .inl Y)), (hg, .inr (1, [.int (nI n), .int (nI k), .ref g1, .ref g2, .ref g3])), (g1, .inl (cI, 18, .inl (fun i9 => nI (F i9)))), (g2, .inl (cI, 18, .inl (fun i9 => nI (S i9)))), (g3, .inl (cI, 18, .inl w))] H := by rw [hH]; exact hP
  have hS : va_S A s.heap H locs := by rw [hH]; exact hS
  suffices hgo : W p l e rm_P_place s m args below meth c H locs 0 0 Q (F0 m 0 ls []) by rw [hH] at hgo; exact hgo
  refine lv_aload_n hx hb d_P_place_0 rfl (lv_at hl 0 rfl) ?_
  refine g_get Sx gf_P hK hP 0 rfl rfl 5 (by decide) gm_117 rfl d_P_place_1 ?_
  refine lv_iload_n hx hb d_P_place_4 rfl (lv_at hl 1 rfl) ?_
  refine g_ild (j := u) Sx hK hP 3 0 rfl rfl (by omega) (by decide) d_P_place_5 ?_
  refine lv_aload_n hx hb d_P_place_6 rfl (lv_at hl 0 rfl) ?_
  refine g_get Sx gf_P hK hP 0 rfl rfl 5 (by decide) gm_117 rfl d_P_place_7 ?_
  refine lv_iload_n hx hb d_P_place_10 rfl (lv_at hl 2 rfl) ?_
  refine g_ild (j := v) Sx hK hP 3 0 rfl rfl (by omega) (by decide) d_P_place_11 ?_
  refine lv_ixor hx hb d_P_place_12 ?_
  refine lv_iconst (v := 1) hx hb d_P_place_13 (by decide) ?_
  refine lv_iload_n hx hb d_P_place_14 rfl (lv_at hl 3 rfl) ?_
  refine lv_ishl hx hb d_P_place_15 ?_
  refine lv_ixor hx hb d_P_place_16 ?_
  refine lv_istore hx hb d_P_place_17 hl (Nat.le_of_ble_eq_true rfl) rfl (fun ls hl => ?_)
  have hl : lv_has ls 5 [(4, .int (((Y u) ^^^ (Y v)) ^^^ (1 <<< ((nI e9) &&& 31)))), (0, .ref hp), (1, .int (nI u)), (2, .int (nI v)), (3, .int (nI e9))] := hl
  refine lv_aload_n hx hb d_P_place_19 rfl (lv_at hl 1 rfl) ?_
  refine g_get Sx gf_P hK hP 0 rfl rfl 1 (by decide) gm_107 rfl d_P_place_20 ?_
  refine lv_iload_n hx hb d_P_place_23 rfl (lv_at hl 2 rfl) ?_
  refine g_ild (j := u) Sx hK hP 1 0 rfl rfl (by omega) (by decide) d_P_place_24 ?_
  refine lv_iload_n hx hb d_P_place_25 rfl (lv_at hl 3 rfl) ?_
  refine ro_S (As := [.int (C u), .int (nI v)]) (rest := []) Sx (c_B_has l dC dI (C u) (nI v)) (gw_callS gm_249 gm_250 gm_57 gm_251) hd_B_has ⟨rfl, rfl⟩ ⟨Nat.le_of_ble_eq_true rfl, Nat.le_of_ble_eq_true rfl⟩ (va_P_map hP [] rfl) (hK.sub (tys' := []) [] rfl) rfl hl.1 rfl (Nat.le_of_ble_eq_true rfl) d_P_place_26 ⟨Nat.zero_le _, Nat.zero_le _⟩ ?_
  refine lv_if_eq hx hb d_P_place_29 (tgt := 41) rfl (fun q1 => ?_) (fun q1 => ?_)
  · have q1 : (ps_has (C u) (nI v)) = false := bI_0.mp q1
    refine lv_aload_n hx hb d_P_place_41 rfl (lv_at hl 1 rfl) ?_
    refine lv_aload_n hx hb d_P_place_42 rfl (lv_at hl 1 rfl) ?_
    refine g_get Sx gf_P hK hP 0 rfl rfl 1 (by decide) gm_107 rfl d_P_place_43 ?_
    refine lv_iload_n hx hb d_P_place_46 rfl (lv_at hl 2 rfl) ?_
    refine g_ild (j := u) Sx hK hP 1 0 rfl rfl (by omega) (by decide) d_P_place_47 ?_
    refine lv_aload_n hx hb d_P_place_48 rfl (lv_at hl 1 rfl) ?_
    refine g_get Sx gf_P hK hP 0 rfl rfl 1 (by decide) gm_107 rfl d_P_place_49 ?_
    refine lv_iload_n hx hb d_P_place_52 rfl (lv_at hl 3 rfl) ?_
    refine g_ild (j := v) Sx hK hP 1 0 rfl rfl (by omega) (by decide) d_P_place_53 ?_
    refine lv_iload hx hb d_P_place_54 (lv_at hl 0 rfl) ?_
    refine rw_V (As := [.int (C u), .int (C v), .int (((Y u) ^^^ (Y v)) ^^^ (1 <<< ((nI e9) &&& 31)))]) (rest := []) (wr := []) Sx (c_P_joinComponents l dC dI n k F S w hg g1 g2 g3 cI C B Y ch bh hp p1 p2 p3 (C u) (C v) (((Y u) ^^^ (Y v)) ^^^ (1 <<< ((nI e9) &&& 31))) H.size hn) (gw_callV gm_258 gm_259 gm_4 gm_53 gm_260) hd_P_joinComponents ⟨rfl, rfl⟩ ⟨Nat.le_of_ble_eq_true rfl, Nat.le_of_ble_eq_true rfl⟩ hP hD hS hA (hK.sub (tys' := [(cI, .int)]) [0] rfl) [0, 1, 2, 3, 4, 5, 6, 7] [] rfl rfl (by decide) (by decide) (by decide) rfl 0 rfl rfl hl.1 rfl (Nat.le_of_ble_eq_true rfl) d_P_place_56 ⟨Nat.zero_le _, Nat.zero_le _⟩ (fun H locs hP hD hS => ?_)
    have hP : va_P (dC, dI) pcl [(hp, .inr (2, [.ref hg, .ref p1, .ref p2, .int ch, .int bh, .ref p3])), (p1, .inl (cI, 10, .inl ((fo (pp_jn (C u) (C v) (((Y u) ^^^ (Y v)) ^^^ (1 <<< ((nI e9) &&& 31)))) n (C, Y)).1))), (p2, .inl (cI, 18, .inl B)), (p3, .inl (cI, 10, .inl ((fo (pp_jn (C u) (C v) (((Y u) ^^^ (Y v)) ^^^ (1 <<< ((nI e9) &&& 31)))) n (C, Y)).2))), (hg, .inr (1, [.int (nI n), .int (nI k), .ref g1, .ref g2, .ref g3])), (g1, .inl (cI, 18, .inl (fun i9 => nI (F i9)))), (g2, .inl (cI, 18, .inl (fun i9 => nI (S i9)))), (g3, .inl (cI, 18, .inl w))] H := hP
    have hD : va_D A [(hp, .inr (2, [.ref hg, .ref p1, .ref p2, .int ch, .int bh, .ref p3])), (p1, .inl (cI, 10, .inl ((fo (pp_jn (C u) (C v) (((Y u) ^^^ (Y v)) ^^^ (1 <<< ((nI e9) &&& 31)))) n (C, Y)).1))), (p2, .inl (cI, 18, .inl B)), (p3, .inl (cI, 10, .inl ((fo (pp_jn (C u) (C v) (((Y u) ^^^ (Y v)) ^^^ (1 <<< ((nI e9) &&& 31)))) n (C, Y)).2))), (hg, .inr (1, [.int (nI n), .int (nI k), .ref g1, .ref g2, .ref g3])), (g1, .inl (cI, 18, .inl (fun i9 => nI (F i9)))), (g2, .inl (cI, 18, .inl (fun i9 => nI (S i9)))), (g3, .inl (cI, 18, .inl w))] := hD
    rw [show pp_place n k u v e9 C B Y = ((fo (pp_jn (C u) (C v) (((Y u) ^^^ (Y v)) ^^^ (1 <<< ((nI e9) &&& 31)))) n (C, Y)).1, B, (fo (pp_jn (C u) (C v) (((Y u) ^^^ (Y v)) ^^^ (1 <<< ((nI e9) &&& 31)))) n (C, Y)).2) from by simp [pp_place, pp_st, q1]] at hret
    exact hret _ H locs _ d_P_place_59 hP hD hS
  · have q1 : (ps_has (C u) (nI v)) = true := bI_1.mp q1
    refine lv_aload_n hx hb d_P_place_32 rfl (lv_at hl 1 rfl) ?_
    refine lv_iload hx hb d_P_place_33 (lv_at hl 0 rfl) ?_
    refine rw_V (As := [.int (((Y u) ^^^ (Y v)) ^^^ (1 <<< ((nI e9) &&& 31)))]) (rest := []) (wr := []) Sx (c_P_uniteBlocks l dC dI n k F S w hg g1 g2 g3 cI C B Y ch bh hp p1 p2 p3 (((Y u) ^^^ (Y v)) ^^^ (1 <<< ((nI e9) &&& 31))) H.size hk) (gw_callV gm_255 gm_256 gm_3 gm_53 gm_257) hd_P_uniteBlocks ⟨rfl, rfl⟩ ⟨Nat.le_of_ble_eq_true rfl, Nat.le_of_ble_eq_true rfl⟩ hP hD hS hA (hK.sub (tys' := [(cI, .int)]) [0] rfl) [0, 1, 2, 3, 4, 5, 6, 7] [] rfl rfl (by decide) (by decide) (by decide) rfl 0 rfl rfl hl.1 rfl (Nat.le_of_ble_eq_true rfl) d_P_place_35 ⟨Nat.zero_le _, Nat.zero_le _⟩ (fun H locs hP hD hS => ?_)
    have hP : va_P (dC, dI) pcl [(hp, .inr (2, [.ref hg, .ref p1, .ref p2, .int ch, .int bh, .ref p3])), (p1, .inl (cI, 10, .inl C)), (p2, .inl (cI, 18, .inl (pp_unite k B (((Y u) ^^^ (Y v)) ^^^ (1 <<< ((nI e9) &&& 31)))))), (p3, .inl (cI, 10, .inl Y)), (hg, .inr (1, [.int (nI n), .int (nI k), .ref g1, .ref g2, .ref g3])), (g1, .inl (cI, 18, .inl (fun i9 => nI (F i9)))), (g2, .inl (cI, 18, .inl (fun i9 => nI (S i9)))), (g3, .inl (cI, 18, .inl w))] H := hP
    have hD : va_D A [(hp, .inr (2, [.ref hg, .ref p1, .ref p2, .int ch, .int bh, .ref p3])), (p1, .inl (cI, 10, .inl C)), (p2, .inl (cI, 18, .inl (pp_unite k B (((Y u) ^^^ (Y v)) ^^^ (1 <<< ((nI e9) &&& 31)))))), (p3, .inl (cI, 10, .inl Y)), (hg, .inr (1, [.int (nI n), .int (nI k), .ref g1, .ref g2, .ref g3])), (g1, .inl (cI, 18, .inl (fun i9 => nI (F i9)))), (g2, .inl (cI, 18, .inl (fun i9 => nI (S i9)))), (g3, .inl (cI, 18, .inl w))] := hD
    refine lv_goto hx hb d_P_place_38 (tgt := 59) rfl ?_
    rw [show pp_place n k u v e9 C B Y = (C, pp_unite k B (((Y u) ^^^ (Y v)) ^^^ (1 <<< ((nI e9) &&& 31))), Y) from by simp [pp_place, pp_st, q1]] at hret
    exact hret _ H locs _ d_P_place_59 hP hD hS
theorem d_P_sort_0 : decode k_P_sort 0 = .ok (.iconst 0, 1) := by decide +kernel
theorem d_P_sort_1 : decode k_P_sort 1 = .ok (.istore_n 2, 1) := by decide +kernel
theorem d_P_sort_2 : decode k_P_sort 2 = .ok (.iload_n 2, 1) := by decide +kernel
theorem d_P_sort_3 : decode k_P_sort 3 = .ok (.aload_n 0, 1) := by decide +kernel
theorem d_P_sort_4 : decode k_P_sort 4 = .ok (.getfield 21, 3) := by decide +kernel
theorem d_P_sort_7 : decode k_P_sort 7 = .ok (.getfield 25, 3) := by decide +kernel
theorem d_P_sort_10 : decode k_P_sort 10 = .ok (.if_icmp .ge 25, 3) := by decide +kernel
theorem d_P_sort_13 : decode k_P_sort 13 = .ok (.aload_n 0, 1) := by decide +kernel
theorem d_P_sort_14 : decode k_P_sort 14 = .ok (.getfield 9, 3) := by decide +kernel
theorem d_P_sort_17 : decode k_P_sort 17 = .ok (.iload_n 2, 1) := by decide +kernel
theorem d_P_sort_18 : decode k_P_sort 18 = .ok (.iconst 1, 1) := by decide +kernel
theorem d_P_sort_19 : decode k_P_sort 19 = .ok (.iload_n 2, 1) := by decide +kernel
theorem d_P_sort_20 : decode k_P_sort 20 = .ok (.ishl, 1) := by decide +kernel
theorem d_P_sort_21 : decode k_P_sort 21 = .ok (.iastore, 1) := by decide +kernel
theorem d_P_sort_22 : decode k_P_sort 22 = .ok (.aload_n 0, 1) := by decide +kernel
theorem d_P_sort_23 : decode k_P_sort 23 = .ok (.getfield 18, 3) := by decide +kernel
theorem d_P_sort_26 : decode k_P_sort 26 = .ok (.iload_n 2, 1) := by decide +kernel
theorem d_P_sort_27 : decode k_P_sort 27 = .ok (.iconst 0, 1) := by decide +kernel
theorem d_P_sort_28 : decode k_P_sort 28 = .ok (.iastore, 1) := by decide +kernel
theorem d_P_sort_29 : decode k_P_sort 29 = .ok (.iinc 2 1, 3) := by decide +kernel
theorem d_P_sort_32 : decode k_P_sort 32 = .ok (.goto (-30), 3) := by decide +kernel
theorem d_P_sort_35 : decode k_P_sort 35 = .ok (.iconst 0, 1) := by decide +kernel
theorem d_P_sort_36 : decode k_P_sort 36 = .ok (.istore_n 2, 1) := by decide +kernel
theorem d_P_sort_37 : decode k_P_sort 37 = .ok (.iload_n 2, 1) := by decide +kernel
theorem d_P_sort_38 : decode k_P_sort 38 = .ok (.aload_n 0, 1) := by decide +kernel
theorem d_P_sort_39 : decode k_P_sort 39 = .ok (.getfield 21, 3) := by decide +kernel
theorem d_P_sort_42 : decode k_P_sort 42 = .ok (.getfield 31, 3) := by decide +kernel
theorem d_P_sort_45 : decode k_P_sort 45 = .ok (.if_icmp .ge 20, 3) := by decide +kernel
theorem d_P_sort_48 : decode k_P_sort 48 = .ok (.aload_n 0, 1) := by decide +kernel
theorem d_P_sort_49 : decode k_P_sort 49 = .ok (.getfield 15, 3) := by decide +kernel
theorem d_P_sort_52 : decode k_P_sort 52 = .ok (.iload_n 2, 1) := by decide +kernel
theorem d_P_sort_53 : decode k_P_sort 53 = .ok (.iload_n 1, 1) := by decide +kernel
theorem d_P_sort_54 : decode k_P_sort 54 = .ok (.iconst 1, 1) := by decide +kernel
theorem d_P_sort_55 : decode k_P_sort 55 = .ok (.iload_n 2, 1) := by decide +kernel
theorem d_P_sort_56 : decode k_P_sort 56 = .ok (.ishl, 1) := by decide +kernel
theorem d_P_sort_57 : decode k_P_sort 57 = .ok (.iand, 1) := by decide +kernel
theorem d_P_sort_58 : decode k_P_sort 58 = .ok (.iastore, 1) := by decide +kernel
theorem d_P_sort_59 : decode k_P_sort 59 = .ok (.iinc 2 1, 3) := by decide +kernel
theorem d_P_sort_62 : decode k_P_sort 62 = .ok (.goto (-25), 3) := by decide +kernel
theorem d_P_sort_65 : decode k_P_sort 65 = .ok (.iconst 0, 1) := by decide +kernel
theorem d_P_sort_66 : decode k_P_sort 66 = .ok (.istore_n 2, 1) := by decide +kernel
theorem d_P_sort_67 : decode k_P_sort 67 = .ok (.iload_n 2, 1) := by decide +kernel
theorem d_P_sort_68 : decode k_P_sort 68 = .ok (.aload_n 0, 1) := by decide +kernel
theorem d_P_sort_69 : decode k_P_sort 69 = .ok (.getfield 21, 3) := by decide +kernel
theorem d_P_sort_72 : decode k_P_sort 72 = .ok (.getfield 31, 3) := by decide +kernel
theorem d_P_sort_75 : decode k_P_sort 75 = .ok (.if_icmp .ge 40, 3) := by decide +kernel
theorem d_P_sort_78 : decode k_P_sort 78 = .ok (.iload_n 1, 1) := by decide +kernel
theorem d_P_sort_79 : decode k_P_sort 79 = .ok (.iload_n 2, 1) := by decide +kernel
theorem d_P_sort_80 : decode k_P_sort 80 = .ok (.invokestatic 34, 3) := by decide +kernel
theorem d_P_sort_83 : decode k_P_sort 83 = .ok (.ifCond .eq 26, 3) := by decide +kernel
theorem d_P_sort_86 : decode k_P_sort 86 = .ok (.aload_n 0, 1) := by decide +kernel
theorem d_P_sort_87 : decode k_P_sort 87 = .ok (.aload_n 0, 1) := by decide +kernel
theorem d_P_sort_88 : decode k_P_sort 88 = .ok (.getfield 21, 3) := by decide +kernel
theorem d_P_sort_91 : decode k_P_sort 91 = .ok (.getfield 40, 3) := by decide +kernel
theorem d_P_sort_94 : decode k_P_sort 94 = .ok (.iload_n 2, 1) := by decide +kernel
theorem d_P_sort_95 : decode k_P_sort 95 = .ok (.iaload, 1) := by decide +kernel
theorem d_P_sort_96 : decode k_P_sort 96 = .ok (.aload_n 0, 1) := by decide +kernel
theorem d_P_sort_97 : decode k_P_sort 97 = .ok (.getfield 21, 3) := by decide +kernel
theorem d_P_sort_100 : decode k_P_sort 100 = .ok (.getfield 43, 3) := by decide +kernel
theorem d_P_sort_103 : decode k_P_sort 103 = .ok (.iload_n 2, 1) := by decide +kernel
theorem d_P_sort_104 : decode k_P_sort 104 = .ok (.iaload, 1) := by decide +kernel
theorem d_P_sort_105 : decode k_P_sort 105 = .ok (.iload_n 2, 1) := by decide +kernel
theorem d_P_sort_106 : decode k_P_sort 106 = .ok (.invokevirtual 46, 3) := by decide +kernel
theorem d_P_sort_109 : decode k_P_sort 109 = .ok (.iinc 2 1, 3) := by decide +kernel
theorem d_P_sort_112 : decode k_P_sort 112 = .ok (.goto (-45), 3) := by decide +kernel
theorem d_P_sort_115 : decode k_P_sort 115 = .ok (.aload_n 0, 1) := by decide +kernel
theorem d_P_sort_116 : decode k_P_sort 116 = .ok (.aload_n 0, 1) := by decide +kernel
theorem d_P_sort_117 : decode k_P_sort 117 = .ok (.getfield 9, 3) := by decide +kernel
theorem d_P_sort_120 : decode k_P_sort 120 = .ok (.aload_n 0, 1) := by decide +kernel
theorem d_P_sort_121 : decode k_P_sort 121 = .ok (.getfield 21, 3) := by decide +kernel
theorem d_P_sort_124 : decode k_P_sort 124 = .ok (.getfield 25, 3) := by decide +kernel
theorem d_P_sort_127 : decode k_P_sort 127 = .ok (.invokestatic 50, 3) := by decide +kernel
theorem d_P_sort_130 : decode k_P_sort 130 = .ok (.putfield 54, 3) := by decide +kernel
theorem d_P_sort_133 : decode k_P_sort 133 = .ok (.aload_n 0, 1) := by decide +kernel
theorem d_P_sort_134 : decode k_P_sort 134 = .ok (.aload_n 0, 1) := by decide +kernel
theorem d_P_sort_135 : decode k_P_sort 135 = .ok (.getfield 15, 3) := by decide +kernel
theorem d_P_sort_138 : decode k_P_sort 138 = .ok (.aload_n 0, 1) := by decide +kernel
theorem d_P_sort_139 : decode k_P_sort 139 = .ok (.getfield 21, 3) := by decide +kernel
theorem d_P_sort_142 : decode k_P_sort 142 = .ok (.getfield 31, 3) := by decide +kernel
theorem d_P_sort_145 : decode k_P_sort 145 = .ok (.invokestatic 50, 3) := by decide +kernel
theorem d_P_sort_148 : decode k_P_sort 148 = .ok (.putfield 57, 3) := by decide +kernel
theorem d_P_sort_151 : decode k_P_sort 151 = .ok (.return_, 1) := by decide +kernel
abbrev rm_P_sort : Room := { frames := 3, cells := 0, slots := 0, locals := 69 }
theorem hd_P_sort : y_P_sort.cls = n_P ∧ y_P_sort.cls ≠ "java/lang/invoke/MethodHandle" ∧ y_P_sort.cls ≠ "java/lang/invoke/VarHandle" ∧ (parseMethodDescriptor y_P_sort.desc).map (fun d => d.parameters.length) = some 1 := by decide +kernel
set_option maxHeartbeats 4000000 in
set_option maxRecDepth 100000 in
theorem c_P_sort (l : Launch) (dC : Nat → ClassId) (dI : Nat → Nat → Nat) (n : Nat) (k : Nat) (F : Nat → Nat) (S : Nat → Nat) (w : Nat → Int32) (hg : Nat) (g1 : Nat) (g2 : Nat) (g3 : Nat) (cI : ClassId) (C : Nat → Int32) (B : Nat → Int32) (Y : Nat → Int32) (ch : Int32) (bh : Int32) (hp : Nat) (p1 : Nat) (p2 : Nat) (p3 : Nat) (x : Int32) (sz : Nat) (hn : n ≤ 10) (hk : k ≤ 18) (hFS : ∀ e, e < k → F e < n ∧ S e < n) : Met l y_P_sort (.code y_P_sort k_P_sort 3 none :: gw) rm_P_sort (rwP [.ref hp, .int x] (dC, dI) [(hp, .inr (2, [.ref hg, .ref p1, .ref p2, .int ch, .int bh, .ref p3])), (p1, .inl (cI, 10, .inl C)), (p2, .inl (cI, 18, .inl B)), (p3, .inl (cI, 10, .inl Y)), (hg, .inr (1, [.int (nI n), .int (nI k), .ref g1, .ref g2, .ref g3])), (g1, .inl (cI, 18, .inl (fun i9 => nI (F i9)))), (g2, .inl (cI, 18, .inl (fun i9 => nI (S i9)))), (g3, .inl (cI, 18, .inl w))] [(cI, .int)] sz) (va_Qv (fun _ : Unit => True) (rwB (dC, dI) [(hp, .inr (2, [.ref hg, .ref p1, .ref p2, .int (fo (pp_hd (pp_sort n k F S x C B Y).1) n 0), .int (fo (pp_hd (pp_sort n k F S x C B Y).2.1) k 0), .ref p3])), (p1, .inl (cI, 10, .inl ((pp_sort n k F S x C B Y).1))), (p2, .inl (cI, 18, .inl ((pp_sort n k F S x C B Y).2.1))), (p3, .inl (cI, 10, .inl ((pp_sort n k F S x C B Y).2.2))), (hg, .inr (1, [.int (nI n), .int (nI k), .ref g1, .ref g2, .ref g3])), (g1, .inl (cI, 18, .inl (fun i9 => nI (F i9)))), (g2, .inl (cI, 18, .inl (fun i9 => nI (S i9)))), (g3, .inl (cI, 18, .inl w))] [(cI, .int)] (va_A [(hp, .inr (2, [.ref hg, .ref p1, .ref p2, .int ch, .int bh, .ref p3])), (p1, .inl (cI, 10, .inl C)), (p2, .inl (cI, 18, .inl B)), (p3, .inl (cI, 10, .inl Y)), (hg, .inr (1, [.int (nI n), .int (nI k), .ref g1, .ref g2, .ref g3])), (g1, .inl (cI, 18, .inl (fun i9 => nI (F i9)))), (g2, .inl (cI, 18, .inl (fun i9 => nI (S i9)))), (g3, .inl (cI, 18, .inl w))] sz)) (va_A [(hp, .inr (2, [.ref hg, .ref p1, .ref p2, .int ch, .int bh, .ref p3])), (p1, .inl (cI, 10, .inl C)), (p2, .inl (cI, 18, .inl B)), (p3, .inl (cI, 10, .inl Y)), (hg, .inr (1, [.int (nI n), .int (nI k), .ref g1, .ref g2, .ref g3])), (g1, .inl (cI, 18, .inl (fun i9 => nI (F i9)))), (g2, .inl (cI, 18, .inl (fun i9 => nI (S i9)))), (g3, .inl (cI, 18, .inl w))] sz)) 0 0 (va_A [(hp, .inr (2, [.ref hg, .ref p1, .ref p2, .int ch, .int bh, .ref p3])), (p1, .inl (cI, 10, .inl C)), (p2, .inl (cI, 18, .inl B)), (p3, .inl (cI, 10, .inl Y)), (hg, .inr (1, [.int (nI n), .int (nI k), .ref g1, .ref g2, .ref g3])), (g1, .inl (cI, 18, .inl (fun i9 => nI (F i9)))), (g2, .inl (cI, 18, .inl (fun i9 => nI (S i9)))), (g3, .inl (cI, 18, .inl w))] sz) := by
  refine rw_met (by decide) ⟨rfl, rfl⟩ (Nat.le_of_ble_eq_true rfl) ?_
  intro p e s m args below meth c Q A ls Sx hP hK hD hA hl hret
  have hx := Sx.1
  have hb := Sx.2.1
  have hl : lv_has ls 3 [(0, .ref hp), (1, .int x)] := hl
  have hS : va_S A s.heap s.heap [] := va_S.rf
  obtain ⟨H, hH⟩ : ∃ H, H = s.heap := ⟨_, rfl⟩
  obtain ⟨locs, hlo⟩ : ∃ locs : List Loc, locs = [] := ⟨_, rfl⟩
  rw [← hlo]
  rw [← hlo] at hS
  have hP : va_P (dC, dI) pcl [(hp, .inr (2, [.ref hg, .ref p1, .ref p2, .int ch, .int bh, .ref p3])), (p1, .inl (cI, 10, .inl C)), (p2, .inl (cI, 18, .inl B)), (p3, .inl (cI, 10, .inl Y)), (hg, .inr (1, [.int (nI n), .int (nI k), .ref g1, .ref g2, .ref g3])), (g1, .inl (cI, 18, .inl (fun i9 => nI (F i9)))), (g2, .inl (cI, 18, .inl (fun i9 => nI (S i9)))), (g3, .inl (cI, 18, .inl w))] H := by rw [hH]; exact hP
  have hS : va_S A s.heap H locs := by rw [hH]; exact hS
  suffices hgo : W p l e rm_P_sort s m args below meth c H locs 0 0 Q (F0 m 0 ls []) by rw [hH] at hgo; exact hgo
  refine lv_iconst (v := nI 0) hx hb d_P_sort_0 (by decide) ?_
  refine lv_istore_n hx hb d_P_sort_1 rfl hl (Nat.le_of_ble_eq_true rfl) rfl (fun ls hl => ?_)
  have hl : lv_has ls 3 [(2, .int (nI 0)), (0, .ref hp), (1, .int x)] := hl
  have hL2 : ∀ (kk i : Nat), i + kk = n → ∀ (C1 : Nat → Int32) (Y1 : Nat → Int32) (H : Heap) (locs : List Loc) (ls : Array Slot), (C1, Y1) = fo pp_s1 i (C, Y) → va_P (dC, dI) pcl [(hp, .inr (2, [.ref hg, .ref p1, .ref p2, .int ch, .int bh, .ref p3])), (p1, .inl (cI, 10, .inl C1)), (p2, .inl (cI, 18, .inl B)), (p3, .inl (cI, 10, .inl Y1)), (hg, .inr (1, [.int (nI n), .int (nI k), .ref g1, .ref g2, .ref g3])), (g1, .inl (cI, 18, .inl (fun i9 => nI (F i9)))), (g2, .inl (cI, 18, .inl (fun i9 => nI (S i9)))), (g3, .inl (cI, 18, .inl w))] H → va_D A [(hp, .inr (2, [.ref hg, .ref p1, .ref p2, .int ch, .int bh, .ref p3])), (p1, .inl (cI, 10, .inl C1)), (p2, .inl (cI, 18, .inl B)), (p3, .inl (cI, 10, .inl Y1)), (hg, .inr (1, [.int (nI n), .int (nI k), .ref g1, .ref g2, .ref g3])), (g1, .inl (cI, 18, .inl (fun i9 => nI (F i9)))), (g2, .inl (cI, 18, .inl (fun i9 => nI (S i9)))), (g3, .inl (cI, 18, .inl w))] → va_S A s.heap H locs → lv_has ls 3 [(2, .int (nI i)), (0, .ref hp), (1, .int x)] → W p l e rm_P_sort s m args below meth c H locs 0 0 Q (F0 m 2 ls []) := by
    intro kk
    induction kk with
    | zero =>
      intro i hi2 C1 Y1 H locs ls he2 hP hD hS hl
      have hj2 : i = n := by omega
      rw [hj2] at hl he2
      have e_C1 : C1 = (fo pp_s1 n (C, Y)).1 := by rw [← he2]
      subst e_C1
      have e_Y1 : Y1 = (fo pp_s1 n (C, Y)).2 := by rw [← he2]
      subst e_Y1
      have hl : lv_has ls 3 [(2, .int (nI n)), (0, .ref hp), (1, .int x)] := hl
      have hP : va_P (dC, dI) pcl [(hp, .inr (2, [.ref hg, .ref p1, .ref p2, .int ch, .int bh, .ref p3])), (p1, .inl (cI, 10, .inl ((fo pp_s1 n (C, Y)).1))), (p2, .inl (cI, 18, .inl B)), (p3, .inl (cI, 10, .inl ((fo pp_s1 n (C, Y)).2))), (hg, .inr (1, [.int (nI n), .int (nI k), .ref g1, .ref g2, .ref g3])), (g1, .inl (cI, 18, .inl (fun i9 => nI (F i9)))), (g2, .inl (cI, 18, .inl (fun i9 => nI (S i9)))), (g3, .inl (cI, 18, .inl w))] H := hP
      have hD : va_D A [(hp, .inr (2, [.ref hg, .ref p1, .ref p2, .int ch, .int bh, .ref p3])), (p1, .inl (cI, 10, .inl ((fo pp_s1 n (C, Y)).1))), (p2, .inl (cI, 18, .inl B)), (p3, .inl (cI, 10, .inl ((fo pp_s1 n (C, Y)).2))), (hg, .inr (1, [.int (nI n), .int (nI k), .ref g1, .ref g2, .ref g3])), (g1, .inl (cI, 18, .inl (fun i9 => nI (F i9)))), (g2, .inl (cI, 18, .inl (fun i9 => nI (S i9)))), (g3, .inl (cI, 18, .inl w))] := hD
      refine lv_iload_n hx hb d_P_sort_2 rfl (lv_at hl 0 rfl) ?_
      refine lv_aload_n hx hb d_P_sort_3 rfl (lv_at hl 1 rfl) ?_
      refine g_get Sx gf_P hK hP 0 rfl rfl 0 (by decide) gm_106 rfl d_P_sort_4 ?_
      refine g_get Sx gf_G hK hP 4 rfl rfl 0 (by decide) gm_74 rfl d_P_sort_7 ?_
      refine lv_icmp_ge hx hb d_P_sort_10 (tgt := 35) rfl (fun q1 => ?_) (fun q1 => ?_)
      · have q1 : n ≤ n := nq_le (by omega) (by omega) q1
        refine lv_iconst (v := nI 0) hx hb d_P_sort_35 (by decide) ?_
        refine lv_istore_n hx hb d_P_sort_36 rfl hl (Nat.le_of_ble_eq_true rfl) rfl (fun ls hl => ?_)
        have hl : lv_has ls 3 [(2, .int (nI 0)), (0, .ref hp), (1, .int x)] := hl
        have hL37 : ∀ (kk i : Nat), i + kk = k → ∀ (B1 : Nat → Int32) (H : Heap) (locs : List Loc) (ls : Array Slot), B1 = fo (pp_s2 x) i B → va_P (dC, dI) pcl [(hp, .inr (2, [.ref hg, .ref p1, .ref p2, .int ch, .int bh, .ref p3])), (p1, .inl (cI, 10, .inl ((fo pp_s1 n (C, Y)).1))), (p2, .inl (cI, 18, .inl B1)), (p3, .inl (cI, 10, .inl ((fo pp_s1 n (C, Y)).2))), (hg, .inr (1, [.int (nI n), .int (nI k), .ref g1, .ref g2, .ref g3])), (g1, .inl (cI, 18, .inl (fun i9 => nI (F i9)))), (g2, .inl (cI, 18, .inl (fun i9 => nI (S i9)))), (g3, .inl (cI, 18, .inl w))] H → va_D A [(hp, .inr (2, [.ref hg, .ref p1, .ref p2, .int ch, .int bh, .ref p3])), (p1, .inl (cI, 10, .inl ((fo pp_s1 n (C, Y)).1))), (p2, .inl (cI, 18, .inl B1)), (p3, .inl (cI, 10, .inl ((fo pp_s1 n (C, Y)).2))), (hg, .inr (1, [.int (nI n), .int (nI k), .ref g1, .ref g2, .ref g3])), (g1, .inl (cI, 18, .inl (fun i9 => nI (F i9)))), (g2, .inl (cI, 18, .inl (fun i9 => nI (S i9)))), (g3, .inl (cI, 18, .inl w))] → va_S A s.heap H locs → lv_has ls 3 [(2, .int (nI i)), (0, .ref hp), (1, .int x)] → W p l e rm_P_sort s m args below meth c H locs 0 0 Q (F0 m 37 ls []) := by
          intro kk
          induction kk with
          | zero =>
            intro i hi37 B1 H locs ls he37 hP hD hS hl
            have hj37 : i = k := by omega
            rw [hj37] at hl he37
            have e_B1 : B1 = (fo (pp_s2 x) k B) := by rw [← he37]
            subst e_B1
            have hl : lv_has ls 3 [(2, .int (nI k)), (0, .ref hp), (1, .int x)] := hl
            have hP : va_P (dC, dI) pcl [(hp, .inr (2, [.ref hg, .ref p1, .ref p2, .int ch, .int bh, .ref p3])), (p1, .inl (cI, 10, .inl ((fo pp_s1 n (C, Y)).1))), (p2, .inl (cI, 18, .inl (fo (pp_s2 x) k B))), (p3, .inl (cI, 10, .inl ((fo pp_s1 n (C, Y)).2))), (hg, .inr (1, [.int (nI n), .int (nI k), .ref g1, .ref g2, .ref g3])), (g1, .inl (cI, 18, .inl (fun i9 => nI (F i9)))), (g2, .inl (cI, 18, .inl (fun i9 => nI (S i9)))), (g3, .inl (cI, 18, .inl w))] H := hP
            have hD : va_D A [(hp, .inr (2, [.ref hg, .ref p1, .ref p2, .int ch, .int bh, .ref p3])), (p1, .inl (cI, 10, .inl ((fo pp_s1 n (C, Y)).1))), (p2, .inl (cI, 18, .inl (fo (pp_s2 x) k B))), (p3, .inl (cI, 10, .inl ((fo pp_s1 n (C, Y)).2))), (hg, .inr (1, [.int (nI n), .int (nI k), .ref g1, .ref g2, .ref g3])), (g1, .inl (cI, 18, .inl (fun i9 => nI (F i9)))), (g2, .inl (cI, 18, .inl (fun i9 => nI (S i9)))), (g3, .inl (cI, 18, .inl w))] := hD
            refine lv_iload_n hx hb d_P_sort_37 rfl (lv_at hl 0 rfl) ?_
            refine lv_aload_n hx hb d_P_sort_38 rfl (lv_at hl 1 rfl) ?_
            refine g_get Sx gf_P hK hP 0 rfl rfl 0 (by decide) gm_106 rfl d_P_sort_39 ?_
            refine g_get Sx gf_G hK hP 4 rfl rfl 1 (by decide) gm_80 rfl d_P_sort_42 ?_
            refine lv_icmp_ge hx hb d_P_sort_45 (tgt := 65) rfl (fun q2 => ?_) (fun q2 => ?_)
            · have q2 : k ≤ k := nq_le (by omega) (by omega) q2
              refine lv_iconst (v := nI 0) hx hb d_P_sort_65 (by decide) ?_
              refine lv_istore_n hx hb d_P_sort_66 rfl hl (Nat.le_of_ble_eq_true rfl) rfl (fun ls hl => ?_)
              have hl : lv_has ls 3 [(2, .int (nI 0)), (0, .ref hp), (1, .int x)] := hl
              have hL67 : ∀ (kk i : Nat), i + kk = k → ∀ (C2 : Nat → Int32) (B2 : Nat → Int32) (Y2 : Nat → Int32) (H : Heap) (locs : List Loc) (ls : Array Slot), (C2, B2, Y2) = fo (pp_s3 n k F S x) i ((fo pp_s1 n (C, Y)).1, fo (pp_s2 x) k B, (fo pp_s1 n (C, Y)).2) → va_P (dC, dI) pcl [(hp, .inr (2, [.ref hg, .ref p1, .ref p2, .int ch, .int bh, .ref p3])), (p1, .inl (cI, 10, .inl C2)), (p2, .inl (cI, 18, .inl B2)), (p3, .inl (cI, 10, .inl Y2)), (hg, .inr (1, [.int (nI n), .int (nI k), .ref g1, .ref g2, .ref g3])), (g1, .inl (cI, 18, .inl (fun i9 => nI (F i9)))), (g2, .inl (cI, 18, .inl (fun i9 => nI (S i9)))), (g3, .inl (cI, 18, .inl w))] H → va_D A [(hp, .inr (2, [.ref hg, .ref p1, .ref p2, .int ch, .int bh, .ref p3])), (p1, .inl (cI, 10, .inl C2)), (p2, .inl (cI, 18, .inl B2)), (p3, .inl (cI, 10, .inl Y2)), (hg, .inr (1, [.int (nI n), .int (nI k), .ref g1, .ref g2, .ref g3])), (g1, .inl (cI, 18, .inl (fun i9 => nI (F i9)))), (g2, .inl (cI, 18, .inl (fun i9 => nI (S i9)))), (g3, .inl (cI, 18, .inl w))] → va_S A s.heap H locs → lv_has ls 3 [(2, .int (nI i)), (0, .ref hp), (1, .int x)] → W p l e rm_P_sort s m args below meth c H locs 0 0 Q (F0 m 67 ls []) := by
                intro kk
                induction kk with
                | zero =>
                  intro i hi67 C2 B2 Y2 H locs ls he67 hP hD hS hl
                  have hj67 : i = k := by omega
                  rw [hj67] at hl he67
                  have e_C2 : C2 = (fo (pp_s3 n k F S x) k ((fo pp_s1 n (C, Y)).1, fo (pp_s2 x) k B, (fo pp_s1 n (C, Y)).2)).1 := by rw [← he67]
                  subst e_C2
                  have e_B2 : B2 = (fo (pp_s3 n k F S x) k ((fo pp_s1 n (C, Y)).1, fo (pp_s2 x) k B, (fo pp_s1 n (C, Y)).2)).2.1 := by rw [← he67]
                  subst e_B2
                  have e_Y2 : Y2 = (fo (pp_s3 n k F S x) k ((fo pp_s1 n (C, Y)).1, fo (pp_s2 x) k B, (fo pp_s1 n (C, Y)).2)).2.2 := by rw [← he67]
                  subst e_Y2
                  have hl : lv_has ls 3 [(2, .int (nI k)), (0, .ref hp), (1, .int x)] := hl
                  have hP : va_P (dC, dI) pcl [(hp, .inr (2, [.ref hg, .ref p1, .ref p2, .int ch, .int bh, .ref p3])), (p1, .inl (cI, 10, .inl ((fo (pp_s3 n k F S x) k ((fo pp_s1 n (C, Y)).1, fo (pp_s2 x) k B, (fo pp_s1 n (C, Y)).2)).1))), (p2, .inl (cI, 18, .inl ((fo (pp_s3 n k F S x) k ((fo pp_s1 n (C, Y)).1, fo (pp_s2 x) k B, (fo pp_s1 n (C, Y)).2)).2.1))), (p3, .inl (cI, 10, .inl ((fo (pp_s3 n k F S x) k ((fo pp_s1 n (C, Y)).1, fo (pp_s2 x) k B, (fo pp_s1 n (C, Y)).2)).2.2))), (hg, .inr (1, [.int (nI n), .int (nI k), .ref g1, .ref g2, .ref g3])), (g1, .inl (cI, 18, .inl (fun i9 => nI (F i9)))), (g2, .inl (cI, 18, .inl (fun i9 => nI (S i9)))), (g3, .inl (cI, 18, .inl w))] H := hP
                  have hD : va_D A [(hp, .inr (2, [.ref hg, .ref p1, .ref p2, .int ch, .int bh, .ref p3])), (p1, .inl (cI, 10, .inl ((fo (pp_s3 n k F S x) k ((fo pp_s1 n (C, Y)).1, fo (pp_s2 x) k B, (fo pp_s1 n (C, Y)).2)).1))), (p2, .inl (cI, 18, .inl ((fo (pp_s3 n k F S x) k ((fo pp_s1 n (C, Y)).1, fo (pp_s2 x) k B, (fo pp_s1 n (C, Y)).2)).2.1))), (p3, .inl (cI, 10, .inl ((fo (pp_s3 n k F S x) k ((fo pp_s1 n (C, Y)).1, fo (pp_s2 x) k B, (fo pp_s1 n (C, Y)).2)).2.2))), (hg, .inr (1, [.int (nI n), .int (nI k), .ref g1, .ref g2, .ref g3])), (g1, .inl (cI, 18, .inl (fun i9 => nI (F i9)))), (g2, .inl (cI, 18, .inl (fun i9 => nI (S i9)))), (g3, .inl (cI, 18, .inl w))] := hD
                  refine lv_iload_n hx hb d_P_sort_67 rfl (lv_at hl 0 rfl) ?_
                  refine lv_aload_n hx hb d_P_sort_68 rfl (lv_at hl 1 rfl) ?_
                  refine g_get Sx gf_P hK hP 0 rfl rfl 0 (by decide) gm_106 rfl d_P_sort_69 ?_
                  refine g_get Sx gf_G hK hP 4 rfl rfl 1 (by decide) gm_80 rfl d_P_sort_72 ?_
                  refine lv_icmp_ge hx hb d_P_sort_75 (tgt := 115) rfl (fun q3 => ?_) (fun q3 => ?_)
                  · have q3 : k ≤ k := nq_le (by omega) (by omega) q3
                    refine lv_aload_n hx hb d_P_sort_115 rfl (lv_at hl 1 rfl) ?_
                    refine lv_aload_n hx hb d_P_sort_116 rfl (lv_at hl 1 rfl) ?_
                    refine g_get Sx gf_P hK hP 0 rfl rfl 1 (by decide) gm_107 rfl d_P_sort_117 ?_
                    refine lv_aload_n hx hb d_P_sort_120 rfl (lv_at hl 1 rfl) ?_
                    refine g_get Sx gf_P hK hP 0 rfl rfl 0 (by decide) gm_106 rfl d_P_sort_121 ?_
                    refine g_get Sx gf_G hK hP 4 rfl rfl 0 (by decide) gm_74 rfl d_P_sort_124 ?_
                    refine ro_S (As := [.ref p1, .int (nI n)]) (rest := [.ref hp]) Sx (c_P_heads l dC dI ((fo (pp_s3 n k F S x) k ((fo pp_s1 n (C, Y)).1, fo (pp_s2 x) k B, (fo pp_s1 n (C, Y)).2)).1) p1 10 cI n (by omega) (by decide)) (gw_callS gm_261 gm_262 gm_53 gm_263) hd_P_heads ⟨rfl, rfl⟩ ⟨Nat.le_of_ble_eq_true rfl, Nat.le_of_ble_eq_true rfl⟩ (va_P_map hP [1] rfl) (hK.sub (tys' := [(cI, .int)]) [0] rfl) rfl hl.1 rfl (Nat.le_of_ble_eq_true rfl) d_P_sort_127 ⟨Nat.zero_le _, Nat.zero_le _⟩ ?_
                    refine g_put Sx gf_P fk_P fn_P hK hP hD hS 0 rfl rfl 3 (by decide) gm_112 rfl rfl rfl (Nat.le_of_ble_eq_true rfl) d_P_sort_130 (fun H locs hP hD hS => ?_)
                    have hP : va_P (dC, dI) pcl [(hp, .inr (2, [.ref hg, .ref p1, .ref p2, .int (fo (pp_hd ((fo (pp_s3 n k F S x) k ((fo pp_s1 n (C, Y)).1, fo (pp_s2 x) k B, (fo pp_s1 n (C, Y)).2)).1)) n 0), .int bh, .ref p3])), (p1, .inl (cI, 10, .inl ((fo (pp_s3 n k F S x) k ((fo pp_s1 n (C, Y)).1, fo (pp_s2 x) k B, (fo pp_s1 n (C, Y)).2)).1))), (p2, .inl (cI, 18, .inl ((fo (pp_s3 n k F S x) k ((fo pp_s1 n (C, Y)).1, fo (pp_s2 x) k B, (fo pp_s1 n (C, Y)).2)).2.1))), (p3, .inl (cI, 10, .inl ((fo (pp_s3 n k F S x) k ((fo pp_s1 n (C, Y)).1, fo (pp_s2 x) k B, (fo pp_s1 n (C, Y)).2)).2.2))), (hg, .inr (1, [.int (nI n), .int (nI k), .ref g1, .ref g2, .ref g3])), (g1, .inl (cI, 18, .inl (fun i9 => nI (F i9)))), (g2, .inl (cI, 18, .inl (fun i9 => nI (S i9)))), (g3, .inl (cI, 18, .inl w))] H := hP
                    have hD : va_D A [(hp, .inr (2, [.ref hg, .ref p1, .ref p2, .int (fo (pp_hd ((fo (pp_s3 n k F S x) k ((fo pp_s1 n (C, Y)).1, fo (pp_s2 x) k B, (fo pp_s1 n (C, Y)).2)).1)) n 0), .int bh, .ref p3])), (p1, .inl (cI, 10, .inl ((fo (pp_s3 n k F S x) k ((fo pp_s1 n (C, Y)).1, fo (pp_s2 x) k B, (fo pp_s1 n (C, Y)).2)).1))), (p2, .inl (cI, 18, .inl ((fo (pp_s3 n k F S x) k ((fo pp_s1 n (C, Y)).1, fo (pp_s2 x) k B, (fo pp_s1 n (C, Y)).2)).2.1))), (p3, .inl (cI, 10, .inl ((fo (pp_s3 n k F S x) k ((fo pp_s1 n (C, Y)).1, fo (pp_s2 x) k B, (fo pp_s1 n (C, Y)).2)).2.2))), (hg, .inr (1, [.int (nI n), .int (nI k), .ref g1, .ref g2, .ref g3])), (g1, .inl (cI, 18, .inl (fun i9 => nI (F i9)))), (g2, .inl (cI, 18, .inl (fun i9 => nI (S i9)))), (g3, .inl (cI, 18, .inl w))] := hD
                    refine lv_aload_n hx hb d_P_sort_133 rfl (lv_at hl 1 rfl) ?_
                    refine lv_aload_n hx hb d_P_sort_134 rfl (lv_at hl 1 rfl) ?_
                    refine g_get Sx gf_P hK hP 0 rfl rfl 2 (by decide) gm_109 rfl d_P_sort_135 ?_
                    refine lv_aload_n hx hb d_P_sort_138 rfl (lv_at hl 1 rfl) ?_
                    refine g_get Sx gf_P hK hP 0 rfl rfl 0 (by decide) gm_106 rfl d_P_sort_139 ?_
                    refine g_get Sx gf_G hK hP 4 rfl rfl 1 (by decide) gm_80 rfl d_P_sort_142 ?_
                    refine ro_S (As := [.ref p2, .int (nI k)]) (rest := [.ref hp]) Sx (c_P_heads l dC dI ((fo (pp_s3 n k F S x) k ((fo pp_s1 n (C, Y)).1, fo (pp_s2 x) k B, (fo pp_s1 n (C, Y)).2)).2.1) p2 18 cI k (by omega) (by decide)) (gw_callS gm_261 gm_262 gm_53 gm_263) hd_P_heads ⟨rfl, rfl⟩ ⟨Nat.le_of_ble_eq_true rfl, Nat.le_of_ble_eq_true rfl⟩ (va_P_map hP [2] rfl) (hK.sub (tys' := [(cI, .int)]) [0] rfl) rfl hl.1 rfl (Nat.le_of_ble_eq_true rfl) d_P_sort_145 ⟨Nat.zero_le _, Nat.zero_le _⟩ ?_
                    refine g_put Sx gf_P fk_P fn_P hK hP hD hS 0 rfl rfl 4 (by decide) gm_115 rfl rfl rfl (Nat.le_of_ble_eq_true rfl) d_P_sort_148 (fun H locs hP hD hS => ?_)
                    have hP : va_P (dC, dI) pcl [(hp, .inr (2, [.ref hg, .ref p1, .ref p2, .int (fo (pp_hd ((fo (pp_s3 n k F S x) k ((fo pp_s1 n (C, Y)).1, fo (pp_s2 x) k B, (fo pp_s1 n (C, Y)).2)).1)) n 0), .int (fo (pp_hd ((fo (pp_s3 n k F S x) k ((fo pp_s1 n (C, Y)).1, fo (pp_s2 x) k B, (fo pp_s1 n (C, Y)).2)).2.1)) k 0), .ref p3])), (p1, .inl (cI, 10, .inl ((fo (pp_s3 n k F S x) k ((fo pp_s1 n (C, Y)).1, fo (pp_s2 x) k B, (fo pp_s1 n (C, Y)).2)).1))), (p2, .inl (cI, 18, .inl ((fo (pp_s3 n k F S x) k ((fo pp_s1 n (C, Y)).1, fo (pp_s2 x) k B, (fo pp_s1 n (C, Y)).2)).2.1))), (p3, .inl (cI, 10, .inl ((fo (pp_s3 n k F S x) k ((fo pp_s1 n (C, Y)).1, fo (pp_s2 x) k B, (fo pp_s1 n (C, Y)).2)).2.2))), (hg, .inr (1, [.int (nI n), .int (nI k), .ref g1, .ref g2, .ref g3])), (g1, .inl (cI, 18, .inl (fun i9 => nI (F i9)))), (g2, .inl (cI, 18, .inl (fun i9 => nI (S i9)))), (g3, .inl (cI, 18, .inl w))] H := hP
                    have hD : va_D A [(hp, .inr (2, [.ref hg, .ref p1, .ref p2, .int (fo (pp_hd ((fo (pp_s3 n k F S x) k ((fo pp_s1 n (C, Y)).1, fo (pp_s2 x) k B, (fo pp_s1 n (C, Y)).2)).1)) n 0), .int (fo (pp_hd ((fo (pp_s3 n k F S x) k ((fo pp_s1 n (C, Y)).1, fo (pp_s2 x) k B, (fo pp_s1 n (C, Y)).2)).2.1)) k 0), .ref p3])), (p1, .inl (cI, 10, .inl ((fo (pp_s3 n k F S x) k ((fo pp_s1 n (C, Y)).1, fo (pp_s2 x) k B, (fo pp_s1 n (C, Y)).2)).1))), (p2, .inl (cI, 18, .inl ((fo (pp_s3 n k F S x) k ((fo pp_s1 n (C, Y)).1, fo (pp_s2 x) k B, (fo pp_s1 n (C, Y)).2)).2.1))), (p3, .inl (cI, 10, .inl ((fo (pp_s3 n k F S x) k ((fo pp_s1 n (C, Y)).1, fo (pp_s2 x) k B, (fo pp_s1 n (C, Y)).2)).2.2))), (hg, .inr (1, [.int (nI n), .int (nI k), .ref g1, .ref g2, .ref g3])), (g1, .inl (cI, 18, .inl (fun i9 => nI (F i9)))), (g2, .inl (cI, 18, .inl (fun i9 => nI (S i9)))), (g3, .inl (cI, 18, .inl w))] := hD
                    exact hret _ H locs _ d_P_sort_151 hP hD hS
                  · have q3 : k < k := nq_nle (by omega) (by omega) q3
                    exact absurd q3 (by omega)
                | succ kk ih67 =>
                  intro i hi67 C2 B2 Y2 H locs ls he67 hP hD hS hl
                  refine lv_iload_n hx hb d_P_sort_67 rfl (lv_at hl 0 rfl) ?_
                  refine lv_aload_n hx hb d_P_sort_68 rfl (lv_at hl 1 rfl) ?_
                  refine g_get Sx gf_P hK hP 0 rfl rfl 0 (by decide) gm_106 rfl d_P_sort_69 ?_
                  refine g_get Sx gf_G hK hP 4 rfl rfl 1 (by decide) gm_80 rfl d_P_sort_72 ?_
                  refine lv_icmp_ge hx hb d_P_sort_75 (tgt := 115) rfl (fun q4 => ?_) (fun q4 => ?_)
                  · have q4 : k ≤ i := nq_le (by omega) (by omega) q4
                    exact absurd q4 (by omega)
                  · have q4 : i < k := nq_nle (by omega) (by omega) q4
                    refine lv_iload_n hx hb d_P_sort_78 rfl (lv_at hl 2 rfl) ?_
                    refine lv_iload_n hx hb d_P_sort_79 rfl (lv_at hl 0 rfl) ?_
                    refine ro_S (As := [.int x, .int (nI i)]) (rest := []) Sx (c_B_has l dC dI x (nI i)) (gw_callS gm_249 gm_250 gm_57 gm_251) hd_B_has ⟨rfl, rfl⟩ ⟨Nat.le_of_ble_eq_true rfl, Nat.le_of_ble_eq_true rfl⟩ (va_P_map hP [] rfl) (hK.sub (tys' := []) [] rfl) rfl hl.1 rfl (Nat.le_of_ble_eq_true rfl) d_P_sort_80 ⟨Nat.zero_le _, Nat.zero_le _⟩ ?_
                    refine lv_if_eq hx hb d_P_sort_83 (tgt := 109) rfl (fun q5 => ?_) (fun q5 => ?_)
                    · have q5 : (ps_has x (nI i)) = false := bI_0.mp q5
                      refine lv_iinc (k := 0) (v := nI (i + 1)) hx hb d_P_sort_109 hl rfl (inc_nI _) (Nat.le_of_ble_eq_true rfl) rfl (fun ls hl => ?_)
                      have hl : lv_has ls 3 [(2, .int (nI (i + 1))), (0, .ref hp), (1, .int x)] := hl
                      refine lv_goto hx hb d_P_sort_112 (tgt := 67) rfl ?_
                      have he2 : (C2, B2, Y2) = fo (pp_s3 n k F S x) (i + 1) ((fo pp_s1 n (C, Y)).1, fo (pp_s2 x) k B, (fo pp_s1 n (C, Y)).2) := by
                        rw [fo_s, ← he67]
                        simp [pp_s3, q1, q2, q4, q5]
                      exact ih67 (i + 1) (by omega) C2 B2 Y2 H locs ls he2 hP hD hS (lv_sub hl [0, 1, 2] rfl)
                    · have q5 : (ps_has x (nI i)) = true := bI_1.mp q5
                      refine lv_aload_n hx hb d_P_sort_86 rfl (lv_at hl 1 rfl) ?_
                      refine lv_aload_n hx hb d_P_sort_87 rfl (lv_at hl 1 rfl) ?_
                      refine g_get Sx gf_P hK hP 0 rfl rfl 0 (by decide) gm_106 rfl d_P_sort_88 ?_
                      refine g_get Sx gf_G hK hP 4 rfl rfl 2 (by decide) gm_84 rfl d_P_sort_91 ?_
                      refine lv_iload_n hx hb d_P_sort_94 rfl (lv_at hl 0 rfl) ?_
                      refine g_ild (j := i) Sx hK hP 5 0 rfl rfl (by omega) (by decide) d_P_sort_95 ?_
                      refine lv_aload_n hx hb d_P_sort_96 rfl (lv_at hl 1 rfl) ?_
                      refine g_get Sx gf_P hK hP 0 rfl rfl 0 (by decide) gm_106 rfl d_P_sort_97 ?_
                      refine g_get Sx gf_G hK hP 4 rfl rfl 3 (by decide) gm_88 rfl d_P_sort_100 ?_
                      refine lv_iload_n hx hb d_P_sort_103 rfl (lv_at hl 0 rfl) ?_
                      refine g_ild (j := i) Sx hK hP 6 0 rfl rfl (by omega) (by decide) d_P_sort_104 ?_
                      refine lv_iload_n hx hb d_P_sort_105 rfl (lv_at hl 0 rfl) ?_
                      refine rw_V (As := [.int (nI (F i)), .int (nI (S i)), .int (nI i)]) (rest := []) (wr := []) Sx (c_P_place l dC dI n k F S w hg g1 g2 g3 cI C2 B2 Y2 ch bh hp p1 p2 p3 (F i) (S i) i H.size hn hk (Nat.lt_of_lt_of_le (hFS _ (by omega)).1 hn) (Nat.lt_of_lt_of_le (hFS _ (by omega)).2 hn)) (gw_callV gm_252 gm_253 gm_2 gm_53 gm_254) hd_P_place ⟨rfl, rfl⟩ ⟨Nat.le_of_ble_eq_true rfl, Nat.le_of_ble_eq_true rfl⟩ hP hD hS hA (hK.sub (tys' := [(cI, .int)]) [0] rfl) [0, 1, 2, 3, 4, 5, 6, 7] [] rfl rfl (by decide) (by decide) (by decide) rfl 0 rfl rfl hl.1 rfl (Nat.le_of_ble_eq_true rfl) d_P_sort_106 ⟨Nat.zero_le _, Nat.zero_le _⟩ (fun H locs hP hD hS => ?_)
                      have hP : va_P (dC, dI) pcl [(hp, .inr (2, [.ref hg, .ref p1, .ref p2, .int ch, .int bh, .ref p3])), (p1, .inl (cI, 10, .inl ((pp_place n k (F i) (S i) i C2 B2 Y2).1))), (p2, .inl (cI, 18, .inl ((pp_place n k (F i) (S i) i C2 B2 Y2).2.1))), (p3, .inl (cI, 10, .inl ((pp_place n k (F i) (S i) i C2 B2 Y2).2.2))), (hg, .inr (1, [.int (nI n), .int (nI k), .ref g1, .ref g2, .ref g3])), (g1, .inl (cI, 18, .inl (fun i9 => nI (F i9)))), (g2, .inl (cI, 18, .inl (fun i9 => nI (S i9)))), (g3, .inl (cI, 18, .inl w))] H := hP
                      have hD : va_D A [(hp, .inr (2, [.ref hg, .ref p1, .ref p2, .int ch, .int bh, .ref p3])), (p1, .inl (cI, 10, .inl ((pp_place n k (F i) (S i) i C2 B2 Y2).1))), (p2, .inl (cI, 18, .inl ((pp_place n k (F i) (S i) i C2 B2 Y2).2.1))), (p3, .inl (cI, 10, .inl ((pp_place n k (F i) (S i) i C2 B2 Y2).2.2))), (hg, .inr (1, [.int (nI n), .int (nI k), .ref g1, .ref g2, .ref g3])), (g1, .inl (cI, 18, .inl (fun i9 => nI (F i9)))), (g2, .inl (cI, 18, .inl (fun i9 => nI (S i9)))), (g3, .inl (cI, 18, .inl w))] := hD
                      refine lv_iinc (k := 0) (v := nI (i + 1)) hx hb d_P_sort_109 hl rfl (inc_nI _) (Nat.le_of_ble_eq_true rfl) rfl (fun ls hl => ?_)
                      have hl : lv_has ls 3 [(2, .int (nI (i + 1))), (0, .ref hp), (1, .int x)] := hl
                      refine lv_goto hx hb d_P_sort_112 (tgt := 67) rfl ?_
                      have he2 : ((pp_place n k (F i) (S i) i C2 B2 Y2).1, (pp_place n k (F i) (S i) i C2 B2 Y2).2.1, (pp_place n k (F i) (S i) i C2 B2 Y2).2.2) = fo (pp_s3 n k F S x) (i + 1) ((fo pp_s1 n (C, Y)).1, fo (pp_s2 x) k B, (fo pp_s1 n (C, Y)).2) := by
                        rw [fo_s, ← he67]
                        simp [pp_s3, q1, q2, q4, q5]
                      exact ih67 (i + 1) (by omega) ((pp_place n k (F i) (S i) i C2 B2 Y2).1) ((pp_place n k (F i) (S i) i C2 B2 Y2).2.1) ((pp_place n k (F i) (S i) i C2 B2 Y2).2.2) H locs ls he2 hP hD hS (lv_sub hl [0, 1, 2] rfl)
              exact hL67 k 0 (by omega) ((fo pp_s1 n (C, Y)).1) (fo (pp_s2 x) k B) ((fo pp_s1 n (C, Y)).2) H locs ls rfl hP hD hS (lv_sub hl [0, 1, 2] rfl)
            · have q2 : k < k := nq_nle (by omega) (by omega) q2
              exact absurd q2 (by omega)
          | succ kk ih37 =>
            intro i hi37 B1 H locs ls he37 hP hD hS hl
            refine lv_iload_n hx hb d_P_sort_37 rfl (lv_at hl 0 rfl) ?_
            refine lv_aload_n hx hb d_P_sort_38 rfl (lv_at hl 1 rfl) ?_
            refine g_get Sx gf_P hK hP 0 rfl rfl 0 (by decide) gm_106 rfl d_P_sort_39 ?_
            refine g_get Sx gf_G hK hP 4 rfl rfl 1 (by decide) gm_80 rfl d_P_sort_42 ?_
            refine lv_icmp_ge hx hb d_P_sort_45 (tgt := 65) rfl (fun q6 => ?_) (fun q6 => ?_)
            · have q6 : k ≤ i := nq_le (by omega) (by omega) q6
              exact absurd q6 (by omega)
            · have q6 : i < k := nq_nle (by omega) (by omega) q6
              refine lv_aload_n hx hb d_P_sort_48 rfl (lv_at hl 1 rfl) ?_
              refine g_get Sx gf_P hK hP 0 rfl rfl 2 (by decide) gm_109 rfl d_P_sort_49 ?_
              refine lv_iload_n hx hb d_P_sort_52 rfl (lv_at hl 0 rfl) ?_
              refine lv_iload_n hx hb d_P_sort_53 rfl (lv_at hl 2 rfl) ?_
              refine lv_iconst (v := 1) hx hb d_P_sort_54 (by decide) ?_
              refine lv_iload_n hx hb d_P_sort_55 rfl (lv_at hl 0 rfl) ?_
              refine lv_ishl hx hb d_P_sort_56 ?_
              refine lv_iand hx hb d_P_sort_57 ?_
              refine g_ist (j := i) Sx hK hP hD hS 2 0 rfl rfl (by omega) (by decide) d_P_sort_58 (fun H locs hP hD hS => ?_)
              have hP : va_P (dC, dI) pcl [(hp, .inr (2, [.ref hg, .ref p1, .ref p2, .int ch, .int bh, .ref p3])), (p1, .inl (cI, 10, .inl ((fo pp_s1 n (C, Y)).1))), (p2, .inl (cI, 18, .inl (upd B1 i (x &&& (1 <<< ((nI i) &&& 31)))))), (p3, .inl (cI, 10, .inl ((fo pp_s1 n (C, Y)).2))), (hg, .inr (1, [.int (nI n), .int (nI k), .ref g1, .ref g2, .ref g3])), (g1, .inl (cI, 18, .inl (fun i9 => nI (F i9)))), (g2, .inl (cI, 18, .inl (fun i9 => nI (S i9)))), (g3, .inl (cI, 18, .inl w))] H := hP
              have hD : va_D A [(hp, .inr (2, [.ref hg, .ref p1, .ref p2, .int ch, .int bh, .ref p3])), (p1, .inl (cI, 10, .inl ((fo pp_s1 n (C, Y)).1))), (p2, .inl (cI, 18, .inl (upd B1 i (x &&& (1 <<< ((nI i) &&& 31)))))), (p3, .inl (cI, 10, .inl ((fo pp_s1 n (C, Y)).2))), (hg, .inr (1, [.int (nI n), .int (nI k), .ref g1, .ref g2, .ref g3])), (g1, .inl (cI, 18, .inl (fun i9 => nI (F i9)))), (g2, .inl (cI, 18, .inl (fun i9 => nI (S i9)))), (g3, .inl (cI, 18, .inl w))] := hD
              refine lv_iinc (k := 0) (v := nI (i + 1)) hx hb d_P_sort_59 hl rfl (inc_nI _) (Nat.le_of_ble_eq_true rfl) rfl (fun ls hl => ?_)
              have hl : lv_has ls 3 [(2, .int (nI (i + 1))), (0, .ref hp), (1, .int x)] := hl
              refine lv_goto hx hb d_P_sort_62 (tgt := 37) rfl ?_
              have he2 : (upd B1 i (x &&& (1 <<< ((nI i) &&& 31)))) = fo (pp_s2 x) (i + 1) B := by
                rw [fo_s, ← he37]
                simp [pp_s2, q1, q6]
              exact ih37 (i + 1) (by omega) (upd B1 i (x &&& (1 <<< ((nI i) &&& 31)))) H locs ls he2 hP hD hS (lv_sub hl [0, 1, 2] rfl)
        exact hL37 k 0 (by omega) B H locs ls rfl hP hD hS (lv_sub hl [0, 1, 2] rfl)
      · have q1 : n < n := nq_nle (by omega) (by omega) q1
        exact absurd q1 (by omega)
    | succ kk ih2 =>
      intro i hi2 C1 Y1 H locs ls he2 hP hD hS hl
      refine lv_iload_n hx hb d_P_sort_2 rfl (lv_at hl 0 rfl) ?_
      refine lv_aload_n hx hb d_P_sort_3 rfl (lv_at hl 1 rfl) ?_
      refine g_get Sx gf_P hK hP 0 rfl rfl 0 (by decide) gm_106 rfl d_P_sort_4 ?_
      refine g_get Sx gf_G hK hP 4 rfl rfl 0 (by decide) gm_74 rfl d_P_sort_7 ?_
      refine lv_icmp_ge hx hb d_P_sort_10 (tgt := 35) rfl (fun q7 => ?_) (fun q7 => ?_)
      · have q7 : n ≤ i := nq_le (by omega) (by omega) q7
        exact absurd q7 (by omega)
      · have q7 : i < n := nq_nle (by omega) (by omega) q7
        refine lv_aload_n hx hb d_P_sort_13 rfl (lv_at hl 1 rfl) ?_
        refine g_get Sx gf_P hK hP 0 rfl rfl 1 (by decide) gm_107 rfl d_P_sort_14 ?_
        refine lv_iload_n hx hb d_P_sort_17 rfl (lv_at hl 0 rfl) ?_
        refine lv_iconst (v := 1) hx hb d_P_sort_18 (by decide) ?_
        refine lv_iload_n hx hb d_P_sort_19 rfl (lv_at hl 0 rfl) ?_
        refine lv_ishl hx hb d_P_sort_20 ?_
        refine g_ist (j := i) Sx hK hP hD hS 1 0 rfl rfl (by omega) (by decide) d_P_sort_21 (fun H locs hP hD hS => ?_)
        have hP : va_P (dC, dI) pcl [(hp, .inr (2, [.ref hg, .ref p1, .ref p2, .int ch, .int bh, .ref p3])), (p1, .inl (cI, 10, .inl (upd C1 i (1 <<< ((nI i) &&& 31))))), (p2, .inl (cI, 18, .inl B)), (p3, .inl (cI, 10, .inl Y1)), (hg, .inr (1, [.int (nI n), .int (nI k), .ref g1, .ref g2, .ref g3])), (g1, .inl (cI, 18, .inl (fun i9 => nI (F i9)))), (g2, .inl (cI, 18, .inl (fun i9 => nI (S i9)))), (g3, .inl (cI, 18, .inl w))] H := hP
        have hD : va_D A [(hp, .inr (2, [.ref hg, .ref p1, .ref p2, .int ch, .int bh, .ref p3])), (p1, .inl (cI, 10, .inl (upd C1 i (1 <<< ((nI i) &&& 31))))), (p2, .inl (cI, 18, .inl B)), (p3, .inl (cI, 10, .inl Y1)), (hg, .inr (1, [.int (nI n), .int (nI k), .ref g1, .ref g2, .ref g3])), (g1, .inl (cI, 18, .inl (fun i9 => nI (F i9)))), (g2, .inl (cI, 18, .inl (fun i9 => nI (S i9)))), (g3, .inl (cI, 18, .inl w))] := hD
        refine lv_aload_n hx hb d_P_sort_22 rfl (lv_at hl 1 rfl) ?_
        refine g_get Sx gf_P hK hP 0 rfl rfl 5 (by decide) gm_117 rfl d_P_sort_23 ?_
        refine lv_iload_n hx hb d_P_sort_26 rfl (lv_at hl 0 rfl) ?_
        refine lv_iconst (v := 0) hx hb d_P_sort_27 (by decide) ?_
        refine g_ist (j := i) Sx hK hP hD hS 3 0 rfl rfl (by omega) (by decide) d_P_sort_28 (fun H locs hP hD hS => ?_)
        have hP : va_P (dC, dI) pcl [(hp, .inr (2, [.ref hg, .ref p1, .ref p2, .int ch, .int bh, .ref p3])), (p1, .inl (cI, 10, .inl (upd C1 i (1 <<< ((nI i) &&& 31))))), (p2, .inl (cI, 18, .inl B)), (p3, .inl (cI, 10, .inl (upd Y1 i 0))), (hg, .inr (1, [.int (nI n), .int (nI k), .ref g1, .ref g2, .ref g3])), (g1, .inl (cI, 18, .inl (fun i9 => nI (F i9)))), (g2, .inl (cI, 18, .inl (fun i9 => nI (S i9)))), (g3, .inl (cI, 18, .inl w))] H := hP
        have hD : va_D A [(hp, .inr (2, [.ref hg, .ref p1, .ref p2, .int ch, .int bh, .ref p3])), (p1, .inl (cI, 10, .inl (upd C1 i (1 <<< ((nI i) &&& 31))))), (p2, .inl (cI, 18, .inl B)), (p3, .inl (cI, 10, .inl (upd Y1 i 0))), (hg, .inr (1, [.int (nI n), .int (nI k), .ref g1, .ref g2, .ref g3])), (g1, .inl (cI, 18, .inl (fun i9 => nI (F i9)))), (g2, .inl (cI, 18, .inl (fun i9 => nI (S i9)))), (g3, .inl (cI, 18, .inl w))] := hD
        refine lv_iinc (k := 0) (v := nI (i + 1)) hx hb d_P_sort_29 hl rfl (inc_nI _) (Nat.le_of_ble_eq_true rfl) rfl (fun ls hl => ?_)
        have hl : lv_has ls 3 [(2, .int (nI (i + 1))), (0, .ref hp), (1, .int x)] := hl
        refine lv_goto hx hb d_P_sort_32 (tgt := 2) rfl ?_
        have he2 : (upd C1 i (1 <<< ((nI i) &&& 31)), upd Y1 i 0) = fo pp_s1 (i + 1) (C, Y) := by
          rw [fo_s, ← he2]
          simp [pp_s1, q7]
        exact ih2 (i + 1) (by omega) (upd C1 i (1 <<< ((nI i) &&& 31))) (upd Y1 i 0) H locs ls he2 hP hD hS (lv_sub hl [0, 1, 2] rfl)
  exact hL2 n 0 (by omega) C Y H locs ls rfl hP hD hS (lv_sub hl [0, 1, 2] rfl)
