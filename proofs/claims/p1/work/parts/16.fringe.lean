/-! the reference's test: what it tells, its fringes -/
def pm_ta1 (k : Nat) (x : Int32) (f : Nat) : Nat → (Nat → Int32) × (Nat → Int32) × Bool → (Nat → Int32) × (Nat → Int32) × Bool := fun i s => if pm_has x (nI (f + 1 + i)) = true then pm_tell k f (f + 1 + i) 0 s.1 s.2.1 s.2.2 else s
def pm_ta (k : Nat) (x : Int32) (s : (Nat → Int32) × (Nat → Int32) × Bool) : (Nat → Int32) × (Nat → Int32) × Bool := fo (pm_ta1 k x (pm_least x)) (k - (pm_least x + 1)) s
def pm_dl (k : Nat) (Dp : Nat → Int32) (sh : Nat → Nat) (x z : Int32) (v : Nat) : Int32 := fo (pm_de1 Dp sh x (fo (pm_lo1 Dp sh z) k (Dp v))) k 0
def pm_cmp2 (k : Nat) (a b : Int32) (s : (Nat → Int32) × (Nat → Int32) × Bool) : (Nat → Int32) × (Nat → Int32) × Bool := if b = 0 then (if a = 0 then s else pm_ta k a s) else pm_ta k b (if a = 0 then s else pm_ta k a s)
def pm_cmp3 (k : Nat) (a b : Int32) (s : (Nat → Int32) × (Nat → Int32) × Bool) : (Nat → Int32) × (Nat → Int32) × Bool := if a = 0 ∨ b = 0 then pm_cmp2 k a b s else pm_tell k (pm_least a) (pm_least b) 1 (pm_cmp2 k a b s).1 (pm_cmp2 k a b s).2.1 (pm_cmp2 k a b s).2.2
def pm_cmp (k : Nat) (Dp : Nat → Int32) (sh : Nat → Nat) (x z : Int32) (v : Nat) (s : (Nat → Int32) × (Nat → Int32) × Bool) : (Nat → Int32) × (Nat → Int32) × Bool := pm_cmp3 k (pm_dl k Dp sh x z v) (pm_dl k Dp sh z x v) s
theorem pm_oth_lt {E : Nat → Nat} (hE : ∀ j, E j < 10) (e v : Nat) : pm_oth E e v < 10 := by
  unfold pm_oth
  by_cases h : nI (E (2 * e)) = nI v
  · rw [if_pos h]; exact hE _
  · rw [if_neg h]; exact hE _
def pm_fr1 (x : Int32) (E Yb Pr dq sh : Nat → Nat) (Dp : Nat → Int32) (v t : Nat) : Nat → Int32 → Int32 := fun f d => if pm_bk x E Yb f = true ∧ ¬ Dp v ≤ Dp (sh f) ∧ pm_below Pr (dq f) t = true then d ||| (1 <<< (nI f &&& 31)) else d
def pm_fr (k : Nat) (x : Int32) (E Yb Pr dq sh : Nat → Nat) (Dp : Nat → Int32) (e v : Nat) : Int32 := if pm_has x (nI e) = true ∧ pm_tch E e v = true then (if pm_int E Yb e = true then (if oI (Yb (pm_oth E e v)) = nI e then fo (pm_fr1 x E Yb Pr dq sh Dp v (pm_oth E e v)) k 0 else 0) else (if nI (dq e) = nI v then 1 <<< (nI e &&& 31) else 0)) else 0
theorem d_M_tellAlike_0 : decode k_M_tellAlike 0 = .ok (.iload_n 1, 1) := by decide +kernel
theorem d_M_tellAlike_1 : decode k_M_tellAlike 1 = .ok (.invokestatic 97, 3) := by decide +kernel
theorem d_M_tellAlike_4 : decode k_M_tellAlike 4 = .ok (.istore_n 2, 1) := by decide +kernel
theorem d_M_tellAlike_5 : decode k_M_tellAlike 5 = .ok (.iload_n 2, 1) := by decide +kernel
theorem d_M_tellAlike_6 : decode k_M_tellAlike 6 = .ok (.iconst 1, 1) := by decide +kernel
theorem d_M_tellAlike_7 : decode k_M_tellAlike 7 = .ok (.iadd, 1) := by decide +kernel
theorem d_M_tellAlike_8 : decode k_M_tellAlike 8 = .ok (.istore_n 3, 1) := by decide +kernel
theorem d_M_tellAlike_9 : decode k_M_tellAlike 9 = .ok (.iload_n 3, 1) := by decide +kernel
theorem d_M_tellAlike_10 : decode k_M_tellAlike 10 = .ok (.aload_n 0, 1) := by decide +kernel
theorem d_M_tellAlike_11 : decode k_M_tellAlike 11 = .ok (.getfield 56, 3) := by decide +kernel
theorem d_M_tellAlike_14 : decode k_M_tellAlike 14 = .ok (.if_icmp .ge 24, 3) := by decide +kernel
theorem d_M_tellAlike_17 : decode k_M_tellAlike 17 = .ok (.iload_n 1, 1) := by decide +kernel
theorem d_M_tellAlike_18 : decode k_M_tellAlike 18 = .ok (.iload_n 3, 1) := by decide +kernel
theorem d_M_tellAlike_19 : decode k_M_tellAlike 19 = .ok (.invokestatic 70, 3) := by decide +kernel
theorem d_M_tellAlike_22 : decode k_M_tellAlike 22 = .ok (.ifCond .eq 10, 3) := by decide +kernel
theorem d_M_tellAlike_25 : decode k_M_tellAlike 25 = .ok (.aload_n 0, 1) := by decide +kernel
theorem d_M_tellAlike_26 : decode k_M_tellAlike 26 = .ok (.iload_n 2, 1) := by decide +kernel
theorem d_M_tellAlike_27 : decode k_M_tellAlike 27 = .ok (.iload_n 3, 1) := by decide +kernel
theorem d_M_tellAlike_28 : decode k_M_tellAlike 28 = .ok (.iconst 0, 1) := by decide +kernel
theorem d_M_tellAlike_29 : decode k_M_tellAlike 29 = .ok (.invokevirtual 101, 3) := by decide +kernel
theorem d_M_tellAlike_32 : decode k_M_tellAlike 32 = .ok (.iinc 3 1, 3) := by decide +kernel
theorem d_M_tellAlike_35 : decode k_M_tellAlike 35 = .ok (.goto (-26), 3) := by decide +kernel
theorem d_M_tellAlike_38 : decode k_M_tellAlike 38 = .ok (.return_, 1) := by decide +kernel
abbrev rm_M_tellAlike : Room := { frames := 2, cells := 0, slots := 0, locals := 42 }
theorem hd_M_tellAlike : y_M_tellAlike.cls = n_M ∧ y_M_tellAlike.cls ≠ "java/lang/invoke/MethodHandle" ∧ y_M_tellAlike.cls ≠ "java/lang/invoke/VarHandle" ∧ (parseMethodDescriptor y_M_tellAlike.desc).map (fun d => d.parameters.length) = some 1 := by decide +kernel
set_option maxHeartbeats 4000000 in
set_option maxRecDepth 100000 in
theorem c_M_tellAlike (l : Launch) (dC : Nat → ClassId) (dI : Nat → Nat → Nat) (n : Nat) (k : Nat) (wk : Bool) (fl : Bool) (cm : Nat) (bl : Int32) (sd : Int32) (sm : Int64) (co : Int32) (cf : Bool) (hm : Nat) (a1 : Nat) (a2 : Nat) (a3 : Nat) (a4 : Nat) (a5 : Nat) (a6 : Nat) (a7 : Nat) (a8 : Nat) (a9 : Nat) (a10 : Nat) (a11 : Nat) (a12 : Nat) (a13 : Nat) (a14 : Nat) (cI : ClassId) (gp : Nat → Int32) (hd : Nat → Int32) (x : Int32) (sz : Nat) (hk : k ≤ 18) (hleast : pm_leD x (pm_least x) = true) (hlk : pm_least x < k) : Met l y_M_tellAlike (.code y_M_tellAlike k_M_tellAlike 4 none :: gw) rm_M_tellAlike (rwP [.ref hm, .int x] (dC, dI) [(hm, .inr (5, [.int (nI n), .int (nI k), .ref a1, .ref a2, .int (bI wk), .int (bI fl), .int (nI cm), .ref a3, .ref a4, .int bl, .int sd, .long sm, .int co, .ref a5, .ref a6, .ref a7, .ref a8, .ref a9, .ref a10, .ref a11, .ref a12, .ref a13, .int (bI cf), .ref a14])), (a12, .inl (cI, 18, .inl gp)), (a13, .inl (cI, 18, .inl hd))] [(cI, .int)] sz) (va_Qv (fun _ : Unit => True) (rwB (dC, dI) [(hm, .inr (5, [.int (nI n), .int (nI k), .ref a1, .ref a2, .int (bI wk), .int (bI fl), .int (nI cm), .ref a3, .ref a4, .int bl, .int sd, .long sm, .int co, .ref a5, .ref a6, .ref a7, .ref a8, .ref a9, .ref a10, .ref a11, .ref a12, .ref a13, .int (bI ((pm_ta k x (gp, hd, cf)).2.2)), .ref a14])), (a12, .inl (cI, 18, .inl ((pm_ta k x (gp, hd, cf)).1))), (a13, .inl (cI, 18, .inl ((pm_ta k x (gp, hd, cf)).2.1)))] [(cI, .int)] (va_A [(hm, .inr (5, [.int (nI n), .int (nI k), .ref a1, .ref a2, .int (bI wk), .int (bI fl), .int (nI cm), .ref a3, .ref a4, .int bl, .int sd, .long sm, .int co, .ref a5, .ref a6, .ref a7, .ref a8, .ref a9, .ref a10, .ref a11, .ref a12, .ref a13, .int (bI cf), .ref a14])), (a12, .inl (cI, 18, .inl gp)), (a13, .inl (cI, 18, .inl hd))] sz)) (va_A [(hm, .inr (5, [.int (nI n), .int (nI k), .ref a1, .ref a2, .int (bI wk), .int (bI fl), .int (nI cm), .ref a3, .ref a4, .int bl, .int sd, .long sm, .int co, .ref a5, .ref a6, .ref a7, .ref a8, .ref a9, .ref a10, .ref a11, .ref a12, .ref a13, .int (bI cf), .ref a14])), (a12, .inl (cI, 18, .inl gp)), (a13, .inl (cI, 18, .inl hd))] sz)) 0 0 (va_A [(hm, .inr (5, [.int (nI n), .int (nI k), .ref a1, .ref a2, .int (bI wk), .int (bI fl), .int (nI cm), .ref a3, .ref a4, .int bl, .int sd, .long sm, .int co, .ref a5, .ref a6, .ref a7, .ref a8, .ref a9, .ref a10, .ref a11, .ref a12, .ref a13, .int (bI cf), .ref a14])), (a12, .inl (cI, 18, .inl gp)), (a13, .inl (cI, 18, .inl hd))] sz) := by
  refine rw_met (by decide) ⟨rfl, rfl⟩ (Nat.le_of_ble_eq_true rfl) ?_
  intro p e s m args below meth c Q A ls Sx hP hK hD hA hl hret
  have hx := Sx.1
  have hb := Sx.2.1
  have hl : lv_has ls 4 [(0, .ref hm), (1, .int x)] := hl
  have hS : va_S A s.heap s.heap [] := va_S.rf
  obtain ⟨H, hH⟩ : ∃ H, H = s.heap := ⟨_, rfl⟩
  obtain ⟨locs, hlo⟩ : ∃ locs : List Loc, locs = [] := ⟨_, rfl⟩
  rw [← hlo]
  rw [← hlo] at hS
  have hP : va_P (dC, dI) pcl [(hm, .inr (5, [.int (nI n), .int (nI k), .ref a1, .ref a2, .int (bI wk), .int (bI fl), .int (nI cm), .ref a3, .ref a4, .int bl, .int sd, .long sm, .int co, .ref a5, .ref a6, .ref a7, .ref a8, .ref a9, .ref a10, .ref a11, .ref a12, .ref a13, .int (bI cf), .ref a14])), (a12, .inl (cI, 18, .inl gp)), (a13, .inl (cI, 18, .inl hd))] H := by rw [hH]; exact hP
  have hS : va_S A s.heap H locs := by rw [hH]; exact hS
  suffices hgo : W p l e rm_M_tellAlike s m args below meth c H locs 0 0 Q (F0 m 0 ls []) by rw [hH] at hgo; exact hgo
  refine lv_iload_n hx hb d_M_tellAlike_0 rfl (lv_at hl 1 rfl) ?_
  refine ro_S (As := [.int x]) (rest := []) Sx (c_M_least l dC dI x hleast) (gw_callS gm_542 gm_543 gm_56 gm_544) hd_M_least ⟨rfl, rfl⟩ ⟨Nat.le_of_ble_eq_true rfl, Nat.le_of_ble_eq_true rfl⟩ (va_P_map hP [] rfl) (hK.sub (tys' := []) [] rfl) rfl hl.1 rfl (Nat.le_of_ble_eq_true rfl) d_M_tellAlike_1 ⟨Nat.zero_le _, Nat.zero_le _⟩ ?_
  refine lv_istore_n hx hb d_M_tellAlike_4 rfl hl (Nat.le_of_ble_eq_true rfl) rfl (fun ls hl => ?_)
  have hl : lv_has ls 4 [(2, .int (nI (pm_least x))), (0, .ref hm), (1, .int x)] := hl
  refine lv_iload_n hx hb d_M_tellAlike_5 rfl (lv_at hl 0 rfl) ?_
  refine lv_iconst (v := nI 1) hx hb d_M_tellAlike_6 (by decide) ?_
  refine lv_iadd hx hb d_M_tellAlike_7 ?_
  rw [show (((nI (pm_least x)) + (nI 1)) : Int32) = nI ((pm_least x) + 1) from nI_add _ _]
  refine lv_istore_n hx hb d_M_tellAlike_8 rfl hl (Nat.le_of_ble_eq_true rfl) rfl (fun ls hl => ?_)
  have hl : lv_has ls 4 [(3, .int (nI ((pm_least x) + 1))), (2, .int (nI (pm_least x))), (0, .ref hm), (1, .int x)] := hl
  have hL9 : ∀ (kk i : Nat), i + kk = (k - (pm_least x + 1)) → ∀ (gp1 : Nat → Int32) (hd1 : Nat → Int32) (cf1 : Bool) (H : Heap) (locs : List Loc) (ls : Array Slot), (gp1, hd1, cf1) = fo (pm_ta1 k x (pm_least x)) i (gp, hd, cf) → va_P (dC, dI) pcl [(hm, .inr (5, [.int (nI n), .int (nI k), .ref a1, .ref a2, .int (bI wk), .int (bI fl), .int (nI cm), .ref a3, .ref a4, .int bl, .int sd, .long sm, .int co, .ref a5, .ref a6, .ref a7, .ref a8, .ref a9, .ref a10, .ref a11, .ref a12, .ref a13, .int (bI cf1), .ref a14])), (a12, .inl (cI, 18, .inl gp1)), (a13, .inl (cI, 18, .inl hd1))] H → va_D A [(hm, .inr (5, [.int (nI n), .int (nI k), .ref a1, .ref a2, .int (bI wk), .int (bI fl), .int (nI cm), .ref a3, .ref a4, .int bl, .int sd, .long sm, .int co, .ref a5, .ref a6, .ref a7, .ref a8, .ref a9, .ref a10, .ref a11, .ref a12, .ref a13, .int (bI cf1), .ref a14])), (a12, .inl (cI, 18, .inl gp1)), (a13, .inl (cI, 18, .inl hd1))] → va_S A s.heap H locs → lv_has ls 4 [(3, .int (nI (pm_least x + 1 + i))), (2, .int (nI (pm_least x))), (0, .ref hm), (1, .int x)] → W p l e rm_M_tellAlike s m args below meth c H locs 0 0 Q (F0 m 9 ls []) := by
    intro kk
    induction kk with
    | zero =>
      intro i hi9 gp1 hd1 cf1 H locs ls he9 hP hD hS hl
      have hj9 : i = k - (pm_least x + 1) := by omega
      rw [hj9] at hl he9
      have e_gp1 : gp1 = (fo (pm_ta1 k x (pm_least x)) (k - (pm_least x + 1)) (gp, hd, cf)).1 := by rw [← he9]
      subst e_gp1
      have e_hd1 : hd1 = (fo (pm_ta1 k x (pm_least x)) (k - (pm_least x + 1)) (gp, hd, cf)).2.1 := by rw [← he9]
      subst e_hd1
      have e_cf1 : cf1 = (fo (pm_ta1 k x (pm_least x)) (k - (pm_least x + 1)) (gp, hd, cf)).2.2 := by rw [← he9]
      subst e_cf1
      have hl : lv_has ls 4 [(3, .int (nI (pm_least x + 1 + (k - (pm_least x + 1))))), (2, .int (nI (pm_least x))), (0, .ref hm), (1, .int x)] := hl
      have hP : va_P (dC, dI) pcl [(hm, .inr (5, [.int (nI n), .int (nI k), .ref a1, .ref a2, .int (bI wk), .int (bI fl), .int (nI cm), .ref a3, .ref a4, .int bl, .int sd, .long sm, .int co, .ref a5, .ref a6, .ref a7, .ref a8, .ref a9, .ref a10, .ref a11, .ref a12, .ref a13, .int (bI ((fo (pm_ta1 k x (pm_least x)) (k - (pm_least x + 1)) (gp, hd, cf)).2.2)), .ref a14])), (a12, .inl (cI, 18, .inl ((fo (pm_ta1 k x (pm_least x)) (k - (pm_least x + 1)) (gp, hd, cf)).1))), (a13, .inl (cI, 18, .inl ((fo (pm_ta1 k x (pm_least x)) (k - (pm_least x + 1)) (gp, hd, cf)).2.1)))] H := hP
      have hD : va_D A [(hm, .inr (5, [.int (nI n), .int (nI k), .ref a1, .ref a2, .int (bI wk), .int (bI fl), .int (nI cm), .ref a3, .ref a4, .int bl, .int sd, .long sm, .int co, .ref a5, .ref a6, .ref a7, .ref a8, .ref a9, .ref a10, .ref a11, .ref a12, .ref a13, .int (bI ((fo (pm_ta1 k x (pm_least x)) (k - (pm_least x + 1)) (gp, hd, cf)).2.2)), .ref a14])), (a12, .inl (cI, 18, .inl ((fo (pm_ta1 k x (pm_least x)) (k - (pm_least x + 1)) (gp, hd, cf)).1))), (a13, .inl (cI, 18, .inl ((fo (pm_ta1 k x (pm_least x)) (k - (pm_least x + 1)) (gp, hd, cf)).2.1)))] := hD
      refine lv_iload_n hx hb d_M_tellAlike_9 rfl (lv_at hl 0 rfl) ?_
      refine lv_aload_n hx hb d_M_tellAlike_10 rfl (lv_at hl 2 rfl) ?_
      refine g_get Sx gf_M hK hP 0 rfl rfl 1 (by decide) gm_420 rfl d_M_tellAlike_11 ?_
      refine lv_icmp_ge hx hb d_M_tellAlike_14 (tgt := 38) rfl (fun q1 => ?_) (fun q1 => ?_)
      · have q1 : k ≤ (pm_least x + 1 + (k - (pm_least x + 1))) := nq_le (by omega) (by omega) q1
        exact hret _ H locs _ d_M_tellAlike_38 hP hD hS
      · have q1 : (pm_least x + 1 + (k - (pm_least x + 1))) < k := nq_nle (by omega) (by omega) q1
        exact absurd q1 (by omega)
    | succ kk ih9 =>
      intro i hi9 gp1 hd1 cf1 H locs ls he9 hP hD hS hl
      refine lv_iload_n hx hb d_M_tellAlike_9 rfl (lv_at hl 0 rfl) ?_
      refine lv_aload_n hx hb d_M_tellAlike_10 rfl (lv_at hl 2 rfl) ?_
      refine g_get Sx gf_M hK hP 0 rfl rfl 1 (by decide) gm_420 rfl d_M_tellAlike_11 ?_
      refine lv_icmp_ge hx hb d_M_tellAlike_14 (tgt := 38) rfl (fun q2 => ?_) (fun q2 => ?_)
      · have q2 : k ≤ (pm_least x + 1 + i) := nq_le (by omega) (by omega) q2
        exact absurd q2 (by omega)
      · have q2 : (pm_least x + 1 + i) < k := nq_nle (by omega) (by omega) q2
        refine lv_iload_n hx hb d_M_tellAlike_17 rfl (lv_at hl 3 rfl) ?_
        refine lv_iload_n hx hb d_M_tellAlike_18 rfl (lv_at hl 0 rfl) ?_
        refine ro_S (As := [.int x, .int (nI (pm_least x + 1 + i))]) (rest := []) Sx (c_M_has l dC dI x (nI (pm_least x + 1 + i))) (gw_callS gm_509 gm_510 gm_56 gm_511) hd_M_has ⟨rfl, rfl⟩ ⟨Nat.le_of_ble_eq_true rfl, Nat.le_of_ble_eq_true rfl⟩ (va_P_map hP [] rfl) (hK.sub (tys' := []) [] rfl) rfl hl.1 rfl (Nat.le_of_ble_eq_true rfl) d_M_tellAlike_19 ⟨Nat.zero_le _, Nat.zero_le _⟩ ?_
        refine lv_if_eq hx hb d_M_tellAlike_22 (tgt := 32) rfl (fun q3 => ?_) (fun q3 => ?_)
        · have q3 : (pm_has x (nI (pm_least x + 1 + i))) = false := bI_0.mp q3
          refine lv_iinc (k := 0) (v := nI (pm_least x + 1 + i + 1)) hx hb d_M_tellAlike_32 hl rfl (inc_nI _) (Nat.le_of_ble_eq_true rfl) rfl (fun ls hl => ?_)
          have hl : lv_has ls 4 [(3, .int (nI (pm_least x + 1 + i + 1))), (2, .int (nI (pm_least x))), (0, .ref hm), (1, .int x)] := hl
          refine lv_goto hx hb d_M_tellAlike_35 (tgt := 9) rfl ?_
          have he2 : (gp1, hd1, cf1) = fo (pm_ta1 k x (pm_least x)) (i + 1) (gp, hd, cf) := by
            rw [fo_s, ← he9]
            simp [pm_ta1, q2, q3]
          exact ih9 (i + 1) (by omega) gp1 hd1 cf1 H locs ls he2 hP hD hS (lv_sub hl [0, 1, 2, 3] rfl)
        · have q3 : (pm_has x (nI (pm_least x + 1 + i))) = true := bI_1.mp q3
          refine lv_aload_n hx hb d_M_tellAlike_25 rfl (lv_at hl 2 rfl) ?_
          refine lv_iload_n hx hb d_M_tellAlike_26 rfl (lv_at hl 1 rfl) ?_
          refine lv_iload_n hx hb d_M_tellAlike_27 rfl (lv_at hl 0 rfl) ?_
          refine lv_iconst (v := 0) hx hb d_M_tellAlike_28 (by decide) ?_
          refine rw_V (As := [.int (nI (pm_least x)), .int (nI (pm_least x + 1 + i)), .int 0]) (rest := []) (wr := []) Sx (c_M_tell l dC dI n k wk fl cm bl sd sm co cf1 hm a1 a2 a3 a4 a5 a6 a7 a8 a9 a10 a11 a12 a13 a14 cI gp1 hd1 (pm_least x) (pm_least x + 1 + i) 0 H.size hk (by omega) (by omega)) (gw_callV gm_545 gm_546 gm_41 gm_56 gm_547) hd_M_tell ⟨rfl, rfl⟩ ⟨Nat.le_of_ble_eq_true rfl, Nat.le_of_ble_eq_true rfl⟩ hP hD hS hA (hK.sub (tys' := [(cI, .int)]) [0] rfl) [0, 1, 2] [] rfl rfl (by decide) (by decide) (by decide) rfl 0 rfl rfl hl.1 rfl (Nat.le_of_ble_eq_true rfl) d_M_tellAlike_29 ⟨Nat.zero_le _, Nat.zero_le _⟩ (fun H locs hP hD hS => ?_)
          have hP : va_P (dC, dI) pcl [(hm, .inr (5, [.int (nI n), .int (nI k), .ref a1, .ref a2, .int (bI wk), .int (bI fl), .int (nI cm), .ref a3, .ref a4, .int bl, .int sd, .long sm, .int co, .ref a5, .ref a6, .ref a7, .ref a8, .ref a9, .ref a10, .ref a11, .ref a12, .ref a13, .int (bI ((pm_tell k (pm_least x) (pm_least x + 1 + i) 0 gp1 hd1 cf1).2.2)), .ref a14])), (a12, .inl (cI, 18, .inl ((pm_tell k (pm_least x) (pm_least x + 1 + i) 0 gp1 hd1 cf1).1))), (a13, .inl (cI, 18, .inl ((pm_tell k (pm_least x) (pm_least x + 1 + i) 0 gp1 hd1 cf1).2.1)))] H := hP
          have hD : va_D A [(hm, .inr (5, [.int (nI n), .int (nI k), .ref a1, .ref a2, .int (bI wk), .int (bI fl), .int (nI cm), .ref a3, .ref a4, .int bl, .int sd, .long sm, .int co, .ref a5, .ref a6, .ref a7, .ref a8, .ref a9, .ref a10, .ref a11, .ref a12, .ref a13, .int (bI ((pm_tell k (pm_least x) (pm_least x + 1 + i) 0 gp1 hd1 cf1).2.2)), .ref a14])), (a12, .inl (cI, 18, .inl ((pm_tell k (pm_least x) (pm_least x + 1 + i) 0 gp1 hd1 cf1).1))), (a13, .inl (cI, 18, .inl ((pm_tell k (pm_least x) (pm_least x + 1 + i) 0 gp1 hd1 cf1).2.1)))] := hD
          refine lv_iinc (k := 0) (v := nI (pm_least x + 1 + i + 1)) hx hb d_M_tellAlike_32 hl rfl (inc_nI _) (Nat.le_of_ble_eq_true rfl) rfl (fun ls hl => ?_)
          have hl : lv_has ls 4 [(3, .int (nI (pm_least x + 1 + i + 1))), (2, .int (nI (pm_least x))), (0, .ref hm), (1, .int x)] := hl
          refine lv_goto hx hb d_M_tellAlike_35 (tgt := 9) rfl ?_
          have he2 : ((pm_tell k (pm_least x) (pm_least x + 1 + i) 0 gp1 hd1 cf1).1, (pm_tell k (pm_least x) (pm_least x + 1 + i) 0 gp1 hd1 cf1).2.1, ((pm_tell k (pm_least x) (pm_least x + 1 + i) 0 gp1 hd1 cf1).2.2)) = fo (pm_ta1 k x (pm_least x)) (i + 1) (gp, hd, cf) := by
            rw [fo_s, ← he9]
            simp [pm_ta1, q2, q3]
          exact ih9 (i + 1) (by omega) ((pm_tell k (pm_least x) (pm_least x + 1 + i) 0 gp1 hd1 cf1).1) ((pm_tell k (pm_least x) (pm_least x + 1 + i) 0 gp1 hd1 cf1).2.1) ((pm_tell k (pm_least x) (pm_least x + 1 + i) 0 gp1 hd1 cf1).2.2) H locs ls he2 hP hD hS (lv_sub hl [0, 1, 2, 3] rfl)
  exact hL9 (k - (pm_least x + 1)) 0 (by omega) gp hd cf H locs ls rfl hP hD hS (lv_sub hl [0, 1, 2, 3] rfl)
theorem d_M_compare_0 : decode k_M_compare 0 = .ok (.aload_n 0, 1) := by decide +kernel
theorem d_M_compare_1 : decode k_M_compare 1 = .ok (.iload_n 1, 1) := by decide +kernel
theorem d_M_compare_2 : decode k_M_compare 2 = .ok (.aload_n 0, 1) := by decide +kernel
theorem d_M_compare_3 : decode k_M_compare 3 = .ok (.iload_n 2, 1) := by decide +kernel
theorem d_M_compare_4 : decode k_M_compare 4 = .ok (.iload_n 3, 1) := by decide +kernel
theorem d_M_compare_5 : decode k_M_compare 5 = .ok (.invokevirtual 105, 3) := by decide +kernel
theorem d_M_compare_8 : decode k_M_compare 8 = .ok (.invokevirtual 108, 3) := by decide +kernel
theorem d_M_compare_11 : decode k_M_compare 11 = .ok (.istore 4, 2) := by decide +kernel
theorem d_M_compare_13 : decode k_M_compare 13 = .ok (.aload_n 0, 1) := by decide +kernel
theorem d_M_compare_14 : decode k_M_compare 14 = .ok (.iload_n 2, 1) := by decide +kernel
theorem d_M_compare_15 : decode k_M_compare 15 = .ok (.aload_n 0, 1) := by decide +kernel
theorem d_M_compare_16 : decode k_M_compare 16 = .ok (.iload_n 1, 1) := by decide +kernel
theorem d_M_compare_17 : decode k_M_compare 17 = .ok (.iload_n 3, 1) := by decide +kernel
theorem d_M_compare_18 : decode k_M_compare 18 = .ok (.invokevirtual 105, 3) := by decide +kernel
theorem d_M_compare_21 : decode k_M_compare 21 = .ok (.invokevirtual 108, 3) := by decide +kernel
theorem d_M_compare_24 : decode k_M_compare 24 = .ok (.istore 5, 2) := by decide +kernel
theorem d_M_compare_26 : decode k_M_compare 26 = .ok (.iload 4, 2) := by decide +kernel
theorem d_M_compare_28 : decode k_M_compare 28 = .ok (.ifCond .eq 9, 3) := by decide +kernel
theorem d_M_compare_31 : decode k_M_compare 31 = .ok (.aload_n 0, 1) := by decide +kernel
theorem d_M_compare_32 : decode k_M_compare 32 = .ok (.iload 4, 2) := by decide +kernel
theorem d_M_compare_34 : decode k_M_compare 34 = .ok (.invokevirtual 111, 3) := by decide +kernel
theorem d_M_compare_37 : decode k_M_compare 37 = .ok (.iload 5, 2) := by decide +kernel
theorem d_M_compare_39 : decode k_M_compare 39 = .ok (.ifCond .eq 9, 3) := by decide +kernel
theorem d_M_compare_42 : decode k_M_compare 42 = .ok (.aload_n 0, 1) := by decide +kernel
theorem d_M_compare_43 : decode k_M_compare 43 = .ok (.iload 5, 2) := by decide +kernel
theorem d_M_compare_45 : decode k_M_compare 45 = .ok (.invokevirtual 111, 3) := by decide +kernel
theorem d_M_compare_48 : decode k_M_compare 48 = .ok (.iload 4, 2) := by decide +kernel
theorem d_M_compare_50 : decode k_M_compare 50 = .ok (.ifCond .eq 31, 3) := by decide +kernel
theorem d_M_compare_53 : decode k_M_compare 53 = .ok (.iload 5, 2) := by decide +kernel
theorem d_M_compare_55 : decode k_M_compare 55 = .ok (.ifCond .eq 26, 3) := by decide +kernel
theorem d_M_compare_58 : decode k_M_compare 58 = .ok (.iload 4, 2) := by decide +kernel
theorem d_M_compare_60 : decode k_M_compare 60 = .ok (.invokestatic 97, 3) := by decide +kernel
theorem d_M_compare_63 : decode k_M_compare 63 = .ok (.istore 6, 2) := by decide +kernel
theorem d_M_compare_65 : decode k_M_compare 65 = .ok (.iload 5, 2) := by decide +kernel
theorem d_M_compare_67 : decode k_M_compare 67 = .ok (.invokestatic 97, 3) := by decide +kernel
theorem d_M_compare_70 : decode k_M_compare 70 = .ok (.istore 7, 2) := by decide +kernel
theorem d_M_compare_72 : decode k_M_compare 72 = .ok (.aload_n 0, 1) := by decide +kernel
theorem d_M_compare_73 : decode k_M_compare 73 = .ok (.iload 6, 2) := by decide +kernel
theorem d_M_compare_75 : decode k_M_compare 75 = .ok (.iload 7, 2) := by decide +kernel
theorem d_M_compare_77 : decode k_M_compare 77 = .ok (.iconst 1, 1) := by decide +kernel
theorem d_M_compare_78 : decode k_M_compare 78 = .ok (.invokevirtual 101, 3) := by decide +kernel
theorem d_M_compare_81 : decode k_M_compare 81 = .ok (.return_, 1) := by decide +kernel
abbrev rm_M_compare : Room := { frames := 3, cells := 0, slots := 0, locals := 65 }
theorem hd_M_compare : y_M_compare.cls = n_M ∧ y_M_compare.cls ≠ "java/lang/invoke/MethodHandle" ∧ y_M_compare.cls ≠ "java/lang/invoke/VarHandle" ∧ (parseMethodDescriptor y_M_compare.desc).map (fun d => d.parameters.length) = some 3 := by decide +kernel
set_option maxHeartbeats 4000000 in
set_option maxRecDepth 100000 in
theorem c_M_compare (l : Launch) (dC : Nat → ClassId) (dI : Nat → Nat → Nat) (n : Nat) (k : Nat) (wk : Bool) (fl : Bool) (cm : Nat) (bl : Int32) (sd : Int32) (sm : Int64) (co : Int32) (cf : Bool) (hm : Nat) (a1 : Nat) (a2 : Nat) (a3 : Nat) (a4 : Nat) (a5 : Nat) (a6 : Nat) (a7 : Nat) (a8 : Nat) (a9 : Nat) (a10 : Nat) (a11 : Nat) (a12 : Nat) (a13 : Nat) (a14 : Nat) (cI : ClassId) (Dp : Nat → Int32) (sh : Nat → Nat) (gp : Nat → Int32) (hd : Nat → Int32) (x : Int32) (z : Int32) (v : Nat) (sz : Nat) (hk : k ≤ 18) (hv : v < 10) (hsh : ∀ j, sh j < 10) (hle : ∀ y lo, ¬ fo (pm_de1 Dp sh y lo) k 0 = 0 → pm_leD (fo (pm_de1 Dp sh y lo) k 0) (pm_least (fo (pm_de1 Dp sh y lo) k 0)) = true ∧ pm_least (fo (pm_de1 Dp sh y lo) k 0) < k) : Met l y_M_compare (.code y_M_compare k_M_compare 8 none :: gw) rm_M_compare (rwP [.ref hm, .int x, .int z, .int (nI v)] (dC, dI) [(hm, .inr (5, [.int (nI n), .int (nI k), .ref a1, .ref a2, .int (bI wk), .int (bI fl), .int (nI cm), .ref a3, .ref a4, .int bl, .int sd, .long sm, .int co, .ref a5, .ref a6, .ref a7, .ref a8, .ref a9, .ref a10, .ref a11, .ref a12, .ref a13, .int (bI cf), .ref a14])), (a5, .inl (cI, 10, .inl Dp)), (a11, .inl (cI, 18, .inl (fun i9 => nI (sh i9)))), (a12, .inl (cI, 18, .inl gp)), (a13, .inl (cI, 18, .inl hd))] [(cI, .int)] sz) (va_Qv (fun _ : Unit => True) (rwB (dC, dI) [(hm, .inr (5, [.int (nI n), .int (nI k), .ref a1, .ref a2, .int (bI wk), .int (bI fl), .int (nI cm), .ref a3, .ref a4, .int bl, .int sd, .long sm, .int co, .ref a5, .ref a6, .ref a7, .ref a8, .ref a9, .ref a10, .ref a11, .ref a12, .ref a13, .int (bI ((pm_cmp k Dp sh x z v (gp, hd, cf)).2.2)), .ref a14])), (a5, .inl (cI, 10, .inl Dp)), (a11, .inl (cI, 18, .inl (fun i9 => nI (sh i9)))), (a12, .inl (cI, 18, .inl ((pm_cmp k Dp sh x z v (gp, hd, cf)).1))), (a13, .inl (cI, 18, .inl ((pm_cmp k Dp sh x z v (gp, hd, cf)).2.1)))] [(cI, .int)] (va_A [(hm, .inr (5, [.int (nI n), .int (nI k), .ref a1, .ref a2, .int (bI wk), .int (bI fl), .int (nI cm), .ref a3, .ref a4, .int bl, .int sd, .long sm, .int co, .ref a5, .ref a6, .ref a7, .ref a8, .ref a9, .ref a10, .ref a11, .ref a12, .ref a13, .int (bI cf), .ref a14])), (a5, .inl (cI, 10, .inl Dp)), (a11, .inl (cI, 18, .inl (fun i9 => nI (sh i9)))), (a12, .inl (cI, 18, .inl gp)), (a13, .inl (cI, 18, .inl hd))] sz)) (va_A [(hm, .inr (5, [.int (nI n), .int (nI k), .ref a1, .ref a2, .int (bI wk), .int (bI fl), .int (nI cm), .ref a3, .ref a4, .int bl, .int sd, .long sm, .int co, .ref a5, .ref a6, .ref a7, .ref a8, .ref a9, .ref a10, .ref a11, .ref a12, .ref a13, .int (bI cf), .ref a14])), (a5, .inl (cI, 10, .inl Dp)), (a11, .inl (cI, 18, .inl (fun i9 => nI (sh i9)))), (a12, .inl (cI, 18, .inl gp)), (a13, .inl (cI, 18, .inl hd))] sz)) 0 0 (va_A [(hm, .inr (5, [.int (nI n), .int (nI k), .ref a1, .ref a2, .int (bI wk), .int (bI fl), .int (nI cm), .ref a3, .ref a4, .int bl, .int sd, .long sm, .int co, .ref a5, .ref a6, .ref a7, .ref a8, .ref a9, .ref a10, .ref a11, .ref a12, .ref a13, .int (bI cf), .ref a14])), (a5, .inl (cI, 10, .inl Dp)), (a11, .inl (cI, 18, .inl (fun i9 => nI (sh i9)))), (a12, .inl (cI, 18, .inl gp)), (a13, .inl (cI, 18, .inl hd))] sz) := by
  refine rw_met (by decide) ⟨rfl, rfl⟩ (Nat.le_of_ble_eq_true rfl) ?_
  intro p e s m args below meth c Q A ls Sx hP hK hD hA hl hret
  have hx := Sx.1
  have hb := Sx.2.1
  have hl : lv_has ls 8 [(0, .ref hm), (1, .int x), (2, .int z), (3, .int (nI v))] := hl
  have hS : va_S A s.heap s.heap [] := va_S.rf
  obtain ⟨H, hH⟩ : ∃ H, H = s.heap := ⟨_, rfl⟩
  obtain ⟨locs, hlo⟩ : ∃ locs : List Loc, locs = [] := ⟨_, rfl⟩
  rw [← hlo]
  rw [← hlo] at hS
  have hP : va_P (dC, dI) pcl [(hm, .inr (5, [.int (nI n), .int (nI k), .ref a1, .ref a2, .int (bI wk), .int (bI fl), .int (nI cm), .ref a3, .ref a4, .int bl, .int sd, .long sm, .int co, .ref a5, .ref a6, .ref a7, .ref a8, .ref a9, .ref a10, .ref a11, .ref a12, .ref a13, .int (bI cf), .ref a14])), (a5, .inl (cI, 10, .inl Dp)), (a11, .inl (cI, 18, .inl (fun i9 => nI (sh i9)))), (a12, .inl (cI, 18, .inl gp)), (a13, .inl (cI, 18, .inl hd))] H := by rw [hH]; exact hP
  have hS : va_S A s.heap H locs := by rw [hH]; exact hS
  suffices hgo : W p l e rm_M_compare s m args below meth c H locs 0 0 Q (F0 m 0 ls []) by rw [hH] at hgo; exact hgo
  refine lv_aload_n hx hb d_M_compare_0 rfl (lv_at hl 0 rfl) ?_
  refine lv_iload_n hx hb d_M_compare_1 rfl (lv_at hl 1 rfl) ?_
  refine lv_aload_n hx hb d_M_compare_2 rfl (lv_at hl 0 rfl) ?_
  refine lv_iload_n hx hb d_M_compare_3 rfl (lv_at hl 2 rfl) ?_
  refine lv_iload_n hx hb d_M_compare_4 rfl (lv_at hl 3 rfl) ?_
  refine ro_V (As := [.int z, .int (nI v)]) (rest := [.int x, .ref hm]) Sx (c_M_lowest l dC dI n k wk fl cm bl sd sm co cf hm a1 a2 a3 a4 a5 a6 a7 a8 a9 a10 a11 a12 a13 a14 cI Dp sh z v hk (by omega) hsh) (gw_callV gm_533 gm_534 gm_38 gm_56 gm_535) hd_M_lowest ⟨rfl, rfl⟩ ⟨Nat.le_of_ble_eq_true rfl, Nat.le_of_ble_eq_true rfl⟩ (va_P_map hP [0, 1, 2] rfl) (hK.sub (tys' := [(cI, .int)]) [0] rfl) rfl 0 rfl rfl hl.1 rfl (Nat.le_of_ble_eq_true rfl) d_M_compare_5 ⟨Nat.zero_le _, Nat.zero_le _⟩ ?_
  refine ro_V (As := [.int x, .int (fo (pm_lo1 Dp sh z) k (Dp v))]) (rest := []) Sx (c_M_deeper l dC dI n k wk fl cm bl sd sm co cf hm a1 a2 a3 a4 a5 a6 a7 a8 a9 a10 a11 a12 a13 a14 cI Dp sh x (fo (pm_lo1 Dp sh z) k (Dp v)) hk hsh) (gw_callV gm_536 gm_537 gm_39 gm_56 gm_538) hd_M_deeper ⟨rfl, rfl⟩ ⟨Nat.le_of_ble_eq_true rfl, Nat.le_of_ble_eq_true rfl⟩ (va_P_map hP [0, 1, 2] rfl) (hK.sub (tys' := [(cI, .int)]) [0] rfl) rfl 0 rfl rfl hl.1 rfl (Nat.le_of_ble_eq_true rfl) d_M_compare_8 ⟨Nat.zero_le _, Nat.zero_le _⟩ ?_
  refine lv_istore hx hb d_M_compare_11 hl (Nat.le_of_ble_eq_true rfl) rfl (fun ls hl => ?_)
  have hl : lv_has ls 8 [(4, .int (fo (pm_de1 Dp sh x (fo (pm_lo1 Dp sh z) k (Dp v))) k 0)), (0, .ref hm), (1, .int x), (2, .int z), (3, .int (nI v))] := hl
  refine lv_aload_n hx hb d_M_compare_13 rfl (lv_at hl 1 rfl) ?_
  refine lv_iload_n hx hb d_M_compare_14 rfl (lv_at hl 3 rfl) ?_
  refine lv_aload_n hx hb d_M_compare_15 rfl (lv_at hl 1 rfl) ?_
  refine lv_iload_n hx hb d_M_compare_16 rfl (lv_at hl 2 rfl) ?_
  refine lv_iload_n hx hb d_M_compare_17 rfl (lv_at hl 4 rfl) ?_
  refine ro_V (As := [.int x, .int (nI v)]) (rest := [.int z, .ref hm]) Sx (c_M_lowest l dC dI n k wk fl cm bl sd sm co cf hm a1 a2 a3 a4 a5 a6 a7 a8 a9 a10 a11 a12 a13 a14 cI Dp sh x v hk (by omega) hsh) (gw_callV gm_533 gm_534 gm_38 gm_56 gm_535) hd_M_lowest ⟨rfl, rfl⟩ ⟨Nat.le_of_ble_eq_true rfl, Nat.le_of_ble_eq_true rfl⟩ (va_P_map hP [0, 1, 2] rfl) (hK.sub (tys' := [(cI, .int)]) [0] rfl) rfl 0 rfl rfl hl.1 rfl (Nat.le_of_ble_eq_true rfl) d_M_compare_18 ⟨Nat.zero_le _, Nat.zero_le _⟩ ?_
  refine ro_V (As := [.int z, .int (fo (pm_lo1 Dp sh x) k (Dp v))]) (rest := []) Sx (c_M_deeper l dC dI n k wk fl cm bl sd sm co cf hm a1 a2 a3 a4 a5 a6 a7 a8 a9 a10 a11 a12 a13 a14 cI Dp sh z (fo (pm_lo1 Dp sh x) k (Dp v)) hk hsh) (gw_callV gm_536 gm_537 gm_39 gm_56 gm_538) hd_M_deeper ⟨rfl, rfl⟩ ⟨Nat.le_of_ble_eq_true rfl, Nat.le_of_ble_eq_true rfl⟩ (va_P_map hP [0, 1, 2] rfl) (hK.sub (tys' := [(cI, .int)]) [0] rfl) rfl 0 rfl rfl hl.1 rfl (Nat.le_of_ble_eq_true rfl) d_M_compare_21 ⟨Nat.zero_le _, Nat.zero_le _⟩ ?_
  refine lv_istore hx hb d_M_compare_24 hl (Nat.le_of_ble_eq_true rfl) rfl (fun ls hl => ?_)
  have hl : lv_has ls 8 [(5, .int (fo (pm_de1 Dp sh z (fo (pm_lo1 Dp sh x) k (Dp v))) k 0)), (4, .int (fo (pm_de1 Dp sh x (fo (pm_lo1 Dp sh z) k (Dp v))) k 0)), (0, .ref hm), (1, .int x), (2, .int z), (3, .int (nI v))] := hl
  refine lv_iload hx hb d_M_compare_26 (lv_at hl 1 rfl) ?_
  refine lv_if_eq hx hb d_M_compare_28 (tgt := 37) rfl (fun q1 => ?_) (fun q1 => ?_)
  · skip
    refine lv_iload hx hb d_M_compare_37 (lv_at hl 0 rfl) ?_
    refine lv_if_eq hx hb d_M_compare_39 (tgt := 48) rfl (fun q2 => ?_) (fun q2 => ?_)
    · skip
      refine lv_iload hx hb d_M_compare_48 (lv_at hl 1 rfl) ?_
      refine lv_if_eq hx hb d_M_compare_50 (tgt := 81) rfl (fun q3 => ?_) (fun q3 => ?_)
      · skip
        rw [show pm_cmp k Dp sh x z v (gp, hd, cf) = (gp, hd, cf) from by simp [pm_cmp, pm_cmp3, pm_cmp2, pm_dl, q1, q2, q3]] at hret
        exact hret _ H locs _ d_M_compare_81 hP hD hS
      · skip
        exact absurd q1 q3
    · skip
      refine lv_aload_n hx hb d_M_compare_42 rfl (lv_at hl 2 rfl) ?_
      refine lv_iload hx hb d_M_compare_43 (lv_at hl 0 rfl) ?_
      refine rw_V (As := [.int (fo (pm_de1 Dp sh z (fo (pm_lo1 Dp sh x) k (Dp v))) k 0)]) (rest := []) (wr := [(a5, .inl (cI, 10, .inl Dp)), (a11, .inl (cI, 18, .inl (fun i9 => nI (sh i9))))]) Sx (c_M_tellAlike l dC dI n k wk fl cm bl sd sm co cf hm a1 a2 a3 a4 a5 a6 a7 a8 a9 a10 a11 a12 a13 a14 cI gp hd (fo (pm_de1 Dp sh z (fo (pm_lo1 Dp sh x) k (Dp v))) k 0) H.size hk (hle _ _ (by assumption)).1 (hle _ _ (by assumption)).2) (gw_callV gm_539 gm_540 gm_40 gm_56 gm_541) hd_M_tellAlike ⟨rfl, rfl⟩ ⟨Nat.le_of_ble_eq_true rfl, Nat.le_of_ble_eq_true rfl⟩ hP hD hS hA (hK.sub (tys' := [(cI, .int)]) [0] rfl) [0, 3, 4] [1, 2] rfl rfl (by decide) (by decide) (by decide) rfl 0 rfl rfl hl.1 rfl (Nat.le_of_ble_eq_true rfl) d_M_compare_45 ⟨Nat.zero_le _, Nat.zero_le _⟩ (fun H locs hP hD hS => ?_)
      have hP : va_P (dC, dI) pcl [(a5, .inl (cI, 10, .inl Dp)), (a11, .inl (cI, 18, .inl (fun i9 => nI (sh i9)))), (hm, .inr (5, [.int (nI n), .int (nI k), .ref a1, .ref a2, .int (bI wk), .int (bI fl), .int (nI cm), .ref a3, .ref a4, .int bl, .int sd, .long sm, .int co, .ref a5, .ref a6, .ref a7, .ref a8, .ref a9, .ref a10, .ref a11, .ref a12, .ref a13, .int (bI ((pm_ta k (fo (pm_de1 Dp sh z (fo (pm_lo1 Dp sh x) k (Dp v))) k 0) (gp, hd, cf)).2.2)), .ref a14])), (a12, .inl (cI, 18, .inl ((pm_ta k (fo (pm_de1 Dp sh z (fo (pm_lo1 Dp sh x) k (Dp v))) k 0) (gp, hd, cf)).1))), (a13, .inl (cI, 18, .inl ((pm_ta k (fo (pm_de1 Dp sh z (fo (pm_lo1 Dp sh x) k (Dp v))) k 0) (gp, hd, cf)).2.1)))] H := hP
      have hD : va_D A [(a5, .inl (cI, 10, .inl Dp)), (a11, .inl (cI, 18, .inl (fun i9 => nI (sh i9)))), (hm, .inr (5, [.int (nI n), .int (nI k), .ref a1, .ref a2, .int (bI wk), .int (bI fl), .int (nI cm), .ref a3, .ref a4, .int bl, .int sd, .long sm, .int co, .ref a5, .ref a6, .ref a7, .ref a8, .ref a9, .ref a10, .ref a11, .ref a12, .ref a13, .int (bI ((pm_ta k (fo (pm_de1 Dp sh z (fo (pm_lo1 Dp sh x) k (Dp v))) k 0) (gp, hd, cf)).2.2)), .ref a14])), (a12, .inl (cI, 18, .inl ((pm_ta k (fo (pm_de1 Dp sh z (fo (pm_lo1 Dp sh x) k (Dp v))) k 0) (gp, hd, cf)).1))), (a13, .inl (cI, 18, .inl ((pm_ta k (fo (pm_de1 Dp sh z (fo (pm_lo1 Dp sh x) k (Dp v))) k 0) (gp, hd, cf)).2.1)))] := hD
      refine lv_iload hx hb d_M_compare_48 (lv_at hl 1 rfl) ?_
      refine lv_if_eq hx hb d_M_compare_50 (tgt := 81) rfl (fun q4 => ?_) (fun q4 => ?_)
      · skip
        rw [show pm_cmp k Dp sh x z v (gp, hd, cf) = (pm_ta k (fo (pm_de1 Dp sh z (fo (pm_lo1 Dp sh x) k (Dp v))) k 0) (gp, hd, cf)) from by simp [pm_cmp, pm_cmp3, pm_cmp2, pm_dl, q1, q2, q4]] at hret
        exact hret _ H locs _ d_M_compare_81 (va_P_map hP [2, 0, 1, 3, 4] rfl) (hD.sub [2, 0, 1, 3, 4] (by decide) rfl) hS
      · skip
        exact absurd q1 q4
  · skip
    refine lv_aload_n hx hb d_M_compare_31 rfl (lv_at hl 2 rfl) ?_
    refine lv_iload hx hb d_M_compare_32 (lv_at hl 1 rfl) ?_
    refine rw_V (As := [.int (fo (pm_de1 Dp sh x (fo (pm_lo1 Dp sh z) k (Dp v))) k 0)]) (rest := []) (wr := [(a5, .inl (cI, 10, .inl Dp)), (a11, .inl (cI, 18, .inl (fun i9 => nI (sh i9))))]) Sx (c_M_tellAlike l dC dI n k wk fl cm bl sd sm co cf hm a1 a2 a3 a4 a5 a6 a7 a8 a9 a10 a11 a12 a13 a14 cI gp hd (fo (pm_de1 Dp sh x (fo (pm_lo1 Dp sh z) k (Dp v))) k 0) H.size hk (hle _ _ (by assumption)).1 (hle _ _ (by assumption)).2) (gw_callV gm_539 gm_540 gm_40 gm_56 gm_541) hd_M_tellAlike ⟨rfl, rfl⟩ ⟨Nat.le_of_ble_eq_true rfl, Nat.le_of_ble_eq_true rfl⟩ hP hD hS hA (hK.sub (tys' := [(cI, .int)]) [0] rfl) [0, 3, 4] [1, 2] rfl rfl (by decide) (by decide) (by decide) rfl 0 rfl rfl hl.1 rfl (Nat.le_of_ble_eq_true rfl) d_M_compare_34 ⟨Nat.zero_le _, Nat.zero_le _⟩ (fun H locs hP hD hS => ?_)
    have hP : va_P (dC, dI) pcl [(a5, .inl (cI, 10, .inl Dp)), (a11, .inl (cI, 18, .inl (fun i9 => nI (sh i9)))), (hm, .inr (5, [.int (nI n), .int (nI k), .ref a1, .ref a2, .int (bI wk), .int (bI fl), .int (nI cm), .ref a3, .ref a4, .int bl, .int sd, .long sm, .int co, .ref a5, .ref a6, .ref a7, .ref a8, .ref a9, .ref a10, .ref a11, .ref a12, .ref a13, .int (bI ((pm_ta k (fo (pm_de1 Dp sh x (fo (pm_lo1 Dp sh z) k (Dp v))) k 0) (gp, hd, cf)).2.2)), .ref a14])), (a12, .inl (cI, 18, .inl ((pm_ta k (fo (pm_de1 Dp sh x (fo (pm_lo1 Dp sh z) k (Dp v))) k 0) (gp, hd, cf)).1))), (a13, .inl (cI, 18, .inl ((pm_ta k (fo (pm_de1 Dp sh x (fo (pm_lo1 Dp sh z) k (Dp v))) k 0) (gp, hd, cf)).2.1)))] H := hP
    have hD : va_D A [(a5, .inl (cI, 10, .inl Dp)), (a11, .inl (cI, 18, .inl (fun i9 => nI (sh i9)))), (hm, .inr (5, [.int (nI n), .int (nI k), .ref a1, .ref a2, .int (bI wk), .int (bI fl), .int (nI cm), .ref a3, .ref a4, .int bl, .int sd, .long sm, .int co, .ref a5, .ref a6, .ref a7, .ref a8, .ref a9, .ref a10, .ref a11, .ref a12, .ref a13, .int (bI ((pm_ta k (fo (pm_de1 Dp sh x (fo (pm_lo1 Dp sh z) k (Dp v))) k 0) (gp, hd, cf)).2.2)), .ref a14])), (a12, .inl (cI, 18, .inl ((pm_ta k (fo (pm_de1 Dp sh x (fo (pm_lo1 Dp sh z) k (Dp v))) k 0) (gp, hd, cf)).1))), (a13, .inl (cI, 18, .inl ((pm_ta k (fo (pm_de1 Dp sh x (fo (pm_lo1 Dp sh z) k (Dp v))) k 0) (gp, hd, cf)).2.1)))] := hD
    refine lv_iload hx hb d_M_compare_37 (lv_at hl 0 rfl) ?_
    refine lv_if_eq hx hb d_M_compare_39 (tgt := 48) rfl (fun q5 => ?_) (fun q5 => ?_)
    · skip
      refine lv_iload hx hb d_M_compare_48 (lv_at hl 1 rfl) ?_
      refine lv_if_eq hx hb d_M_compare_50 (tgt := 81) rfl (fun q6 => ?_) (fun q6 => ?_)
      · skip
        exact absurd q6 q1
      · skip
        refine lv_iload hx hb d_M_compare_53 (lv_at hl 0 rfl) ?_
        refine lv_if_eq hx hb d_M_compare_55 (tgt := 81) rfl (fun q7 => ?_) (fun q7 => ?_)
        · skip
          rw [show pm_cmp k Dp sh x z v (gp, hd, cf) = (pm_ta k (fo (pm_de1 Dp sh x (fo (pm_lo1 Dp sh z) k (Dp v))) k 0) (gp, hd, cf)) from by simp [pm_cmp, pm_cmp3, pm_cmp2, pm_dl, q1, q5, q6, q7]] at hret
          exact hret _ H locs _ d_M_compare_81 (va_P_map hP [2, 0, 1, 3, 4] rfl) (hD.sub [2, 0, 1, 3, 4] (by decide) rfl) hS
        · skip
          exact absurd q5 q7
    · skip
      refine lv_aload_n hx hb d_M_compare_42 rfl (lv_at hl 2 rfl) ?_
      refine lv_iload hx hb d_M_compare_43 (lv_at hl 0 rfl) ?_
      refine rw_V (As := [.int (fo (pm_de1 Dp sh z (fo (pm_lo1 Dp sh x) k (Dp v))) k 0)]) (rest := []) (wr := [(a5, .inl (cI, 10, .inl Dp)), (a11, .inl (cI, 18, .inl (fun i9 => nI (sh i9))))]) Sx (c_M_tellAlike l dC dI n k wk fl cm bl sd sm co ((pm_ta k (fo (pm_de1 Dp sh x (fo (pm_lo1 Dp sh z) k (Dp v))) k 0) (gp, hd, cf)).2.2) hm a1 a2 a3 a4 a5 a6 a7 a8 a9 a10 a11 a12 a13 a14 cI ((pm_ta k (fo (pm_de1 Dp sh x (fo (pm_lo1 Dp sh z) k (Dp v))) k 0) (gp, hd, cf)).1) ((pm_ta k (fo (pm_de1 Dp sh x (fo (pm_lo1 Dp sh z) k (Dp v))) k 0) (gp, hd, cf)).2.1) (fo (pm_de1 Dp sh z (fo (pm_lo1 Dp sh x) k (Dp v))) k 0) H.size hk (hle _ _ (by assumption)).1 (hle _ _ (by assumption)).2) (gw_callV gm_539 gm_540 gm_40 gm_56 gm_541) hd_M_tellAlike ⟨rfl, rfl⟩ ⟨Nat.le_of_ble_eq_true rfl, Nat.le_of_ble_eq_true rfl⟩ hP hD hS hA (hK.sub (tys' := [(cI, .int)]) [0] rfl) [2, 3, 4] [0, 1] rfl rfl (by decide) (by decide) (by decide) rfl 0 rfl rfl hl.1 rfl (Nat.le_of_ble_eq_true rfl) d_M_compare_45 ⟨Nat.zero_le _, Nat.zero_le _⟩ (fun H locs hP hD hS => ?_)
      have hP : va_P (dC, dI) pcl [(a5, .inl (cI, 10, .inl Dp)), (a11, .inl (cI, 18, .inl (fun i9 => nI (sh i9)))), (hm, .inr (5, [.int (nI n), .int (nI k), .ref a1, .ref a2, .int (bI wk), .int (bI fl), .int (nI cm), .ref a3, .ref a4, .int bl, .int sd, .long sm, .int co, .ref a5, .ref a6, .ref a7, .ref a8, .ref a9, .ref a10, .ref a11, .ref a12, .ref a13, .int (bI ((pm_ta k (fo (pm_de1 Dp sh z (fo (pm_lo1 Dp sh x) k (Dp v))) k 0) (((pm_ta k (fo (pm_de1 Dp sh x (fo (pm_lo1 Dp sh z) k (Dp v))) k 0) (gp, hd, cf)).1), ((pm_ta k (fo (pm_de1 Dp sh x (fo (pm_lo1 Dp sh z) k (Dp v))) k 0) (gp, hd, cf)).2.1), ((pm_ta k (fo (pm_de1 Dp sh x (fo (pm_lo1 Dp sh z) k (Dp v))) k 0) (gp, hd, cf)).2.2))).2.2)), .ref a14])), (a12, .inl (cI, 18, .inl ((pm_ta k (fo (pm_de1 Dp sh z (fo (pm_lo1 Dp sh x) k (Dp v))) k 0) (((pm_ta k (fo (pm_de1 Dp sh x (fo (pm_lo1 Dp sh z) k (Dp v))) k 0) (gp, hd, cf)).1), ((pm_ta k (fo (pm_de1 Dp sh x (fo (pm_lo1 Dp sh z) k (Dp v))) k 0) (gp, hd, cf)).2.1), ((pm_ta k (fo (pm_de1 Dp sh x (fo (pm_lo1 Dp sh z) k (Dp v))) k 0) (gp, hd, cf)).2.2))).1))), (a13, .inl (cI, 18, .inl ((pm_ta k (fo (pm_de1 Dp sh z (fo (pm_lo1 Dp sh x) k (Dp v))) k 0) (((pm_ta k (fo (pm_de1 Dp sh x (fo (pm_lo1 Dp sh z) k (Dp v))) k 0) (gp, hd, cf)).1), ((pm_ta k (fo (pm_de1 Dp sh x (fo (pm_lo1 Dp sh z) k (Dp v))) k 0) (gp, hd, cf)).2.1), ((pm_ta k (fo (pm_de1 Dp sh x (fo (pm_lo1 Dp sh z) k (Dp v))) k 0) (gp, hd, cf)).2.2))).2.1)))] H := hP
      have hD : va_D A [(a5, .inl (cI, 10, .inl Dp)), (a11, .inl (cI, 18, .inl (fun i9 => nI (sh i9)))), (hm, .inr (5, [.int (nI n), .int (nI k), .ref a1, .ref a2, .int (bI wk), .int (bI fl), .int (nI cm), .ref a3, .ref a4, .int bl, .int sd, .long sm, .int co, .ref a5, .ref a6, .ref a7, .ref a8, .ref a9, .ref a10, .ref a11, .ref a12, .ref a13, .int (bI ((pm_ta k (fo (pm_de1 Dp sh z (fo (pm_lo1 Dp sh x) k (Dp v))) k 0) (((pm_ta k (fo (pm_de1 Dp sh x (fo (pm_lo1 Dp sh z) k (Dp v))) k 0) (gp, hd, cf)).1), ((pm_ta k (fo (pm_de1 Dp sh x (fo (pm_lo1 Dp sh z) k (Dp v))) k 0) (gp, hd, cf)).2.1), ((pm_ta k (fo (pm_de1 Dp sh x (fo (pm_lo1 Dp sh z) k (Dp v))) k 0) (gp, hd, cf)).2.2))).2.2)), .ref a14])), (a12, .inl (cI, 18, .inl ((pm_ta k (fo (pm_de1 Dp sh z (fo (pm_lo1 Dp sh x) k (Dp v))) k 0) (((pm_ta k (fo (pm_de1 Dp sh x (fo (pm_lo1 Dp sh z) k (Dp v))) k 0) (gp, hd, cf)).1), ((pm_ta k (fo (pm_de1 Dp sh x (fo (pm_lo1 Dp sh z) k (Dp v))) k 0) (gp, hd, cf)).2.1), ((pm_ta k (fo (pm_de1 Dp sh x (fo (pm_lo1 Dp sh z) k (Dp v))) k 0) (gp, hd, cf)).2.2))).1))), (a13, .inl (cI, 18, .inl ((pm_ta k (fo (pm_de1 Dp sh z (fo (pm_lo1 Dp sh x) k (Dp v))) k 0) (((pm_ta k (fo (pm_de1 Dp sh x (fo (pm_lo1 Dp sh z) k (Dp v))) k 0) (gp, hd, cf)).1), ((pm_ta k (fo (pm_de1 Dp sh x (fo (pm_lo1 Dp sh z) k (Dp v))) k 0) (gp, hd, cf)).2.1), ((pm_ta k (fo (pm_de1 Dp sh x (fo (pm_lo1 Dp sh z) k (Dp v))) k 0) (gp, hd, cf)).2.2))).2.1)))] := hD
      refine lv_iload hx hb d_M_compare_48 (lv_at hl 1 rfl) ?_
      refine lv_if_eq hx hb d_M_compare_50 (tgt := 81) rfl (fun q8 => ?_) (fun q8 => ?_)
      · skip
        exact absurd q8 q1
      · skip
        refine lv_iload hx hb d_M_compare_53 (lv_at hl 0 rfl) ?_
        refine lv_if_eq hx hb d_M_compare_55 (tgt := 81) rfl (fun q9 => ?_) (fun q9 => ?_)
        · skip
          exact absurd q9 q5
        · skip
          refine lv_iload hx hb d_M_compare_58 (lv_at hl 1 rfl) ?_
          refine ro_S (As := [.int (fo (pm_de1 Dp sh x (fo (pm_lo1 Dp sh z) k (Dp v))) k 0)]) (rest := []) Sx (c_M_least l dC dI (fo (pm_de1 Dp sh x (fo (pm_lo1 Dp sh z) k (Dp v))) k 0) (hle _ _ (by assumption)).1) (gw_callS gm_542 gm_543 gm_56 gm_544) hd_M_least ⟨rfl, rfl⟩ ⟨Nat.le_of_ble_eq_true rfl, Nat.le_of_ble_eq_true rfl⟩ (va_P_map hP [] rfl) (hK.sub (tys' := []) [] rfl) rfl hl.1 rfl (Nat.le_of_ble_eq_true rfl) d_M_compare_60 ⟨Nat.zero_le _, Nat.zero_le _⟩ ?_
          refine lv_istore hx hb d_M_compare_63 hl (Nat.le_of_ble_eq_true rfl) rfl (fun ls hl => ?_)
          have hl : lv_has ls 8 [(6, .int (nI (pm_least (fo (pm_de1 Dp sh x (fo (pm_lo1 Dp sh z) k (Dp v))) k 0)))), (5, .int (fo (pm_de1 Dp sh z (fo (pm_lo1 Dp sh x) k (Dp v))) k 0)), (4, .int (fo (pm_de1 Dp sh x (fo (pm_lo1 Dp sh z) k (Dp v))) k 0)), (0, .ref hm), (1, .int x), (2, .int z), (3, .int (nI v))] := hl
          refine lv_iload hx hb d_M_compare_65 (lv_at hl 1 rfl) ?_
          refine ro_S (As := [.int (fo (pm_de1 Dp sh z (fo (pm_lo1 Dp sh x) k (Dp v))) k 0)]) (rest := []) Sx (c_M_least l dC dI (fo (pm_de1 Dp sh z (fo (pm_lo1 Dp sh x) k (Dp v))) k 0) (hle _ _ (by assumption)).1) (gw_callS gm_542 gm_543 gm_56 gm_544) hd_M_least ⟨rfl, rfl⟩ ⟨Nat.le_of_ble_eq_true rfl, Nat.le_of_ble_eq_true rfl⟩ (va_P_map hP [] rfl) (hK.sub (tys' := []) [] rfl) rfl hl.1 rfl (Nat.le_of_ble_eq_true rfl) d_M_compare_67 ⟨Nat.zero_le _, Nat.zero_le _⟩ ?_
          refine lv_istore hx hb d_M_compare_70 hl (Nat.le_of_ble_eq_true rfl) rfl (fun ls hl => ?_)
          have hl : lv_has ls 8 [(7, .int (nI (pm_least (fo (pm_de1 Dp sh z (fo (pm_lo1 Dp sh x) k (Dp v))) k 0)))), (6, .int (nI (pm_least (fo (pm_de1 Dp sh x (fo (pm_lo1 Dp sh z) k (Dp v))) k 0)))), (5, .int (fo (pm_de1 Dp sh z (fo (pm_lo1 Dp sh x) k (Dp v))) k 0)), (4, .int (fo (pm_de1 Dp sh x (fo (pm_lo1 Dp sh z) k (Dp v))) k 0)), (0, .ref hm), (1, .int x), (2, .int z), (3, .int (nI v))] := hl
          refine lv_aload_n hx hb d_M_compare_72 rfl (lv_at hl 4 rfl) ?_
          refine lv_iload hx hb d_M_compare_73 (lv_at hl 1 rfl) ?_
          refine lv_iload hx hb d_M_compare_75 (lv_at hl 0 rfl) ?_
          refine lv_iconst (v := 1) hx hb d_M_compare_77 (by decide) ?_
          refine rw_V (As := [.int (nI (pm_least (fo (pm_de1 Dp sh x (fo (pm_lo1 Dp sh z) k (Dp v))) k 0))), .int (nI (pm_least (fo (pm_de1 Dp sh z (fo (pm_lo1 Dp sh x) k (Dp v))) k 0))), .int 1]) (rest := []) (wr := [(a5, .inl (cI, 10, .inl Dp)), (a11, .inl (cI, 18, .inl (fun i9 => nI (sh i9))))]) Sx (c_M_tell l dC dI n k wk fl cm bl sd sm co ((pm_ta k (fo (pm_de1 Dp sh z (fo (pm_lo1 Dp sh x) k (Dp v))) k 0) (((pm_ta k (fo (pm_de1 Dp sh x (fo (pm_lo1 Dp sh z) k (Dp v))) k 0) (gp, hd, cf)).1), ((pm_ta k (fo (pm_de1 Dp sh x (fo (pm_lo1 Dp sh z) k (Dp v))) k 0) (gp, hd, cf)).2.1), ((pm_ta k (fo (pm_de1 Dp sh x (fo (pm_lo1 Dp sh z) k (Dp v))) k 0) (gp, hd, cf)).2.2))).2.2) hm a1 a2 a3 a4 a5 a6 a7 a8 a9 a10 a11 a12 a13 a14 cI ((pm_ta k (fo (pm_de1 Dp sh z (fo (pm_lo1 Dp sh x) k (Dp v))) k 0) (((pm_ta k (fo (pm_de1 Dp sh x (fo (pm_lo1 Dp sh z) k (Dp v))) k 0) (gp, hd, cf)).1), ((pm_ta k (fo (pm_de1 Dp sh x (fo (pm_lo1 Dp sh z) k (Dp v))) k 0) (gp, hd, cf)).2.1), ((pm_ta k (fo (pm_de1 Dp sh x (fo (pm_lo1 Dp sh z) k (Dp v))) k 0) (gp, hd, cf)).2.2))).1) ((pm_ta k (fo (pm_de1 Dp sh z (fo (pm_lo1 Dp sh x) k (Dp v))) k 0) (((pm_ta k (fo (pm_de1 Dp sh x (fo (pm_lo1 Dp sh z) k (Dp v))) k 0) (gp, hd, cf)).1), ((pm_ta k (fo (pm_de1 Dp sh x (fo (pm_lo1 Dp sh z) k (Dp v))) k 0) (gp, hd, cf)).2.1), ((pm_ta k (fo (pm_de1 Dp sh x (fo (pm_lo1 Dp sh z) k (Dp v))) k 0) (gp, hd, cf)).2.2))).2.1) (pm_least (fo (pm_de1 Dp sh x (fo (pm_lo1 Dp sh z) k (Dp v))) k 0)) (pm_least (fo (pm_de1 Dp sh z (fo (pm_lo1 Dp sh x) k (Dp v))) k 0)) 1 H.size hk (Nat.lt_of_lt_of_le (hle _ _ (by assumption)).2 hk) (Nat.lt_of_lt_of_le (hle _ _ (by assumption)).2 hk)) (gw_callV gm_545 gm_546 gm_41 gm_56 gm_547) hd_M_tell ⟨rfl, rfl⟩ ⟨Nat.le_of_ble_eq_true rfl, Nat.le_of_ble_eq_true rfl⟩ hP hD hS hA (hK.sub (tys' := [(cI, .int)]) [0] rfl) [2, 3, 4] [0, 1] rfl rfl (by decide) (by decide) (by decide) rfl 0 rfl rfl hl.1 rfl (Nat.le_of_ble_eq_true rfl) d_M_compare_78 ⟨Nat.zero_le _, Nat.zero_le _⟩ (fun H locs hP hD hS => ?_)
          have hP : va_P (dC, dI) pcl [(a5, .inl (cI, 10, .inl Dp)), (a11, .inl (cI, 18, .inl (fun i9 => nI (sh i9)))), (hm, .inr (5, [.int (nI n), .int (nI k), .ref a1, .ref a2, .int (bI wk), .int (bI fl), .int (nI cm), .ref a3, .ref a4, .int bl, .int sd, .long sm, .int co, .ref a5, .ref a6, .ref a7, .ref a8, .ref a9, .ref a10, .ref a11, .ref a12, .ref a13, .int (bI ((pm_tell k (pm_least (fo (pm_de1 Dp sh x (fo (pm_lo1 Dp sh z) k (Dp v))) k 0)) (pm_least (fo (pm_de1 Dp sh z (fo (pm_lo1 Dp sh x) k (Dp v))) k 0)) 1 ((pm_ta k (fo (pm_de1 Dp sh z (fo (pm_lo1 Dp sh x) k (Dp v))) k 0) (((pm_ta k (fo (pm_de1 Dp sh x (fo (pm_lo1 Dp sh z) k (Dp v))) k 0) (gp, hd, cf)).1), ((pm_ta k (fo (pm_de1 Dp sh x (fo (pm_lo1 Dp sh z) k (Dp v))) k 0) (gp, hd, cf)).2.1), ((pm_ta k (fo (pm_de1 Dp sh x (fo (pm_lo1 Dp sh z) k (Dp v))) k 0) (gp, hd, cf)).2.2))).1) ((pm_ta k (fo (pm_de1 Dp sh z (fo (pm_lo1 Dp sh x) k (Dp v))) k 0) (((pm_ta k (fo (pm_de1 Dp sh x (fo (pm_lo1 Dp sh z) k (Dp v))) k 0) (gp, hd, cf)).1), ((pm_ta k (fo (pm_de1 Dp sh x (fo (pm_lo1 Dp sh z) k (Dp v))) k 0) (gp, hd, cf)).2.1), ((pm_ta k (fo (pm_de1 Dp sh x (fo (pm_lo1 Dp sh z) k (Dp v))) k 0) (gp, hd, cf)).2.2))).2.1) ((pm_ta k (fo (pm_de1 Dp sh z (fo (pm_lo1 Dp sh x) k (Dp v))) k 0) (((pm_ta k (fo (pm_de1 Dp sh x (fo (pm_lo1 Dp sh z) k (Dp v))) k 0) (gp, hd, cf)).1), ((pm_ta k (fo (pm_de1 Dp sh x (fo (pm_lo1 Dp sh z) k (Dp v))) k 0) (gp, hd, cf)).2.1), ((pm_ta k (fo (pm_de1 Dp sh x (fo (pm_lo1 Dp sh z) k (Dp v))) k 0) (gp, hd, cf)).2.2))).2.2)).2.2)), .ref a14])), (a12, .inl (cI, 18, .inl ((pm_tell k (pm_least (fo (pm_de1 Dp sh x (fo (pm_lo1 Dp sh z) k (Dp v))) k 0)) (pm_least (fo (pm_de1 Dp sh z (fo (pm_lo1 Dp sh x) k (Dp v))) k 0)) 1 ((pm_ta k (fo (pm_de1 Dp sh z (fo (pm_lo1 Dp sh x) k (Dp v))) k 0) (((pm_ta k (fo (pm_de1 Dp sh x (fo (pm_lo1 Dp sh z) k (Dp v))) k 0) (gp, hd, cf)).1), ((pm_ta k (fo (pm_de1 Dp sh x (fo (pm_lo1 Dp sh z) k (Dp v))) k 0) (gp, hd, cf)).2.1), ((pm_ta k (fo (pm_de1 Dp sh x (fo (pm_lo1 Dp sh z) k (Dp v))) k 0) (gp, hd, cf)).2.2))).1) ((pm_ta k (fo (pm_de1 Dp sh z (fo (pm_lo1 Dp sh x) k (Dp v))) k 0) (((pm_ta k (fo (pm_de1 Dp sh x (fo (pm_lo1 Dp sh z) k (Dp v))) k 0) (gp, hd, cf)).1), ((pm_ta k (fo (pm_de1 Dp sh x (fo (pm_lo1 Dp sh z) k (Dp v))) k 0) (gp, hd, cf)).2.1), ((pm_ta k (fo (pm_de1 Dp sh x (fo (pm_lo1 Dp sh z) k (Dp v))) k 0) (gp, hd, cf)).2.2))).2.1) ((pm_ta k (fo (pm_de1 Dp sh z (fo (pm_lo1 Dp sh x) k (Dp v))) k 0) (((pm_ta k (fo (pm_de1 Dp sh x (fo (pm_lo1 Dp sh z) k (Dp v))) k 0) (gp, hd, cf)).1), ((pm_ta k (fo (pm_de1 Dp sh x (fo (pm_lo1 Dp sh z) k (Dp v))) k 0) (gp, hd, cf)).2.1), ((pm_ta k (fo (pm_de1 Dp sh x (fo (pm_lo1 Dp sh z) k (Dp v))) k 0) (gp, hd, cf)).2.2))).2.2)).1))), (a13, .inl (cI, 18, .inl ((pm_tell k (pm_least (fo (pm_de1 Dp sh x (fo (pm_lo1 Dp sh z) k (Dp v))) k 0)) (pm_least (fo (pm_de1 Dp sh z (fo (pm_lo1 Dp sh x) k (Dp v))) k 0)) 1 ((pm_ta k (fo (pm_de1 Dp sh z (fo (pm_lo1 Dp sh x) k (Dp v))) k 0) (((pm_ta k (fo (pm_de1 Dp sh x (fo (pm_lo1 Dp sh z) k (Dp v))) k 0) (gp, hd, cf)).1), ((pm_ta k (fo (pm_de1 Dp sh x (fo (pm_lo1 Dp sh z) k (Dp v))) k 0) (gp, hd, cf)).2.1), ((pm_ta k (fo (pm_de1 Dp sh x (fo (pm_lo1 Dp sh z) k (Dp v))) k 0) (gp, hd, cf)).2.2))).1) ((pm_ta k (fo (pm_de1 Dp sh z (fo (pm_lo1 Dp sh x) k (Dp v))) k 0) (((pm_ta k (fo (pm_de1 Dp sh x (fo (pm_lo1 Dp sh z) k (Dp v))) k 0) (gp, hd, cf)).1), ((pm_ta k (fo (pm_de1 Dp sh x (fo (pm_lo1 Dp sh z) k (Dp v))) k 0) (gp, hd, cf)).2.1), ((pm_ta k (fo (pm_de1 Dp sh x (fo (pm_lo1 Dp sh z) k (Dp v))) k 0) (gp, hd, cf)).2.2))).2.1) ((pm_ta k (fo (pm_de1 Dp sh z (fo (pm_lo1 Dp sh x) k (Dp v))) k 0) (((pm_ta k (fo (pm_de1 Dp sh x (fo (pm_lo1 Dp sh z) k (Dp v))) k 0) (gp, hd, cf)).1), ((pm_ta k (fo (pm_de1 Dp sh x (fo (pm_lo1 Dp sh z) k (Dp v))) k 0) (gp, hd, cf)).2.1), ((pm_ta k (fo (pm_de1 Dp sh x (fo (pm_lo1 Dp sh z) k (Dp v))) k 0) (gp, hd, cf)).2.2))).2.2)).2.1)))] H := hP
          have hD : va_D A [(a5, .inl (cI, 10, .inl Dp)), (a11, .inl (cI, 18, .inl (fun i9 => nI (sh i9)))), (hm, .inr (5, [.int (nI n), .int (nI k), .ref a1, .ref a2, .int (bI wk), .int (bI fl), .int (nI cm), .ref a3, .ref a4, .int bl, .int sd, .long sm, .int co, .ref a5, .ref a6, .ref a7, .ref a8, .ref a9, .ref a10, .ref a11, .ref a12, .ref a13, .int (bI ((pm_tell k (pm_least (fo (pm_de1 Dp sh x (fo (pm_lo1 Dp sh z) k (Dp v))) k 0)) (pm_least (fo (pm_de1 Dp sh z (fo (pm_lo1 Dp sh x) k (Dp v))) k 0)) 1 ((pm_ta k (fo (pm_de1 Dp sh z (fo (pm_lo1 Dp sh x) k (Dp v))) k 0) (((pm_ta k (fo (pm_de1 Dp sh x (fo (pm_lo1 Dp sh z) k (Dp v))) k 0) (gp, hd, cf)).1), ((pm_ta k (fo (pm_de1 Dp sh x (fo (pm_lo1 Dp sh z) k (Dp v))) k 0) (gp, hd, cf)).2.1), ((pm_ta k (fo (pm_de1 Dp sh x (fo (pm_lo1 Dp sh z) k (Dp v))) k 0) (gp, hd, cf)).2.2))).1) ((pm_ta k (fo (pm_de1 Dp sh z (fo (pm_lo1 Dp sh x) k (Dp v))) k 0) (((pm_ta k (fo (pm_de1 Dp sh x (fo (pm_lo1 Dp sh z) k (Dp v))) k 0) (gp, hd, cf)).1), ((pm_ta k (fo (pm_de1 Dp sh x (fo (pm_lo1 Dp sh z) k (Dp v))) k 0) (gp, hd, cf)).2.1), ((pm_ta k (fo (pm_de1 Dp sh x (fo (pm_lo1 Dp sh z) k (Dp v))) k 0) (gp, hd, cf)).2.2))).2.1) ((pm_ta k (fo (pm_de1 Dp sh z (fo (pm_lo1 Dp sh x) k (Dp v))) k 0) (((pm_ta k (fo (pm_de1 Dp sh x (fo (pm_lo1 Dp sh z) k (Dp v))) k 0) (gp, hd, cf)).1), ((pm_ta k (fo (pm_de1 Dp sh x (fo (pm_lo1 Dp sh z) k (Dp v))) k 0) (gp, hd, cf)).2.1), ((pm_ta k (fo (pm_de1 Dp sh x (fo (pm_lo1 Dp sh z) k (Dp v))) k 0) (gp, hd, cf)).2.2))).2.2)).2.2)), .ref a14])), (a12, .inl (cI, 18, .inl ((pm_tell k (pm_least (fo (pm_de1 Dp sh x (fo (pm_lo1 Dp sh z) k (Dp v))) k 0)) (pm_least (fo (pm_de1 Dp sh z (fo (pm_lo1 Dp sh x) k (Dp v))) k 0)) 1 ((pm_ta k (fo (pm_de1 Dp sh z (fo (pm_lo1 Dp sh x) k (Dp v))) k 0) (((pm_ta k (fo (pm_de1 Dp sh x (fo (pm_lo1 Dp sh z) k (Dp v))) k 0) (gp, hd, cf)).1), ((pm_ta k (fo (pm_de1 Dp sh x (fo (pm_lo1 Dp sh z) k (Dp v))) k 0) (gp, hd, cf)).2.1), ((pm_ta k (fo (pm_de1 Dp sh x (fo (pm_lo1 Dp sh z) k (Dp v))) k 0) (gp, hd, cf)).2.2))).1) ((pm_ta k (fo (pm_de1 Dp sh z (fo (pm_lo1 Dp sh x) k (Dp v))) k 0) (((pm_ta k (fo (pm_de1 Dp sh x (fo (pm_lo1 Dp sh z) k (Dp v))) k 0) (gp, hd, cf)).1), ((pm_ta k (fo (pm_de1 Dp sh x (fo (pm_lo1 Dp sh z) k (Dp v))) k 0) (gp, hd, cf)).2.1), ((pm_ta k (fo (pm_de1 Dp sh x (fo (pm_lo1 Dp sh z) k (Dp v))) k 0) (gp, hd, cf)).2.2))).2.1) ((pm_ta k (fo (pm_de1 Dp sh z (fo (pm_lo1 Dp sh x) k (Dp v))) k 0) (((pm_ta k (fo (pm_de1 Dp sh x (fo (pm_lo1 Dp sh z) k (Dp v))) k 0) (gp, hd, cf)).1), ((pm_ta k (fo (pm_de1 Dp sh x (fo (pm_lo1 Dp sh z) k (Dp v))) k 0) (gp, hd, cf)).2.1), ((pm_ta k (fo (pm_de1 Dp sh x (fo (pm_lo1 Dp sh z) k (Dp v))) k 0) (gp, hd, cf)).2.2))).2.2)).1))), (a13, .inl (cI, 18, .inl ((pm_tell k (pm_least (fo (pm_de1 Dp sh x (fo (pm_lo1 Dp sh z) k (Dp v))) k 0)) (pm_least (fo (pm_de1 Dp sh z (fo (pm_lo1 Dp sh x) k (Dp v))) k 0)) 1 ((pm_ta k (fo (pm_de1 Dp sh z (fo (pm_lo1 Dp sh x) k (Dp v))) k 0) (((pm_ta k (fo (pm_de1 Dp sh x (fo (pm_lo1 Dp sh z) k (Dp v))) k 0) (gp, hd, cf)).1), ((pm_ta k (fo (pm_de1 Dp sh x (fo (pm_lo1 Dp sh z) k (Dp v))) k 0) (gp, hd, cf)).2.1), ((pm_ta k (fo (pm_de1 Dp sh x (fo (pm_lo1 Dp sh z) k (Dp v))) k 0) (gp, hd, cf)).2.2))).1) ((pm_ta k (fo (pm_de1 Dp sh z (fo (pm_lo1 Dp sh x) k (Dp v))) k 0) (((pm_ta k (fo (pm_de1 Dp sh x (fo (pm_lo1 Dp sh z) k (Dp v))) k 0) (gp, hd, cf)).1), ((pm_ta k (fo (pm_de1 Dp sh x (fo (pm_lo1 Dp sh z) k (Dp v))) k 0) (gp, hd, cf)).2.1), ((pm_ta k (fo (pm_de1 Dp sh x (fo (pm_lo1 Dp sh z) k (Dp v))) k 0) (gp, hd, cf)).2.2))).2.1) ((pm_ta k (fo (pm_de1 Dp sh z (fo (pm_lo1 Dp sh x) k (Dp v))) k 0) (((pm_ta k (fo (pm_de1 Dp sh x (fo (pm_lo1 Dp sh z) k (Dp v))) k 0) (gp, hd, cf)).1), ((pm_ta k (fo (pm_de1 Dp sh x (fo (pm_lo1 Dp sh z) k (Dp v))) k 0) (gp, hd, cf)).2.1), ((pm_ta k (fo (pm_de1 Dp sh x (fo (pm_lo1 Dp sh z) k (Dp v))) k 0) (gp, hd, cf)).2.2))).2.2)).2.1)))] := hD
          rw [show pm_cmp k Dp sh x z v (gp, hd, cf) = (pm_tell k (pm_least (fo (pm_de1 Dp sh x (fo (pm_lo1 Dp sh z) k (Dp v))) k 0)) (pm_least (fo (pm_de1 Dp sh z (fo (pm_lo1 Dp sh x) k (Dp v))) k 0)) 1 ((pm_ta k (fo (pm_de1 Dp sh z (fo (pm_lo1 Dp sh x) k (Dp v))) k 0) (((pm_ta k (fo (pm_de1 Dp sh x (fo (pm_lo1 Dp sh z) k (Dp v))) k 0) (gp, hd, cf)).1), ((pm_ta k (fo (pm_de1 Dp sh x (fo (pm_lo1 Dp sh z) k (Dp v))) k 0) (gp, hd, cf)).2.1), ((pm_ta k (fo (pm_de1 Dp sh x (fo (pm_lo1 Dp sh z) k (Dp v))) k 0) (gp, hd, cf)).2.2))).1) ((pm_ta k (fo (pm_de1 Dp sh z (fo (pm_lo1 Dp sh x) k (Dp v))) k 0) (((pm_ta k (fo (pm_de1 Dp sh x (fo (pm_lo1 Dp sh z) k (Dp v))) k 0) (gp, hd, cf)).1), ((pm_ta k (fo (pm_de1 Dp sh x (fo (pm_lo1 Dp sh z) k (Dp v))) k 0) (gp, hd, cf)).2.1), ((pm_ta k (fo (pm_de1 Dp sh x (fo (pm_lo1 Dp sh z) k (Dp v))) k 0) (gp, hd, cf)).2.2))).2.1) ((pm_ta k (fo (pm_de1 Dp sh z (fo (pm_lo1 Dp sh x) k (Dp v))) k 0) (((pm_ta k (fo (pm_de1 Dp sh x (fo (pm_lo1 Dp sh z) k (Dp v))) k 0) (gp, hd, cf)).1), ((pm_ta k (fo (pm_de1 Dp sh x (fo (pm_lo1 Dp sh z) k (Dp v))) k 0) (gp, hd, cf)).2.1), ((pm_ta k (fo (pm_de1 Dp sh x (fo (pm_lo1 Dp sh z) k (Dp v))) k 0) (gp, hd, cf)).2.2))).2.2)) from by simp [pm_cmp, pm_cmp3, pm_cmp2, pm_dl, q1, q5, q8, q9]] at hret
          exact hret _ H locs _ d_M_compare_81 (va_P_map hP [2, 0, 1, 3, 4] rfl) (hD.sub [2, 0, 1, 3, 4] (by decide) rfl) hS
theorem d_M_fringe_0 : decode k_M_fringe 0 = .ok (.iload_n 1, 1) := by decide +kernel
theorem d_M_fringe_1 : decode k_M_fringe 1 = .ok (.iload_n 2, 1) := by decide +kernel
theorem d_M_fringe_2 : decode k_M_fringe 2 = .ok (.invokestatic 70, 3) := by decide +kernel
theorem d_M_fringe_5 : decode k_M_fringe 5 = .ok (.ifCond .eq 12, 3) := by decide +kernel
theorem d_M_fringe_8 : decode k_M_fringe 8 = .ok (.aload_n 0, 1) := by decide +kernel
theorem d_M_fringe_9 : decode k_M_fringe 9 = .ok (.iload_n 2, 1) := by decide +kernel
theorem d_M_fringe_10 : decode k_M_fringe 10 = .ok (.iload_n 3, 1) := by decide +kernel
theorem d_M_fringe_11 : decode k_M_fringe 11 = .ok (.invokevirtual 74, 3) := by decide +kernel
theorem d_M_fringe_14 : decode k_M_fringe 14 = .ok (.ifCond .ne 5, 3) := by decide +kernel
theorem d_M_fringe_17 : decode k_M_fringe 17 = .ok (.iconst 0, 1) := by decide +kernel
theorem d_M_fringe_18 : decode k_M_fringe 18 = .ok (.ireturn, 1) := by decide +kernel
theorem d_M_fringe_19 : decode k_M_fringe 19 = .ok (.aload_n 0, 1) := by decide +kernel
theorem d_M_fringe_20 : decode k_M_fringe 20 = .ok (.iload_n 2, 1) := by decide +kernel
theorem d_M_fringe_21 : decode k_M_fringe 21 = .ok (.invokevirtual 85, 3) := by decide +kernel
theorem d_M_fringe_24 : decode k_M_fringe 24 = .ok (.ifCond .ne 21, 3) := by decide +kernel
theorem d_M_fringe_27 : decode k_M_fringe 27 = .ok (.aload_n 0, 1) := by decide +kernel
theorem d_M_fringe_28 : decode k_M_fringe 28 = .ok (.getfield 37, 3) := by decide +kernel
theorem d_M_fringe_31 : decode k_M_fringe 31 = .ok (.iload_n 2, 1) := by decide +kernel
theorem d_M_fringe_32 : decode k_M_fringe 32 = .ok (.iaload, 1) := by decide +kernel
theorem d_M_fringe_33 : decode k_M_fringe 33 = .ok (.iload_n 3, 1) := by decide +kernel
theorem d_M_fringe_34 : decode k_M_fringe 34 = .ok (.if_icmp .ne 9, 3) := by decide +kernel
theorem d_M_fringe_37 : decode k_M_fringe 37 = .ok (.iconst 1, 1) := by decide +kernel
theorem d_M_fringe_38 : decode k_M_fringe 38 = .ok (.iload_n 2, 1) := by decide +kernel
theorem d_M_fringe_39 : decode k_M_fringe 39 = .ok (.ishl, 1) := by decide +kernel
theorem d_M_fringe_40 : decode k_M_fringe 40 = .ok (.goto 4, 3) := by decide +kernel
theorem d_M_fringe_43 : decode k_M_fringe 43 = .ok (.iconst 0, 1) := by decide +kernel
theorem d_M_fringe_44 : decode k_M_fringe 44 = .ok (.ireturn, 1) := by decide +kernel
theorem d_M_fringe_45 : decode k_M_fringe 45 = .ok (.aload_n 0, 1) := by decide +kernel
theorem d_M_fringe_46 : decode k_M_fringe 46 = .ok (.iload_n 2, 1) := by decide +kernel
theorem d_M_fringe_47 : decode k_M_fringe 47 = .ok (.iload_n 3, 1) := by decide +kernel
theorem d_M_fringe_48 : decode k_M_fringe 48 = .ok (.invokevirtual 77, 3) := by decide +kernel
theorem d_M_fringe_51 : decode k_M_fringe 51 = .ok (.istore 4, 2) := by decide +kernel
theorem d_M_fringe_53 : decode k_M_fringe 53 = .ok (.aload_n 0, 1) := by decide +kernel
theorem d_M_fringe_54 : decode k_M_fringe 54 = .ok (.getfield 28, 3) := by decide +kernel
theorem d_M_fringe_57 : decode k_M_fringe 57 = .ok (.iload 4, 2) := by decide +kernel
theorem d_M_fringe_59 : decode k_M_fringe 59 = .ok (.iaload, 1) := by decide +kernel
theorem d_M_fringe_60 : decode k_M_fringe 60 = .ok (.iload_n 2, 1) := by decide +kernel
theorem d_M_fringe_61 : decode k_M_fringe 61 = .ok (.if_icmp .eq 5, 3) := by decide +kernel
theorem d_M_fringe_64 : decode k_M_fringe 64 = .ok (.iconst 0, 1) := by decide +kernel
theorem d_M_fringe_65 : decode k_M_fringe 65 = .ok (.ireturn, 1) := by decide +kernel
theorem d_M_fringe_66 : decode k_M_fringe 66 = .ok (.iconst 0, 1) := by decide +kernel
theorem d_M_fringe_67 : decode k_M_fringe 67 = .ok (.istore 5, 2) := by decide +kernel
theorem d_M_fringe_69 : decode k_M_fringe 69 = .ok (.iconst 0, 1) := by decide +kernel
theorem d_M_fringe_70 : decode k_M_fringe 70 = .ok (.istore 6, 2) := by decide +kernel
theorem d_M_fringe_72 : decode k_M_fringe 72 = .ok (.iload 6, 2) := by decide +kernel
theorem d_M_fringe_74 : decode k_M_fringe 74 = .ok (.aload_n 0, 1) := by decide +kernel
theorem d_M_fringe_75 : decode k_M_fringe 75 = .ok (.getfield 56, 3) := by decide +kernel
theorem d_M_fringe_78 : decode k_M_fringe 78 = .ok (.if_icmp .ge 65, 3) := by decide +kernel
theorem d_M_fringe_81 : decode k_M_fringe 81 = .ok (.aload_n 0, 1) := by decide +kernel
theorem d_M_fringe_82 : decode k_M_fringe 82 = .ok (.iload_n 1, 1) := by decide +kernel
theorem d_M_fringe_83 : decode k_M_fringe 83 = .ok (.iload 6, 2) := by decide +kernel
theorem d_M_fringe_85 : decode k_M_fringe 85 = .ok (.invokevirtual 88, 3) := by decide +kernel
theorem d_M_fringe_88 : decode k_M_fringe 88 = .ok (.ifCond .eq 49, 3) := by decide +kernel
theorem d_M_fringe_91 : decode k_M_fringe 91 = .ok (.aload_n 0, 1) := by decide +kernel
theorem d_M_fringe_92 : decode k_M_fringe 92 = .ok (.getfield 22, 3) := by decide +kernel
theorem d_M_fringe_95 : decode k_M_fringe 95 = .ok (.aload_n 0, 1) := by decide +kernel
theorem d_M_fringe_96 : decode k_M_fringe 96 = .ok (.getfield 40, 3) := by decide +kernel
theorem d_M_fringe_99 : decode k_M_fringe 99 = .ok (.iload 6, 2) := by decide +kernel
theorem d_M_fringe_101 : decode k_M_fringe 101 = .ok (.iaload, 1) := by decide +kernel
theorem d_M_fringe_102 : decode k_M_fringe 102 = .ok (.iaload, 1) := by decide +kernel
theorem d_M_fringe_103 : decode k_M_fringe 103 = .ok (.aload_n 0, 1) := by decide +kernel
theorem d_M_fringe_104 : decode k_M_fringe 104 = .ok (.getfield 22, 3) := by decide +kernel
theorem d_M_fringe_107 : decode k_M_fringe 107 = .ok (.iload_n 3, 1) := by decide +kernel
theorem d_M_fringe_108 : decode k_M_fringe 108 = .ok (.iaload, 1) := by decide +kernel
theorem d_M_fringe_109 : decode k_M_fringe 109 = .ok (.if_icmp .ge 28, 3) := by decide +kernel
theorem d_M_fringe_112 : decode k_M_fringe 112 = .ok (.aload_n 0, 1) := by decide +kernel
theorem d_M_fringe_113 : decode k_M_fringe 113 = .ok (.aload_n 0, 1) := by decide +kernel
theorem d_M_fringe_114 : decode k_M_fringe 114 = .ok (.getfield 37, 3) := by decide +kernel
theorem d_M_fringe_117 : decode k_M_fringe 117 = .ok (.iload 6, 2) := by decide +kernel
theorem d_M_fringe_119 : decode k_M_fringe 119 = .ok (.iaload, 1) := by decide +kernel
theorem d_M_fringe_120 : decode k_M_fringe 120 = .ok (.iload 4, 2) := by decide +kernel
theorem d_M_fringe_122 : decode k_M_fringe 122 = .ok (.invokevirtual 91, 3) := by decide +kernel
theorem d_M_fringe_125 : decode k_M_fringe 125 = .ok (.ifCond .eq 12, 3) := by decide +kernel
theorem d_M_fringe_128 : decode k_M_fringe 128 = .ok (.iload 5, 2) := by decide +kernel
theorem d_M_fringe_130 : decode k_M_fringe 130 = .ok (.iconst 1, 1) := by decide +kernel
theorem d_M_fringe_131 : decode k_M_fringe 131 = .ok (.iload 6, 2) := by decide +kernel
theorem d_M_fringe_133 : decode k_M_fringe 133 = .ok (.ishl, 1) := by decide +kernel
theorem d_M_fringe_134 : decode k_M_fringe 134 = .ok (.ior, 1) := by decide +kernel
theorem d_M_fringe_135 : decode k_M_fringe 135 = .ok (.istore 5, 2) := by decide +kernel
theorem d_M_fringe_137 : decode k_M_fringe 137 = .ok (.iinc 6 1, 3) := by decide +kernel
theorem d_M_fringe_140 : decode k_M_fringe 140 = .ok (.goto (-68), 3) := by decide +kernel
theorem d_M_fringe_143 : decode k_M_fringe 143 = .ok (.iload 5, 2) := by decide +kernel
theorem d_M_fringe_145 : decode k_M_fringe 145 = .ok (.ireturn, 1) := by decide +kernel
abbrev rm_M_fringe : Room := { frames := 2, cells := 0, slots := 0, locals := 43 }
theorem hd_M_fringe : y_M_fringe.cls = n_M ∧ y_M_fringe.cls ≠ "java/lang/invoke/MethodHandle" ∧ y_M_fringe.cls ≠ "java/lang/invoke/VarHandle" ∧ (parseMethodDescriptor y_M_fringe.desc).map (fun d => d.parameters.length) = some 3 := by decide +kernel
set_option maxHeartbeats 4000000 in
set_option maxRecDepth 100000 in
theorem c_M_fringe (l : Launch) (dC : Nat → ClassId) (dI : Nat → Nat → Nat) (n : Nat) (k : Nat) (wk : Bool) (fl : Bool) (cm : Nat) (bl : Int32) (sd : Int32) (sm : Int64) (co : Int32) (cf : Bool) (hm : Nat) (a1 : Nat) (a2 : Nat) (a3 : Nat) (a4 : Nat) (a5 : Nat) (a6 : Nat) (a7 : Nat) (a8 : Nat) (a9 : Nat) (a10 : Nat) (a11 : Nat) (a12 : Nat) (a13 : Nat) (a14 : Nat) (cI : ClassId) (E : Nat → Nat) (Dp : Nat → Int32) (Pr : Nat → Nat) (Yb : Nat → Nat) (dq : Nat → Nat) (sh : Nat → Nat) (x : Int32) (f0 : Nat) (v : Nat) (hk : k ≤ 18) (hf : f0 < 18) (hv : v < 10) (hE : ∀ j, E j < 10) (hsh : ∀ j, sh j < 10) (hdq : ∀ j, dq j < 10) (hPr : ∀ j, Pr j ≤ 10) (hup : ∀ f t, f < k → pm_upD t (pm_up Pr (dq f) t) = true) : Met l y_M_fringe (.code y_M_fringe k_M_fringe 7 (.some FieldType.int) :: gw) rm_M_fringe (roP [.ref hm, .int x, .int (nI f0), .int (nI v)] (dC, dI) [(hm, .inr (5, [.int (nI n), .int (nI k), .ref a1, .ref a2, .int (bI wk), .int (bI fl), .int (nI cm), .ref a3, .ref a4, .int bl, .int sd, .long sm, .int co, .ref a5, .ref a6, .ref a7, .ref a8, .ref a9, .ref a10, .ref a11, .ref a12, .ref a13, .int (bI cf), .ref a14])), (a1, .inl (cI, 36, .inl (fun i9 => nI (E i9)))), (a5, .inl (cI, 10, .inl Dp)), (a6, .inl (cI, 10, .inl (fun i9 => oI (Pr i9)))), (a7, .inl (cI, 10, .inl (fun i9 => oI (Yb i9)))), (a10, .inl (cI, 18, .inl (fun i9 => nI (dq i9)))), (a11, .inl (cI, 18, .inl (fun i9 => nI (sh i9))))] [(cI, .int)]) (vp_Si (fun r => r = pm_fr k x E Yb Pr dq sh Dp f0 v)) 0 0 (fun _ => False) := by
  refine ro_met (by decide) ⟨rfl, rfl⟩ rfl (Nat.le_of_ble_eq_true rfl) ?_
  intro p e s m args below meth c Q ls Sx hP hK hl hret
  have hx := Sx.1
  have hb := Sx.2.1
  have hl : lv_has ls 7 [(0, .ref hm), (1, .int x), (2, .int (nI f0)), (3, .int (nI v))] := hl
  refine lv_iload_n hx hb d_M_fringe_0 rfl (lv_at hl 1 rfl) ?_
  refine lv_iload_n hx hb d_M_fringe_1 rfl (lv_at hl 2 rfl) ?_
  refine ro_S (As := [.int x, .int (nI f0)]) (rest := []) Sx (c_M_has l dC dI x (nI f0)) (gw_callS gm_509 gm_510 gm_56 gm_511) hd_M_has ⟨rfl, rfl⟩ ⟨Nat.le_of_ble_eq_true rfl, Nat.le_of_ble_eq_true rfl⟩ (va_P_map hP [] rfl) (hK.sub (tys' := []) [] rfl) rfl hl.1 rfl (Nat.le_of_ble_eq_true rfl) d_M_fringe_2 ⟨Nat.zero_le _, Nat.zero_le _⟩ ?_
  refine lv_if_eq hx hb d_M_fringe_5 (tgt := 17) rfl (fun q1 => ?_) (fun q1 => ?_)
  · have q1 : (pm_has x (nI f0)) = false := bI_0.mp q1
    refine lv_iconst (v := 0) hx hb d_M_fringe_17 (by decide) ?_
    rw [show (0 : Int32) = (pm_fr k x E Yb Pr dq sh Dp f0 v) from by simp [pm_fr, q1]]
    exact hret _ _ d_M_fringe_18
  · have q1 : (pm_has x (nI f0)) = true := bI_1.mp q1
    refine lv_aload_n hx hb d_M_fringe_8 rfl (lv_at hl 0 rfl) ?_
    refine lv_iload_n hx hb d_M_fringe_9 rfl (lv_at hl 2 rfl) ?_
    refine lv_iload_n hx hb d_M_fringe_10 rfl (lv_at hl 3 rfl) ?_
    refine ro_V (As := [.int (nI f0), .int (nI v)]) (rest := []) Sx (c_M_touches l dC dI n k wk fl cm bl sd sm co cf hm a1 a2 a3 a4 a5 a6 a7 a8 a9 a10 a11 a12 a13 a14 cI E f0 v (by omega)) (gw_callV gm_512 gm_513 gm_31 gm_56 gm_514) hd_M_touches ⟨rfl, rfl⟩ ⟨Nat.le_of_ble_eq_true rfl, Nat.le_of_ble_eq_true rfl⟩ (va_P_map hP [0, 1] rfl) (hK.sub (tys' := [(cI, .int)]) [0] rfl) rfl 0 rfl rfl hl.1 rfl (Nat.le_of_ble_eq_true rfl) d_M_fringe_11 ⟨Nat.zero_le _, Nat.zero_le _⟩ ?_
    refine lv_if_ne hx hb d_M_fringe_14 (tgt := 19) rfl (fun q2 => ?_) (fun q2 => ?_)
    · have q2 : (pm_tch E f0 v) = true := bI_1.mp q2
      refine lv_aload_n hx hb d_M_fringe_19 rfl (lv_at hl 0 rfl) ?_
      refine lv_iload_n hx hb d_M_fringe_20 rfl (lv_at hl 2 rfl) ?_
      refine ro_V (As := [.int (nI f0)]) (rest := []) Sx (c_M_inTree l dC dI n k wk fl cm bl sd sm co cf hm a1 a2 a3 a4 a5 a6 a7 a8 a9 a10 a11 a12 a13 a14 cI E Yb f0 (by omega) hE) (gw_callV gm_521 gm_522 gm_34 gm_56 gm_523) hd_M_inTree ⟨rfl, rfl⟩ ⟨Nat.le_of_ble_eq_true rfl, Nat.le_of_ble_eq_true rfl⟩ (va_P_map hP [0, 1, 4] rfl) (hK.sub (tys' := [(cI, .int)]) [0] rfl) rfl 0 rfl rfl hl.1 rfl (Nat.le_of_ble_eq_true rfl) d_M_fringe_21 ⟨Nat.zero_le _, Nat.zero_le _⟩ ?_
      refine lv_if_ne hx hb d_M_fringe_24 (tgt := 45) rfl (fun q3 => ?_) (fun q3 => ?_)
      · have q3 : (pm_int E Yb f0) = true := bI_1.mp q3
        refine lv_aload_n hx hb d_M_fringe_45 rfl (lv_at hl 0 rfl) ?_
        refine lv_iload_n hx hb d_M_fringe_46 rfl (lv_at hl 2 rfl) ?_
        refine lv_iload_n hx hb d_M_fringe_47 rfl (lv_at hl 3 rfl) ?_
        refine ro_V (As := [.int (nI f0), .int (nI v)]) (rest := []) Sx (c_M_other l dC dI n k wk fl cm bl sd sm co cf hm a1 a2 a3 a4 a5 a6 a7 a8 a9 a10 a11 a12 a13 a14 cI E f0 v (by omega)) (gw_callV gm_515 gm_516 gm_32 gm_56 gm_517) hd_M_other ⟨rfl, rfl⟩ ⟨Nat.le_of_ble_eq_true rfl, Nat.le_of_ble_eq_true rfl⟩ (va_P_map hP [0, 1] rfl) (hK.sub (tys' := [(cI, .int)]) [0] rfl) rfl 0 rfl rfl hl.1 rfl (Nat.le_of_ble_eq_true rfl) d_M_fringe_48 ⟨Nat.zero_le _, Nat.zero_le _⟩ ?_
        refine lv_istore hx hb d_M_fringe_51 hl (Nat.le_of_ble_eq_true rfl) rfl (fun ls hl => ?_)
        have hl : lv_has ls 7 [(4, .int (nI (pm_oth E f0 v))), (0, .ref hm), (1, .int x), (2, .int (nI f0)), (3, .int (nI v))] := hl
        refine lv_aload_n hx hb d_M_fringe_53 rfl (lv_at hl 1 rfl) ?_
        refine g_get Sx gf_M hK hP 0 rfl rfl 15 (by decide) gm_434 rfl d_M_fringe_54 ?_
        refine lv_iload hx hb d_M_fringe_57 (lv_at hl 0 rfl) ?_
        refine g_ild (j := (pm_oth E f0 v)) Sx hK hP 4 0 rfl rfl (pm_oth_lt hE _ _) (by decide) d_M_fringe_59 ?_
        refine lv_iload_n hx hb d_M_fringe_60 rfl (lv_at hl 3 rfl) ?_
        refine lv_icmp_eq hx hb d_M_fringe_61 (tgt := 66) rfl (fun q4 => ?_) (fun q4 => ?_)
        · skip
          refine lv_iconst (v := 0) hx hb d_M_fringe_66 (by decide) ?_
          refine lv_istore hx hb d_M_fringe_67 hl (Nat.le_of_ble_eq_true rfl) rfl (fun ls hl => ?_)
          have hl : lv_has ls 7 [(5, .int 0), (4, .int (nI (pm_oth E f0 v))), (0, .ref hm), (1, .int x), (2, .int (nI f0)), (3, .int (nI v))] := hl
          refine lv_iconst (v := nI 0) hx hb d_M_fringe_69 (by decide) ?_
          refine lv_istore hx hb d_M_fringe_70 hl (Nat.le_of_ble_eq_true rfl) rfl (fun ls hl => ?_)
          have hl : lv_has ls 7 [(6, .int (nI 0)), (5, .int 0), (4, .int (nI (pm_oth E f0 v))), (0, .ref hm), (1, .int x), (2, .int (nI f0)), (3, .int (nI v))] := hl
          have hL72 : ∀ (kk i : Nat), i + kk = k → ∀ (d : Int32) (ls : Array Slot), d = fo (pm_fr1 x E Yb Pr dq sh Dp v (pm_oth E f0 v)) i 0 → lv_has ls 7 [(6, .int (nI i)), (5, .int d), (4, .int (nI (pm_oth E f0 v))), (0, .ref hm), (1, .int x), (2, .int (nI f0)), (3, .int (nI v))] → W p l e rm_M_fringe s m args below meth c s.heap [] 0 0 Q (F0 m 72 ls []) := by
            intro kk
            induction kk with
            | zero =>
              intro i hi72 d ls he72 hl
              have hj72 : i = k := by omega
              rw [hj72] at hl he72
              have e_d : d = (fo (pm_fr1 x E Yb Pr dq sh Dp v (pm_oth E f0 v)) k 0) := by rw [← he72]
              subst e_d
              have hl : lv_has ls 7 [(6, .int (nI k)), (5, .int (fo (pm_fr1 x E Yb Pr dq sh Dp v (pm_oth E f0 v)) k 0)), (4, .int (nI (pm_oth E f0 v))), (0, .ref hm), (1, .int x), (2, .int (nI f0)), (3, .int (nI v))] := hl
              refine lv_iload hx hb d_M_fringe_72 (lv_at hl 0 rfl) ?_
              refine lv_aload_n hx hb d_M_fringe_74 rfl (lv_at hl 3 rfl) ?_
              refine g_get Sx gf_M hK hP 0 rfl rfl 1 (by decide) gm_420 rfl d_M_fringe_75 ?_
              refine lv_icmp_ge hx hb d_M_fringe_78 (tgt := 143) rfl (fun q5 => ?_) (fun q5 => ?_)
              · have q5 : k ≤ k := nq_le (by omega) (by omega) q5
                refine lv_iload hx hb d_M_fringe_143 (lv_at hl 1 rfl) ?_
                rw [show ((fo (pm_fr1 x E Yb Pr dq sh Dp v (pm_oth E f0 v)) k 0) : Int32) = (pm_fr k x E Yb Pr dq sh Dp f0 v) from by simp [pm_fr, q1, q2, q3, q4, q5]]
                exact hret _ _ d_M_fringe_145
              · have q5 : k < k := nq_nle (by omega) (by omega) q5
                exact absurd q5 (by omega)
            | succ kk ih72 =>
              intro i hi72 d ls he72 hl
              refine lv_iload hx hb d_M_fringe_72 (lv_at hl 0 rfl) ?_
              refine lv_aload_n hx hb d_M_fringe_74 rfl (lv_at hl 3 rfl) ?_
              refine g_get Sx gf_M hK hP 0 rfl rfl 1 (by decide) gm_420 rfl d_M_fringe_75 ?_
              refine lv_icmp_ge hx hb d_M_fringe_78 (tgt := 143) rfl (fun q6 => ?_) (fun q6 => ?_)
              · have q6 : k ≤ i := nq_le (by omega) (by omega) q6
                exact absurd q6 (by omega)
              · have q6 : i < k := nq_nle (by omega) (by omega) q6
                refine lv_aload_n hx hb d_M_fringe_81 rfl (lv_at hl 3 rfl) ?_
                refine lv_iload_n hx hb d_M_fringe_82 rfl (lv_at hl 4 rfl) ?_
                refine lv_iload hx hb d_M_fringe_83 (lv_at hl 0 rfl) ?_
                refine ro_V (As := [.int x, .int (nI i)]) (rest := []) Sx (c_M_isBack l dC dI n k wk fl cm bl sd sm co cf hm a1 a2 a3 a4 a5 a6 a7 a8 a9 a10 a11 a12 a13 a14 cI E Yb x i (by omega) hE) (gw_callV gm_524 gm_525 gm_35 gm_56 gm_526) hd_M_isBack ⟨rfl, rfl⟩ ⟨Nat.le_of_ble_eq_true rfl, Nat.le_of_ble_eq_true rfl⟩ (va_P_map hP [0, 1, 4] rfl) (hK.sub (tys' := [(cI, .int)]) [0] rfl) rfl 0 rfl rfl hl.1 rfl (Nat.le_of_ble_eq_true rfl) d_M_fringe_85 ⟨Nat.zero_le _, Nat.zero_le _⟩ ?_
                refine lv_if_eq hx hb d_M_fringe_88 (tgt := 137) rfl (fun q7 => ?_) (fun q7 => ?_)
                · have q7 : (pm_bk x E Yb i) = false := bI_0.mp q7
                  refine lv_iinc (k := 0) (v := nI (i + 1)) hx hb d_M_fringe_137 hl rfl (inc_nI _) (Nat.le_of_ble_eq_true rfl) rfl (fun ls hl => ?_)
                  have hl : lv_has ls 7 [(6, .int (nI (i + 1))), (5, .int d), (4, .int (nI (pm_oth E f0 v))), (0, .ref hm), (1, .int x), (2, .int (nI f0)), (3, .int (nI v))] := hl
                  refine lv_goto hx hb d_M_fringe_140 (tgt := 72) rfl ?_
                  have he2 : d = fo (pm_fr1 x E Yb Pr dq sh Dp v (pm_oth E f0 v)) (i + 1) 0 := by
                    rw [fo_s, ← he72]
                    simp [pm_fr1, q1, q2, q3, q4, q6, q7]
                  exact ih72 (i + 1) (by omega) d  ls he2  (lv_sub hl [0, 1, 2, 3, 4, 5, 6] rfl)
                · have q7 : (pm_bk x E Yb i) = true := bI_1.mp q7
                  refine lv_aload_n hx hb d_M_fringe_91 rfl (lv_at hl 3 rfl) ?_
                  refine g_get Sx gf_M hK hP 0 rfl rfl 13 (by decide) gm_432 rfl d_M_fringe_92 ?_
                  refine lv_aload_n hx hb d_M_fringe_95 rfl (lv_at hl 3 rfl) ?_
                  refine g_get Sx gf_M hK hP 0 rfl rfl 19 (by decide) gm_438 rfl d_M_fringe_96 ?_
                  refine lv_iload hx hb d_M_fringe_99 (lv_at hl 0 rfl) ?_
                  refine g_ild (j := i) Sx hK hP 6 0 rfl rfl (by omega) (by decide) d_M_fringe_101 ?_
                  refine g_ild (j := (sh i)) Sx hK hP 2 0 rfl rfl (hsh _) (by decide) d_M_fringe_102 ?_
                  refine lv_aload_n hx hb d_M_fringe_103 rfl (lv_at hl 3 rfl) ?_
                  refine g_get Sx gf_M hK hP 0 rfl rfl 13 (by decide) gm_432 rfl d_M_fringe_104 ?_
                  refine lv_iload_n hx hb d_M_fringe_107 rfl (lv_at hl 6 rfl) ?_
                  refine g_ild (j := v) Sx hK hP 2 0 rfl rfl (by omega) (by decide) d_M_fringe_108 ?_
                  refine lv_icmp_ge hx hb d_M_fringe_109 (tgt := 137) rfl (fun q8 => ?_) (fun q8 => ?_)
                  · skip
                    refine lv_iinc (k := 0) (v := nI (i + 1)) hx hb d_M_fringe_137 hl rfl (inc_nI _) (Nat.le_of_ble_eq_true rfl) rfl (fun ls hl => ?_)
                    have hl : lv_has ls 7 [(6, .int (nI (i + 1))), (5, .int d), (4, .int (nI (pm_oth E f0 v))), (0, .ref hm), (1, .int x), (2, .int (nI f0)), (3, .int (nI v))] := hl
                    refine lv_goto hx hb d_M_fringe_140 (tgt := 72) rfl ?_
                    have he2 : d = fo (pm_fr1 x E Yb Pr dq sh Dp v (pm_oth E f0 v)) (i + 1) 0 := by
                      rw [fo_s, ← he72]
                      simp [pm_fr1, q1, q2, q3, q4, q6, q7, q8]
                    exact ih72 (i + 1) (by omega) d  ls he2  (lv_sub hl [0, 1, 2, 3, 4, 5, 6] rfl)
                  · skip
                    refine lv_aload_n hx hb d_M_fringe_112 rfl (lv_at hl 3 rfl) ?_
                    refine lv_aload_n hx hb d_M_fringe_113 rfl (lv_at hl 3 rfl) ?_
                    refine g_get Sx gf_M hK hP 0 rfl rfl 18 (by decide) gm_437 rfl d_M_fringe_114 ?_
                    refine lv_iload hx hb d_M_fringe_117 (lv_at hl 0 rfl) ?_
                    refine g_ild (j := i) Sx hK hP 5 0 rfl rfl (by omega) (by decide) d_M_fringe_119 ?_
                    refine lv_iload hx hb d_M_fringe_120 (lv_at hl 2 rfl) ?_
                    refine ro_V (As := [.int (nI (dq i)), .int (nI (pm_oth E f0 v))]) (rest := []) Sx (c_M_isBelow l dC dI n k wk fl cm bl sd sm co cf hm a1 a2 a3 a4 a5 a6 a7 a8 a9 a10 a11 a12 a13 a14 cI Pr (dq i) (pm_oth E f0 v) (hdq _) hPr (hup _ _ (by omega))) (gw_callV gm_527 gm_528 gm_36 gm_56 gm_529) hd_M_isBelow ⟨rfl, rfl⟩ ⟨Nat.le_of_ble_eq_true rfl, Nat.le_of_ble_eq_true rfl⟩ (va_P_map hP [0, 3] rfl) (hK.sub (tys' := [(cI, .int)]) [0] rfl) rfl 0 rfl rfl hl.1 rfl (Nat.le_of_ble_eq_true rfl) d_M_fringe_122 ⟨Nat.zero_le _, Nat.zero_le _⟩ ?_
                    refine lv_if_eq hx hb d_M_fringe_125 (tgt := 137) rfl (fun q9 => ?_) (fun q9 => ?_)
                    · have q9 : (pm_below Pr (dq i) (pm_oth E f0 v)) = false := bI_0.mp q9
                      refine lv_iinc (k := 0) (v := nI (i + 1)) hx hb d_M_fringe_137 hl rfl (inc_nI _) (Nat.le_of_ble_eq_true rfl) rfl (fun ls hl => ?_)
                      have hl : lv_has ls 7 [(6, .int (nI (i + 1))), (5, .int d), (4, .int (nI (pm_oth E f0 v))), (0, .ref hm), (1, .int x), (2, .int (nI f0)), (3, .int (nI v))] := hl
                      refine lv_goto hx hb d_M_fringe_140 (tgt := 72) rfl ?_
                      have he2 : d = fo (pm_fr1 x E Yb Pr dq sh Dp v (pm_oth E f0 v)) (i + 1) 0 := by
                        rw [fo_s, ← he72]
                        simp [pm_fr1, q1, q2, q3, q4, q6, q7, q8, q9]
                      exact ih72 (i + 1) (by omega) d  ls he2  (lv_sub hl [0, 1, 2, 3, 4, 5, 6] rfl)
                    · have q9 : (pm_below Pr (dq i) (pm_oth E f0 v)) = true := bI_1.mp q9
                      refine lv_iload hx hb d_M_fringe_128 (lv_at hl 1 rfl) ?_
                      refine lv_iconst (v := 1) hx hb d_M_fringe_130 (by decide) ?_
                      refine lv_iload hx hb d_M_fringe_131 (lv_at hl 0 rfl) ?_
                      refine lv_ishl hx hb d_M_fringe_133 ?_
                      refine lv_ior hx hb d_M_fringe_134 ?_
                      refine lv_istore hx hb d_M_fringe_135 hl (Nat.le_of_ble_eq_true rfl) rfl (fun ls hl => ?_)
                      have hl : lv_has ls 7 [(5, .int (d ||| (1 <<< ((nI i) &&& 31)))), (6, .int (nI i)), (4, .int (nI (pm_oth E f0 v))), (0, .ref hm), (1, .int x), (2, .int (nI f0)), (3, .int (nI v))] := hl
                      refine lv_iinc (k := 1) (v := nI (i + 1)) hx hb d_M_fringe_137 hl rfl (inc_nI _) (Nat.le_of_ble_eq_true rfl) rfl (fun ls hl => ?_)
                      have hl : lv_has ls 7 [(6, .int (nI (i + 1))), (5, .int (d ||| (1 <<< ((nI i) &&& 31)))), (4, .int (nI (pm_oth E f0 v))), (0, .ref hm), (1, .int x), (2, .int (nI f0)), (3, .int (nI v))] := hl
                      refine lv_goto hx hb d_M_fringe_140 (tgt := 72) rfl ?_
                      have he2 : (d ||| (1 <<< ((nI i) &&& 31))) = fo (pm_fr1 x E Yb Pr dq sh Dp v (pm_oth E f0 v)) (i + 1) 0 := by
                        rw [fo_s, ← he72]
                        simp [pm_fr1, q1, q2, q3, q4, q6, q7, q8, q9]
                      exact ih72 (i + 1) (by omega) (d ||| (1 <<< ((nI i) &&& 31)))  ls he2  (lv_sub hl [0, 1, 2, 3, 4, 5, 6] rfl)
          exact hL72 k 0 (by omega) 0  ls rfl  (lv_sub hl [0, 1, 2, 3, 4, 5, 6] rfl)
        · skip
          refine lv_iconst (v := 0) hx hb d_M_fringe_64 (by decide) ?_
          rw [show (0 : Int32) = (pm_fr k x E Yb Pr dq sh Dp f0 v) from by simp [pm_fr, q1, q2, q3, q4]]
          exact hret _ _ d_M_fringe_65
      · have q3 : (pm_int E Yb f0) = false := bI_0.mp q3
        refine lv_aload_n hx hb d_M_fringe_27 rfl (lv_at hl 0 rfl) ?_
        refine g_get Sx gf_M hK hP 0 rfl rfl 18 (by decide) gm_437 rfl d_M_fringe_28 ?_
        refine lv_iload_n hx hb d_M_fringe_31 rfl (lv_at hl 2 rfl) ?_
        refine g_ild (j := f0) Sx hK hP 5 0 rfl rfl (by omega) (by decide) d_M_fringe_32 ?_
        refine lv_iload_n hx hb d_M_fringe_33 rfl (lv_at hl 3 rfl) ?_
        refine lv_icmp_ne hx hb d_M_fringe_34 (tgt := 43) rfl (fun q10 => ?_) (fun q10 => ?_)
        · skip
          refine lv_iconst (v := 0) hx hb d_M_fringe_43 (by decide) ?_
          rw [show (0 : Int32) = (pm_fr k x E Yb Pr dq sh Dp f0 v) from by simp [pm_fr, q1, q2, q3, q10]]
          exact hret _ _ d_M_fringe_44
        · skip
          refine lv_iconst (v := 1) hx hb d_M_fringe_37 (by decide) ?_
          refine lv_iload_n hx hb d_M_fringe_38 rfl (lv_at hl 2 rfl) ?_
          refine lv_ishl hx hb d_M_fringe_39 ?_
          refine lv_goto hx hb d_M_fringe_40 (tgt := 44) rfl ?_
          rw [show ((1 <<< ((nI f0) &&& 31)) : Int32) = (pm_fr k x E Yb Pr dq sh Dp f0 v) from by simp [pm_fr, q1, q2, q3, q10]]
          exact hret _ _ d_M_fringe_44
    · have q2 : (pm_tch E f0 v) = false := bI_0.mp q2
      refine lv_iconst (v := 0) hx hb d_M_fringe_17 (by decide) ?_
      rw [show (0 : Int32) = (pm_fr k x E Yb Pr dq sh Dp f0 v) from by simp [pm_fr, q1, q2]]
      exact hret _ _ d_M_fringe_18
