set_option maxHeartbeats 4000000 in
set_option maxRecDepth 100000 in
theorem lw_loop {p : Program} {l : Launch} {e : Env} {s : State} {m : MethodId} {below : List Frame} {meth : Method} {c : Code} {Q : State → Prop} {dC : Nat → ClassId} {dI : Nat → Nat → Nat} {ad rr : Nat → Nat} {cI cL cQ : ClassId} {b L N : Nat} {xs : Nat → Int32} {I : Nat → LX → LM → Prop} (hI : LawOK N I) (Sx : CallFix p m c k_L_law 4 s #[Value.ref b] gw n_L) (hK : va_K (dC, dI) pcl [(cI, .int), (cL, .long), (cQ, .array .int)] s) (hX : va_X b L xs s s.heap) (hbl : b < s.heap.size) (hL : L ≤ N) (hN : N ≤ 2048)
    (hret : ∀ (H : Heap) (locs : List Loc) (ls : Array Slot), va_S (lA s) s.heap H locs → W p l e room_1 s m #[Value.ref b] below meth c H locs 57 727 Q (F0 m 438 ls [.int 1])) :
    ∀ (f j : Nat) (q : LX) (z : LM) (H : Heap) (locs : List Loc) (ls : Array Slot), L ≤ 4 * j + f → 4 * j ≤ L + 4 → I j q z → va_P (dC, dI) pcl (lwW ad rr cI cL cQ q z) H → va_D (lA s) (lwW ad rr cI cL cQ q z) → va_S (lA s) s.heap H locs → lv_has ls 4 [(3, .int (nI (4 * j))), (2, .ref (ad 24)), (1, .ref (ad 0)), (0, .ref b)] → W p l e room_1 s m #[Value.ref b] below meth c H locs 57 727 Q (F0 m 18 ls []) := by
  have hx := Sx.1
  have hb := Sx.2.1
  have hbA : ¬ lA s b := Nat.not_le.mpr hbl
  intro f
  induction f with
  | zero =>
    intro j q z H locs ls hf hj hIj hP hD hS hl
    refine lv_iload_n hx hb d_L_law_18 rfl (lv_at hl 0 rfl) ?_
    refine lv_aload_n hx hb d_L_law_19 rfl (lv_at hl 3 rfl) ?_
    refine va_slen hx hb hX hbl hbA hS d_L_law_20 ?_
    refine lv_iconst (v := 4) hx hb d_L_law_21 (by decide) ?_
    refine lv_isub hx hb d_L_law_22 ?_
    refine lv_icmp_gt hx hb d_L_law_23 (tgt := 437) rfl (fun q1 => ?_) (fun q1 => absurd ((lw_gt (by omega) (by omega)).mpr (by omega)) q1)
    refine lv_iconst (v := 1) hx hb d_L_law_437 (by decide) ?_
    exact hret H locs ls hS
  | succ f ih =>
    intro j q z H locs ls hf hj hIj hP hD hS hl
    refine lv_iload_n hx hb d_L_law_18 rfl (lv_at hl 0 rfl) ?_
    refine lv_aload_n hx hb d_L_law_19 rfl (lv_at hl 3 rfl) ?_
    refine va_slen hx hb hX hbl hbA hS d_L_law_20 ?_
    refine lv_iconst (v := 4) hx hb d_L_law_21 (by decide) ?_
    refine lv_isub hx hb d_L_law_22 ?_
    refine lv_icmp_gt hx hb d_L_law_23 (tgt := 437) rfl (fun q1 => ?_) (fun q1 => ?_)
    · refine lv_iconst (v := 1) hx hb d_L_law_437 (by decide) ?_
      exact hret H locs ls hS
    · have hj4 : 4 * j + 4 ≤ L := Nat.le_of_not_lt (fun h => q1 ((lw_gt (by omega) (by omega)).mpr h))
      have hI4 := hI j q z (by omega) hIj
      have kk : ∀ (q : LX) (z : LM) (H : Heap) (locs : List Loc), I (j + 1) q z → va_P (dC, dI) pcl (lwW ad rr cI cL cQ q z) H → va_D (lA s) (lwW ad rr cI cL cQ q z) → va_S (lA s) s.heap H locs → W p l e room_1 s m #[Value.ref b] below meth c H locs 57 727 Q (F0 m 431 ls []) := by
        intro q z H locs hI1 hP hD hS
        refine lv_iinc hx hb d_L_law_431 hl (k := 0) rfl (v := nI (4 * (j + 1))) (by show nI (4 * j) + nI 4 = _; rw [nI_add]; rfl) (by decide) rfl (fun ls hl => ?_)
        refine lv_goto hx hb d_L_law_434 (tgt := 18) rfl ?_
        exact ih (j + 1) q z H locs ls (by omega) (by omega) hI1 hP hD hS hl
      refine lv_aload_n hx hb d_L_law_26 rfl (lv_at hl 3 rfl) ?_
      refine lv_iload_n hx hb d_L_law_27 rfl (lv_at hl 0 rfl) ?_
      refine va_sld hx hb hX hbl hbA hS (vp_in_nI (by omega) (by omega)) d_L_law_28 ?_
      rw [nI_clamp (by omega)]
      refine lv_bipush (v := 15) hx hb d_L_law_29 (by decide) ?_
      refine lv_iand hx hb d_L_law_31 ?_
      obtain ⟨g, hg, eg⟩ := lw_15 (xs (4 * j))
      rw [eg]
      match g, hg with
      | 0, _ => exact lv_tableIn hx hb d_L_law_32 (by decide) (by decide) (off := 80) rfl (tgt := 112) rfl (lc_begin Sx hK hP hD hS hX hbl (by omega) hj4 hl (hI4.1 _) kk)
      | 1, _ => exact lv_tableIn hx hb d_L_law_32 (by decide) (by decide) (off := 103) rfl (tgt := 135) rfl (lc_add Sx hK hP hD hS hX hbl (by omega) hj4 hl (hI4.2.1 _ _ _) kk)
      | 2, _ => exact lv_tableIn hx hb d_L_law_32 (by decide) (by decide) (off := 146) rfl (tgt := 178) rfl (lc_undo Sx hK hP hD hS hX hbl (by omega) hj4 hl (hI4.2.2.1 ) kk)
      | 3, _ => exact lv_tableIn hx hb d_L_law_32 (by decide) (by decide) (off := 159) rfl (tgt := 191) rfl (lc_weigh Sx hK hP hD hS hX hbl (by omega) hj4 hl (hI4.2.2.2.1 _ _) kk)
      | 4, _ => exact lv_tableIn hx hb d_L_law_32 (by decide) (by decide) (off := 192) rfl (tgt := 224) rfl (lc_edges Sx hK hP hD hS hX hbl (by omega) hj4 hl (hI4.2.2.2.2.1 ) kk)
      | 5, _ => exact lv_tableIn hx hb d_L_law_32 (by decide) (by decide) (off := 205) rfl (tgt := 237) rfl (lc_components Sx hK hP hD hS hX hbl (by omega) hj4 hl (hI4.2.2.2.2.2.1 ) kk)
      | 6, _ => exact lv_tableIn hx hb d_L_law_32 (by decide) (by decide) (off := 218) rfl (tgt := 250) rfl (lc_component Sx hK hP hD hS hX hbl (by omega) hj4 hl (hI4.2.2.2.2.2.2.1 _) kk)
      | 7, _ => exact lv_tableIn hx hb d_L_law_32 (by decide) (by decide) (off := 241) rfl (tgt := 273) rfl (lc_blocks Sx hK hP hD hS hX hbl (by omega) hj4 hl (hI4.2.2.2.2.2.2.2.1 ) kk)
      | 8, _ => exact lv_tableIn hx hb d_L_law_32 (by decide) (by decide) (off := 254) rfl (tgt := 286) rfl (lc_block Sx hK hP hD hS hX hbl (by omega) hj4 hl (hI4.2.2.2.2.2.2.2.2.1 _) kk)
      | 9, _ => exact lv_tableIn hx hb d_L_law_32 (by decide) (by decide) (off := 277) rfl (tgt := 309) rfl (lc_planar Sx hK hP hD hS hX hbl (by omega) hj4 hl (hI4.2.2.2.2.2.2.2.2.2.1 ) kk)
      | 10, _ => exact lv_tableIn hx hb d_L_law_32 (by decide) (by decide) (off := 290) rfl (tgt := 322) rfl (lc_faces Sx hK hP hD hS hX hbl (by omega) hj4 hl (hI4.2.2.2.2.2.2.2.2.2.2.1 ) kk)
      | 11, _ => exact lv_tableIn hx hb d_L_law_32 (by decide) (by decide) (off := 303) rfl (tgt := 335) rfl (lc_cut Sx hK hP hD hS hX hbl (by omega) hj4 hl (hI4.2.2.2.2.2.2.2.2.2.2.2.1 ) kk)
      | 12, _ => exact lv_tableIn hx hb d_L_law_32 (by decide) (by decide) (off := 317) rfl (tgt := 349) rfl (lc_side Sx hK hP hD hS hX hbl (by omega) hj4 hl (hI4.2.2.2.2.2.2.2.2.2.2.2.2.1 _) kk)
      | 13, _ => exact lv_tableIn hx hb d_L_law_32 (by decide) (by decide) (off := 340) rfl (tgt := 372) rfl (lc_crosses Sx hK hP hD hS hX hbl (by omega) hj4 hl (hI4.2.2.2.2.2.2.2.2.2.2.2.2.2.1 _) kk)
      | 14, _ => exact lv_tableIn hx hb d_L_law_32 (by decide) (by decide) (off := 363) rfl (tgt := 395) rfl (lc_witness Sx hK hP hD hS hX hbl (by omega) hj4 hl (hI4.2.2.2.2.2.2.2.2.2.2.2.2.2.2.1 _) kk)
      | 15, _ => exact lv_tableIn hx hb d_L_law_32 (by decide) (by decide) (off := 386) rfl (tgt := 418) rfl (lc_kind Sx hK hP hD hS hX hbl (by omega) hj4 hl (hI4.2.2.2.2.2.2.2.2.2.2.2.2.2.2.2 ) kk)
      | g + 16, h => exact absurd h (by omega)
