/-! the law: what the mathematics must give (LawOK), and the walk -/
def lq0 : LX := (0, 0, fun _ => 0, fun _ => 0, fun _ => 0, false, false, false, false, 0, 0, fun _ => 0, fun _ => 0, fun _ => 0, 0, 0, fun _ => 0, fun _ => 0, fun _ => 0, 0, 0, (0, 0, 0, 0, 0, 0, 0, 0, fun _ => 0, fun _ => 0, fun _ => 0, fun _ => 0, fun _ => 0, fun _ => 0, fun _ => 0, fun _ _ => 0), fun _ => 0, 0, 0)
def lz0 : LM := (0, 0, fun _ => 0, fun _ => 0, false, false, 0, 0, 0, 0, 0, false, fun _ => 0, fun _ => 0, fun _ => 0, fun _ => 1, fun _ => 1, fun _ => 0, fun _ => 0, fun _ => 0, fun _ => 0, fun _ => 0, fun _ => 0, fun _ => 0)
def LawOK (N : Nat) (I : Nat → LX → LM → Prop) : Prop := ∀ (j : Nat) (q : LX) (z : LM), 4 * j + 4 ≤ N → I j q z →
  (∀ n9 : Int32, ∃ r9 q9 z9, XS_begin q n9 r9 q9 ∧ MS_begin z n9 r9 z9 ∧ I (j + 1) q9 z9) ∧
  (∀ u9 v9 w9 : Int32, ∃ r9 q9 z9, XS_add q u9 v9 w9 r9 q9 ∧ MS_add z u9 v9 w9 r9 z9 ∧ I (j + 1) q9 z9) ∧
  (∃ r9 q9 z9, XS_undo q  r9 q9 ∧ MS_undo z  r9 z9 ∧ I (j + 1) q9 z9) ∧
  (∀ v9 w9 : Int32, ∃ r9 q9 z9, XS_weigh q v9 w9 r9 q9 ∧ MS_weigh z v9 w9 r9 z9 ∧ I (j + 1) q9 z9) ∧
  (∃ r9 q9 z9, XS_edges q  r9 q9 ∧ MS_edges z  r9 z9 ∧ I (j + 1) q9 z9) ∧
  (∃ r9 q9 z9, XS_components q  r9 q9 ∧ MS_components z  r9 z9 ∧ I (j + 1) q9 z9) ∧
  (∀ v9 : Int32, ∃ r9 q9 z9, XS_component q v9 r9 q9 ∧ MS_component z v9 r9 z9 ∧ I (j + 1) q9 z9) ∧
  (∃ r9 q9 z9, XS_blocks q  r9 q9 ∧ MS_blocks z  r9 z9 ∧ I (j + 1) q9 z9) ∧
  (∀ v9 : Int32, ∃ r9 q9 z9, XS_block q v9 r9 q9 ∧ MS_block z v9 r9 z9 ∧ I (j + 1) q9 z9) ∧
  (∃ r9 q9 z9, XS_planar q  r9 q9 ∧ MS_planar z  r9 z9 ∧ I (j + 1) q9 z9) ∧
  (∃ r9 q9 z9, XS_faces q  r9 q9 ∧ MS_faces z  r9 z9 ∧ I (j + 1) q9 z9) ∧
  (∃ r9 q9 z9, XS_cut q  r9 q9 ∧ MS_cut z  r9 z9 ∧ I (j + 1) q9 z9) ∧
  (∀ v9 : Int32, ∃ r9 q9 z9, XS_side q v9 r9 q9 ∧ MS_side z v9 r9 z9 ∧ I (j + 1) q9 z9) ∧
  (∀ v9 : Int32, ∃ r9 q9 z9, XS_crosses q v9 r9 q9 ∧ MS_crosses z v9 r9 z9 ∧ I (j + 1) q9 z9) ∧
  (∀ v9 : Int32, ∃ r9 q9 z9, XS_witness q v9 r9 q9 ∧ MS_witness z v9 r9 z9 ∧ I (j + 1) q9 z9) ∧
  (∃ r9 q9 z9, XS_kind q  r9 q9 ∧ MS_kind z  r9 z9 ∧ I (j + 1) q9 z9)
theorem lw_sub {L : Nat} (hL : L ≤ 4000) : (nI L - 4).toInt = (L : Int) - 4 := by
  rw [Int32.toInt_sub, nI_toInt (by omega), show (4 : Int32).toInt = 4 from by decide]
  show ((L : Int) - 4).bmod 4294967296 = _
  unfold Int.bmod
  dsimp only
  split <;> omega
theorem lw_gt {i L : Nat} (hi : i ≤ 4000) (hL : L ≤ 4000) : (nI L - 4 < nI i) ↔ L < i + 4 := by
  rw [Int32.lt_iff_toInt_lt, lw_sub hL, nI_toInt (by omega)]
  omega
theorem lw_15 (x : Int32) : ∃ j : Nat, j < 16 ∧ x &&& 15 = Int32.ofNat j := by
  refine ⟨(x &&& 15).toBitVec.toNat, ?_, ?_⟩
  · rw [Int32.toBitVec_and, BitVec.toNat_and]
    exact Nat.lt_of_le_of_lt (Nat.and_le_right) (by decide)
  · apply Int32.toBitVec_inj.mp
    simp
theorem lw_cmp (x : Int64) : lg_cmp x x = 0 := by
  unfold lg_cmp
  rw [if_neg (fun h => absurd h (Int64.lt_irrefl)), if_pos rfl]
abbrev lA (s : State) : Nat → Prop := fun q => s.heap.size ≤ q
set_option maxHeartbeats 4000000 in
set_option maxRecDepth 100000 in
theorem lc_begin {p : Program} {l : Launch} {e : Env} {s : State} {m : MethodId} {below : List Frame} {meth : Method} {c : Code} {H : Heap} {locs : List Loc} {Q : State → Prop} {ls : Array Slot} {dC : Nat → ClassId} {dI : Nat → Nat → Nat} {ad rr : Nat → Nat} {cI cL cQ : ClassId} {q : LX} {z : LM} {b L j : Nat} {xs : Nat → Int32} {I : Nat → LX → LM → Prop} (Sx : CallFix p m c k_L_law 4 s #[Value.ref b] gw n_L) (hK : va_K (dC, dI) pcl [(cI, .int), (cL, .long), (cQ, .array .int)] s) (hP : va_P (dC, dI) pcl (lwW ad rr cI cL cQ q z) H) (hD : va_D (lA s) (lwW ad rr cI cL cQ q z)) (hS : va_S (lA s) s.heap H locs) (hX : va_X b L xs s s.heap) (hbl : b < s.heap.size) (hL : L ≤ 2048) (hj : 4 * j + 4 ≤ L) (hl : lv_has ls 4 [(3, .int (nI (4 * j))), (2, .ref (ad 24)), (1, .ref (ad 0)), (0, .ref b)]) (h : ∃ r9 q9 z9, XS_begin q (xs (4 * j + 1)) r9 q9 ∧ MS_begin z (xs (4 * j + 1)) r9 z9 ∧ I (j + 1) q9 z9)
    (kk : ∀ (q : LX) (z : LM) (H : Heap) (locs : List Loc), I (j + 1) q z → va_P (dC, dI) pcl (lwW ad rr cI cL cQ q z) H → va_D (lA s) (lwW ad rr cI cL cQ q z) → va_S (lA s) s.heap H locs → W p l e room_1 s m #[Value.ref b] below meth c H locs 57 727 Q (F0 m 431 ls [])) : W p l e room_1 s m #[Value.ref b] below meth c H locs 57 727 Q (F0 m 112 ls []) := by
  obtain ⟨r9, q9, z9, hx9, hz9, hI9⟩ := h
  have hx := Sx.1
  have hb := Sx.2.1
  have hbA : ¬ lA s b := Nat.not_le.mpr hbl
  have hA : ∀ q, s.heap.size ≤ q → lA s q := fun q h => h
  refine lv_aload_n hx hb d_L_law_112 rfl (lv_at hl 2 rfl) ?_
  refine lv_aload_n hx hb d_L_law_113 rfl (lv_at hl 3 rfl) ?_
  refine lv_iload_n hx hb d_L_law_114 rfl (lv_at hl 0 rfl) ?_
  refine lv_iconst (v := nI 1) hx hb d_L_law_115 (by decide) ?_
  refine lv_iadd hx hb d_L_law_116 ?_
  rw [nI_add]
  refine va_sld hx hb hX hbl hbA hS (vp_in_nI (by omega) (by omega)) d_L_law_117 ?_
  rw [nI_clamp (by omega)]
  refine xl_begin Sx hK hx9 hP hD hS hA hl.1 (Nat.le_of_ble_eq_true rfl) ⟨Nat.le_of_ble_eq_true rfl, Nat.le_of_ble_eq_true rfl⟩ d_L_law_118 ⟨Nat.le_of_ble_eq_true rfl, Nat.le_of_ble_eq_true rfl⟩ (fun H locs hP hD hS => ?_)
  refine lv_aload_n hx hb d_L_law_121 rfl (lv_at hl 1 rfl) ?_
  refine lv_aload_n hx hb d_L_law_122 rfl (lv_at hl 3 rfl) ?_
  refine lv_iload_n hx hb d_L_law_123 rfl (lv_at hl 0 rfl) ?_
  refine lv_iconst (v := nI 1) hx hb d_L_law_124 (by decide) ?_
  refine lv_iadd hx hb d_L_law_125 ?_
  rw [nI_add]
  refine va_sld hx hb hX hbl hbA hS (vp_in_nI (by omega) (by omega)) d_L_law_126 ?_
  rw [nI_clamp (by omega)]
  refine ml_begin Sx hK hz9 hP hD hS hA hl.1 (Nat.le_of_ble_eq_true rfl) ⟨Nat.le_of_ble_eq_true rfl, Nat.le_of_ble_eq_true rfl⟩ d_L_law_127 ⟨Nat.le_of_ble_eq_true rfl, Nat.le_of_ble_eq_true rfl⟩ (fun H locs hP hD hS => ?_)
  exact lv_icmp_eq hx hb d_L_law_130 (tgt := 431) rfl (fun _ => kk q9 z9 H locs hI9 hP hD hS) (fun h => absurd rfl h)
set_option maxHeartbeats 4000000 in
set_option maxRecDepth 100000 in
theorem lc_add {p : Program} {l : Launch} {e : Env} {s : State} {m : MethodId} {below : List Frame} {meth : Method} {c : Code} {H : Heap} {locs : List Loc} {Q : State → Prop} {ls : Array Slot} {dC : Nat → ClassId} {dI : Nat → Nat → Nat} {ad rr : Nat → Nat} {cI cL cQ : ClassId} {q : LX} {z : LM} {b L j : Nat} {xs : Nat → Int32} {I : Nat → LX → LM → Prop} (Sx : CallFix p m c k_L_law 4 s #[Value.ref b] gw n_L) (hK : va_K (dC, dI) pcl [(cI, .int), (cL, .long), (cQ, .array .int)] s) (hP : va_P (dC, dI) pcl (lwW ad rr cI cL cQ q z) H) (hD : va_D (lA s) (lwW ad rr cI cL cQ q z)) (hS : va_S (lA s) s.heap H locs) (hX : va_X b L xs s s.heap) (hbl : b < s.heap.size) (hL : L ≤ 2048) (hj : 4 * j + 4 ≤ L) (hl : lv_has ls 4 [(3, .int (nI (4 * j))), (2, .ref (ad 24)), (1, .ref (ad 0)), (0, .ref b)]) (h : ∃ r9 q9 z9, XS_add q (xs (4 * j + 1)) (xs (4 * j + 2)) (xs (4 * j + 3)) r9 q9 ∧ MS_add z (xs (4 * j + 1)) (xs (4 * j + 2)) (xs (4 * j + 3)) r9 z9 ∧ I (j + 1) q9 z9)
    (kk : ∀ (q : LX) (z : LM) (H : Heap) (locs : List Loc), I (j + 1) q z → va_P (dC, dI) pcl (lwW ad rr cI cL cQ q z) H → va_D (lA s) (lwW ad rr cI cL cQ q z) → va_S (lA s) s.heap H locs → W p l e room_1 s m #[Value.ref b] below meth c H locs 57 727 Q (F0 m 431 ls [])) : W p l e room_1 s m #[Value.ref b] below meth c H locs 57 727 Q (F0 m 135 ls []) := by
  obtain ⟨r9, q9, z9, hx9, hz9, hI9⟩ := h
  have hx := Sx.1
  have hb := Sx.2.1
  have hbA : ¬ lA s b := Nat.not_le.mpr hbl
  have hA : ∀ q, s.heap.size ≤ q → lA s q := fun q h => h
  refine lv_aload_n hx hb d_L_law_135 rfl (lv_at hl 2 rfl) ?_
  refine lv_aload_n hx hb d_L_law_136 rfl (lv_at hl 3 rfl) ?_
  refine lv_iload_n hx hb d_L_law_137 rfl (lv_at hl 0 rfl) ?_
  refine lv_iconst (v := nI 1) hx hb d_L_law_138 (by decide) ?_
  refine lv_iadd hx hb d_L_law_139 ?_
  rw [nI_add]
  refine va_sld hx hb hX hbl hbA hS (vp_in_nI (by omega) (by omega)) d_L_law_140 ?_
  rw [nI_clamp (by omega)]
  refine lv_aload_n hx hb d_L_law_141 rfl (lv_at hl 3 rfl) ?_
  refine lv_iload_n hx hb d_L_law_142 rfl (lv_at hl 0 rfl) ?_
  refine lv_iconst (v := nI 2) hx hb d_L_law_143 (by decide) ?_
  refine lv_iadd hx hb d_L_law_144 ?_
  rw [nI_add]
  refine va_sld hx hb hX hbl hbA hS (vp_in_nI (by omega) (by omega)) d_L_law_145 ?_
  rw [nI_clamp (by omega)]
  refine lv_aload_n hx hb d_L_law_146 rfl (lv_at hl 3 rfl) ?_
  refine lv_iload_n hx hb d_L_law_147 rfl (lv_at hl 0 rfl) ?_
  refine lv_iconst (v := nI 3) hx hb d_L_law_148 (by decide) ?_
  refine lv_iadd hx hb d_L_law_149 ?_
  rw [nI_add]
  refine va_sld hx hb hX hbl hbA hS (vp_in_nI (by omega) (by omega)) d_L_law_150 ?_
  rw [nI_clamp (by omega)]
  refine xl_add Sx hK hx9 hP hD hS hA hl.1 (Nat.le_of_ble_eq_true rfl) ⟨Nat.le_of_ble_eq_true rfl, Nat.le_of_ble_eq_true rfl⟩ d_L_law_151 ⟨Nat.le_of_ble_eq_true rfl, Nat.le_of_ble_eq_true rfl⟩ (fun H locs hP hD hS => ?_)
  refine lv_aload_n hx hb d_L_law_154 rfl (lv_at hl 1 rfl) ?_
  refine lv_aload_n hx hb d_L_law_155 rfl (lv_at hl 3 rfl) ?_
  refine lv_iload_n hx hb d_L_law_156 rfl (lv_at hl 0 rfl) ?_
  refine lv_iconst (v := nI 1) hx hb d_L_law_157 (by decide) ?_
  refine lv_iadd hx hb d_L_law_158 ?_
  rw [nI_add]
  refine va_sld hx hb hX hbl hbA hS (vp_in_nI (by omega) (by omega)) d_L_law_159 ?_
  rw [nI_clamp (by omega)]
  refine lv_aload_n hx hb d_L_law_160 rfl (lv_at hl 3 rfl) ?_
  refine lv_iload_n hx hb d_L_law_161 rfl (lv_at hl 0 rfl) ?_
  refine lv_iconst (v := nI 2) hx hb d_L_law_162 (by decide) ?_
  refine lv_iadd hx hb d_L_law_163 ?_
  rw [nI_add]
  refine va_sld hx hb hX hbl hbA hS (vp_in_nI (by omega) (by omega)) d_L_law_164 ?_
  rw [nI_clamp (by omega)]
  refine lv_aload_n hx hb d_L_law_165 rfl (lv_at hl 3 rfl) ?_
  refine lv_iload_n hx hb d_L_law_166 rfl (lv_at hl 0 rfl) ?_
  refine lv_iconst (v := nI 3) hx hb d_L_law_167 (by decide) ?_
  refine lv_iadd hx hb d_L_law_168 ?_
  rw [nI_add]
  refine va_sld hx hb hX hbl hbA hS (vp_in_nI (by omega) (by omega)) d_L_law_169 ?_
  rw [nI_clamp (by omega)]
  refine ml_add Sx hK hz9 hP hD hS hA hl.1 (Nat.le_of_ble_eq_true rfl) ⟨Nat.le_of_ble_eq_true rfl, Nat.le_of_ble_eq_true rfl⟩ d_L_law_170 ⟨Nat.le_of_ble_eq_true rfl, Nat.le_of_ble_eq_true rfl⟩ (fun H locs hP hD hS => ?_)
  exact lv_icmp_eq hx hb d_L_law_173 (tgt := 431) rfl (fun _ => kk q9 z9 H locs hI9 hP hD hS) (fun h => absurd rfl h)
set_option maxHeartbeats 4000000 in
set_option maxRecDepth 100000 in
theorem lc_undo {p : Program} {l : Launch} {e : Env} {s : State} {m : MethodId} {below : List Frame} {meth : Method} {c : Code} {H : Heap} {locs : List Loc} {Q : State → Prop} {ls : Array Slot} {dC : Nat → ClassId} {dI : Nat → Nat → Nat} {ad rr : Nat → Nat} {cI cL cQ : ClassId} {q : LX} {z : LM} {b L j : Nat} {xs : Nat → Int32} {I : Nat → LX → LM → Prop} (Sx : CallFix p m c k_L_law 4 s #[Value.ref b] gw n_L) (hK : va_K (dC, dI) pcl [(cI, .int), (cL, .long), (cQ, .array .int)] s) (hP : va_P (dC, dI) pcl (lwW ad rr cI cL cQ q z) H) (hD : va_D (lA s) (lwW ad rr cI cL cQ q z)) (hS : va_S (lA s) s.heap H locs) (hX : va_X b L xs s s.heap) (hbl : b < s.heap.size) (hL : L ≤ 2048) (hj : 4 * j + 4 ≤ L) (hl : lv_has ls 4 [(3, .int (nI (4 * j))), (2, .ref (ad 24)), (1, .ref (ad 0)), (0, .ref b)]) (h : ∃ r9 q9 z9, XS_undo q  r9 q9 ∧ MS_undo z  r9 z9 ∧ I (j + 1) q9 z9)
    (kk : ∀ (q : LX) (z : LM) (H : Heap) (locs : List Loc), I (j + 1) q z → va_P (dC, dI) pcl (lwW ad rr cI cL cQ q z) H → va_D (lA s) (lwW ad rr cI cL cQ q z) → va_S (lA s) s.heap H locs → W p l e room_1 s m #[Value.ref b] below meth c H locs 57 727 Q (F0 m 431 ls [])) : W p l e room_1 s m #[Value.ref b] below meth c H locs 57 727 Q (F0 m 178 ls []) := by
  obtain ⟨r9, q9, z9, hx9, hz9, hI9⟩ := h
  have hx := Sx.1
  have hb := Sx.2.1
  have hbA : ¬ lA s b := Nat.not_le.mpr hbl
  have hA : ∀ q, s.heap.size ≤ q → lA s q := fun q h => h
  refine lv_aload_n hx hb d_L_law_178 rfl (lv_at hl 2 rfl) ?_
  refine xl_undo Sx hK hx9 hP hD hS hA hl.1 (Nat.le_of_ble_eq_true rfl) ⟨Nat.le_of_ble_eq_true rfl, Nat.le_of_ble_eq_true rfl⟩ d_L_law_179 ⟨Nat.le_of_ble_eq_true rfl, Nat.le_of_ble_eq_true rfl⟩ (fun H locs hP hD hS => ?_)
  refine lv_aload_n hx hb d_L_law_182 rfl (lv_at hl 1 rfl) ?_
  refine ml_undo Sx hK hz9 hP hD hS hA hl.1 (Nat.le_of_ble_eq_true rfl) ⟨Nat.le_of_ble_eq_true rfl, Nat.le_of_ble_eq_true rfl⟩ d_L_law_183 ⟨Nat.le_of_ble_eq_true rfl, Nat.le_of_ble_eq_true rfl⟩ (fun H locs hP hD hS => ?_)
  exact lv_icmp_eq hx hb d_L_law_186 (tgt := 431) rfl (fun _ => kk q9 z9 H locs hI9 hP hD hS) (fun h => absurd rfl h)
set_option maxHeartbeats 4000000 in
set_option maxRecDepth 100000 in
theorem lc_weigh {p : Program} {l : Launch} {e : Env} {s : State} {m : MethodId} {below : List Frame} {meth : Method} {c : Code} {H : Heap} {locs : List Loc} {Q : State → Prop} {ls : Array Slot} {dC : Nat → ClassId} {dI : Nat → Nat → Nat} {ad rr : Nat → Nat} {cI cL cQ : ClassId} {q : LX} {z : LM} {b L j : Nat} {xs : Nat → Int32} {I : Nat → LX → LM → Prop} (Sx : CallFix p m c k_L_law 4 s #[Value.ref b] gw n_L) (hK : va_K (dC, dI) pcl [(cI, .int), (cL, .long), (cQ, .array .int)] s) (hP : va_P (dC, dI) pcl (lwW ad rr cI cL cQ q z) H) (hD : va_D (lA s) (lwW ad rr cI cL cQ q z)) (hS : va_S (lA s) s.heap H locs) (hX : va_X b L xs s s.heap) (hbl : b < s.heap.size) (hL : L ≤ 2048) (hj : 4 * j + 4 ≤ L) (hl : lv_has ls 4 [(3, .int (nI (4 * j))), (2, .ref (ad 24)), (1, .ref (ad 0)), (0, .ref b)]) (h : ∃ r9 q9 z9, XS_weigh q (xs (4 * j + 1)) (xs (4 * j + 2)) r9 q9 ∧ MS_weigh z (xs (4 * j + 1)) (xs (4 * j + 2)) r9 z9 ∧ I (j + 1) q9 z9)
    (kk : ∀ (q : LX) (z : LM) (H : Heap) (locs : List Loc), I (j + 1) q z → va_P (dC, dI) pcl (lwW ad rr cI cL cQ q z) H → va_D (lA s) (lwW ad rr cI cL cQ q z) → va_S (lA s) s.heap H locs → W p l e room_1 s m #[Value.ref b] below meth c H locs 57 727 Q (F0 m 431 ls [])) : W p l e room_1 s m #[Value.ref b] below meth c H locs 57 727 Q (F0 m 191 ls []) := by
  obtain ⟨r9, q9, z9, hx9, hz9, hI9⟩ := h
  have hx := Sx.1
  have hb := Sx.2.1
  have hbA : ¬ lA s b := Nat.not_le.mpr hbl
  have hA : ∀ q, s.heap.size ≤ q → lA s q := fun q h => h
  refine lv_aload_n hx hb d_L_law_191 rfl (lv_at hl 2 rfl) ?_
  refine lv_aload_n hx hb d_L_law_192 rfl (lv_at hl 3 rfl) ?_
  refine lv_iload_n hx hb d_L_law_193 rfl (lv_at hl 0 rfl) ?_
  refine lv_iconst (v := nI 1) hx hb d_L_law_194 (by decide) ?_
  refine lv_iadd hx hb d_L_law_195 ?_
  rw [nI_add]
  refine va_sld hx hb hX hbl hbA hS (vp_in_nI (by omega) (by omega)) d_L_law_196 ?_
  rw [nI_clamp (by omega)]
  refine lv_aload_n hx hb d_L_law_197 rfl (lv_at hl 3 rfl) ?_
  refine lv_iload_n hx hb d_L_law_198 rfl (lv_at hl 0 rfl) ?_
  refine lv_iconst (v := nI 2) hx hb d_L_law_199 (by decide) ?_
  refine lv_iadd hx hb d_L_law_200 ?_
  rw [nI_add]
  refine va_sld hx hb hX hbl hbA hS (vp_in_nI (by omega) (by omega)) d_L_law_201 ?_
  rw [nI_clamp (by omega)]
  refine xl_weigh Sx hK hx9 hP hD hS hA hl.1 (Nat.le_of_ble_eq_true rfl) ⟨Nat.le_of_ble_eq_true rfl, Nat.le_of_ble_eq_true rfl⟩ d_L_law_202 ⟨Nat.le_of_ble_eq_true rfl, Nat.le_of_ble_eq_true rfl⟩ (fun H locs hP hD hS => ?_)
  refine lv_aload_n hx hb d_L_law_205 rfl (lv_at hl 1 rfl) ?_
  refine lv_aload_n hx hb d_L_law_206 rfl (lv_at hl 3 rfl) ?_
  refine lv_iload_n hx hb d_L_law_207 rfl (lv_at hl 0 rfl) ?_
  refine lv_iconst (v := nI 1) hx hb d_L_law_208 (by decide) ?_
  refine lv_iadd hx hb d_L_law_209 ?_
  rw [nI_add]
  refine va_sld hx hb hX hbl hbA hS (vp_in_nI (by omega) (by omega)) d_L_law_210 ?_
  rw [nI_clamp (by omega)]
  refine lv_aload_n hx hb d_L_law_211 rfl (lv_at hl 3 rfl) ?_
  refine lv_iload_n hx hb d_L_law_212 rfl (lv_at hl 0 rfl) ?_
  refine lv_iconst (v := nI 2) hx hb d_L_law_213 (by decide) ?_
  refine lv_iadd hx hb d_L_law_214 ?_
  rw [nI_add]
  refine va_sld hx hb hX hbl hbA hS (vp_in_nI (by omega) (by omega)) d_L_law_215 ?_
  rw [nI_clamp (by omega)]
  refine ml_weigh Sx hK hz9 hP hD hS hA hl.1 (Nat.le_of_ble_eq_true rfl) ⟨Nat.le_of_ble_eq_true rfl, Nat.le_of_ble_eq_true rfl⟩ d_L_law_216 ⟨Nat.le_of_ble_eq_true rfl, Nat.le_of_ble_eq_true rfl⟩ (fun H locs hP hD hS => ?_)
  exact lv_icmp_eq hx hb d_L_law_219 (tgt := 431) rfl (fun _ => kk q9 z9 H locs hI9 hP hD hS) (fun h => absurd rfl h)
set_option maxHeartbeats 4000000 in
set_option maxRecDepth 100000 in
theorem lc_edges {p : Program} {l : Launch} {e : Env} {s : State} {m : MethodId} {below : List Frame} {meth : Method} {c : Code} {H : Heap} {locs : List Loc} {Q : State → Prop} {ls : Array Slot} {dC : Nat → ClassId} {dI : Nat → Nat → Nat} {ad rr : Nat → Nat} {cI cL cQ : ClassId} {q : LX} {z : LM} {b L j : Nat} {xs : Nat → Int32} {I : Nat → LX → LM → Prop} (Sx : CallFix p m c k_L_law 4 s #[Value.ref b] gw n_L) (hK : va_K (dC, dI) pcl [(cI, .int), (cL, .long), (cQ, .array .int)] s) (hP : va_P (dC, dI) pcl (lwW ad rr cI cL cQ q z) H) (hD : va_D (lA s) (lwW ad rr cI cL cQ q z)) (hS : va_S (lA s) s.heap H locs) (hX : va_X b L xs s s.heap) (hbl : b < s.heap.size) (hL : L ≤ 2048) (hj : 4 * j + 4 ≤ L) (hl : lv_has ls 4 [(3, .int (nI (4 * j))), (2, .ref (ad 24)), (1, .ref (ad 0)), (0, .ref b)]) (h : ∃ r9 q9 z9, XS_edges q  r9 q9 ∧ MS_edges z  r9 z9 ∧ I (j + 1) q9 z9)
    (kk : ∀ (q : LX) (z : LM) (H : Heap) (locs : List Loc), I (j + 1) q z → va_P (dC, dI) pcl (lwW ad rr cI cL cQ q z) H → va_D (lA s) (lwW ad rr cI cL cQ q z) → va_S (lA s) s.heap H locs → W p l e room_1 s m #[Value.ref b] below meth c H locs 57 727 Q (F0 m 431 ls [])) : W p l e room_1 s m #[Value.ref b] below meth c H locs 57 727 Q (F0 m 224 ls []) := by
  obtain ⟨r9, q9, z9, hx9, hz9, hI9⟩ := h
  have hx := Sx.1
  have hb := Sx.2.1
  have hbA : ¬ lA s b := Nat.not_le.mpr hbl
  have hA : ∀ q, s.heap.size ≤ q → lA s q := fun q h => h
  refine lv_aload_n hx hb d_L_law_224 rfl (lv_at hl 2 rfl) ?_
  refine xl_edges Sx hK hx9 hP hD hS hA hl.1 (Nat.le_of_ble_eq_true rfl) ⟨Nat.le_of_ble_eq_true rfl, Nat.le_of_ble_eq_true rfl⟩ d_L_law_225 ⟨Nat.le_of_ble_eq_true rfl, Nat.le_of_ble_eq_true rfl⟩ (fun H locs hP hD hS => ?_)
  refine lv_aload_n hx hb d_L_law_228 rfl (lv_at hl 1 rfl) ?_
  refine ml_edges Sx hK hz9 hP hD hS hA hl.1 (Nat.le_of_ble_eq_true rfl) ⟨Nat.le_of_ble_eq_true rfl, Nat.le_of_ble_eq_true rfl⟩ d_L_law_229 ⟨Nat.le_of_ble_eq_true rfl, Nat.le_of_ble_eq_true rfl⟩ (fun H locs hP hD hS => ?_)
  exact lv_icmp_eq hx hb d_L_law_232 (tgt := 431) rfl (fun _ => kk q9 z9 H locs hI9 hP hD hS) (fun h => absurd rfl h)
set_option maxHeartbeats 4000000 in
set_option maxRecDepth 100000 in
theorem lc_components {p : Program} {l : Launch} {e : Env} {s : State} {m : MethodId} {below : List Frame} {meth : Method} {c : Code} {H : Heap} {locs : List Loc} {Q : State → Prop} {ls : Array Slot} {dC : Nat → ClassId} {dI : Nat → Nat → Nat} {ad rr : Nat → Nat} {cI cL cQ : ClassId} {q : LX} {z : LM} {b L j : Nat} {xs : Nat → Int32} {I : Nat → LX → LM → Prop} (Sx : CallFix p m c k_L_law 4 s #[Value.ref b] gw n_L) (hK : va_K (dC, dI) pcl [(cI, .int), (cL, .long), (cQ, .array .int)] s) (hP : va_P (dC, dI) pcl (lwW ad rr cI cL cQ q z) H) (hD : va_D (lA s) (lwW ad rr cI cL cQ q z)) (hS : va_S (lA s) s.heap H locs) (hX : va_X b L xs s s.heap) (hbl : b < s.heap.size) (hL : L ≤ 2048) (hj : 4 * j + 4 ≤ L) (hl : lv_has ls 4 [(3, .int (nI (4 * j))), (2, .ref (ad 24)), (1, .ref (ad 0)), (0, .ref b)]) (h : ∃ r9 q9 z9, XS_components q  r9 q9 ∧ MS_components z  r9 z9 ∧ I (j + 1) q9 z9)
    (kk : ∀ (q : LX) (z : LM) (H : Heap) (locs : List Loc), I (j + 1) q z → va_P (dC, dI) pcl (lwW ad rr cI cL cQ q z) H → va_D (lA s) (lwW ad rr cI cL cQ q z) → va_S (lA s) s.heap H locs → W p l e room_1 s m #[Value.ref b] below meth c H locs 57 727 Q (F0 m 431 ls [])) : W p l e room_1 s m #[Value.ref b] below meth c H locs 57 727 Q (F0 m 237 ls []) := by
  obtain ⟨r9, q9, z9, hx9, hz9, hI9⟩ := h
  have hx := Sx.1
  have hb := Sx.2.1
  have hbA : ¬ lA s b := Nat.not_le.mpr hbl
  have hA : ∀ q, s.heap.size ≤ q → lA s q := fun q h => h
  refine lv_aload_n hx hb d_L_law_237 rfl (lv_at hl 2 rfl) ?_
  refine xl_components Sx hK hx9 hP hD hS hA hl.1 (Nat.le_of_ble_eq_true rfl) ⟨Nat.le_of_ble_eq_true rfl, Nat.le_of_ble_eq_true rfl⟩ d_L_law_238 ⟨Nat.le_of_ble_eq_true rfl, Nat.le_of_ble_eq_true rfl⟩ (fun H locs hP hD hS => ?_)
  refine lv_aload_n hx hb d_L_law_241 rfl (lv_at hl 1 rfl) ?_
  refine ml_components Sx hK hz9 hP hD hS hA hl.1 (Nat.le_of_ble_eq_true rfl) ⟨Nat.le_of_ble_eq_true rfl, Nat.le_of_ble_eq_true rfl⟩ d_L_law_242 ⟨Nat.le_of_ble_eq_true rfl, Nat.le_of_ble_eq_true rfl⟩ (fun H locs hP hD hS => ?_)
  exact lv_icmp_eq hx hb d_L_law_245 (tgt := 431) rfl (fun _ => kk q9 z9 H locs hI9 hP hD hS) (fun h => absurd rfl h)
set_option maxHeartbeats 4000000 in
set_option maxRecDepth 100000 in
theorem lc_component {p : Program} {l : Launch} {e : Env} {s : State} {m : MethodId} {below : List Frame} {meth : Method} {c : Code} {H : Heap} {locs : List Loc} {Q : State → Prop} {ls : Array Slot} {dC : Nat → ClassId} {dI : Nat → Nat → Nat} {ad rr : Nat → Nat} {cI cL cQ : ClassId} {q : LX} {z : LM} {b L j : Nat} {xs : Nat → Int32} {I : Nat → LX → LM → Prop} (Sx : CallFix p m c k_L_law 4 s #[Value.ref b] gw n_L) (hK : va_K (dC, dI) pcl [(cI, .int), (cL, .long), (cQ, .array .int)] s) (hP : va_P (dC, dI) pcl (lwW ad rr cI cL cQ q z) H) (hD : va_D (lA s) (lwW ad rr cI cL cQ q z)) (hS : va_S (lA s) s.heap H locs) (hX : va_X b L xs s s.heap) (hbl : b < s.heap.size) (hL : L ≤ 2048) (hj : 4 * j + 4 ≤ L) (hl : lv_has ls 4 [(3, .int (nI (4 * j))), (2, .ref (ad 24)), (1, .ref (ad 0)), (0, .ref b)]) (h : ∃ r9 q9 z9, XS_component q (xs (4 * j + 1)) r9 q9 ∧ MS_component z (xs (4 * j + 1)) r9 z9 ∧ I (j + 1) q9 z9)
    (kk : ∀ (q : LX) (z : LM) (H : Heap) (locs : List Loc), I (j + 1) q z → va_P (dC, dI) pcl (lwW ad rr cI cL cQ q z) H → va_D (lA s) (lwW ad rr cI cL cQ q z) → va_S (lA s) s.heap H locs → W p l e room_1 s m #[Value.ref b] below meth c H locs 57 727 Q (F0 m 431 ls [])) : W p l e room_1 s m #[Value.ref b] below meth c H locs 57 727 Q (F0 m 250 ls []) := by
  obtain ⟨r9, q9, z9, hx9, hz9, hI9⟩ := h
  have hx := Sx.1
  have hb := Sx.2.1
  have hbA : ¬ lA s b := Nat.not_le.mpr hbl
  have hA : ∀ q, s.heap.size ≤ q → lA s q := fun q h => h
  refine lv_aload_n hx hb d_L_law_250 rfl (lv_at hl 2 rfl) ?_
  refine lv_aload_n hx hb d_L_law_251 rfl (lv_at hl 3 rfl) ?_
  refine lv_iload_n hx hb d_L_law_252 rfl (lv_at hl 0 rfl) ?_
  refine lv_iconst (v := nI 1) hx hb d_L_law_253 (by decide) ?_
  refine lv_iadd hx hb d_L_law_254 ?_
  rw [nI_add]
  refine va_sld hx hb hX hbl hbA hS (vp_in_nI (by omega) (by omega)) d_L_law_255 ?_
  rw [nI_clamp (by omega)]
  refine xl_component Sx hK hx9 hP hD hS hA hl.1 (Nat.le_of_ble_eq_true rfl) ⟨Nat.le_of_ble_eq_true rfl, Nat.le_of_ble_eq_true rfl⟩ d_L_law_256 ⟨Nat.le_of_ble_eq_true rfl, Nat.le_of_ble_eq_true rfl⟩ (fun H locs hP hD hS => ?_)
  refine lv_aload_n hx hb d_L_law_259 rfl (lv_at hl 1 rfl) ?_
  refine lv_aload_n hx hb d_L_law_260 rfl (lv_at hl 3 rfl) ?_
  refine lv_iload_n hx hb d_L_law_261 rfl (lv_at hl 0 rfl) ?_
  refine lv_iconst (v := nI 1) hx hb d_L_law_262 (by decide) ?_
  refine lv_iadd hx hb d_L_law_263 ?_
  rw [nI_add]
  refine va_sld hx hb hX hbl hbA hS (vp_in_nI (by omega) (by omega)) d_L_law_264 ?_
  rw [nI_clamp (by omega)]
  refine ml_component Sx hK hz9 hP hD hS hA hl.1 (Nat.le_of_ble_eq_true rfl) ⟨Nat.le_of_ble_eq_true rfl, Nat.le_of_ble_eq_true rfl⟩ d_L_law_265 ⟨Nat.le_of_ble_eq_true rfl, Nat.le_of_ble_eq_true rfl⟩ (fun H locs hP hD hS => ?_)
  exact lv_icmp_eq hx hb d_L_law_268 (tgt := 431) rfl (fun _ => kk q9 z9 H locs hI9 hP hD hS) (fun h => absurd rfl h)
set_option maxHeartbeats 4000000 in
set_option maxRecDepth 100000 in
theorem lc_blocks {p : Program} {l : Launch} {e : Env} {s : State} {m : MethodId} {below : List Frame} {meth : Method} {c : Code} {H : Heap} {locs : List Loc} {Q : State → Prop} {ls : Array Slot} {dC : Nat → ClassId} {dI : Nat → Nat → Nat} {ad rr : Nat → Nat} {cI cL cQ : ClassId} {q : LX} {z : LM} {b L j : Nat} {xs : Nat → Int32} {I : Nat → LX → LM → Prop} (Sx : CallFix p m c k_L_law 4 s #[Value.ref b] gw n_L) (hK : va_K (dC, dI) pcl [(cI, .int), (cL, .long), (cQ, .array .int)] s) (hP : va_P (dC, dI) pcl (lwW ad rr cI cL cQ q z) H) (hD : va_D (lA s) (lwW ad rr cI cL cQ q z)) (hS : va_S (lA s) s.heap H locs) (hX : va_X b L xs s s.heap) (hbl : b < s.heap.size) (hL : L ≤ 2048) (hj : 4 * j + 4 ≤ L) (hl : lv_has ls 4 [(3, .int (nI (4 * j))), (2, .ref (ad 24)), (1, .ref (ad 0)), (0, .ref b)]) (h : ∃ r9 q9 z9, XS_blocks q  r9 q9 ∧ MS_blocks z  r9 z9 ∧ I (j + 1) q9 z9)
    (kk : ∀ (q : LX) (z : LM) (H : Heap) (locs : List Loc), I (j + 1) q z → va_P (dC, dI) pcl (lwW ad rr cI cL cQ q z) H → va_D (lA s) (lwW ad rr cI cL cQ q z) → va_S (lA s) s.heap H locs → W p l e room_1 s m #[Value.ref b] below meth c H locs 57 727 Q (F0 m 431 ls [])) : W p l e room_1 s m #[Value.ref b] below meth c H locs 57 727 Q (F0 m 273 ls []) := by
  obtain ⟨r9, q9, z9, hx9, hz9, hI9⟩ := h
  have hx := Sx.1
  have hb := Sx.2.1
  have hbA : ¬ lA s b := Nat.not_le.mpr hbl
  have hA : ∀ q, s.heap.size ≤ q → lA s q := fun q h => h
  refine lv_aload_n hx hb d_L_law_273 rfl (lv_at hl 2 rfl) ?_
  refine xl_blocks Sx hK hx9 hP hD hS hA hl.1 (Nat.le_of_ble_eq_true rfl) ⟨Nat.le_of_ble_eq_true rfl, Nat.le_of_ble_eq_true rfl⟩ d_L_law_274 ⟨Nat.le_of_ble_eq_true rfl, Nat.le_of_ble_eq_true rfl⟩ (fun H locs hP hD hS => ?_)
  refine lv_aload_n hx hb d_L_law_277 rfl (lv_at hl 1 rfl) ?_
  refine ml_blocks Sx hK hz9 hP hD hS hA hl.1 (Nat.le_of_ble_eq_true rfl) ⟨Nat.le_of_ble_eq_true rfl, Nat.le_of_ble_eq_true rfl⟩ d_L_law_278 ⟨Nat.le_of_ble_eq_true rfl, Nat.le_of_ble_eq_true rfl⟩ (fun H locs hP hD hS => ?_)
  exact lv_icmp_eq hx hb d_L_law_281 (tgt := 431) rfl (fun _ => kk q9 z9 H locs hI9 hP hD hS) (fun h => absurd rfl h)
set_option maxHeartbeats 4000000 in
set_option maxRecDepth 100000 in
theorem lc_block {p : Program} {l : Launch} {e : Env} {s : State} {m : MethodId} {below : List Frame} {meth : Method} {c : Code} {H : Heap} {locs : List Loc} {Q : State → Prop} {ls : Array Slot} {dC : Nat → ClassId} {dI : Nat → Nat → Nat} {ad rr : Nat → Nat} {cI cL cQ : ClassId} {q : LX} {z : LM} {b L j : Nat} {xs : Nat → Int32} {I : Nat → LX → LM → Prop} (Sx : CallFix p m c k_L_law 4 s #[Value.ref b] gw n_L) (hK : va_K (dC, dI) pcl [(cI, .int), (cL, .long), (cQ, .array .int)] s) (hP : va_P (dC, dI) pcl (lwW ad rr cI cL cQ q z) H) (hD : va_D (lA s) (lwW ad rr cI cL cQ q z)) (hS : va_S (lA s) s.heap H locs) (hX : va_X b L xs s s.heap) (hbl : b < s.heap.size) (hL : L ≤ 2048) (hj : 4 * j + 4 ≤ L) (hl : lv_has ls 4 [(3, .int (nI (4 * j))), (2, .ref (ad 24)), (1, .ref (ad 0)), (0, .ref b)]) (h : ∃ r9 q9 z9, XS_block q (xs (4 * j + 1)) r9 q9 ∧ MS_block z (xs (4 * j + 1)) r9 z9 ∧ I (j + 1) q9 z9)
    (kk : ∀ (q : LX) (z : LM) (H : Heap) (locs : List Loc), I (j + 1) q z → va_P (dC, dI) pcl (lwW ad rr cI cL cQ q z) H → va_D (lA s) (lwW ad rr cI cL cQ q z) → va_S (lA s) s.heap H locs → W p l e room_1 s m #[Value.ref b] below meth c H locs 57 727 Q (F0 m 431 ls [])) : W p l e room_1 s m #[Value.ref b] below meth c H locs 57 727 Q (F0 m 286 ls []) := by
  obtain ⟨r9, q9, z9, hx9, hz9, hI9⟩ := h
  have hx := Sx.1
  have hb := Sx.2.1
  have hbA : ¬ lA s b := Nat.not_le.mpr hbl
  have hA : ∀ q, s.heap.size ≤ q → lA s q := fun q h => h
  refine lv_aload_n hx hb d_L_law_286 rfl (lv_at hl 2 rfl) ?_
  refine lv_aload_n hx hb d_L_law_287 rfl (lv_at hl 3 rfl) ?_
  refine lv_iload_n hx hb d_L_law_288 rfl (lv_at hl 0 rfl) ?_
  refine lv_iconst (v := nI 1) hx hb d_L_law_289 (by decide) ?_
  refine lv_iadd hx hb d_L_law_290 ?_
  rw [nI_add]
  refine va_sld hx hb hX hbl hbA hS (vp_in_nI (by omega) (by omega)) d_L_law_291 ?_
  rw [nI_clamp (by omega)]
  refine xl_block Sx hK hx9 hP hD hS hA hl.1 (Nat.le_of_ble_eq_true rfl) ⟨Nat.le_of_ble_eq_true rfl, Nat.le_of_ble_eq_true rfl⟩ d_L_law_292 ⟨Nat.le_of_ble_eq_true rfl, Nat.le_of_ble_eq_true rfl⟩ (fun H locs hP hD hS => ?_)
  refine lv_aload_n hx hb d_L_law_295 rfl (lv_at hl 1 rfl) ?_
  refine lv_aload_n hx hb d_L_law_296 rfl (lv_at hl 3 rfl) ?_
  refine lv_iload_n hx hb d_L_law_297 rfl (lv_at hl 0 rfl) ?_
  refine lv_iconst (v := nI 1) hx hb d_L_law_298 (by decide) ?_
  refine lv_iadd hx hb d_L_law_299 ?_
  rw [nI_add]
  refine va_sld hx hb hX hbl hbA hS (vp_in_nI (by omega) (by omega)) d_L_law_300 ?_
  rw [nI_clamp (by omega)]
  refine ml_block Sx hK hz9 hP hD hS hA hl.1 (Nat.le_of_ble_eq_true rfl) ⟨Nat.le_of_ble_eq_true rfl, Nat.le_of_ble_eq_true rfl⟩ d_L_law_301 ⟨Nat.le_of_ble_eq_true rfl, Nat.le_of_ble_eq_true rfl⟩ (fun H locs hP hD hS => ?_)
  exact lv_icmp_eq hx hb d_L_law_304 (tgt := 431) rfl (fun _ => kk q9 z9 H locs hI9 hP hD hS) (fun h => absurd rfl h)
set_option maxHeartbeats 4000000 in
set_option maxRecDepth 100000 in
theorem lc_planar {p : Program} {l : Launch} {e : Env} {s : State} {m : MethodId} {below : List Frame} {meth : Method} {c : Code} {H : Heap} {locs : List Loc} {Q : State → Prop} {ls : Array Slot} {dC : Nat → ClassId} {dI : Nat → Nat → Nat} {ad rr : Nat → Nat} {cI cL cQ : ClassId} {q : LX} {z : LM} {b L j : Nat} {xs : Nat → Int32} {I : Nat → LX → LM → Prop} (Sx : CallFix p m c k_L_law 4 s #[Value.ref b] gw n_L) (hK : va_K (dC, dI) pcl [(cI, .int), (cL, .long), (cQ, .array .int)] s) (hP : va_P (dC, dI) pcl (lwW ad rr cI cL cQ q z) H) (hD : va_D (lA s) (lwW ad rr cI cL cQ q z)) (hS : va_S (lA s) s.heap H locs) (hX : va_X b L xs s s.heap) (hbl : b < s.heap.size) (hL : L ≤ 2048) (hj : 4 * j + 4 ≤ L) (hl : lv_has ls 4 [(3, .int (nI (4 * j))), (2, .ref (ad 24)), (1, .ref (ad 0)), (0, .ref b)]) (h : ∃ r9 q9 z9, XS_planar q  r9 q9 ∧ MS_planar z  r9 z9 ∧ I (j + 1) q9 z9)
    (kk : ∀ (q : LX) (z : LM) (H : Heap) (locs : List Loc), I (j + 1) q z → va_P (dC, dI) pcl (lwW ad rr cI cL cQ q z) H → va_D (lA s) (lwW ad rr cI cL cQ q z) → va_S (lA s) s.heap H locs → W p l e room_1 s m #[Value.ref b] below meth c H locs 57 727 Q (F0 m 431 ls [])) : W p l e room_1 s m #[Value.ref b] below meth c H locs 57 727 Q (F0 m 309 ls []) := by
  obtain ⟨r9, q9, z9, hx9, hz9, hI9⟩ := h
  have hx := Sx.1
  have hb := Sx.2.1
  have hbA : ¬ lA s b := Nat.not_le.mpr hbl
  have hA : ∀ q, s.heap.size ≤ q → lA s q := fun q h => h
  refine lv_aload_n hx hb d_L_law_309 rfl (lv_at hl 2 rfl) ?_
  refine xl_planar Sx hK hx9 hP hD hS hA hl.1 (Nat.le_of_ble_eq_true rfl) ⟨Nat.le_of_ble_eq_true rfl, Nat.le_of_ble_eq_true rfl⟩ d_L_law_310 ⟨Nat.le_of_ble_eq_true rfl, Nat.le_of_ble_eq_true rfl⟩ (fun H locs hP hD hS => ?_)
  refine lv_aload_n hx hb d_L_law_313 rfl (lv_at hl 1 rfl) ?_
  refine ml_planar Sx hK hz9 hP hD hS hA hl.1 (Nat.le_of_ble_eq_true rfl) ⟨Nat.le_of_ble_eq_true rfl, Nat.le_of_ble_eq_true rfl⟩ d_L_law_314 ⟨Nat.le_of_ble_eq_true rfl, Nat.le_of_ble_eq_true rfl⟩ (fun H locs hP hD hS => ?_)
  exact lv_icmp_eq hx hb d_L_law_317 (tgt := 431) rfl (fun _ => kk q9 z9 H locs hI9 hP hD hS) (fun h => absurd rfl h)
set_option maxHeartbeats 4000000 in
set_option maxRecDepth 100000 in
theorem lc_faces {p : Program} {l : Launch} {e : Env} {s : State} {m : MethodId} {below : List Frame} {meth : Method} {c : Code} {H : Heap} {locs : List Loc} {Q : State → Prop} {ls : Array Slot} {dC : Nat → ClassId} {dI : Nat → Nat → Nat} {ad rr : Nat → Nat} {cI cL cQ : ClassId} {q : LX} {z : LM} {b L j : Nat} {xs : Nat → Int32} {I : Nat → LX → LM → Prop} (Sx : CallFix p m c k_L_law 4 s #[Value.ref b] gw n_L) (hK : va_K (dC, dI) pcl [(cI, .int), (cL, .long), (cQ, .array .int)] s) (hP : va_P (dC, dI) pcl (lwW ad rr cI cL cQ q z) H) (hD : va_D (lA s) (lwW ad rr cI cL cQ q z)) (hS : va_S (lA s) s.heap H locs) (hX : va_X b L xs s s.heap) (hbl : b < s.heap.size) (hL : L ≤ 2048) (hj : 4 * j + 4 ≤ L) (hl : lv_has ls 4 [(3, .int (nI (4 * j))), (2, .ref (ad 24)), (1, .ref (ad 0)), (0, .ref b)]) (h : ∃ r9 q9 z9, XS_faces q  r9 q9 ∧ MS_faces z  r9 z9 ∧ I (j + 1) q9 z9)
    (kk : ∀ (q : LX) (z : LM) (H : Heap) (locs : List Loc), I (j + 1) q z → va_P (dC, dI) pcl (lwW ad rr cI cL cQ q z) H → va_D (lA s) (lwW ad rr cI cL cQ q z) → va_S (lA s) s.heap H locs → W p l e room_1 s m #[Value.ref b] below meth c H locs 57 727 Q (F0 m 431 ls [])) : W p l e room_1 s m #[Value.ref b] below meth c H locs 57 727 Q (F0 m 322 ls []) := by
  obtain ⟨r9, q9, z9, hx9, hz9, hI9⟩ := h
  have hx := Sx.1
  have hb := Sx.2.1
  have hbA : ¬ lA s b := Nat.not_le.mpr hbl
  have hA : ∀ q, s.heap.size ≤ q → lA s q := fun q h => h
  refine lv_aload_n hx hb d_L_law_322 rfl (lv_at hl 2 rfl) ?_
  refine xl_faces Sx hK hx9 hP hD hS hA hl.1 (Nat.le_of_ble_eq_true rfl) ⟨Nat.le_of_ble_eq_true rfl, Nat.le_of_ble_eq_true rfl⟩ d_L_law_323 ⟨Nat.le_of_ble_eq_true rfl, Nat.le_of_ble_eq_true rfl⟩ (fun H locs hP hD hS => ?_)
  refine lv_aload_n hx hb d_L_law_326 rfl (lv_at hl 1 rfl) ?_
  refine ml_faces Sx hK hz9 hP hD hS hA hl.1 (Nat.le_of_ble_eq_true rfl) ⟨Nat.le_of_ble_eq_true rfl, Nat.le_of_ble_eq_true rfl⟩ d_L_law_327 ⟨Nat.le_of_ble_eq_true rfl, Nat.le_of_ble_eq_true rfl⟩ (fun H locs hP hD hS => ?_)
  exact lv_icmp_eq hx hb d_L_law_330 (tgt := 431) rfl (fun _ => kk q9 z9 H locs hI9 hP hD hS) (fun h => absurd rfl h)
set_option maxHeartbeats 4000000 in
set_option maxRecDepth 100000 in
theorem lc_cut {p : Program} {l : Launch} {e : Env} {s : State} {m : MethodId} {below : List Frame} {meth : Method} {c : Code} {H : Heap} {locs : List Loc} {Q : State → Prop} {ls : Array Slot} {dC : Nat → ClassId} {dI : Nat → Nat → Nat} {ad rr : Nat → Nat} {cI cL cQ : ClassId} {q : LX} {z : LM} {b L j : Nat} {xs : Nat → Int32} {I : Nat → LX → LM → Prop} (Sx : CallFix p m c k_L_law 4 s #[Value.ref b] gw n_L) (hK : va_K (dC, dI) pcl [(cI, .int), (cL, .long), (cQ, .array .int)] s) (hP : va_P (dC, dI) pcl (lwW ad rr cI cL cQ q z) H) (hD : va_D (lA s) (lwW ad rr cI cL cQ q z)) (hS : va_S (lA s) s.heap H locs) (hX : va_X b L xs s s.heap) (hbl : b < s.heap.size) (hL : L ≤ 2048) (hj : 4 * j + 4 ≤ L) (hl : lv_has ls 4 [(3, .int (nI (4 * j))), (2, .ref (ad 24)), (1, .ref (ad 0)), (0, .ref b)]) (h : ∃ r9 q9 z9, XS_cut q  r9 q9 ∧ MS_cut z  r9 z9 ∧ I (j + 1) q9 z9)
    (kk : ∀ (q : LX) (z : LM) (H : Heap) (locs : List Loc), I (j + 1) q z → va_P (dC, dI) pcl (lwW ad rr cI cL cQ q z) H → va_D (lA s) (lwW ad rr cI cL cQ q z) → va_S (lA s) s.heap H locs → W p l e room_1 s m #[Value.ref b] below meth c H locs 57 727 Q (F0 m 431 ls [])) : W p l e room_1 s m #[Value.ref b] below meth c H locs 57 727 Q (F0 m 335 ls []) := by
  obtain ⟨r9, q9, z9, hx9, hz9, hI9⟩ := h
  have hx := Sx.1
  have hb := Sx.2.1
  have hbA : ¬ lA s b := Nat.not_le.mpr hbl
  have hA : ∀ q, s.heap.size ≤ q → lA s q := fun q h => h
  refine lv_aload_n hx hb d_L_law_335 rfl (lv_at hl 2 rfl) ?_
  refine xl_cut Sx hK hx9 hP hD hS hA hl.1 (Nat.le_of_ble_eq_true rfl) ⟨Nat.le_of_ble_eq_true rfl, Nat.le_of_ble_eq_true rfl⟩ d_L_law_336 ⟨Nat.le_of_ble_eq_true rfl, Nat.le_of_ble_eq_true rfl⟩ (fun H locs hP hD hS => ?_)
  refine lv_aload_n hx hb d_L_law_339 rfl (lv_at hl 1 rfl) ?_
  refine ml_cut Sx hK hz9 hP hD hS hA hl.1 (Nat.le_of_ble_eq_true rfl) ⟨Nat.le_of_ble_eq_true rfl, Nat.le_of_ble_eq_true rfl⟩ d_L_law_340 ⟨Nat.le_of_ble_eq_true rfl, Nat.le_of_ble_eq_true rfl⟩ (fun H locs hP hD hS => ?_)
  refine W.lcmp hx hb d_L_law_343 ?_
  rw [lw_cmp]
  exact lv_if_eq hx hb d_L_law_344 (tgt := 431) rfl (fun _ => kk q9 z9 H locs hI9 hP hD hS) (fun h => absurd rfl h)
set_option maxHeartbeats 4000000 in
set_option maxRecDepth 100000 in
theorem lc_side {p : Program} {l : Launch} {e : Env} {s : State} {m : MethodId} {below : List Frame} {meth : Method} {c : Code} {H : Heap} {locs : List Loc} {Q : State → Prop} {ls : Array Slot} {dC : Nat → ClassId} {dI : Nat → Nat → Nat} {ad rr : Nat → Nat} {cI cL cQ : ClassId} {q : LX} {z : LM} {b L j : Nat} {xs : Nat → Int32} {I : Nat → LX → LM → Prop} (Sx : CallFix p m c k_L_law 4 s #[Value.ref b] gw n_L) (hK : va_K (dC, dI) pcl [(cI, .int), (cL, .long), (cQ, .array .int)] s) (hP : va_P (dC, dI) pcl (lwW ad rr cI cL cQ q z) H) (hD : va_D (lA s) (lwW ad rr cI cL cQ q z)) (hS : va_S (lA s) s.heap H locs) (hX : va_X b L xs s s.heap) (hbl : b < s.heap.size) (hL : L ≤ 2048) (hj : 4 * j + 4 ≤ L) (hl : lv_has ls 4 [(3, .int (nI (4 * j))), (2, .ref (ad 24)), (1, .ref (ad 0)), (0, .ref b)]) (h : ∃ r9 q9 z9, XS_side q (xs (4 * j + 1)) r9 q9 ∧ MS_side z (xs (4 * j + 1)) r9 z9 ∧ I (j + 1) q9 z9)
    (kk : ∀ (q : LX) (z : LM) (H : Heap) (locs : List Loc), I (j + 1) q z → va_P (dC, dI) pcl (lwW ad rr cI cL cQ q z) H → va_D (lA s) (lwW ad rr cI cL cQ q z) → va_S (lA s) s.heap H locs → W p l e room_1 s m #[Value.ref b] below meth c H locs 57 727 Q (F0 m 431 ls [])) : W p l e room_1 s m #[Value.ref b] below meth c H locs 57 727 Q (F0 m 349 ls []) := by
  obtain ⟨r9, q9, z9, hx9, hz9, hI9⟩ := h
  have hx := Sx.1
  have hb := Sx.2.1
  have hbA : ¬ lA s b := Nat.not_le.mpr hbl
  have hA : ∀ q, s.heap.size ≤ q → lA s q := fun q h => h
  refine lv_aload_n hx hb d_L_law_349 rfl (lv_at hl 2 rfl) ?_
  refine lv_aload_n hx hb d_L_law_350 rfl (lv_at hl 3 rfl) ?_
  refine lv_iload_n hx hb d_L_law_351 rfl (lv_at hl 0 rfl) ?_
  refine lv_iconst (v := nI 1) hx hb d_L_law_352 (by decide) ?_
  refine lv_iadd hx hb d_L_law_353 ?_
  rw [nI_add]
  refine va_sld hx hb hX hbl hbA hS (vp_in_nI (by omega) (by omega)) d_L_law_354 ?_
  rw [nI_clamp (by omega)]
  refine xl_side Sx hK hx9 hP hD hS hA hl.1 (Nat.le_of_ble_eq_true rfl) ⟨Nat.le_of_ble_eq_true rfl, Nat.le_of_ble_eq_true rfl⟩ d_L_law_355 ⟨Nat.le_of_ble_eq_true rfl, Nat.le_of_ble_eq_true rfl⟩ (fun H locs hP hD hS => ?_)
  refine lv_aload_n hx hb d_L_law_358 rfl (lv_at hl 1 rfl) ?_
  refine lv_aload_n hx hb d_L_law_359 rfl (lv_at hl 3 rfl) ?_
  refine lv_iload_n hx hb d_L_law_360 rfl (lv_at hl 0 rfl) ?_
  refine lv_iconst (v := nI 1) hx hb d_L_law_361 (by decide) ?_
  refine lv_iadd hx hb d_L_law_362 ?_
  rw [nI_add]
  refine va_sld hx hb hX hbl hbA hS (vp_in_nI (by omega) (by omega)) d_L_law_363 ?_
  rw [nI_clamp (by omega)]
  refine ml_side Sx hK hz9 hP hD hS hA hl.1 (Nat.le_of_ble_eq_true rfl) ⟨Nat.le_of_ble_eq_true rfl, Nat.le_of_ble_eq_true rfl⟩ d_L_law_364 ⟨Nat.le_of_ble_eq_true rfl, Nat.le_of_ble_eq_true rfl⟩ (fun H locs hP hD hS => ?_)
  exact lv_icmp_eq hx hb d_L_law_367 (tgt := 431) rfl (fun _ => kk q9 z9 H locs hI9 hP hD hS) (fun h => absurd rfl h)
set_option maxHeartbeats 4000000 in
set_option maxRecDepth 100000 in
theorem lc_crosses {p : Program} {l : Launch} {e : Env} {s : State} {m : MethodId} {below : List Frame} {meth : Method} {c : Code} {H : Heap} {locs : List Loc} {Q : State → Prop} {ls : Array Slot} {dC : Nat → ClassId} {dI : Nat → Nat → Nat} {ad rr : Nat → Nat} {cI cL cQ : ClassId} {q : LX} {z : LM} {b L j : Nat} {xs : Nat → Int32} {I : Nat → LX → LM → Prop} (Sx : CallFix p m c k_L_law 4 s #[Value.ref b] gw n_L) (hK : va_K (dC, dI) pcl [(cI, .int), (cL, .long), (cQ, .array .int)] s) (hP : va_P (dC, dI) pcl (lwW ad rr cI cL cQ q z) H) (hD : va_D (lA s) (lwW ad rr cI cL cQ q z)) (hS : va_S (lA s) s.heap H locs) (hX : va_X b L xs s s.heap) (hbl : b < s.heap.size) (hL : L ≤ 2048) (hj : 4 * j + 4 ≤ L) (hl : lv_has ls 4 [(3, .int (nI (4 * j))), (2, .ref (ad 24)), (1, .ref (ad 0)), (0, .ref b)]) (h : ∃ r9 q9 z9, XS_crosses q (xs (4 * j + 1)) r9 q9 ∧ MS_crosses z (xs (4 * j + 1)) r9 z9 ∧ I (j + 1) q9 z9)
    (kk : ∀ (q : LX) (z : LM) (H : Heap) (locs : List Loc), I (j + 1) q z → va_P (dC, dI) pcl (lwW ad rr cI cL cQ q z) H → va_D (lA s) (lwW ad rr cI cL cQ q z) → va_S (lA s) s.heap H locs → W p l e room_1 s m #[Value.ref b] below meth c H locs 57 727 Q (F0 m 431 ls [])) : W p l e room_1 s m #[Value.ref b] below meth c H locs 57 727 Q (F0 m 372 ls []) := by
  obtain ⟨r9, q9, z9, hx9, hz9, hI9⟩ := h
  have hx := Sx.1
  have hb := Sx.2.1
  have hbA : ¬ lA s b := Nat.not_le.mpr hbl
  have hA : ∀ q, s.heap.size ≤ q → lA s q := fun q h => h
  refine lv_aload_n hx hb d_L_law_372 rfl (lv_at hl 2 rfl) ?_
  refine lv_aload_n hx hb d_L_law_373 rfl (lv_at hl 3 rfl) ?_
  refine lv_iload_n hx hb d_L_law_374 rfl (lv_at hl 0 rfl) ?_
  refine lv_iconst (v := nI 1) hx hb d_L_law_375 (by decide) ?_
  refine lv_iadd hx hb d_L_law_376 ?_
  rw [nI_add]
  refine va_sld hx hb hX hbl hbA hS (vp_in_nI (by omega) (by omega)) d_L_law_377 ?_
  rw [nI_clamp (by omega)]
  refine xl_crosses Sx hK hx9 hP hD hS hA hl.1 (Nat.le_of_ble_eq_true rfl) ⟨Nat.le_of_ble_eq_true rfl, Nat.le_of_ble_eq_true rfl⟩ d_L_law_378 ⟨Nat.le_of_ble_eq_true rfl, Nat.le_of_ble_eq_true rfl⟩ (fun H locs hP hD hS => ?_)
  refine lv_aload_n hx hb d_L_law_381 rfl (lv_at hl 1 rfl) ?_
  refine lv_aload_n hx hb d_L_law_382 rfl (lv_at hl 3 rfl) ?_
  refine lv_iload_n hx hb d_L_law_383 rfl (lv_at hl 0 rfl) ?_
  refine lv_iconst (v := nI 1) hx hb d_L_law_384 (by decide) ?_
  refine lv_iadd hx hb d_L_law_385 ?_
  rw [nI_add]
  refine va_sld hx hb hX hbl hbA hS (vp_in_nI (by omega) (by omega)) d_L_law_386 ?_
  rw [nI_clamp (by omega)]
  refine ml_crosses Sx hK hz9 hP hD hS hA hl.1 (Nat.le_of_ble_eq_true rfl) ⟨Nat.le_of_ble_eq_true rfl, Nat.le_of_ble_eq_true rfl⟩ d_L_law_387 ⟨Nat.le_of_ble_eq_true rfl, Nat.le_of_ble_eq_true rfl⟩ (fun H locs hP hD hS => ?_)
  exact lv_icmp_eq hx hb d_L_law_390 (tgt := 431) rfl (fun _ => kk q9 z9 H locs hI9 hP hD hS) (fun h => absurd rfl h)
set_option maxHeartbeats 4000000 in
set_option maxRecDepth 100000 in
theorem lc_witness {p : Program} {l : Launch} {e : Env} {s : State} {m : MethodId} {below : List Frame} {meth : Method} {c : Code} {H : Heap} {locs : List Loc} {Q : State → Prop} {ls : Array Slot} {dC : Nat → ClassId} {dI : Nat → Nat → Nat} {ad rr : Nat → Nat} {cI cL cQ : ClassId} {q : LX} {z : LM} {b L j : Nat} {xs : Nat → Int32} {I : Nat → LX → LM → Prop} (Sx : CallFix p m c k_L_law 4 s #[Value.ref b] gw n_L) (hK : va_K (dC, dI) pcl [(cI, .int), (cL, .long), (cQ, .array .int)] s) (hP : va_P (dC, dI) pcl (lwW ad rr cI cL cQ q z) H) (hD : va_D (lA s) (lwW ad rr cI cL cQ q z)) (hS : va_S (lA s) s.heap H locs) (hX : va_X b L xs s s.heap) (hbl : b < s.heap.size) (hL : L ≤ 2048) (hj : 4 * j + 4 ≤ L) (hl : lv_has ls 4 [(3, .int (nI (4 * j))), (2, .ref (ad 24)), (1, .ref (ad 0)), (0, .ref b)]) (h : ∃ r9 q9 z9, XS_witness q (xs (4 * j + 1)) r9 q9 ∧ MS_witness z (xs (4 * j + 1)) r9 z9 ∧ I (j + 1) q9 z9)
    (kk : ∀ (q : LX) (z : LM) (H : Heap) (locs : List Loc), I (j + 1) q z → va_P (dC, dI) pcl (lwW ad rr cI cL cQ q z) H → va_D (lA s) (lwW ad rr cI cL cQ q z) → va_S (lA s) s.heap H locs → W p l e room_1 s m #[Value.ref b] below meth c H locs 57 727 Q (F0 m 431 ls [])) : W p l e room_1 s m #[Value.ref b] below meth c H locs 57 727 Q (F0 m 395 ls []) := by
  obtain ⟨r9, q9, z9, hx9, hz9, hI9⟩ := h
  have hx := Sx.1
  have hb := Sx.2.1
  have hbA : ¬ lA s b := Nat.not_le.mpr hbl
  have hA : ∀ q, s.heap.size ≤ q → lA s q := fun q h => h
  refine lv_aload_n hx hb d_L_law_395 rfl (lv_at hl 2 rfl) ?_
  refine lv_aload_n hx hb d_L_law_396 rfl (lv_at hl 3 rfl) ?_
  refine lv_iload_n hx hb d_L_law_397 rfl (lv_at hl 0 rfl) ?_
  refine lv_iconst (v := nI 1) hx hb d_L_law_398 (by decide) ?_
  refine lv_iadd hx hb d_L_law_399 ?_
  rw [nI_add]
  refine va_sld hx hb hX hbl hbA hS (vp_in_nI (by omega) (by omega)) d_L_law_400 ?_
  rw [nI_clamp (by omega)]
  refine xl_witness Sx hK hx9 hP hD hS hA hl.1 (Nat.le_of_ble_eq_true rfl) ⟨Nat.le_of_ble_eq_true rfl, Nat.le_of_ble_eq_true rfl⟩ d_L_law_401 ⟨Nat.le_of_ble_eq_true rfl, Nat.le_of_ble_eq_true rfl⟩ (fun H locs hP hD hS => ?_)
  refine lv_aload_n hx hb d_L_law_404 rfl (lv_at hl 1 rfl) ?_
  refine lv_aload_n hx hb d_L_law_405 rfl (lv_at hl 3 rfl) ?_
  refine lv_iload_n hx hb d_L_law_406 rfl (lv_at hl 0 rfl) ?_
  refine lv_iconst (v := nI 1) hx hb d_L_law_407 (by decide) ?_
  refine lv_iadd hx hb d_L_law_408 ?_
  rw [nI_add]
  refine va_sld hx hb hX hbl hbA hS (vp_in_nI (by omega) (by omega)) d_L_law_409 ?_
  rw [nI_clamp (by omega)]
  refine ml_witness Sx hK hz9 hP hD hS hA hl.1 (Nat.le_of_ble_eq_true rfl) ⟨Nat.le_of_ble_eq_true rfl, Nat.le_of_ble_eq_true rfl⟩ d_L_law_410 ⟨Nat.le_of_ble_eq_true rfl, Nat.le_of_ble_eq_true rfl⟩ (fun H locs hP hD hS => ?_)
  exact lv_icmp_eq hx hb d_L_law_413 (tgt := 431) rfl (fun _ => kk q9 z9 H locs hI9 hP hD hS) (fun h => absurd rfl h)
set_option maxHeartbeats 4000000 in
set_option maxRecDepth 100000 in
theorem lc_kind {p : Program} {l : Launch} {e : Env} {s : State} {m : MethodId} {below : List Frame} {meth : Method} {c : Code} {H : Heap} {locs : List Loc} {Q : State → Prop} {ls : Array Slot} {dC : Nat → ClassId} {dI : Nat → Nat → Nat} {ad rr : Nat → Nat} {cI cL cQ : ClassId} {q : LX} {z : LM} {b L j : Nat} {xs : Nat → Int32} {I : Nat → LX → LM → Prop} (Sx : CallFix p m c k_L_law 4 s #[Value.ref b] gw n_L) (hK : va_K (dC, dI) pcl [(cI, .int), (cL, .long), (cQ, .array .int)] s) (hP : va_P (dC, dI) pcl (lwW ad rr cI cL cQ q z) H) (hD : va_D (lA s) (lwW ad rr cI cL cQ q z)) (hS : va_S (lA s) s.heap H locs) (hX : va_X b L xs s s.heap) (hbl : b < s.heap.size) (hL : L ≤ 2048) (hj : 4 * j + 4 ≤ L) (hl : lv_has ls 4 [(3, .int (nI (4 * j))), (2, .ref (ad 24)), (1, .ref (ad 0)), (0, .ref b)]) (h : ∃ r9 q9 z9, XS_kind q  r9 q9 ∧ MS_kind z  r9 z9 ∧ I (j + 1) q9 z9)
    (kk : ∀ (q : LX) (z : LM) (H : Heap) (locs : List Loc), I (j + 1) q z → va_P (dC, dI) pcl (lwW ad rr cI cL cQ q z) H → va_D (lA s) (lwW ad rr cI cL cQ q z) → va_S (lA s) s.heap H locs → W p l e room_1 s m #[Value.ref b] below meth c H locs 57 727 Q (F0 m 431 ls [])) : W p l e room_1 s m #[Value.ref b] below meth c H locs 57 727 Q (F0 m 418 ls []) := by
  obtain ⟨r9, q9, z9, hx9, hz9, hI9⟩ := h
  have hx := Sx.1
  have hb := Sx.2.1
  have hbA : ¬ lA s b := Nat.not_le.mpr hbl
  have hA : ∀ q, s.heap.size ≤ q → lA s q := fun q h => h
  refine lv_aload_n hx hb d_L_law_418 rfl (lv_at hl 2 rfl) ?_
  refine xl_kind Sx hK hx9 hP hD hS hA hl.1 (Nat.le_of_ble_eq_true rfl) ⟨Nat.le_of_ble_eq_true rfl, Nat.le_of_ble_eq_true rfl⟩ d_L_law_419 ⟨Nat.le_of_ble_eq_true rfl, Nat.le_of_ble_eq_true rfl⟩ (fun H locs hP hD hS => ?_)
  refine lv_aload_n hx hb d_L_law_422 rfl (lv_at hl 1 rfl) ?_
  refine ml_kind Sx hK hz9 hP hD hS hA hl.1 (Nat.le_of_ble_eq_true rfl) ⟨Nat.le_of_ble_eq_true rfl, Nat.le_of_ble_eq_true rfl⟩ d_L_law_423 ⟨Nat.le_of_ble_eq_true rfl, Nat.le_of_ble_eq_true rfl⟩ (fun H locs hP hD hS => ?_)
  exact lv_icmp_eq hx hb d_L_law_426 (tgt := 431) rfl (fun _ => kk q9 z9 H locs hI9 hP hD hS) (fun h => absurd rfl h)
