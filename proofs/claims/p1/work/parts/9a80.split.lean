/-! the split: class and reference go through the choices side by side -/
section
variable {n k : Nat} {E F S : Nat → Nat} {w : Nat → Int32}
/-- does edge e lie between the sides of the choice -/
def cr (F S : Nat → Nat) (x : Int32) (e : Nat) : Bool := bt x (F e) ^^ bt x (S e)
theorem betw_cr (x : Int32) {e : Nat} (hF : F e < 32) (hS : S e < 32) : ps_betw F S e x = cr F S x e := by
  unfold ps_betw cr
  have h : bt ((x >>> (nI (F e) &&& 31)) ^^^ (x >>> (nI (S e) &&& 31))) 0 = (bt x (F e) ^^ bt x (S e)) := by
    rw [b_xor, b_sshr _ hF x (by decide), b_sshr _ hS x (by decide), if_pos (by omega), if_pos (by omega), Nat.add_zero, Nat.add_zero]
  generalize (x >>> (nI (F e) &&& 31)) ^^^ (x >>> (nI (S e) &&& 31)) = y at h ⊢
  cases hb : (bt x (F e) ^^ bt x (S e)) with
  | false => rw [hb] at h; rw [decide_eq_true ((b_and1 y).mpr h)]; rfl
  | true =>
    rw [hb] at h
    have : ¬ y &&& 1 = 0 := fun q => by rw [(b_and1 y).mp q] at h; cases h
    rw [decide_eq_false this]; rfl
theorem bI_inj : ∀ a b : Bool, bI a = bI b ↔ a = b := by decide
theorem cb_bt (x : Int32) (hk : k ≤ 18) (hE : ∀ e, e < k → E (2 * e) = F e ∧ E (2 * e + 1) = S e) (hF : ∀ e, e < k → F e < 32 ∧ S e < 32) : ∀ m, m ≤ k → ∀ i, i < 32 → bt (fo (pm_cb E x) m 0) i = (decide (i < m) && cr F S x i)
  | 0, _, i, _ => by rw [show fo (pm_cb E x) 0 0 = 0 from rfl, b_0]; simp
  | m + 1, hm, i, hi => by
    have ih := cb_bt x hk hE hF m (by omega) i hi
    rw [fo_s]
    show bt (if bI (pm_has x (nI (E (2 * m)))) = bI (pm_has x (nI (E (2 * m + 1)))) then fo (pm_cb E x) m 0 else fo (pm_cb E x) m 0 ||| (1 <<< (nI m &&& 31))) i = _
    rw [(hE m (by omega)).1, (hE m (by omega)).2, pm_has_bt x (hF m (by omega)).1, pm_has_bt x (hF m (by omega)).2]
    by_cases c : bt x (F m) = bt x (S m)
    · rw [if_pos ((bI_inj _ _).mpr c), ih]
      by_cases e : i = m
      · rw [e]
        have : cr F S x m = false := by unfold cr; rw [c]; cases bt x (S m) <;> rfl
        rw [this]; simp
      · rw [show decide (i < m) = decide (i < m + 1) from decide_eq_decide.mpr (by omega)]
    · rw [if_neg (fun q => c ((bI_inj _ _).mp q)), b_or, ih, b_one m (by omega) i hi]
      by_cases e : i = m
      · rw [e]
        have : cr F S x m = true := by unfold cr; cases h1 : bt x (F m) <;> cases h2 : bt x (S m) <;> simp_all
        rw [this]; simp
      · rw [show decide (i < m) = decide (i < m + 1) from decide_eq_decide.mpr (by omega), decide_eq_false e, Bool.or_false]
def sW (w : Nat → Int32) (f : Nat → Bool) : Nat → Nat
  | 0 => 0
  | m + 1 => sW w f m + cond (f m) (w m).toInt.toNat 0
def sR (f : Nat → Bool) : Nat → Nat
  | 0 => 0
  | m + 1 => sR f m + cond (f m) (2 ^ (17 - m)) 0
theorem sW_s (f : Nat → Bool) (m : Nat) : sW w f (m + 1) = sW w f m + cond (f m) (w m).toInt.toNat 0 := rfl
theorem sR_s (f : Nat → Bool) (m : Nat) : sR f (m + 1) = sR f m + cond (f m) (2 ^ (17 - m)) 0 := rfl
theorem w_lt (x : Int32) : x.toInt.toNat < 2147483648 := by
  have := x.toInt_lt
  omega
theorem sW_le (f : Nat → Bool) : ∀ m, sW w f m ≤ m * 2147483648
  | 0 => Nat.le_refl 0
  | m + 1 => by
    have ih := sW_le f m
    have h2 := w_lt (w m)
    rw [sW_s, Nat.succ_mul]
    cases f m with
    | false => exact Nat.le_trans ih (Nat.le_add_right _ _)
    | true => exact Nat.add_le_add ih (Nat.le_of_lt h2)
theorem sR_tail (f : Nat → Bool) (e : Nat) : ∀ d, e + d ≤ 18 → sR f (e + d) + 2 ^ (18 - (e + d)) ≤ sR f e + 2 ^ (18 - e)
  | 0, _ => Nat.le_refl _
  | d + 1, h => by
    have ih := sR_tail f e d (by omega)
    have h2 : 2 ^ (18 - (e + d)) = 2 ^ (17 - (e + d)) + 2 ^ (17 - (e + d)) := by
      rw [show 18 - (e + d) = (17 - (e + d)) + 1 from by omega, Nat.pow_succ]; omega
    have h3 : 18 - (e + (d + 1)) = 17 - (e + d) := by omega
    rw [h3, show e + (d + 1) = (e + d) + 1 from rfl, sR_s]
    generalize 2 ^ (17 - (e + d)) = p at h2 ⊢
    cases f (e + d) with
    | false => show sR f (e + d) + 0 + p ≤ _; omega
    | true => show sR f (e + d) + p + p ≤ _; omega
theorem sR_mono (f : Nat → Bool) (e : Nat) : ∀ d, sR f e ≤ sR f (e + d)
  | 0 => Nat.le_refl _
  | d + 1 => by rw [show e + (d + 1) = (e + d) + 1 from rfl, sR_s]; exact Nat.le_trans (sR_mono f e d) (Nat.le_add_right _ _)
theorem sR_congr {f g : Nat → Bool} : ∀ m, (∀ j, j < m → f j = g j) → sR f m = sR g m
  | 0, _ => rfl
  | m + 1, h => by rw [sR_s, sR_s, sR_congr m (fun j hj => h j (by omega)), h m (by omega)]
theorem sW_congr {f g : Nat → Bool} : ∀ m, (∀ j, j < m → f j = g j) → sW w f m = sW w g m
  | 0, _ => rfl
  | m + 1, h => by rw [sW_s, sW_s, sW_congr m (fun j hj => h j (by omega)), h m (by omega)]
theorem sR_cmp {f g : Nat → Bool} {e : Nat} (hk : k ≤ 18) (he : e < k) (hp : ∀ j, j < e → f j = g j) (hf : f e = true) (hg : g e = false) : sR g k < sR f k := by
  have h1 := sR_tail g (e + 1) (k - (e + 1)) (by omega)
  have h2 := sR_mono f (e + 1) (k - (e + 1))
  rw [show e + 1 + (k - (e + 1)) = k from by omega] at h1 h2
  rw [sR_s, hg] at h1
  rw [sR_s, hf] at h2
  rw [sR_congr e hp] at h2
  rw [show 18 - (e + 1) = 17 - e from by omega] at h1
  have h3 : 0 < 2 ^ (18 - k) := Nat.pow_pos (by decide)
  have h1' : sR g k + 2 ^ (18 - k) ≤ sR g e + 0 + 2 ^ (17 - e) := h1
  have h2' : sR g e + 2 ^ (17 - e) ≤ sR f k := h2
  omega
theorem sR_lt (f : Nat → Bool) (hk : k ≤ 18) : sR f k < 262144 := by
  have h := sR_tail f 0 k (by omega)
  rw [Nat.zero_add] at h
  have h3 : 0 < 2 ^ (18 - k) := Nat.pow_pos (by decide)
  have : sR f 0 = 0 := rfl
  have : (2 : Nat) ^ (18 - 0) = 262144 := by decide
  omega
theorem l_add {a b : Int64} {x y : Nat} (ha : a.toInt = (x : Int)) (hb : b.toInt = (y : Int)) (h : x + y < 4611686018427387904) : (a + b).toInt = ((x + y : Nat) : Int) := by
  rw [Int64.toInt_add, ha, hb]
  show ((x : Int) + (y : Int)).bmod 18446744073709551616 = _
  unfold Int.bmod
  dsimp only
  split <;> omega
theorem l_nat {a : Int64} {x : Nat} (h : a.toBitVec.toNat = x) (hx : x < 9223372036854775808) : a.toInt = (x : Int) := by
  show a.toBitVec.toInt = _
  rw [BitVec.toInt_eq_toNat_of_lt (by rw [h]; omega), h]
theorem l_toNat {a : Int64} {x : Nat} (h : a.toInt = (x : Int)) : a.toBitVec.toNat = x := by
  have h1 : a.toBitVec.toInt = (x : Int) := h
  rw [BitVec.toInt_eq_toNat_cond] at h1
  have h2 : a.toBitVec.toNat < 18446744073709551616 := a.toBitVec.isLt
  have h3 : (2 : Nat) ^ 64 = 18446744073709551616 := by decide
  rw [h3] at h1
  split at h1 <;> omega
def wt (w : Nat → Int32) (e : Nat) : Int64 := ((w e : Int32).toInt64 <<< ((18 : Int32).toInt64 &&& 63)) + ((1 : Int64) <<< (((17 - nI e) : Int32).toInt64 &&& 63))
theorem one_sh : ∀ e, e < 18 → ((1 : Int64) <<< (((17 - nI e) : Int32).toInt64 &&& 63)).toInt = ((2 ^ (17 - e) : Nat) : Int) := by decide +kernel
theorem sh_18 : ((((18 : Int32).toInt64 &&& 63).toBitVec).smod 64).toNat = 18 := by decide +kernel
theorem wt_int {e : Nat} (he : e < 18) (hw : 0 ≤ (w e).toInt) : (wt w e).toInt = (((w e).toInt.toNat * 262144 + 2 ^ (17 - e) : Nat) : Int) := by
  unfold wt
  have hlt := w_lt (w e)
  have hp : 2 ^ (17 - e) ≤ 2 ^ 17 := Nat.pow_le_pow_right (by decide) (by omega)
  have hp' : (2 : Nat) ^ 17 = 131072 := by decide
  refine l_add (x := (w e).toInt.toNat * 262144) (l_nat ?_ (by omega)) (one_sh e he) (by omega)
  rw [Int64.toBitVec_shiftLeft]
  show ((w e).toInt64.toBitVec <<< ((((18 : Int32).toInt64 &&& 63).toBitVec).smod 64).toNat).toNat = _
  rw [sh_18, BitVec.toNat_shiftLeft, l_toNat (a := (w e).toInt64) (x := (w e).toInt.toNat) (by rw [Int32.toInt_toInt64]; omega), Nat.shiftLeft_eq]
  have h3 : (2 : Nat) ^ 64 = 18446744073709551616 := by decide
  have h4 : (2 : Nat) ^ 18 = 262144 := by decide
  rw [h3, h4]
  exact Nat.mod_eq_of_lt (by omega)
theorem spw_at (V : Nat → Int64) : ∀ m e, e < m → fo (sp_w w) m V e = wt w e
  | 0, e, h => absurd h (Nat.not_lt_zero e)
  | m + 1, e, h => by
    rw [fo_s]
    show (if e = m then _ else fo (sp_w w) m V e) = _
    by_cases c : e = m
    · rw [if_pos c, c]; rfl
    · rw [if_neg c]; exact spw_at V m e (by omega)
theorem wo_sum {y : Int32} {f : Nat → Bool} (hw : ∀ e, e < k → 0 ≤ (w e).toInt) (hk : k ≤ 18) (hf : ∀ i, i < k → bt y i = f i) : ∀ m, m ≤ k → (fo (pm_wo w y) m 0).toInt = (sW w f m : Int)
  | 0, _ => rfl
  | m + 1, hm => by
    have ih := wo_sum hw hk hf m (by omega)
    rw [fo_s, sW_s]
    show (if pm_has y (nI m) = true then fo (pm_wo w y) m 0 + (w m).toInt64 else fo (pm_wo w y) m 0).toInt = _
    rw [pm_has_bt y (by omega), hf m (by omega)]
    have h1 := sW_le (w := w) f m
    have h2 := w_lt (w m)
    have h3 := hw m (by omega)
    cases f m with
    | false => rw [if_neg (by decide)]; exact ih
    | true => rw [if_pos rfl]; exact l_add ih (y := (w m).toInt.toNat) (by rw [Int32.toInt_toInt64]; omega) (by omega)
theorem sb_sum {x : Int32} {V : Nat → Int64} {f : Nat → Bool} (hw : ∀ e, e < k → 0 ≤ (w e).toInt) (hk : k ≤ 18) (hV : ∀ e, e < k → V e = wt w e) (hf : ∀ e, e < k → ps_betw F S e x = f e) : ∀ m, m ≤ k → (fo (sp_b F S V x) m 0).toInt = ((sW w f m * 262144 + sR f m : Nat) : Int)
  | 0, _ => by
    rw [show sW w f 0 = 0 from rfl, show sR f 0 = 0 from rfl, Nat.zero_mul]
    rfl
  | m + 1, hm => by
    have ih := sb_sum hw hk hV hf m (by omega)
    rw [fo_s, sW_s, sR_s]
    show (if ps_betw F S m x = true then fo (sp_b F S V x) m 0 + V m else fo (sp_b F S V x) m 0).toInt = _
    rw [hf m (by omega), hV m (by omega)]
    have h1 := sW_le (w := w) f m
    have h2 := w_lt (w m)
    have h3 := hw m (by omega)
    have h4 := sR_lt f (show m ≤ 18 by omega)
    have hp : 2 ^ (17 - m) ≤ 2 ^ 17 := Nat.pow_le_pow_right (by decide) (by omega)
    have hp' : (2 : Nat) ^ 17 = 131072 := by decide
    cases f m with
    | false => rw [if_neg (by decide)]; exact ih
    | true =>
      rw [if_pos rfl]
      have hh := l_add ih (wt_int (w := w) (e := m) (by omega) h3) (by omega)
      rw [hh]
      have e3 : sW w f m * 262144 + sR f m + ((w m).toInt.toNat * 262144 + 2 ^ (17 - m)) = (sW w f m + cond true (w m).toInt.toNat 0) * 262144 + (sR f m + cond true (2 ^ (17 - m)) 0) := by
        rw [Bool.cond_true, Bool.cond_true, Nat.add_mul]
        exact Nat.add_add_add_comm _ _ _ _
      rw [e3]
theorem least_min {y : Int32} (hy : ¬ y = 0) : ∀ j, j < pm_least y → bt y j = false := by
  have hw := wl_meas (dn := pm_leD y) (st := pm_leS) (fun j => j < 32 ∧ ∀ i, i < j → bt y i = false) (fun j => 32 - j) (fun j hI hd => by
    have hb : bt y j = false := by
      unfold pm_leD at hd
      rw [pm_has_bt y hI.1] at hd
      exact hd
    have h1 : j + 1 < 32 := by
      refine Classical.byContradiction fun q => hy (b_zero.mpr fun i hi => ?_)
      by_cases e : i = j
      · rw [e]; exact hb
      · exact hI.2 i (by omega)
    refine ⟨⟨h1, fun i hi => ?_⟩, ?_⟩
    · have hi' : i < j + 1 := hi
      by_cases e : i = j
      · rw [e]; exact hb
      · exact hI.2 i (by omega)
    · show 32 - (j + 1) < 32 - j
      omega) 32 0 ⟨by decide, fun i hi => by omega⟩ (by decide)
  exact hw.2.2
/-- the greater worth is the greater weight, or the same weight and the earlier edge -/
theorem better {x y : Int32} {V : Nat → Int64} (hk : k ≤ 18) (hE : ∀ e, e < k → E (2 * e) = F e ∧ E (2 * e + 1) = S e) (hF : ∀ e, e < k → F e < 32 ∧ S e < 32) (hw : ∀ e, e < k → 0 ≤ (w e).toInt) (hV : ∀ e, e < k → V e = wt w e) :
    (¬ lg_cmp (fo (sp_b F S V x) k 0) (fo (sp_b F S V y) k 0) ≤ 0) ↔ (0 < lg_cmp (fo (pm_wo w (fo (pm_cb E x) k 0)) k 0) (fo (pm_wo w (fo (pm_cb E y) k 0)) k 0) ∨ (lg_cmp (fo (pm_wo w (fo (pm_cb E x) k 0)) k 0) (fo (pm_wo w (fo (pm_cb E y) k 0)) k 0) = 0 ∧ ¬ (fo (pm_cb E x) k 0) ^^^ (fo (pm_cb E y) k 0) = 0 ∧ pm_has (fo (pm_cb E x) k 0) (nI (pm_least ((fo (pm_cb E x) k 0) ^^^ (fo (pm_cb E y) k 0)))) = true)) := by
  have bX := cb_bt x hk hE hF k (Nat.le_refl k)
  have bY := cb_bt y hk hE hF k (Nat.le_refl k)
  have fX : ∀ i, i < k → bt (fo (pm_cb E x) k 0) i = cr F S x i := fun i hi => by rw [bX i (by omega), decide_eq_true hi]; rfl
  have fY : ∀ i, i < k → bt (fo (pm_cb E y) k 0) i = cr F S y i := fun i hi => by rw [bY i (by omega), decide_eq_true hi]; rfl
  have s1 := sb_sum (x := x) hw hk hV (fun e he => betw_cr x (hF e he).1 (hF e he).2) k (Nat.le_refl k)
  have s2 := sb_sum (x := y) hw hk hV (fun e he => betw_cr y (hF e he).1 (hF e he).2) k (Nat.le_refl k)
  have w1 := wo_sum hw hk fX k (Nat.le_refl k)
  have w2 := wo_sum hw hk fY k (Nat.le_refl k)
  have r1 := sR_lt (cr F S x) hk
  have r2 := sR_lt (cr F S y) hk
  rw [lg_cmp_le, lg_cmp_gt, lg_cmp_eq, Int64.le_iff_toInt_le, Int64.lt_iff_toInt_lt, ← Int64.toInt_inj, s1, s2, w1, w2]
  have key : sR (cr F S y) k < sR (cr F S x) k ↔ (¬ (fo (pm_cb E x) k 0) ^^^ (fo (pm_cb E y) k 0) = 0 ∧ pm_has (fo (pm_cb E x) k 0) (nI (pm_least ((fo (pm_cb E x) k 0) ^^^ (fo (pm_cb E y) k 0)))) = true) := by
    generalize hX : fo (pm_cb E x) k 0 = X at bX fX ⊢
    generalize hY : fo (pm_cb E y) k 0 = Y at bY fY ⊢
    by_cases c : X ^^^ Y = 0
    · have hc := b_zero.mp c
      have he : sR (cr F S x) k = sR (cr F S y) k := sR_congr k fun j hj => by
        have := hc j (by omega)
        rw [b_xor, fX j hj, fY j hj] at this
        revert this
        cases cr F S x j <;> cases cr F S y j <;> decide
      exact ⟨fun h => by omega, fun h => absurd c h.1⟩
    · have l1 := least_end c
      have l2 := least_bt c
      have l3 := least_min c
      generalize pm_least (X ^^^ Y) = l at l1 l2 l3 ⊢
      have hl : l < k := by
        refine Classical.byContradiction fun q => ?_
        rw [b_xor, bX l l1.2, bY l l1.2, decide_eq_false q] at l2
        cases l2
      have hp : ∀ j, j < l → cr F S x j = cr F S y j := fun j hj => by
        have := l3 j hj
        rw [b_xor, fX j (by omega), fY j (by omega)] at this
        revert this
        cases cr F S x j <;> cases cr F S y j <;> decide
      rw [b_xor, fX l hl, fY l hl] at l2
      rw [pm_has_bt X l1.2, fX l hl]
      cases h1 : cr F S x l with
      | true =>
        have h2 : cr F S y l = false := by
          revert l2; rw [h1]; cases cr F S y l <;> decide
        exact ⟨fun _ => ⟨c, rfl⟩, fun _ => sR_cmp hk hl hp h1 h2⟩
      | false =>
        have h2 : cr F S y l = true := by
          revert l2; rw [h1]; cases cr F S y l <;> decide
        have := sR_cmp hk hl (fun j hj => (hp j hj).symm) h2 h1
        exact ⟨fun h => by omega, fun h => by cases h.2⟩
  rw [← key]
  omega
theorem bg1_iff (Cp : Nat → Int32) (v : Nat) : ∀ m, fo (pm_bg1 Cp v) m true = true ↔ ∀ u, u < m → ¬ Cp u = Cp v
  | 0 => ⟨fun _ u hu => absurd hu (Nat.not_lt_zero u), fun _ => rfl⟩
  | m + 1 => by
    have ih := bg1_iff Cp v m
    rw [fo_s]
    show (fo (pm_bg1 Cp v) m true && !decide (Cp m = Cp v)) = true ↔ _
    rw [Bool.and_eq_true, ih, Bool.not_eq_true', decide_eq_false_iff_not]
    refine ⟨fun h u hu => ?_, fun h => ⟨fun u hu => h u (by omega), h m (by omega)⟩⟩
    by_cases e : u = m
    · rw [e]; exact h.2
    · exact h.1 u (by omega)
theorem bg2_iff (Cp : Nat → Int32) (x : Int32) : ∀ m, m ≤ 32 → (fo (pm_bg2 Cp x) m true = true ↔ ∀ v, v < m → (∀ u, u < v → ¬ Cp u = Cp v) → bt x v = false)
  | 0, _ => ⟨fun _ u hu => absurd hu (Nat.not_lt_zero u), fun _ => rfl⟩
  | m + 1, hm => by
    have ih := bg2_iff Cp x m (by omega)
    rw [fo_s]
    show (fo (pm_bg2 Cp x) m true && (!(fo (pm_bg1 Cp m) m true) || !pm_has x (nI m))) = true ↔ _
    rw [Bool.and_eq_true, ih, pm_has_bt x (by omega)]
    have hb := bg1_iff Cp m m
    refine ⟨fun h v hv hu => ?_, fun h => ⟨fun v hv => h v (by omega), ?_⟩⟩
    · by_cases e : v = m
      · rw [e] at hu ⊢
        have h2 := h.2
        rw [hb.mpr hu] at h2
        revert h2
        cases bt x m <;> decide
      · exact h.1 v (by omega) hu
    · have h2 := h m (by omega)
      cases c : fo (pm_bg1 Cp m) m true with
      | false => rfl
      | true => rw [h2 (hb.mp c)]; rfl
theorem bg_and {z : Int32} {Cp : Nat → Int32} (hn : n ≤ 10) (hz : ∀ v, v < 32 → (bt z v = true ↔ v < n ∧ ∀ u, u < v → ¬ Cp u = Cp v)) (x : Int32) : x &&& z = 0 ↔ fo (pm_bg2 Cp x) n true = true := by
  rw [bg2_iff Cp x n (by omega), b_zero]
  refine ⟨fun h v hv hu => ?_, fun h i hi => ?_⟩
  · have := h v (by omega)
    rw [b_and, (hz v (by omega)).mpr ⟨hv, hu⟩, Bool.and_true] at this
    exact this
  · rw [b_and]
    cases c : bt z i with
    | false => rw [Bool.and_false]
    | true =>
      have := (hz i hi).mp c
      rw [h i this.1 this.2]; rfl
theorem sp_lock {z : Int32} {Cp : Nat → Int32} {V : Nat → Int64} (hn : n ≤ 10) (hk : k ≤ 18) (hE : ∀ e, e < k → E (2 * e) = F e ∧ E (2 * e + 1) = S e) (hF : ∀ e, e < k → F e < 32 ∧ S e < 32) (hw : ∀ e, e < k → 0 ≤ (w e).toInt) (hV : ∀ e, e < k → V e = wt w e) (hz : ∀ v, v < 32 → (bt z v = true ↔ v < n ∧ ∀ u, u < v → ¬ Cp u = Cp v)) (so : Int32) :
    ∀ i, ∃ c : Nat, fo (sp_m k F S V z) (i + 1) (so, -1) = (nI c, fo (sp_b F S V (nI c)) k 0) ∧ fo (pm_sp1 n k E w Cp) i (fo (pm_cb E 0) k 0, 0, fo (pm_wo w (fo (pm_cb E 0) k 0)) k 0) = (fo (pm_cb E (nI c)) k 0, nI c, fo (pm_wo w (fo (pm_cb E (nI c)) k 0)) k 0)
  | 0 => by
    refine ⟨0, ?_, rfl⟩
    rw [fo_s]
    show (if nI 0 &&& z = 0 then (if lg_cmp (fo (sp_b F S V (nI 0)) k 0) (-1) ≤ 0 then (so, -1) else (nI 0, fo (sp_b F S V (nI 0)) k 0)) else (so, -1)) = _
    have h0 : nI 0 &&& z = 0 := b_zero.mpr fun i hi => by rw [b_and, show nI 0 = 0 from rfl, b_0, Bool.false_and]
    have s1 := sb_sum (x := nI 0) hw hk hV (fun e he => betw_cr (nI 0) (hF e he).1 (hF e he).2) k (Nat.le_refl k)
    rw [if_pos h0, if_neg]
    rw [lg_cmp_le, Int64.le_iff_toInt_le, s1, show (-1 : Int64).toInt = -1 from by decide]
    omega
  | i + 1 => by
    obtain ⟨c, h1, h2⟩ := sp_lock hn hk hE hF hw hV hz so i
    rw [fo_s, h1, fo_s (pm_sp1 n k E w Cp), h2]
    have hb := better (x := nI (1 + i)) (y := nI c) (V := V) hk hE hF hw hV
    have hg := bg_and hn hz (nI (1 + i))
    have e1 : i + 1 = 1 + i := Nat.add_comm _ _
    rw [e1]
    unfold sp_m pm_sp1
    dsimp only
    by_cases q1 : nI (1 + i) &&& z = 0
    · rw [if_pos q1]
      by_cases q2 : lg_cmp (fo (sp_b F S V (nI (1 + i))) k 0) (fo (sp_b F S V (nI c)) k 0) ≤ 0
      · rw [if_pos q2, if_neg (fun r => hb.mpr r.1 q2)]
        exact ⟨c, rfl, rfl⟩
      · rw [if_neg q2, if_pos ⟨hb.mp q2, hg.mp q1⟩]
        exact ⟨1 + i, rfl, rfl⟩
    · rw [if_neg q1, if_neg (fun r => q1 (hg.mpr r.2))]
      exact ⟨c, rfl, rfl⟩
/-- both splits are the same choice, and the class's sum holds the reference's -/
theorem sp_same {z : Int32} {Cp : Nat → Int32} {V : Nat → Int64} (hn : n ≤ 10) (hk : k ≤ 18) (hE : ∀ e, e < k → E (2 * e) = F e ∧ E (2 * e + 1) = S e) (hF : ∀ e, e < k → F e < 32 ∧ S e < 32) (hw : ∀ e, e < k → 0 ≤ (w e).toInt) (hz : ∀ v, v < 32 → (bt z v = true ↔ v < n ∧ ∀ u, u < v → ¬ Cp u = Cp v)) (so : Int32) :
    (sp_make n k F S (fo (sp_w w) k V) z so).1 = (pm_sp n k E w Cp).2.1 ∧ (sp_make n k F S (fo (sp_w w) k V) z so).2 >>> ((18 : Int32).toInt64 &&& 63) = (pm_sp n k E w Cp).2.2 := by
  have hV : ∀ e, e < k → fo (sp_w w) k V e = wt w e := fun e he => spw_at V k e he
  obtain ⟨c, h1, h2⟩ := sp_lock (E := E) hn hk hE hF hw hV hz so (2 ^ n - 1)
  have hp : 0 < 2 ^ n := Nat.pow_pos (by decide)
  unfold sp_make pm_sp
  rw [show 2 ^ n = 2 ^ n - 1 + 1 from by omega, h1, show 2 ^ n - 1 + 1 - 1 = 2 ^ n - 1 from rfl, h2]
  refine ⟨rfl, Int64.toInt_inj.mp ?_⟩
  have bX := cb_bt (nI c) hk hE hF k (Nat.le_refl k)
  have fX : ∀ i, i < k → bt (fo (pm_cb E (nI c)) k 0) i = cr F S (nI c) i := fun i hi => by rw [bX i (by omega), decide_eq_true hi]; rfl
  have s1 := sb_sum (x := nI c) hw hk hV (fun e he => betw_cr (nI c) (hF e he).1 (hF e he).2) k (Nat.le_refl k)
  have w1 := wo_sum hw hk fX k (Nat.le_refl k)
  have r1 := sR_lt (cr F S (nI c)) hk
  dsimp only
  rw [w1]
  show ((fo (sp_b F S (fo (sp_w w) k V) (nI c)) k 0) >>> ((18 : Int32).toInt64 &&& 63)).toBitVec.toInt = _
  rw [Int64.toBitVec_shiftRight, BitVec.toInt_sshiftRight', sh_18]
  have s1' : (fo (sp_b F S (fo (sp_w w) k V) (nI c)) k 0).toBitVec.toInt = _ := s1
  rw [s1', Int.shiftRight_eq_div_pow]
  have h4 : ((2 : Nat) ^ 18 : Nat) = 262144 := by decide
  rw [h4]
  omega
end
