/-! walks that cross on a circle lie on different sides of it; so do two tripods -/
def cyc3 (p q r : Nat) : Prop := (p < q ∧ q < r) ∨ (q < r ∧ r < p) ∨ (r < p ∧ p < q)
theorem cyc3_or {p q r : Nat} (h1 : p ≠ q) (h2 : q ≠ r) (h3 : p ≠ r) : cyc3 p q r ∨ cyc3 r q p := by unfold cyc3; omega
theorem cyc3_rot {p q r : Nat} (h : cyc3 p q r) : cyc3 q r p := by unfold cyc3 at h ⊢; omega
theorem cyc3_at {L A A2 B : Nat} (hA : A < L) (hB : B < L) (h2 : A2 < L) (h : cyc3 A A2 B) : ∃ p, 0 < p ∧ p < dst L A B ∧ wrp L (A + p) = A2 := by
  unfold cyc3 at h
  refine ⟨dst L A A2, ?_, ?_, ?_⟩
  · unfold dst; split <;> omega
  · unfold dst; (repeat' split) <;> omega
  · exact (dst_b hA h2 (by omega)).2.2
theorem arc_off {L A B B2 t p : Nat} (hA : A < L) (hB : B < L) (h2 : B2 < L) (h : cyc3 B B2 A) (ht : t < dst L B2 A) (hp : p ≤ dst L A B) : wrp L (B2 + t) ≠ wrp L (A + p) := by
  unfold cyc3 at h
  unfold dst at ht hp
  unfold wrp
  split at ht <;> split at hp <;> (repeat' split) <;> omega
theorem arc_off2 {L p q r t t' : Nat} (hp : p < L) (hq : q < L) (hr : r < L) (h : cyc3 p q r) (h0 : 0 < t) (ht : t ≤ dst L p q) (ht' : t' ≤ dst L r p) : wrp L (p + t) ≠ wrp L (r + t') := by
  unfold cyc3 at h
  unfold dst at ht ht'
  unfold wrp
  split at ht <;> split at ht' <;> (repeat' split) <;> omega
theorem arc_off3 {L p q r t t' : Nat} (hp : p < L) (hq : q < L) (hr : r < L) (h : cyc3 p q r) (ht : t < dst L p q) (ht' : t' < dst L r p) : wrp L (p + t) ≠ wrp L (r + t') := by
  unfold cyc3 at h
  unfold dst at ht ht'
  unfold wrp
  split at ht <;> split at ht' <;> (repeat' split) <;> omega
section WS
variable {n m : Nat} {a b : Nat → Nat}
theorem tau_flip {o : Nat → Nat → Nat → Bool} {v i y h : Nat} (ht : pg_tour n m a b o) (hv : v < n) (hi : i < m) (hy : y < m) (hh : h < m) (ii : pg_inc a b v i = true) (iy : pg_inc a b v y = true) (ih : pg_inc a b v h = true) (n1 : i ≠ y) (n2 : h ≠ i) (n3 : h ≠ y) : pg_tau o v h y i = !pg_tau o v i y h := by
  unfold pg_tau
  have t1 := ht v i y hv hi hy n1 ii iy
  have t2 := ht v h y hv hh hy n3 ih iy
  have t3 := ht v i h hv hi hh (Ne.symm n2) ii ih
  revert t1 t2 t3
  cases o v i y <;> cases o v y i <;> cases o v h y <;> cases o v y h <;> cases o v i h <;> cases o v h i <;> decide
theorem tau_four {o : Nat → Nat → Nat → Bool} {v i y h d : Nat} (ht : pg_tour n m a b o) (hv : v < n) (hi : i < m) (hy : y < m) (hh : h < m) (hd : d < m) (ii : pg_inc a b v i = true) (iy : pg_inc a b v y = true) (ih : pg_inc a b v h = true) (id' : pg_inc a b v d = true) (n1 : i ≠ y) (n2 : h ≠ i) (n3 : h ≠ y) (n4 : d ≠ i) (n5 : d ≠ y) (n6 : d ≠ h) (e1 : pg_tau o v h y d = pg_tau o v h y i) (e2 : pg_tau o v i h d = pg_tau o v i h y) : pg_tau o v i y d = !pg_tau o v i y h := by
  have sw : ∀ x z, x < m → z < m → x ≠ z → pg_inc a b v x = true → pg_inc a b v z = true → o v z x = !o v x z := fun x z hx hz hxz ix iz => by
    have := ht v x z hv hx hz hxz ix iz
    revert this
    cases o v x z <;> cases o v z x <;> decide
  unfold pg_tau at e1 e2 ⊢
  have r1 := sw i y hi hy n1 ii iy
  have r2 := sw i h hi hh (Ne.symm n2) ii ih
  have r3 := sw h y hh hy n3 ih iy
  have r4 := sw i d hi hd (Ne.symm n4) ii id'
  have r5 := sw h d hh hd (Ne.symm n6) ih id'
  have r6 := sw y d hy hd (Ne.symm n5) iy id'
  simp only [r1, r2, r3, r4, r5, r6] at e1 e2 ⊢
  revert e1 e2
  cases o v i y <;> cases o v i h <;> cases o v h y <;> cases o v i d <;> cases o v h d <;> cases o v y d <;> decide
theorem Wk_PT {L : Nat} {w g : Nat → Nat} (hab : ∀ e, e < m → a e < n ∧ b e < n ∧ a e ≠ b e) (hc : CS n m a b L w g) {X : Nat → Bool} {l : Nat} {u h : Nat → Nat} (hw : Wk a b (fun e => e < m ∧ X e = true ∧ ∀ p, p < L → g p ≠ e) (fun v => ∀ p, p < L → w p ≠ v) l u h) (hi : ∀ s t, s ≤ l → t ≤ l → u s = u t → s = t) : PT n m a b (fun e => isIn g e L) l u h := by
  refine ⟨hw.1, fun t ht => ⟨(hw.2.1 t ht).1.1, ?_, (hw.2.1 t ht).2⟩, fun t t1 t2 => ⟨(joins_lt hab (hw.2.1 t t2).1.1 (hw.2.1 t t2).2).1, fun e _ hD => ?_⟩, hi⟩
  · cases q : isIn g (h t) L with
    | false => exact q
    | true =>
      obtain ⟨p, p1, p2⟩ := (isIn_iff g _ L).mp q
      exact absurd p2 ((hw.2.1 t ht).1.2.2 p p1)
  · obtain ⟨p, p1, p2⟩ := (isIn_iff g e L).mp hD
    subst p2
    cases q : pg_inc a b (u t) (g p) with
    | false => rfl
    | true =>
      rcases (inc_t (hc.2.1 p p1).2.2 (CS_ne hc p1)).mp q with z | z
      · exact absurd z.symm (hw.2.2 t t1 t2 p p1)
      · exact absurd z.symm (hw.2.2 t t1 t2 _ (nxt_lt p1))
theorem arc_0 {L A d l : Nat} {w g u h : Nat → Nat} (hA : A < L) (hd : 1 ≤ d) (hl : 1 ≤ l) : arcW L A d l w u 0 = w A ∧ arcG L A d l g h 0 = g A ∧ arcG L A d l g h (prv (d + l) 0) = h 0 := by
  refine ⟨?_, ?_, ?_⟩
  · unfold arcW; rw [if_pos (Nat.zero_le d), wrp_0 hA]
  · unfold arcG; rw [if_pos (by omega), wrp_0 hA]
  · unfold prv arcG; rw [if_pos rfl, if_neg (by omega)]; congr 1; omega
theorem arc_mid {L A d l p : Nat} {w g u h : Nat → Nat} (hA : A < L) (hd : d < L) (p0 : 0 < p) (pd : p < d) : arcW L A d l w u p = w (wrp L (A + p)) ∧ arcG L A d l g h p = g (wrp L (A + p)) ∧ arcG L A d l g h (prv (d + l) p) = g (prv L (wrp L (A + p))) := by
  refine ⟨?_, ?_, ?_⟩
  · unfold arcW; rw [if_pos (by omega)]
  · unfold arcG; rw [if_pos pd]
  · have e : p = p - 1 + 1 := by omega
    unfold arcG
    rw [show prv (d + l) p = p - 1 from by unfold prv; rw [if_neg (by omega)], if_pos (by omega)]
    have := wrp_prv (L := L) (A := A) (p := p - 1) hA (by omega)
    rw [← e] at this
    rw [this]
theorem arc_end {L A d l : Nat} {w g u h : Nat → Nat} (hA : A < L) (hd1 : 1 ≤ d) (hd : d < L) (hl : 1 ≤ l) : arcW L A d l w u d = w (wrp L (A + d)) ∧ arcG L A d l g h d = h (l - 1) ∧ arcG L A d l g h (prv (d + l) d) = g (prv L (wrp L (A + d))) := by
  refine ⟨?_, ?_, ?_⟩
  · unfold arcW; rw [if_pos (Nat.le_refl d)]
  · unfold arcG; rw [if_neg (by omega)]; congr 1; omega
  · have e : d = d - 1 + 1 := by omega
    unfold arcG
    rw [show prv (d + l) d = d - 1 from by unfold prv; rw [if_neg (by omega)], if_pos (by omega)]
    have := wrp_prv (L := L) (A := A) (p := d - 1) hA (by omega)
    rw [← e] at this
    rw [this]
/-- off an arc and a path -/
theorem arc_offv {L A d l : Nat} {w u : Nat → Nat} {v : Nat} (h1 : ∀ p, p ≤ d → w (wrp L (A + p)) ≠ v) (h2 : ∀ t, 0 < t → t < l → u t ≠ v) : ∀ p, p < d + l → arcW L A d l w u p ≠ v := fun p hp => by
  unfold arcW
  by_cases c : p ≤ d
  · rw [if_pos c]; exact h1 p c
  · rw [if_neg c]; exact h2 _ (by omega) (by omega)
theorem arc_offe {L A d l : Nat} {g h : Nat → Nat} {e : Nat} (h1 : ∀ p, p < d → g (wrp L (A + p)) ≠ e) (h2 : ∀ t, t < l → h t ≠ e) : ∀ p, p < d + l → arcG L A d l g h p ≠ e := fun p hp => by
  unfold arcG
  by_cases c : p < d
  · rw [if_pos c]; exact h1 p c
  · rw [if_neg c]; exact h2 _ (by omega)
theorem arc_X {L A d l : Nat} {g h : Nat → Nat} {X : Nat → Bool} (hA : A < L) (hd : d < L) (hX : ∀ p, p < L → X (g p) = true) (h2 : ∀ t, t < l → X (h t) = true) : ∀ p, p < d + l → X (arcG L A d l g h p) = true := fun p hp => by
  unfold arcG
  by_cases c : p < d
  · rw [if_pos c]; exact hX _ (wrp_lt hA (by omega))
  · rw [if_neg c]; exact h2 _ (by omega)
theorem joins_inc {e u v : Nat} (h : pg_joins a b e u v) : pg_inc a b u e = true ∧ pg_inc a b v e = true := by
  unfold pg_inc
  rcases h with ⟨z1, z2⟩ | ⟨z1, z2⟩ <;> simp [z1, z2]
/-- beside a circle -/
abbrev offE (m : Nat) (X : Nat → Bool) (L : Nat) (g : Nat → Nat) (e : Nat) : Prop := e < m ∧ X e = true ∧ ∀ p, p < L → g p ≠ e
abbrev offV (L : Nat) (w : Nat → Nat) (v : Nat) : Prop := ∀ p, p < L → w p ≠ v
/-- the rest of the circle, off the circle of an arc and a path -/
theorem arc_back {X : Nat → Bool} {L : Nat} {w g : Nat → Nat} (hc : CS n m a b L w g) (hX : ∀ p, p < L → X (g p) = true) {A1 B1 B2 : Nat} (hA1 : A1 < L) (hB1 : B1 < L) (hB2 : B2 < L) (c2 : cyc3 B1 B2 A1) {l1 : Nat} {u1 h1 : Nat → Nat} (W1 : Wk a b (offE m X L g) (offV L w) l1 u1 h1) :
    Wk a b (offE m X (dst L A1 B1 + l1) (arcG L A1 (dst L A1 B1) l1 g h1)) (offV (dst L A1 B1 + l1) (arcW L A1 (dst L A1 B1) l1 w u1)) (dst L B2 A1) (fun t => w (wrp L (B2 + t))) (fun t => g (wrp L (B2 + t))) ∧ offV (dst L A1 B1 + l1) (arcW L A1 (dst L A1 B1) l1 w u1) (w B2) ∧ wrp L (B2 + (dst L B2 A1 - 1)) = prv L A1 ∧ 1 ≤ dst L B2 A1 ∧ wrp L (B2 + dst L B2 A1) = A1 := by
  have hne : A1 ≠ B1 := by unfold cyc3 at c2; omega
  have hne2 : B2 ≠ A1 := by unfold cyc3 at c2; omega
  obtain ⟨d1, d2, d3⟩ := dst_b hA1 hB1 hne
  obtain ⟨k1, k2, k3⟩ := dst_b hB2 hA1 hne2
  have winj := hc.2.2.1
  have ginj := hc.2.2.2
  refine ⟨Wk_arc hc hB2 k1 k2 (fun t ht => ?_) (fun t t0 ht => ?_), arc_offv (fun q hq' z => ?_) (fun t' t1' t2' z => W1.2.2 t' t1' t2' _ hB2 z.symm), ?_, k1, k3⟩
  · have hq := wrp_lt hB2 (show t < L by omega)
    refine ⟨(hc.2.1 _ hq).2.1, hX _ hq, arc_offe (fun q hq' z => ?_) (fun t' ht' z => ?_)⟩
    · exact arc_off hA1 hB1 hB2 c2 ht (show q ≤ dst L A1 B1 by omega) (ginj _ _ (wrp_lt hA1 (by omega)) hq z).symm
    · exact (W1.2.1 t' ht').1.2.2 _ hq z.symm
  · have hq := wrp_lt hB2 (show t < L by omega)
    refine arc_offv (fun q hq' z => ?_) (fun t' t1' t2' z => ?_)
    · exact arc_off hA1 hB1 hB2 c2 ht hq' (winj _ _ (wrp_lt hA1 (by omega)) hq z).symm
    · exact W1.2.2 t' t1' t2' _ hq z.symm
  · have := arc_off hA1 hB1 hB2 c2 (t := 0) (show 0 < dst L B2 A1 by omega) hq'
    rw [wrp_0 hB2] at this
    exact this (winj _ _ (wrp_lt hA1 (by omega)) hB2 z).symm
  · have := wrp_prv (L := L) (A := B2) (p := dst L B2 A1 - 1) hB2 (by omega)
    rw [show dst L B2 A1 - 1 + 1 = dst L B2 A1 from by omega, k3] at this
    exact this.symm
/-- the way back to the other end, off the circle of the other arc and a path -/
theorem arc_fwd {X : Nat → Bool} {L : Nat} {w g : Nat → Nat} (hc : CS n m a b L w g) (hX : ∀ p, p < L → X (g p) = true) {p q r : Nat} (hp : p < L) (hq : q < L) (hr : r < L) (c1 : cyc3 p q r) {l2 : Nat} {u2 h2 : Nat → Nat} (W2r : Wk a b (offE m X L g) (offV L w) l2 u2 h2) :
    Wk a b (offE m X (dst L r p + l2) (arcG L r (dst L r p) l2 g h2)) (offV (dst L r p + l2) (arcW L r (dst L r p) l2 w u2)) (dst L p q) (fun t => w (wrp L (p + (dst L p q - t)))) (fun t => g (wrp L (p + (dst L p q - 1 - t)))) ∧ offV (dst L r p + l2) (arcW L r (dst L r p) l2 w u2) (w q) ∧ 1 ≤ dst L p q ∧ wrp L (p + (dst L p q - 0)) = q ∧ wrp L (p + (dst L p q - dst L p q)) = p ∧ wrp L (p + (dst L p q - 1 - (dst L p q - 1))) = p := by
  have npq : p ≠ q := by unfold cyc3 at c1; omega
  have nrp : r ≠ p := by unfold cyc3 at c1; omega
  have winj := hc.2.2.1
  have ginj := hc.2.2.2
  obtain ⟨d1, d2, d3⟩ := dst_b hp hq npq
  obtain ⟨k1, k2, k3⟩ := dst_b hr hp nrp
  have Wa : Wk a b (offE m X (dst L r p + l2) (arcG L r (dst L r p) l2 g h2)) (offV (dst L r p + l2) (arcW L r (dst L r p) l2 w u2)) (dst L p q) (fun t => w (wrp L (p + t))) (fun t => g (wrp L (p + t))) := by
    refine Wk_arc hc hp d1 d2 (fun t ht => ?_) (fun t t0 ht => ?_)
    · have hx := wrp_lt hp (show t < L by omega)
      refine ⟨(hc.2.1 _ hx).2.1, hX _ hx, arc_offe (fun q' hq' z => ?_) (fun t' ht' z => ?_)⟩
      · exact arc_off3 hp hq hr c1 ht hq' (ginj _ _ (wrp_lt hr (by omega)) hx z).symm
      · exact (W2r.2.1 t' ht').1.2.2 _ hx z.symm
    · have hx := wrp_lt hp (show t < L by omega)
      refine arc_offv (fun q' hq' z => ?_) (fun t' t1' t2' z => ?_)
      · exact arc_off2 hp hq hr c1 t0 (show t ≤ dst L p q by omega) hq' (winj _ _ (wrp_lt hr (by omega)) hx z).symm
      · exact W2r.2.2 t' t1' t2' _ hx z.symm
  refine ⟨Wk_rev Wa, arc_offv (fun q' hq' z => ?_) (fun t' t1' t2' z => W2r.2.2 t' t1' t2' _ hq z.symm), d1, by rw [Nat.sub_zero, d3], by rw [Nat.sub_self, wrp_0 hp], by rw [Nat.sub_self, wrp_0 hp]⟩
  have := arc_off2 hp hq hr c1 (t := dst L p q) d1 (Nat.le_refl _) hq'
  rw [d3] at this
  exact this (winj _ _ (wrp_lt hr (by omega)) hq z).symm
theorem itl_side {o : Nat → Nat → Nat → Bool} {X : Nat → Bool} (hab : ∀ e, e < m → a e < n ∧ b e < n ∧ a e ≠ b e) (hI : Flt n m a b o X) {L : Nat} {w g : Nat → Nat} (hc : CS n m a b L w g) (hX : ∀ p, p < L → X (g p) = true) {A1 B1 A2 B2 : Nat} (hA1 : A1 < L) (hB1 : B1 < L) (hA2 : A2 < L) (hB2 : B2 < L) (c1 : cyc3 A1 A2 B1) (c2 : cyc3 B1 B2 A1)
    {l1 : Nat} {u1 h1 : Nat → Nat} (W1 : Wk a b (offE m X L g) (offV L w) l1 u1 h1) (i1 : ∀ s t, s ≤ l1 → t ≤ l1 → u1 s = u1 t → s = t) (s1 : u1 0 = w A1) (t1 : u1 l1 = w B1)
    {l2 : Nat} {u2 h2 : Nat → Nat} (W2 : Wk a b (fun e => offE m X L g e ∧ ∀ t, t < l1 → h1 t ≠ e) (fun v => offV L w v ∧ ∀ t, t ≤ l1 → u1 t ≠ v) l2 u2 h2) (s2 : u2 0 = w A2) (t2 : u2 l2 = w B2) :
    pg_tau o (w A2) (g (prv L A2)) (g A2) (h2 0) = !pg_tau o (w A1) (g (prv L A1)) (g A1) (h1 0) := by
  have hne : A1 ≠ B1 := by unfold cyc3 at c1; omega
  have hne2 : B2 ≠ A1 := by unfold cyc3 at c2; omega
  obtain ⟨d1, d2, d3⟩ := dst_b hA1 hB1 hne
  obtain ⟨k1, k2, k3⟩ := dst_b hB2 hA1 hne2
  have hP := Wk_PT hab hc W1 i1
  have hC1 := CS_arc hc (D := fun e => isIn g e L) (fun p hp => (isIn_iff g _ L).mpr ⟨p, hp, rfl⟩) hA1 hB1 hne hP s1 t1
  have hX1 := arc_X (X := X) (l := l1) (h := h1) hA1 d2 hX (fun t ht => (W1.2.1 t ht).1.2.1)
  obtain ⟨p, p0, pd, pe⟩ := cyc3_at hA1 hB1 hA2 c1
  have winj := hc.2.2.1
  have ginj := hc.2.2.2
  have W2' : Wk a b (offE m X (dst L A1 B1 + l1) (arcG L A1 (dst L A1 B1) l1 g h1)) (offV (dst L A1 B1 + l1) (arcW L A1 (dst L A1 B1) l1 w u1)) l2 u2 h2 := Wk_mono W2 (fun e he => ⟨he.1.1, he.1.2.1, arc_offe (fun q hq => he.1.2.2 _ (wrp_lt hA1 (by omega))) he.2⟩) (fun v hv => arc_offv (fun q hq => hv.1 _ (wrp_lt hA1 (by omega))) (fun t _ tl => hv.2 t (by omega)))
  obtain ⟨Wa, offB, hlast, _, _⟩ := arc_back hc hX hA1 hB1 hB2 c2 W1
  have hW := Wk_cat W2' Wa (by show u2 l2 = w (wrp L (B2 + 0)); rw [wrp_0 hB2]; exact t2) (by rw [t2]; exact offB)
  obtain ⟨m1, m2, m3⟩ := arc_mid (l := l1) (w := w) (g := g) (u := u1) (h := h1) hA1 d2 p0 pd
  obtain ⟨z1, z2, z3⟩ := arc_0 (l := l1) (w := w) (g := g) (u := u1) (h := h1) hA1 d1 W1.1
  have hs := side_walk hab hI hC1 hX1 hW (A := p) (B := 0) (by omega) (by omega) (by rw [cU_0, s2, m1, pe]) (by rw [cU_e _ _ k1, k3, z1])
  rw [m1, m2, m3, z1, z2, z3, pe, cH_0 _ _ W2.1, cH_e _ _ k1] at hs
  rw [hlast] at hs
  rw [hs]
  have hpl := prv_lt hA1
  have q1 := hc.2.1 _ hA1
  have q2 := hc.2.1 _ hpl
  have w1 := (W1.2.1 0 W1.1)
  have i0 : pg_inc a b (w A1) (h1 0) = true := by
    have := (joins_inc w1.2).1
    rw [s1] at this; exact this
  exact tau_flip hI.1 q1.1 q2.2.1 q1.2.1 w1.1.1 ((CS_at hc hA1 hpl).mpr (Or.inr rfl)) ((CS_at hc hA1 hA1).mpr (Or.inl rfl)) i0 (fun z => prv_ne hA1 hc.1 (ginj _ _ hpl hA1 z)) (fun z => w1.1.2.2 _ hpl z.symm) (fun z => w1.1.2.2 _ hA1 z.symm)
theorem thr_side {o : Nat → Nat → Nat → Bool} {X : Nat → Bool} (hab : ∀ e, e < m → a e < n ∧ b e < n ∧ a e ≠ b e) (hI : Flt n m a b o X) {L : Nat} {w g : Nat → Nat} (hc : CS n m a b L w g) (hX : ∀ p, p < L → X (g p) = true) {p q r : Nat} (hp : p < L) (hq : q < L) (hr : r < L) (c1 : cyc3 p q r) {h d : Nat}
    {l1 : Nat} {u1 h1 : Nat → Nat} (W1 : Wk a b (offE m X L g) (offV L w) l1 u1 h1) (i1 : ∀ s t, s ≤ l1 → t ≤ l1 → u1 s = u1 t → s = t) (s1 : u1 0 = w p) (t1 : u1 l1 = w q) (f1 : h1 0 = h)
    {l2 : Nat} {u2 h2 : Nat → Nat} (W2 : Wk a b (offE m X L g) (offV L w) l2 u2 h2) (i2 : ∀ s t, s ≤ l2 → t ≤ l2 → u2 s = u2 t → s = t) (s2 : u2 0 = w p) (t2 : u2 l2 = w r) (f2 : h2 0 = h)
    {l3 : Nat} {u3 h3 : Nat → Nat} (W3 : Wk a b (fun e => offE m X L g e ∧ (∀ t, t < l1 → h1 t ≠ e) ∧ ∀ t, t < l2 → h2 t ≠ e) (fun v => offV L w v ∧ (∀ t, t ≤ l1 → u1 t ≠ v) ∧ ∀ t, t ≤ l2 → u2 t ≠ v) l3 u3 h3) (s3 : u3 0 = w p) (t3 : u3 l3 = w q) (f3 : h3 0 = d)
    {l4 : Nat} {u4 h4 : Nat → Nat} (W4 : Wk a b (fun e => offE m X L g e ∧ (∀ t, t < l1 → h1 t ≠ e) ∧ ∀ t, t < l2 → h2 t ≠ e) (fun v => offV L w v ∧ (∀ t, t ≤ l1 → u1 t ≠ v) ∧ ∀ t, t ≤ l2 → u2 t ≠ v) l4 u4 h4) (s4 : u4 0 = w p) (t4 : u4 l4 = w r) (f4 : h4 0 = d) :
    pg_tau o (w p) (g (prv L p)) (g p) d = !pg_tau o (w p) (g (prv L p)) (g p) h := by
  have npq : p ≠ q := by unfold cyc3 at c1; omega
  have nrp : r ≠ p := by unfold cyc3 at c1; omega
  have winj := hc.2.2.1
  have ginj := hc.2.2.2
  obtain ⟨d1, d2, d3⟩ := dst_b hp hq npq
  obtain ⟨k1, k2, k3⟩ := dst_b hr hp nrp
  have cqr : cyc3 q r p := cyc3_rot c1
  have e1 : pg_tau o (w p) h (g p) d = pg_tau o (w p) h (g p) (g (prv L p)) := by
    have hP := Wk_PT hab hc W1 i1
    have hC1 := CS_arc hc (D := fun e => isIn g e L) (fun p hp => (isIn_iff g _ L).mpr ⟨p, hp, rfl⟩) hp hq npq hP s1 t1
    have hX1 := arc_X (X := X) (l := l1) (h := h1) hp d2 hX (fun t ht => (W1.2.1 t ht).1.2.1)
    have W4' : Wk a b (offE m X (dst L p q + l1) (arcG L p (dst L p q) l1 g h1)) (offV (dst L p q + l1) (arcW L p (dst L p q) l1 w u1)) l4 u4 h4 := Wk_mono W4 (fun e he => ⟨he.1.1, he.1.2.1, arc_offe (fun q' hq' => he.1.2.2 _ (wrp_lt hp (by omega))) he.2.1⟩) (fun v hv => arc_offv (fun q' hq' => hv.1 _ (wrp_lt hp (by omega))) (fun t _ tl => hv.2.1 t (by omega)))
    obtain ⟨Wa, offB, hlast, _, _⟩ := arc_back hc hX hp hq hr cqr W1
    have hW := Wk_cat W4' Wa (by show u4 l4 = w (wrp L (r + 0)); rw [wrp_0 hr]; exact t4) (by rw [t4]; exact offB)
    obtain ⟨z1, z2, z3⟩ := arc_0 (l := l1) (w := w) (g := g) (u := u1) (h := h1) hp d1 W1.1
    have hs := side_walk hab hI hC1 hX1 hW (A := 0) (B := 0) (by omega) (by omega) (by rw [cU_0, s4, z1]) (by rw [cU_e _ _ k1, k3, z1])
    rw [z1, z2, z3, cH_0 _ _ W4.1, cH_e _ _ k1, f1, f4] at hs
    rw [hlast] at hs
    exact hs
  have e2 : pg_tau o (w p) (g (prv L p)) h d = pg_tau o (w p) (g (prv L p)) h (g p) := by
    have W2r := Wk_rev W2
    have i2r : ∀ s t, s ≤ l2 → t ≤ l2 → u2 (l2 - s) = u2 (l2 - t) → s = t := fun s t hs ht z => by
      have := i2 _ _ (Nat.sub_le l2 s) (Nat.sub_le l2 t) z
      omega
    have hP := Wk_PT hab hc W2r i2r
    have hC1 := CS_arc hc (D := fun e => isIn g e L) (fun p hp => (isIn_iff g _ L).mpr ⟨p, hp, rfl⟩) hr hp nrp hP (by show u2 (l2 - 0) = w r; rw [Nat.sub_zero]; exact t2) (by show u2 (l2 - l2) = w p; rw [Nat.sub_self]; exact s2)
    have hX1 := arc_X (X := X) (l := l2) (h := fun t => h2 (l2 - 1 - t)) hr k2 hX (fun t ht => (W2r.2.1 t ht).1.2.1)
    have W3' : Wk a b (offE m X (dst L r p + l2) (arcG L r (dst L r p) l2 g (fun t => h2 (l2 - 1 - t)))) (offV (dst L r p + l2) (arcW L r (dst L r p) l2 w (fun t => u2 (l2 - t)))) l3 u3 h3 := Wk_mono W3 (fun e he => ⟨he.1.1, he.1.2.1, arc_offe (fun q' hq' => he.1.2.2 _ (wrp_lt hr (by omega))) (fun t ht => he.2.2 _ (by omega))⟩) (fun v hv => arc_offv (fun q' hq' => hv.1 _ (wrp_lt hr (by omega))) (fun t _ tl => hv.2.2 _ (by omega)))
    obtain ⟨Wa, offB, _, y1, y2, y3⟩ := arc_fwd hc hX hp hq hr c1 W2r
    have hW := Wk_cat W3' Wa (by show u3 l3 = w (wrp L (p + (dst L p q - 0))); rw [y1]; exact t3) (by rw [t3]; exact offB)
    obtain ⟨z1, z2, z3⟩ := arc_end (l := l2) (w := w) (g := g) (u := fun t => u2 (l2 - t)) (h := fun t => h2 (l2 - 1 - t)) hr k1 k2 W2.1
    have hl2 := W2.1
    have hs := side_walk hab hI hC1 hX1 hW (A := dst L r p) (B := dst L r p) (by omega) (by omega) (by rw [cU_0, s3, z1, k3]) (by rw [cU_e _ _ d1, z1, k3, y2])
    rw [z1, z2, z3, cH_0 _ _ W3.1, cH_e _ _ d1, k3, f3, y3] at hs
    have e3 : h2 (l2 - 1 - (l2 - 1)) = h := by rw [Nat.sub_self]; exact f2
    rw [e3] at hs
    exact hs
  have hpl := prv_lt hp
  have q1 := hc.2.1 _ hp
  have q2 := hc.2.1 _ hpl
  have w1 := W1.2.1 0 W1.1
  have w3 := W3.2.1 0 W3.1
  rw [f1] at w1
  rw [f3] at w3
  have ih : pg_inc a b (w p) h = true := by
    have := (joins_inc w1.2).1
    rw [s1] at this; exact this
  have id' : pg_inc a b (w p) d = true := by
    have := (joins_inc w3.2).1
    rw [s3] at this; exact this
  exact tau_four hI.1 q1.1 q2.2.1 q1.2.1 w1.1.1 w3.1.1.1 ((CS_at hc hp hpl).mpr (Or.inr rfl)) ((CS_at hc hp hp).mpr (Or.inl rfl)) ih id' (fun z => prv_ne hp hc.1 (ginj _ _ hpl hp z)) (fun z => w1.1.2.2 _ hpl z.symm) (fun z => w1.1.2.2 _ hp z.symm) (fun z => w3.1.1.2.2 _ hpl z.symm) (fun z => w3.1.1.2.2 _ hp z.symm) (fun z => w3.1.2.1 0 W1.1 (by rw [f1]; exact z.symm)) e1 e2
end WS
