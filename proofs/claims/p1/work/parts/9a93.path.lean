/-! a path through the fragment -/
theorem cn_mono {f g : Nat → Bool} : ∀ n, (∀ i, i < n → f i = true → g i = true) → cn n f ≤ cn n g
  | 0, _ => Nat.le_refl _
  | n + 1, h => by
    have ih := cn_mono n (fun i hi => h i (by omega))
    rw [cn_s, cn_s]
    have h1 := h n (by omega)
    cases q : f n with
    | false => exact Nat.le_trans (Nat.le_of_eq rfl) (Nat.le_trans ih (Nat.le_add_right _ _))
    | true => rw [h1 q]; exact Nat.add_le_add_right ih _
section PA
variable {n k : Nat} {F S : Nat → Nat} {x dV : Int32}
/-- e leads out of R to w -/
def outR (F S : Nat → Nat) (cE R : Int32) (e w : Nat) : Prop := bt cE e = true ∧ ((F e = w ∧ bt R (S e) = true) ∨ (S e = w ∧ bt R (F e) = true)) ∧ bt R w = false
theorem s1_ok (hn : n ≤ 10) (hk : k ≤ 18) (hFS : ∀ e, e < k → F e < n ∧ S e < n ∧ F e ≠ S e) (cE R : Int32) (cb : Nat → Nat) : ∀ m, m ≤ k →
    (∀ w, bt (fo (dr_s1 F S cE R) m (R, cb)).1 w = true ↔ bt R w = true ∨ ∃ e, e < m ∧ outR F S cE R e w) ∧
    (∀ w, (∃ e, e < m ∧ outR F S cE R e w) → outR F S cE R ((fo (dr_s1 F S cE R) m (R, cb)).2 w) w ∧ (fo (dr_s1 F S cE R) m (R, cb)).2 w < m) ∧
    (∀ w, (¬ ∃ e, e < m ∧ outR F S cE R e w) → (fo (dr_s1 F S cE R) m (R, cb)).2 w = cb w)
  | 0, _ => ⟨fun w => ⟨Or.inl, fun z => z.elim id (fun ⟨e, q, _⟩ => absurd q (Nat.not_lt_zero e))⟩, fun w ⟨e, q, _⟩ => absurd q (Nat.not_lt_zero e), fun w _ => rfl⟩
  | m + 1, hm => by
    obtain ⟨i1, i2, i3⟩ := s1_ok hn hk hFS cE R cb m (by omega)
    obtain ⟨f1, f2, f3⟩ := hFS m (by omega)
    rw [fo_s]
    generalize fo (dr_s1 F S cE R) m (R, cb) = s at i1 i2 i3 ⊢
    unfold dr_s1
    rw [ps_has_bt cE (by omega), betw_cr R (by omega) (by omega)]
    by_cases c : bt cE m = true ∧ cr F S R m = true
    · rw [if_pos c]
      -- the far end
      have hfar : outR F S cE R m (dr_far F S R m) ∧ dr_far F S R m < n ∧ ∀ w, outR F S cE R m w → w = dr_far F S R m := by
        have hc := c.2
        unfold cr at hc
        unfold dr_far
        rw [ps_has_bt R (by omega)]
        cases h1 : bt R (F m) with
        | true =>
          rw [if_pos rfl]
          have h2 : bt R (S m) = false := by rw [h1] at hc; revert hc; cases bt R (S m) <;> decide
          refine ⟨⟨c.1, Or.inr ⟨rfl, h1⟩, h2⟩, f2, fun w hw => ?_⟩
          rcases hw.2.1 with z | z
          · have := hw.2.2; rw [← z.1, h1] at this; cases this
          · exact z.1.symm
        | false =>
          rw [if_neg (by decide)]
          have h2 : bt R (S m) = true := by rw [h1] at hc; revert hc; cases bt R (S m) <;> decide
          refine ⟨⟨c.1, Or.inl ⟨rfl, h2⟩, h1⟩, f1, fun w hw => ?_⟩
          rcases hw.2.1 with z | z
          · exact z.1.symm
          · have := hw.2.2; rw [← z.1, h2] at this; cases this
      generalize dr_far F S R m = fr at hfar ⊢
      obtain ⟨g1, g2, g3⟩ := hfar
      refine ⟨fun w => ?_, fun w hw => ?_, fun w hw => ?_⟩
      · show bt (s.1 ||| (1 <<< (nI fr &&& 31))) w = true ↔ _
        rw [or_bt _ (by omega), i1]
        constructor
        · rintro ((z | ⟨e, z1, z2⟩) | z)
          · exact Or.inl z
          · exact Or.inr ⟨e, by omega, z2⟩
          · exact Or.inr ⟨m, by omega, by rw [z]; exact g1⟩
        · rintro (z | ⟨e, z1, z2⟩)
          · exact Or.inl (Or.inl z)
          · by_cases y : e = m
            · rw [y] at z2; exact Or.inr (g3 w z2)
            · exact Or.inl (Or.inr ⟨e, by omega, z2⟩)
      · show outR F S cE R (va_up s.2 fr m w) w ∧ va_up s.2 fr m w < m + 1
        unfold va_up
        by_cases y : w = fr
        · rw [if_pos y, y]; exact ⟨g1, by omega⟩
        · rw [if_neg y]
          obtain ⟨e, z1, z2⟩ := hw
          by_cases y2 : e = m
          · rw [y2] at z2; exact absurd (g3 w z2) y
          · obtain ⟨a1, a2⟩ := i2 w ⟨e, by omega, z2⟩
            exact ⟨a1, by omega⟩
      · show va_up s.2 fr m w = cb w
        unfold va_up
        by_cases y : w = fr
        · exact absurd ⟨m, by omega, by rw [y]; exact g1⟩ hw
        · rw [if_neg y]
          exact i3 w (fun ⟨e, z1, z2⟩ => hw ⟨e, by omega, z2⟩)
    · rw [if_neg c]
      have no : ∀ w, ¬ outR F S cE R m w := fun w hw => by
        refine c ⟨hw.1, ?_⟩
        unfold cr
        rcases hw.2.1 with z | z
        · have := hw.2.2; rw [← z.1] at this; rw [this, z.2]; rfl
        · have := hw.2.2; rw [← z.1] at this; rw [this, z.2]; rfl
      have eqv : ∀ w, (∃ e, e < m + 1 ∧ outR F S cE R e w) ↔ ∃ e, e < m ∧ outR F S cE R e w := fun w => by
        constructor
        · rintro ⟨e, z1, z2⟩
          by_cases y : e = m
          · rw [y] at z2; exact absurd z2 (no w)
          · exact ⟨e, by omega, z2⟩
        · rintro ⟨e, z1, z2⟩; exact ⟨e, by omega, z2⟩
      refine ⟨fun w => by rw [eqv w]; exact i1 w, fun w hw => ?_, fun w hw => i3 w (fun z => hw ((eqv w).mpr z))⟩
      obtain ⟨a1, a2⟩ := i2 w ((eqv w).mp hw)
      exact ⟨a1, by omega⟩
def jFS (F S : Nat → Nat) (e u v : Nat) : Prop := (F e = u ∧ S e = v) ∨ (F e = v ∧ S e = u)
/-- in the midst of spreading -/
def pI (n k : Nat) (F S : Nat → Nat) (cE go : Int32) (t0 : Nat) (s : Nat × Int32 × (Nat → Nat)) : Prop :=
  1 ≤ s.1 ∧ s.1 ≤ 10 ∧ s.1 ≤ cn n (bt s.2.1) ∧ bt s.2.1 t0 = true ∧ (∀ j, s.2.2 j < 18) ∧
  ∃ rk : Nat → Nat, rk t0 = 0 ∧ (∀ v, bt s.2.1 v = true → v < n ∧ rk v < s.1 ∧ (v ≠ t0 → s.2.2 v < k ∧ bt cE (s.2.2 v) = true ∧ ∃ u, bt s.2.1 u = true ∧ rk u < rk v ∧ jFS F S (s.2.2 v) v u)) ∧ ∀ u, bt s.2.1 u = true → bt go u = true → rk u + 1 = s.1
theorem p1_step (hn : n ≤ 10) (hk : k ≤ 18) (hFS : ∀ e, e < k → F e < n ∧ S e < n ∧ F e ≠ S e) {cE go : Int32} {t0 : Nat} (hcE : ∀ e, bt cE e = true → e < k) (hgrow : ∀ R : Int32, bt R t0 = true → (∀ v, bt R v = true → bt go v = false) → ∃ e w, e < k ∧ outR F S cE R e w) {s : Nat × Int32 × (Nat → Nat)} (h : pI n k F S cE go t0 s) (hd : dr_p1D go s = false) : pI n k F S cE go t0 (dr_p1S k F S cE s) ∧ 10 - (dr_p1S k F S cE s).1 < 10 - s.1 := by
  obtain ⟨h1, h2, h3, h4, h5, rk, r1, r2, r3⟩ := h
  unfold dr_p1D at hd
  rw [Bool.or_eq_false_iff, Bool.not_eq_false', decide_eq_true_iff] at hd
  have c1 := of_decide_eq_false hd.1
  have hno : ∀ v, bt s.2.1 v = true → bt go v = false := fun v hv => by
    have := b_zero.mp hd.2 v (bt_lt hv)
    rw [b_and, hv, Bool.true_and] at this; exact this
  obtain ⟨a1, a2, a3⟩ := s1_ok hn hk hFS cE s.2.1 s.2.2 k (Nat.le_refl k)
  have hlt : ∀ w e, outR F S cE s.2.1 e w → w < n := fun w e he => by
    have := hFS e (hcE e he.1)
    rcases he.2.1 with z | z <;> omega
  unfold dr_p1S
  generalize fo (dr_s1 F S cE s.2.1) k (s.2.1, s.2.2) = q at a1 a2 a3 ⊢
  obtain ⟨rk', rA, rB⟩ : ∃ rk' : Nat → Nat, (∀ v, bt s.2.1 v = true → rk' v = rk v) ∧ ∀ v, ¬ bt s.2.1 v = true → rk' v = s.1 := ⟨fun v => cond (bt s.2.1 v) (rk v) s.1, fun v h => by show cond _ _ _ = _; rw [h]; rfl, fun v h => by rw [Bool.not_eq_true] at h; show cond _ _ _ = _; rw [h]; rfl⟩
  refine ⟨⟨by show 1 ≤ s.1 + 1; omega, by show s.1 + 1 ≤ 10; omega, ?_, (a1 t0).mpr (Or.inl h4), fun j => ?_, rk', ?_, fun v hv => ?_, fun v hv hg => ?_⟩, by show 10 - (s.1 + 1) < 10 - s.1; omega⟩
  · show s.1 + 1 ≤ cn n (bt q.1)
    obtain ⟨e, w, he, hw⟩ := hgrow s.2.1 h4 hno
    have hwn := hlt w e hw
    have := cn_more (P := bt s.2.1) hwn hw.2.2
    have mono : cn n (fun u => bt s.2.1 u || decide (u = w)) ≤ cn n (bt q.1) := cn_mono n (fun u _ hu => by
      rw [Bool.or_eq_true, decide_eq_true_iff] at hu
      refine (a1 u).mpr ?_
      rcases hu with z | z
      · exact Or.inl z
      · exact Or.inr ⟨e, he, by rw [z]; exact hw⟩)
    omega
  · show q.2 j < 18
    by_cases c : ∃ e, e < k ∧ outR F S cE s.2.1 e j
    · have := (a2 j c).2; omega
    · rw [a3 j c]; exact h5 j
  · rw [rA _ h4]; exact r1
  · have hv' := (a1 v).mp hv
    by_cases c : bt s.2.1 v = true
    · obtain ⟨b1, b2, b3⟩ := r2 v c
      refine ⟨b1, ?_, fun hne => ?_⟩
      · show rk' v < s.1 + 1
        rw [rA v c]; omega
      · obtain ⟨d1, d2, u, d3, d4, d5⟩ := b3 hne
        have hcb : q.2 v = s.2.2 v := a3 v (fun ⟨e, _, z⟩ => by have := z.2.2; rw [c] at this; cases this)
        show q.2 v < k ∧ bt cE (q.2 v) = true ∧ ∃ u, bt q.1 u = true ∧ rk' u < rk' v ∧ jFS F S (q.2 v) v u
        rw [hcb, rA v c]
        exact ⟨d1, d2, u, (a1 u).mpr (Or.inl d3), by rw [rA u d3]; exact d4, d5⟩
    · rcases hv' with z | ⟨e, z1, z2⟩
      · exact absurd z c
      · have hvn := hlt v e z2
        obtain ⟨b1, b2⟩ := a2 v ⟨e, z1, z2⟩
        refine ⟨hvn, ?_, fun _ => ⟨b2, b1.1, ?_⟩⟩
        · show rk' v < s.1 + 1
          rw [rB v c]; omega
        · show ∃ u, bt q.1 u = true ∧ rk' u < rk' v ∧ jFS F S (q.2 v) v u
          rw [rB v c]
          rcases b1.2.1 with y | y
          · exact ⟨S (q.2 v), (a1 _).mpr (Or.inl y.2), by rw [rA _ y.2]; exact (r2 _ y.2).2.1, Or.inl ⟨y.1, rfl⟩⟩
          · exact ⟨F (q.2 v), (a1 _).mpr (Or.inl y.2), by rw [rA _ y.2]; exact (r2 _ y.2).2.1, Or.inr ⟨rfl, y.1⟩⟩
  · have hc : ¬ bt s.2.1 v = true := fun z => by rw [hno v z] at hg; cases hg
    show rk' v + 1 = s.1 + 1
    rw [rB v hc]
/-- spreading reaches a goal -/
theorem p1_ok (hn : n ≤ 10) (hk : k ≤ 18) (hFS : ∀ e, e < k → F e < n ∧ S e < n ∧ F e ≠ S e) {cE cC : Int32} {cb : Nat → Nat} (hcb : ∀ j, cb j < 18) (hcE : ∀ e, bt cE e = true → e < k) (hC : ¬ cC = 0) (hCn : ∀ v, bt cC v = true → v < n) (hgoal : ∃ v, bt (dr_go cC) v = true) (hgrow : ∀ R : Int32, bt R (ps_least cC) = true → (∀ v, bt R v = true → bt (dr_go cC) v = false) → ∃ e w, e < k ∧ outR F S cE R e w) :
    pI n k F S cE (dr_go cC) (ps_least cC) (dr_p1 k F S cE cC cb) ∧ ∃ v, bt (dr_p1 k F S cE cC cb).2.1 v = true ∧ bt (dr_go cC) v = true := by
  obtain ⟨l1, l2, _⟩ := ps_least_ok hC
  have hl := hCn _ l2
  generalize ht : ps_least cC = t0 at l1 l2 hl hgrow ⊢
  have one : ∀ v, bt ((1 : Int32) <<< (nI t0 &&& 31)) v = true ↔ v = t0 := fun f => by
    rcases Nat.lt_or_ge f 32 with hi | hi
    · rw [b_one t0 (by omega) f hi, decide_eq_true_iff]
    · rw [b_big hi]; exact ⟨fun z => (by cases z), fun z => by omega⟩
  have hgn : ∀ v, bt (dr_go cC) v = true → bt cC v = true ∧ v ≠ t0 := fun v hv => by
    unfold dr_go at hv
    rw [ht] at hv
    obtain ⟨q1, q2⟩ := (not_bt _ _ _).mp hv
    refine ⟨q1, fun z => ?_⟩
    rw [(one v).mpr z] at q2; cases q2
  have h0 : pI n k F S cE (dr_go cC) t0 (1, (1 : Int32) <<< (nI t0 &&& 31), cb) := by
    refine ⟨Nat.le_refl 1, by show 1 ≤ 10; omega, ?_, (one t0).mpr rfl, hcb, fun _ => 0, rfl, fun v hv => ?_, fun v hv hg => ?_⟩
    · have := cn_more (n := n) (a := t0) (P := fun _ => false) hl rfl
      rw [cn_false] at this
      have e1 : cn n (bt ((1 : Int32) <<< (nI t0 &&& 31))) = cn n (fun v => false || decide (v = t0)) := cn_congr (fun i _ => by rw [Bool.eq_iff_iff, one, Bool.false_or, decide_eq_true_iff])
      show 1 ≤ cn n (bt ((1 : Int32) <<< (nI t0 &&& 31)))
      rw [e1, this]
      omega
    · have := (one v).mp hv
      rw [this]
      exact ⟨hl, Nat.zero_lt_one, fun z => absurd rfl z⟩
    · exact absurd ((one v).mp hv) (hgn v hg).2
  have hw := wl_meas (dn := dr_p1D (dr_go cC)) (st := dr_p1S k F S cE) (pI n k F S cE (dr_go cC) t0) (fun s => 10 - s.1) (fun s hs hd => p1_step hn hk hFS hcE hgrow hs hd) 10 (1, (1 : Int32) <<< (nI t0 &&& 31), cb) h0 (by show 10 - 1 ≤ 10; omega)
  have e0 : dr_p1 k F S cE cC cb = wl (dr_p1D (dr_go cC)) (dr_p1S k F S cE) 10 (1, (1 : Int32) <<< (nI t0 &&& 31), cb) := by unfold dr_p1; rw [ht]
  rw [← e0] at hw
  generalize dr_p1 k F S cE cC cb = s at hw ⊢
  refine ⟨hw.2, ?_⟩
  have hd := hw.1
  unfold dr_p1D at hd
  rw [Bool.or_eq_true, decide_eq_true_iff, Bool.not_eq_true', decide_eq_false_iff_not] at hd
  rcases hd with z | z
  · obtain ⟨g, hg⟩ := hgoal
    have hgn' := hCn g (hgn g hg).1
    obtain ⟨_, _, h3, _⟩ := hw.2
    refine ⟨g, ?_, hg⟩
    cases q : bt s.2.1 g with
    | true => rfl
    | false =>
      exfalso
      have h5 := cn_more (P := bt s.2.1) hgn' q
      have h6 := cn_le n (fun u => bt s.2.1 u || decide (u = g))
      omega
  · obtain ⟨v, _, hv⟩ := b_ne z
    rw [b_and, Bool.and_eq_true] at hv
    exact ⟨v, hv.1, hv.2⟩
end PA
