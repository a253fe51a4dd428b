/-! the circles of the edges outside the forest, as circles: edge in, edge out -/
theorem anc_lin {P : Nat → Nat} {a b d : Nat} (h1 : anc P a d) (h2 : anc P b d) : anc P a b ∨ anc P b a := by
  obtain ⟨i, hi⟩ := h1
  obtain ⟨j, hj⟩ := h2
  rcases Nat.le_total i j with g | g
  · obtain ⟨c, rfl⟩ : ∃ c, j = c + i := ⟨j - i, by omega⟩
    rw [ups_add, hi] at hj
    exact Or.inr ⟨c, hj⟩
  · obtain ⟨c, rfl⟩ : ∃ c, i = c + j := ⟨i - j, by omega⟩
    rw [ups_add, hj] at hi
    exact Or.inl ⟨c, hi⟩
def chf (Pr : Nat → Nat) : Nat → Nat → Nat → Nat
  | 0, d, _ => d
  | f + 1, d, z => if Pr d = z + 1 then d else chf Pr f (Pr d - 1) z
/-- the child of z on the way to d -/
def chd (Dp : Nat → Int32) (Pr : Nat → Nat) (z d : Nat) : Nat := chf Pr (dep Dp d) d z
section BC
variable {n k : Nat} {E : Nat → Nat} {x : Int32} {Dp : Nat → Int32} {Pr Yb : Nat → Nat}
theorem below_iff (hn : n ≤ 10) (h : Forest n k E x Dp Pr Yb) {b t : Nat} (hb : b < n) (ht : t < n) : pm_below Pr b t = true ↔ anc Pr t b := by
  have hw := wl_meas (dn := pm_upD t) (st := pm_upS Pr) (fun y => (y = 0 ∨ (1 ≤ y ∧ y - 1 < n)) ∧ ∃ j, ups Pr j (b + 1) = y ∧ ∀ i, i < j → ups Pr i (b + 1) ≠ t + 1) (fun y => if y = 0 then 0 else dep Dp (y - 1) + 1) (fun y hI hd => by
    unfold pm_upD at hd
    rw [Bool.or_eq_false_iff] at hd
    have h0 : ¬ oI y < 0 := of_decide_eq_false hd.1
    have h1 : ¬ oI y = nI t := of_decide_eq_false hd.2
    have hy := oI_ne h0
    obtain ⟨hI1, j, hj, hi⟩ := hI
    rcases hI1 with hI1 | hI1
    · exact absurd hI1 hy
    obtain ⟨v, rfl⟩ : ∃ v, y = v + 1 := ⟨y - 1, by omega⟩
    rw [oI_s] at h1
    have hvn : v < n := by have := hI1.2; omega
    have e1 : pm_upS Pr (v + 1) = Pr v := rfl
    rw [e1]
    obtain ⟨_, _, g⟩ := fo_dep h hvn
    refine ⟨⟨?_, 1 + j, ?_, fun i hij => ?_⟩, ?_⟩
    · rcases g with ⟨g, _⟩ | ⟨p, e', g1, _, g3, _⟩
      · exact Or.inl g
      · exact Or.inr ⟨by omega, by omega⟩
    · rw [ups_add, hj, ups_s]; rfl
    · by_cases q : i = j
      · rw [q, hj]
        exact fun z => h1 (by rw [show v = t by omega])
      · exact hi i (by omega)
    · rcases g with ⟨g, _⟩ | ⟨p, e', g1, _, g3, _, _, _, g7⟩
      · rw [g, if_pos rfl, if_neg (by omega)]; omega
      · have g7' : dep Dp v = dep Dp p + 1 := g7
        rw [g1, if_neg (by omega), if_neg (by omega), Nat.add_sub_cancel, Nat.add_sub_cancel]; omega) 12 (b + 1) ⟨Or.inr ⟨by omega, by omega⟩, 0, rfl, fun i hi => by omega⟩ (by
    rw [if_neg (by omega), Nat.add_sub_cancel]
    have : dep Dp b ≤ 9 := (fo_dep h hb).1
    omega)
  obtain ⟨hd, hI1, j, hj, hi⟩ := hw
  have hd' : pm_upD t (pm_up Pr b t) = true := hd
  have hI1' : pm_up Pr b t = 0 ∨ (1 ≤ pm_up Pr b t ∧ pm_up Pr b t - 1 < n) := hI1
  have hj' : ups Pr j (b + 1) = pm_up Pr b t := hj
  unfold pm_below
  rw [decide_eq_true_iff]
  generalize pm_up Pr b t = y at hd' hI1' hj' ⊢
  constructor
  · intro q
    rcases hI1' with z | z
    · rw [z, oI_0] at q
      have := nI_pos' (n := t) (by omega)
      rw [← q] at this
      exact absurd this m1_neg
    · obtain ⟨v, rfl⟩ : ∃ v, y = v + 1 := ⟨y - 1, by omega⟩
      rw [oI_s] at q
      have := (nI_eq (by omega) (by omega)).mp q
      exact ⟨j, by rw [hj', this]⟩
  · rintro ⟨j0, hj0⟩
    unfold pm_upD at hd'
    rw [Bool.or_eq_true] at hd'
    rcases hd' with q | q
    · have q' := of_decide_eq_true q
      have hy : y = 0 := by
        rcases hI1' with z | z
        · exact z
        · obtain ⟨v, rfl⟩ : ∃ v, y = v + 1 := ⟨y - 1, by omega⟩
          exact absurd q' (oI_pos (by omega))
      rw [hy] at hj'
      by_cases z : j0 < j
      · exact absurd hj0 (hi j0 z)
      · obtain ⟨c, rfl⟩ : ∃ c, j0 = c + j := ⟨j0 - j, by omega⟩
        rw [ups_add, hj', ups_0] at hj0
        omega
    · exact of_decide_eq_true q
theorem chd_ok (h : Forest n k E x Dp Pr Yb) {z : Nat} : ∀ d, d < n → anc Pr z d → z ≠ d → chd Dp Pr z d < n ∧ Pr (chd Dp Pr z d) = z + 1 ∧ anc Pr (chd Dp Pr z d) d := by
  refine fo_ind h (fun d hd h0 _ ha hne => ?_) (fun d p e hd hp he _ _ q1 q2 q3 ih ha hne => ?_)
  · rcases anc_step ha with q | ⟨p, q, _⟩
    · exact absurd q hne
    · omega
  · rcases anc_step ha with q | ⟨p', q, ha'⟩
    · exact absurd q hne
    · have : p' = p := by omega
      subst this
      unfold chd
      rw [q3]
      show (if Pr d = z + 1 then d else chf Pr (dep Dp p') (Pr d - 1) z) < n ∧ Pr (if Pr d = z + 1 then d else chf Pr (dep Dp p') (Pr d - 1) z) = z + 1 ∧ anc Pr (if Pr d = z + 1 then d else chf Pr (dep Dp p') (Pr d - 1) z) d
      by_cases c : Pr d = z + 1
      · rw [if_pos c]
        exact ⟨hd, c, anc_refl _ _⟩
      · rw [if_neg c, q1, Nat.add_sub_cancel]
        obtain ⟨i1, i2, i3⟩ := ih ha' (fun w => c (by rw [q1, w]))
        exact ⟨i1, i2, anc_trans i3 (anc_par q1)⟩
theorem par_dep (h : Forest n k E x Dp Pr Yb) {c z : Nat} (hc : c < n) (hp : Pr c = z + 1) : z < n ∧ dep Dp c = dep Dp z + 1 ∧ ∃ g, Yb c = g + 1 := by
  obtain ⟨_, _, g⟩ := fo_dep h hc
  rcases g with ⟨g, _⟩ | ⟨p, e', g1, g2, g3, _, _, _, g7⟩
  · omega
  · have : p = z := by omega
    subst this
    exact ⟨g3, g7, e', g2⟩
theorem chd_one (h : Forest n k E x Dp Pr Yb) {z d c : Nat} (hd : d < n) (hc : c < n) (h1 : Pr c = z + 1) (h2 : anc Pr c d) : chd Dp Pr z d = c := by
  have hz := par_dep h hc h1
  have hzd : anc Pr z d := anc_trans (anc_par h1) h2
  have hne : z ≠ d := fun q => by
    rw [← q] at h2
    have := anc_anc h hz.1 h2 (anc_par h1)
    rw [this] at hz
    omega
  obtain ⟨c1, c2, c3⟩ := chd_ok h d hd hzd hne
  have hz' := par_dep h c1 c2
  generalize chd Dp Pr z d = c' at c1 c2 c3 hz' ⊢
  have key : ∀ u v, u < n → v < n → Pr u = z + 1 → Pr v = z + 1 → anc Pr u v → u = v := fun u v hu hv pu pv huv => by
    have du := (par_dep h hu pu).2.1
    have dv := (par_dep h hv pv).2.1
    rcases (anc_lt h hv huv).2 with q | q
    · exact q
    · have : dep Dp u < dep Dp v := q
      omega
  rcases anc_lin c3 h2 with q | q
  · exact key c' c c1 hc c2 h1 q
  · exact (key c c' hc c1 h1 c2 q).symm
/-- the ends of the edges, the upper one above -/
def bEnds (n k : Nat) (E : Nat → Nat) (x : Int32) (Pr dq sh : Nat → Nat) : Prop := ∀ e, e < k → dq e < n ∧ sh e < n ∧ jn E e (sh e) (dq e) ∧ sh e ≠ dq e ∧ (pm_has x (nI e) = true → anc Pr (sh e) (dq e))
theorem bEnds_ok {dq sh : Nat → Nat} (hEn : ∀ e, e < k → E (2 * e) < n ∧ E (2 * e + 1) < n) (hne : ∀ e, e < k → E (2 * e) ≠ E (2 * e + 1)) (h : Forest n k E x Dp Pr Yb) : bEnds n k E x Pr (fo (pm_p3 E Dp) k (dq, sh)).1 (fo (pm_p3 E Dp) k (dq, sh)).2 := by
  intro e he
  obtain ⟨d1, d2, d3⟩ := p3_anc (dq := dq) (sh := sh) hEn hne h he
  refine ⟨d1, d2, ?_, ?_, d3⟩
  · rcases p3_at (E := E) (Dp := Dp) (dq := dq) (sh := sh) k e he with ⟨q1, q2, _⟩ | ⟨q1, q2, _⟩
    · exact Or.inl ⟨q2.symm, q1.symm⟩
    · exact Or.inr ⟨q1.symm, q2.symm⟩
  · rcases p3_at (E := E) (Dp := Dp) (dq := dq) (sh := sh) k e he with ⟨q1, q2, _⟩ | ⟨q1, q2, _⟩
    · rw [q1, q2]; exact hne e he
    · rw [q1, q2]; exact fun z => hne e he z.symm
variable {dq sh : Nat → Nat}
theorem cE_iff (hEn : ∀ e, e < k → E (2 * e) < n ∧ E (2 * e + 1) < n) (h : Forest n k E x Dp Pr Yb) (hb : bEnds n k E x Pr dq sh) {f : Nat} (hf : f < k) (hx : pm_has x (nI f) = true) (hnt : ¬ trE n Yb f) (g : Nat) : cE E Dp Pr Yb f g = true ↔ g = f ∨ ∃ z, z < n ∧ Yb z = g + 1 ∧ anc Pr z (dq f) ∧ anc Pr (sh f) z ∧ sh f ≠ z := by
  obtain ⟨b1, b2, b3, b4, b5⟩ := hb f hf
  have ha := b5 hx
  have hcE : cE E Dp Pr Yb f g = ((wr Dp Pr Yb (dq f) g ^^ wr Dp Pr Yb (sh f) g) ^^ decide (g = f)) := by
    unfold cE
    rcases b3 with ⟨q1, q2⟩ | ⟨q1, q2⟩
    · rw [q1, q2, Bool.xor_comm (wr Dp Pr Yb (sh f) g)]
    · rw [q1, q2]
  rw [hcE]
  by_cases q : g = f
  · have hw : ∀ v, v < n → wr Dp Pr Yb v g = false := fun v hv => by
      cases w : wr Dp Pr Yb v g with
      | false => rfl
      | true => rw [q] at w; exact absurd (wr_tree h v hv f w) hnt
    rw [hw _ b1, hw _ b2, decide_eq_true q]
    exact ⟨fun _ => Or.inl q, fun _ => rfl⟩
  · rw [decide_eq_false q, Bool.xor_false]
    constructor
    · intro hg
      obtain ⟨z, z1, z2, z3, z4⟩ := way_mem h (dq f) b1 ha g hg
      refine Or.inr ⟨z, z1, z2, z3, ?_, fun w => z4 (by rw [← w]; exact anc_refl _ _)⟩
      rcases anc_lin ha z3 with w | w
      · exact w
      · exact absurd w z4
    · rintro (w | ⟨z, z1, z2, z3, z4, z5⟩)
      · exact absurd w q
      · exact way_in h z1 z4 z5 z2 (dq f) b1 z3
def pP (Pr dq sh : Nat → Nat) (f z : Nat) : Bool := pm_below Pr z (sh f) && pm_below Pr (dq f) z
def inF (Yb sh : Nat → Nat) (f z : Nat) : Nat := if z = sh f then f else Yb z - 1
def outF (Dp : Nat → Int32) (Pr Yb dq : Nat → Nat) (f z : Nat) : Nat := if z = dq f then f else Yb (chd Dp Pr z (dq f)) - 1
theorem pP_iff (hn : n ≤ 10) (h : Forest n k E x Dp Pr Yb) (hb : bEnds n k E x Pr dq sh) {f z : Nat} (hf : f < k) (hz : z < n) : pP Pr dq sh f z = true ↔ anc Pr (sh f) z ∧ anc Pr z (dq f) := by
  obtain ⟨b1, b2, _⟩ := hb f hf
  unfold pP
  rw [Bool.and_eq_true, below_iff hn h hz b2, below_iff hn h b1 hz]
/-- in and out at a vertex of the circle -/
theorem io_ok (h : Forest n k E x Dp Pr Yb) (hb : bEnds n k E x Pr dq sh) {f z : Nat} (hf : f < k) (hx : pm_has x (nI f) = true) (hz : z < n) (h1 : anc Pr (sh f) z) (h2 : anc Pr z (dq f)) :
    (z = sh f ∧ inF Yb sh f z = f ∨ z ≠ sh f ∧ Yb z = inF Yb sh f z + 1) ∧ (z = dq f ∧ outF Dp Pr Yb dq f z = f ∨ z ≠ dq f ∧ ∃ c, c < n ∧ Pr c = z + 1 ∧ anc Pr c (dq f) ∧ Yb c = outF Dp Pr Yb dq f z + 1) := by
  obtain ⟨b1, b2, b3, b4, b5⟩ := hb f hf
  constructor
  · unfold inF
    by_cases q : z = sh f
    · exact Or.inl ⟨q, by rw [if_pos q]⟩
    · refine Or.inr ⟨q, ?_⟩
      rw [if_neg q]
      rcases anc_step h1 with w | ⟨p, w, _⟩
      · exact absurd w.symm q
      · obtain ⟨_, _, g, hg⟩ := par_dep h hz w
        omega
  · unfold outF
    by_cases q : z = dq f
    · exact Or.inl ⟨q, by rw [if_pos q]⟩
    · refine Or.inr ⟨q, ?_⟩
      rw [if_neg q]
      obtain ⟨c1, c2, c3⟩ := chd_ok h (dq f) b1 h2 q
      obtain ⟨_, _, g, hg⟩ := par_dep h c1 c2
      exact ⟨_, c1, c2, c3, by omega⟩
theorem cyc_ok (hn : n ≤ 10) (hk : k ≤ 18) (hEn : ∀ e, e < k → E (2 * e) < n ∧ E (2 * e + 1) < n) (hne : ∀ e, e < k → E (2 * e) ≠ E (2 * e + 1)) (h : Forest n k E x Dp Pr Yb) (hb : bEnds n k E x Pr dq sh) {f : Nat} (hf : f < k) (hx : pm_has x (nI f) = true) (hnt : ¬ trE n Yb f) : pg_cyc n k (eF E) (eS E) (pP Pr dq sh f) (inF Yb sh f) (outF Dp Pr Yb dq f) (cE E Dp Pr Yb f) := by
  obtain ⟨b1, b2, b3, b4, b5⟩ := hb f hf
  have ha := b5 hx
  have hC := cE_iff hEn h hb hf hx hnt
  have incT : ∀ z g, z < n → Yb z = g + 1 → ∃ p, p < n ∧ Pr z = p + 1 ∧ g < k ∧ p ≠ z ∧ ∀ w, pg_inc (eF E) (eS E) w g = (decide (p = w) ^^ decide (z = w)) := fun z g hz hg => by
    obtain ⟨p, p1, p2, _, p4, p5, p6⟩ := tr_edge h hz hg
    have hpz : p ≠ z := fun q => by rw [q] at p6; omega
    exact ⟨p, p1, p5, p2, hpz, fun w => inc_jn p4 hpz⟩
  have incF : ∀ w, pg_inc (eF E) (eS E) w f = (decide (sh f = w) ^^ decide (dq f = w)) := fun w => inc_jn b3 b4
  have inc_t : ∀ w, pg_inc (eF E) (eS E) w f = true ↔ w = sh f ∨ w = dq f := fun w => by
    rw [incF]
    by_cases q1 : sh f = w <;> by_cases q2 : dq f = w
    · exact absurd (q1.trans q2.symm) b4
    · simp [q1, q2]
    · simp [q1, q2]
    · simp [q1, q2, Ne.symm q1, Ne.symm q2]
  have incT_t : ∀ z g p w, z < n → Yb z = g + 1 → Pr z = p + 1 → (pg_inc (eF E) (eS E) w g = true ↔ w = p ∨ w = z) := fun z g p w hz hg hp => by
    obtain ⟨p', _, q2, _, q4, q5⟩ := incT z g hz hg
    have : p' = p := by omega
    subst this
    rw [q5]
    by_cases q1 : p' = w <;> by_cases q3 : z = w
    · exact absurd (q1.trans q3.symm) q4
    · simp [q1, q3]
    · simp [q1, q3]
    · simp [q1, q3, Ne.symm q1, Ne.symm q3]
  refine ⟨fun v hv hp => ?_, fun v hv hp e he => ?_, fun u v hu hv pu pv huv => ?_, fun e he hc => ?_, (cE_even hn hEn hne h hf hx).1⟩
  · obtain ⟨h1, h2⟩ := (pP_iff hn h hb hf hv).mp hp
    obtain ⟨i1, i2⟩ := io_ok h hb hf hx hv h1 h2
    have hin : inF Yb sh f v < k ∧ pg_inc (eF E) (eS E) v (inF Yb sh f v) = true ∧ cE E Dp Pr Yb f (inF Yb sh f v) = true := by
      rcases i1 with ⟨q1, q2⟩ | ⟨q1, q2⟩
      · rw [q2]; exact ⟨hf, (inc_t v).mpr (Or.inl q1), (hC f).mpr (Or.inl rfl)⟩
      · obtain ⟨p, _, p2, p3, _⟩ := incT v _ hv q2
        exact ⟨p3, (incT_t v _ p v hv q2 p2).mpr (Or.inr rfl), (hC _).mpr (Or.inr ⟨v, hv, q2, h2, h1, fun z => q1 z.symm⟩)⟩
    have hout : outF Dp Pr Yb dq f v < k ∧ pg_inc (eF E) (eS E) v (outF Dp Pr Yb dq f v) = true ∧ cE E Dp Pr Yb f (outF Dp Pr Yb dq f v) = true := by
      rcases i2 with ⟨q1, q2⟩ | ⟨q1, c, c1, c2, c3, c4⟩
      · rw [q2]; exact ⟨hf, (inc_t v).mpr (Or.inr q1), (hC f).mpr (Or.inl rfl)⟩
      · obtain ⟨p, _, p2, p3, _⟩ := incT c _ c1 c4
        refine ⟨p3, (incT_t c _ v v c1 c4 c2).mpr (Or.inl rfl), (hC _).mpr (Or.inr ⟨c, c1, c4, c3, anc_trans h1 (anc_par c2), fun z => ?_⟩)⟩
        have hd := (par_dep h c1 c2).2.1
        have := (anc_lt h hv h1).2
        rw [← z] at hd
        rcases this with w | w
        · rw [w] at hd; omega
        · have : dep Dp (sh f) < dep Dp v := w
          omega
    have hio : inF Yb sh f v ≠ outF Dp Pr Yb dq f v := by
      intro q
      rcases i1 with ⟨q1, q2⟩ | ⟨q1, q2⟩ <;> rcases i2 with ⟨r1, r2⟩ | ⟨r1, c, c1, c2, c3, c4⟩
      · exact b4 (q1.symm.trans r1)
      · rw [← q, q2] at c4
        exact hnt ⟨c, c1, c4⟩
      · rw [q, r2] at q2
        exact hnt ⟨v, hv, q2⟩
      · have e1 := tr_child h hv c1 q2 (by rw [q]; exact c4)
        have hd := (par_dep h c1 c2).2.1
        rw [← e1] at hd
        omega
    refine ⟨⟨hin.1, hout.1, hio, hin.2.1, hout.2.1⟩, fun e he => ?_⟩
    rw [Bool.eq_iff_iff, Bool.and_eq_true, Bool.or_eq_true, decide_eq_true_iff, decide_eq_true_iff, hC]
    constructor
    · rintro ⟨q | ⟨z, z1, z2, z3, z4, z5⟩, hi⟩
      · rw [q] at hi
        rcases (inc_t v).mp hi with w | w
        · rcases i1 with ⟨_, r⟩ | ⟨r, _⟩
          · exact Or.inl (by rw [q, r])
          · exact absurd w r
        · rcases i2 with ⟨_, r⟩ | ⟨r, _⟩
          · exact Or.inr (by rw [q, r])
          · exact absurd w r
      · obtain ⟨p, _, p2, _⟩ := incT z e z1 z2
        rcases (incT_t z e p v z1 z2 p2).mp hi with w | w
        · subst w
          rcases i2 with ⟨r, _⟩ | ⟨r, c, c1, c2, c3, c4⟩
          · rw [← r] at z3
            have := anc_anc h hv z3 (anc_par p2)
            have hd := (par_dep h z1 p2).2.1
            rw [this] at hd
            omega
          · have e1 : c = z := by rw [← chd_one h b1 c1 c2 c3, chd_one h b1 z1 p2 z3]
            rw [e1, z2] at c4
            exact Or.inr (by omega)
        · subst w
          rcases i1 with ⟨r, _⟩ | ⟨_, r⟩
          · exact absurd r.symm z5
          · exact Or.inl (by omega)
    · rintro (q | q)
      · rw [q]; exact ⟨(hC _).mp hin.2.2, hin.2.1⟩
      · rw [q]; exact ⟨(hC _).mp hout.2.2, hout.2.1⟩
  · cases q : (cE E Dp Pr Yb f e && pg_inc (eF E) (eS E) v e) with
    | false => rfl
    | true =>
      exfalso
      rw [Bool.and_eq_true, hC] at q
      have hno : ¬ (anc Pr (sh f) v ∧ anc Pr v (dq f)) := fun z => by rw [(pP_iff hn h hb hf hv).mpr z] at hp; cases hp
      obtain ⟨w | ⟨z, z1, z2, z3, z4, z5⟩, hi⟩ := q
      · rw [w] at hi
        rcases (inc_t v).mp hi with r | r
        · exact hno (by rw [r]; exact ⟨anc_refl _ _, ha⟩)
        · exact hno (by rw [r]; exact ⟨ha, anc_refl _ _⟩)
      · obtain ⟨p, _, p2, _⟩ := incT z e z1 z2
        rcases (incT_t z e p v z1 z2 p2).mp hi with r | r
        · refine hno ?_
          rw [r]
          rcases anc_step z4 with s | ⟨p', s1, s2⟩
          · exact absurd s z5
          · have : p' = p := by omega
            rw [this] at s2
            exact ⟨s2, anc_trans (anc_par p2) z3⟩
        · exact hno (by rw [r]; exact ⟨z4, z3⟩)
  · obtain ⟨u1, u2⟩ := (pP_iff hn h hb hf hu).mp pu
    obtain ⟨v1, v2⟩ := (pP_iff hn h hb hf hv).mp pv
    obtain ⟨_, i2⟩ := io_ok h hb hf hx hu u1 u2
    obtain ⟨_, j2⟩ := io_ok h hb hf hx hv v1 v2
    rcases i2 with ⟨r1, r2⟩ | ⟨r1, c, c1, c2, c3, c4⟩ <;> rcases j2 with ⟨s1, s2⟩ | ⟨s1, d, d1, d2, d3, d4⟩
    · rw [r1, s1]
    · rw [← huv, r2] at d4
      exact absurd ⟨d, d1, d4⟩ hnt
    · rw [huv, s2] at c4
      exact absurd ⟨c, c1, c4⟩ hnt
    · have := tr_child h c1 d1 c4 (by rw [huv]; exact d4)
      rw [this] at c2
      omega
  · rcases (hC e).mp hc with w | ⟨z, z1, z2, z3, z4, z5⟩
    · refine ⟨dq f, b1, (pP_iff hn h hb hf b1).mpr ⟨ha, anc_refl _ _⟩, ?_⟩
      unfold outF
      rw [if_pos rfl, w]
    · obtain ⟨p, p1, p2, _⟩ := incT z e z1 z2
      have hsp : anc Pr (sh f) p := by
        rcases anc_step z4 with s | ⟨p', s1, s2⟩
        · exact absurd s z5
        · have : p' = p := by omega
          rw [this] at s2; exact s2
      have hpd : p ≠ dq f := fun q => by
        rw [← q] at z3
        have := anc_anc h p1 z3 (anc_par p2)
        have hd := (par_dep h z1 p2).2.1
        rw [this] at hd
        omega
      refine ⟨p, p1, (pP_iff hn h hb hf p1).mpr ⟨hsp, anc_trans (anc_par p2) z3⟩, ?_⟩
      unfold outF
      rw [if_neg hpd, chd_one h b1 z1 p2 z3, z2, Nat.add_sub_cancel]
end BC
