/-! sides that keep the comparisons give a laid part -/
theorem I_zero {n m : Nat} {a b : Nat → Nat} {o : Nat → Nat → Nat → Bool} {Z : Nat → Bool} : pg_I n m a b o (fun _ => false) Z = false := by
  unfold pg_I
  rw [xr_zero (fun v _ => pg_loc_zero (Or.inl (fun e _ => rfl))), xr_zero (f := fun e => (fun _ => false) e && Z e) (fun e _ => rfl)]
  rfl
theorem I_zeror {n m : Nat} {a b : Nat → Nat} {o : Nat → Nat → Nat → Bool} {Z : Nat → Bool} : pg_I n m a b o Z (fun _ => false) = false := by
  unfold pg_I
  rw [xr_zero (fun v _ => pg_loc_zero (Or.inr (fun e _ => rfl))), xr_zero (fun e _ => Bool.and_false _)]
  rfl
theorem I_lin {n m : Nat} {a b : Nat → Nat} {o : Nat → Nat → Nat → Bool} {Z : Nat → Bool} (c : Nat → Bool) (f : Nat → Nat → Bool) : ∀ r, (∀ e, e < r → c e = true → pg_I n m a b o (f e) Z = false) → pg_I n m a b o (fun g => xr r (fun e => c e && f e g)) Z = false
  | 0, _ => I_zero
  | r + 1, h => by
    have e1 : (fun g => xr (r + 1) (fun e => c e && f e g)) = pg_add (fun g => xr r (fun e => c e && f e g)) (fun g => c r && f r g) := by
      funext g; rfl
    rw [e1, pg_I_addl, I_lin c f r (fun e he => h e (by omega)), Bool.false_xor]
    cases hc : c r with
    | false => exact I_zero
    | true => exact h r (by omega) hc
theorem I_linr {n m : Nat} {a b : Nat → Nat} {o : Nat → Nat → Nat → Bool} {Z : Nat → Bool} (c : Nat → Bool) (f : Nat → Nat → Bool) : ∀ r, (∀ e, e < r → c e = true → pg_I n m a b o Z (f e) = false) → pg_I n m a b o Z (fun g => xr r (fun e => c e && f e g)) = false
  | 0, _ => I_zeror
  | r + 1, h => by
    have e1 : (fun g => xr (r + 1) (fun e => c e && f e g)) = pg_add (fun g => xr r (fun e => c e && f e g)) (fun g => c r && f r g) := by
      funext g; rfl
    rw [e1, pg_I_addr, I_linr c f r (fun e he => h e (by omega)), Bool.false_xor]
    cases hc : c r with
    | false => exact I_zeror
    | true => exact h r (by omega) hc
section SP
variable {n k : Nat} {E : Nat → Nat} {x : Int32} {Dp : Nat → Int32} {Pr Yb dq sh : Nat → Nat}
noncomputable def pick4 (P1 P2 P3 P4 : Prop) (c : Bool) : Bool := @ite Bool P1 (Classical.propDecidable _) true (@ite Bool P2 (Classical.propDecidable _) false (@ite Bool P3 (Classical.propDecidable _) false (@ite Bool P4 (Classical.propDecidable _) true c)))
theorem pick_1 {P1 P2 P3 P4 : Prop} {c : Bool} (h : P1) : pick4 P1 P2 P3 P4 c = true := by unfold pick4; rw [if_pos h]
theorem pick_2 {P1 P2 P3 P4 : Prop} {c : Bool} (h1 : ¬ P1) (h : P2) : pick4 P1 P2 P3 P4 c = false := by unfold pick4; rw [if_neg h1, if_pos h]
theorem pick_3 {P1 P2 P3 P4 : Prop} {c : Bool} (h1 : ¬ P1) (h2 : ¬ P2) (h : P3) : pick4 P1 P2 P3 P4 c = false := by unfold pick4; rw [if_neg h1, if_neg h2, if_pos h]
theorem pick_4 {P1 P2 P3 P4 : Prop} {c : Bool} (h1 : ¬ P1) (h2 : ¬ P2) (h3 : ¬ P3) (h : P4) : pick4 P1 P2 P3 P4 c = true := by unfold pick4; rw [if_neg h1, if_neg h2, if_neg h3, if_pos h]
theorem pick_5 {P1 P2 P3 P4 : Prop} {c : Bool} (h1 : ¬ P1) (h2 : ¬ P2) (h3 : ¬ P3) (h4 : ¬ P4) : pick4 P1 P2 P3 P4 c = c := by unfold pick4; rw [if_neg h1, if_neg h2, if_neg h3, if_neg h4]
noncomputable def ordS (n k : Nat) (x : Int32) (Dp : Nat → Int32) (Pr Yb dq sh : Nat → Nat) (lam : Nat → Bool) (v d e : Nat) : Bool := pick4 (∃ f, Am n k x Dp Pr Yb dq sh v d e f ∧ lam f = true) (∃ f, Am n k x Dp Pr Yb dq sh v d e f) (∃ f, Am n k x Dp Pr Yb dq sh v e d f ∧ lam f = true) (∃ f, Am n k x Dp Pr Yb dq sh v e d f) (decide (d < e))
/-- an order of the edges that leave v, as the sides ask -/
theorem ord_ex {lam : Nat → Bool} (hs : SATm n k x Dp Pr Yb dq sh lam) : ∃ ord : Nat → Nat → Nat → Bool, (∀ v d e, v < n → d < k → e < k → d ≠ e → ord v e d = !ord v d e) ∧ ∀ v d e f, v < n → d < k → e < k → d ≠ e → Am n k x Dp Pr Yb dq sh v d e f → ord v d e = lam f := by
  have key : ∀ v d e f, v < n → d < k → e < k → d ≠ e → Am n k x Dp Pr Yb dq sh v d e f → ordS n k x Dp Pr Yb dq sh lam v d e = lam f := by
    intro v d e f hv hd he hde hA
    cases hl : lam f with
    | true => exact pick_1 ⟨f, hA, hl⟩
    | false =>
      refine pick_2 (fun ⟨f', q1, q2⟩ => ?_) ⟨f, hA⟩
      have := (hs v d e hv hd he hde).1 f f' hA q1
      rw [hl, q2] at this; cases this
  have one : ∀ v d e f, v < n → d < k → e < k → d ≠ e → Am n k x Dp Pr Yb dq sh v d e f → (¬ ∃ g, Am n k x Dp Pr Yb dq sh v e d g) → ordS n k x Dp Pr Yb dq sh lam v e d = !lam f := by
    intro v d e f hv hd he hde hf c2
    cases hl : lam f with
    | true => exact pick_3 (fun ⟨g, q, _⟩ => c2 ⟨g, q⟩) c2 ⟨f, hf, hl⟩
    | false =>
      refine pick_4 (fun ⟨g, q, _⟩ => c2 ⟨g, q⟩) c2 (fun ⟨f', q1, q2⟩ => ?_) ⟨f, hf⟩
      have := (hs v d e hv hd he hde).1 f f' hf q1
      rw [hl, q2] at this; cases this
  refine ⟨ordS n k x Dp Pr Yb dq sh lam, fun v d e hv hd he hde => ?_, key⟩
  have hed : e ≠ d := fun z => hde z.symm
  by_cases c1 : ∃ f, Am n k x Dp Pr Yb dq sh v d e f
  · obtain ⟨f, hf⟩ := c1
    rw [key v d e f hv hd he hde hf]
    by_cases c2 : ∃ g, Am n k x Dp Pr Yb dq sh v e d g
    · obtain ⟨g, hg⟩ := c2
      rw [key v e d g hv he hd hed hg]
      have := (hs v d e hv hd he hde).2 f g hf hg
      revert this
      cases lam f <;> cases lam g <;> decide
    · exact one v d e f hv hd he hde hf c2
  · by_cases c2 : ∃ g, Am n k x Dp Pr Yb dq sh v e d g
    · obtain ⟨g, hg⟩ := c2
      rw [key v e d g hv he hd hed hg, one v e d g hv he hd hed hg c1, Bool.not_not]
    · have r1 : ordS n k x Dp Pr Yb dq sh lam v e d = decide (e < d) := pick_5 (fun ⟨g, q, _⟩ => c2 ⟨g, q⟩) c2 (fun ⟨g, q, _⟩ => c1 ⟨g, q⟩) c1
      have r2 : ordS n k x Dp Pr Yb dq sh lam v d e = decide (d < e) := pick_5 (fun ⟨g, q, _⟩ => c1 ⟨g, q⟩) c1 (fun ⟨g, q, _⟩ => c2 ⟨g, q⟩) c2
      rw [r1, r2]
      rcases Nat.lt_or_gt_of_ne hde with q | q
      · rw [decide_eq_true q, decide_eq_false (show ¬ e < d by omega)]; rfl
      · rw [decide_eq_false (show ¬ d < e by omega), decide_eq_true (show e < d from q)]; rfl
/-- v is the deepest common vertex of the circles of f and g -/
def Dc (n : Nat) (Pr dq sh : Nat → Nat) (f g v : Nat) : Prop := v < n ∧ pP Pr dq sh f v = true ∧ pP Pr dq sh g v = true ∧ ∀ w, w < n → pP Pr dq sh f w = true → pP Pr dq sh g w = true → anc Pr w v
theorem Dc_symm {f g v : Nat} (h : Dc n Pr dq sh f g v) : Dc n Pr dq sh g f v := ⟨h.1, h.2.2.1, h.2.1, fun w w1 w2 w3 => h.2.2.2 w w1 w3 w2⟩
theorem Dc_one (h : Forest n k E x Dp Pr Yb) {f g v v' : Nat} (h1 : Dc n Pr dq sh f g v) (h2 : Dc n Pr dq sh f g v') : v = v' := anc_anc h h2.1 (h2.2.2.2 v h1.1 h1.2.1 h1.2.2.1) (h1.2.2.2 v' h2.1 h2.2.1 h2.2.2.1)
theorem q_ex (h : Forest n k E x Dp Pr Yb) (ord : Nat → Nat → Nat → Bool) : ∃ q : Nat → Nat → Bool, ∀ f g v, Dc n Pr dq sh f g v → q f g = ord v (outF Dp Pr Yb dq f v) (outF Dp Pr Yb dq g v) := by
  refine ⟨fun f g => @decide (∃ v, Dc n Pr dq sh f g v ∧ ord v (outF Dp Pr Yb dq f v) (outF Dp Pr Yb dq g v) = true) (Classical.propDecidable _), fun f g v hv => ?_⟩
  cases ho : ord v (outF Dp Pr Yb dq f v) (outF Dp Pr Yb dq g v) with
  | true => exact @decide_eq_true _ (Classical.propDecidable _) ⟨v, hv, ho⟩
  | false =>
    refine @decide_eq_false _ (Classical.propDecidable _) (fun ⟨v', q1, q2⟩ => ?_)
    rw [← Dc_one h hv q1, ho] at q2
    cases q2
def incm (n : Nat) (Yb sh : Nat → Nat) (v d : Nat) : Prop := ¬ trE n Yb d ∧ sh d = v
noncomputable def repD (n : Nat) (Dp : Nat → Int32) (Pr Yb dq sh : Nat → Nat) (v d : Nat) : Nat := @ite Nat (incm n Yb sh v d) (Classical.propDecidable _) (outF Dp Pr Yb dq d v) d
noncomputable def oS (n : Nat) (x : Int32) (Dp : Nat → Int32) (Pr Yb dq sh : Nat → Nat) (lam : Nat → Bool) (ord : Nat → Nat → Nat → Bool) (q : Nat → Nat → Bool) : Nat → Nat → Nat → Bool := fun v d e =>
  if pm_has x (nI d) = true ∧ pm_has x (nI e) = true then
    (if Yb v = d + 1 then false else if Yb v = e + 1 then true else
      if repD n Dp Pr Yb dq sh v d = repD n Dp Pr Yb dq sh v e then
        @ite Bool (incm n Yb sh v d) (Classical.propDecidable _) (@ite Bool (incm n Yb sh v e) (Classical.propDecidable _) (!((lam e ^^ lam d) ^^ q e d)) (!lam d)) (lam e)
      else !ord v (repD n Dp Pr Yb dq sh v d) (repD n Dp Pr Yb dq sh v e))
  else decide (d < e)
variable {lam : Nat → Bool} {ord : Nat → Nat → Nat → Bool} {q : Nat → Nat → Bool}
theorem rep_i {v d : Nat} (h : incm n Yb sh v d) : repD n Dp Pr Yb dq sh v d = outF Dp Pr Yb dq d v := by unfold repD; rw [if_pos h]
theorem rep_o {v d : Nat} (h : ¬ incm n Yb sh v d) : repD n Dp Pr Yb dq sh v d = d := by unfold repD; rw [if_neg h]
theorem oS_p {v d e : Nat} (hd : pm_has x (nI d) = true) (he : pm_has x (nI e) = true) (hp : Yb v = d + 1) : oS n x Dp Pr Yb dq sh lam ord q v d e = false := by unfold oS; rw [if_pos ⟨hd, he⟩, if_pos hp]
theorem oS_q {v d e : Nat} (hd : pm_has x (nI d) = true) (he : pm_has x (nI e) = true) (hp : Yb v = e + 1) (hde : d ≠ e) : oS n x Dp Pr Yb dq sh lam ord q v d e = true := by unfold oS; rw [if_pos ⟨hd, he⟩, if_neg (by omega), if_pos hp]
theorem oS_n {v d e : Nat} (hd : pm_has x (nI d) = true) (he : pm_has x (nI e) = true) (h1 : Yb v ≠ d + 1) (h2 : Yb v ≠ e + 1) (hr : repD n Dp Pr Yb dq sh v d ≠ repD n Dp Pr Yb dq sh v e) : oS n x Dp Pr Yb dq sh lam ord q v d e = !ord v (repD n Dp Pr Yb dq sh v d) (repD n Dp Pr Yb dq sh v e) := by unfold oS; rw [if_pos ⟨hd, he⟩, if_neg h1, if_neg h2, if_neg hr]
theorem oS_fc {v d e : Nat} (hd : pm_has x (nI d) = true) (he : pm_has x (nI e) = true) (h1 : Yb v ≠ d + 1) (h2 : Yb v ≠ e + 1) (hr : repD n Dp Pr Yb dq sh v d = repD n Dp Pr Yb dq sh v e) (i1 : incm n Yb sh v d) (i2 : ¬ incm n Yb sh v e) : oS n x Dp Pr Yb dq sh lam ord q v d e = !lam d := by unfold oS; rw [if_pos ⟨hd, he⟩, if_neg h1, if_neg h2, if_pos hr, if_pos i1, if_neg i2]
theorem oS_cf {v d e : Nat} (hd : pm_has x (nI d) = true) (he : pm_has x (nI e) = true) (h1 : Yb v ≠ d + 1) (h2 : Yb v ≠ e + 1) (hr : repD n Dp Pr Yb dq sh v d = repD n Dp Pr Yb dq sh v e) (i1 : ¬ incm n Yb sh v d) : oS n x Dp Pr Yb dq sh lam ord q v d e = lam e := by unfold oS; rw [if_pos ⟨hd, he⟩, if_neg h1, if_neg h2, if_pos hr, if_neg i1]
theorem oS_ff {v d e : Nat} (hd : pm_has x (nI d) = true) (he : pm_has x (nI e) = true) (h1 : Yb v ≠ d + 1) (h2 : Yb v ≠ e + 1) (hr : repD n Dp Pr Yb dq sh v d = repD n Dp Pr Yb dq sh v e) (i1 : incm n Yb sh v d) (i2 : incm n Yb sh v e) : oS n x Dp Pr Yb dq sh lam ord q v d e = !((lam e ^^ lam d) ^^ q e d) := by unfold oS; rw [if_pos ⟨hd, he⟩, if_neg h1, if_neg h2, if_pos hr, if_pos i1, if_pos i2]
/-- at the deepest common vertex the circles part -/
theorem out_ne (hn : n ≤ 10) (h : Forest n k E x Dp Pr Yb) (hb : bEnds n k E x Pr dq sh) {f g v : Nat} (hf : f < k) (hxf : pm_has x (nI f) = true) (hnf : ¬ trE n Yb f) (hg : g < k) (hxg : pm_has x (nI g) = true) (hng : ¬ trE n Yb g) (hfg : f ≠ g) (hD : Dc n Pr dq sh f g v) : outF Dp Pr Yb dq f v ≠ outF Dp Pr Yb dq g v := by
  obtain ⟨hv, vf, vg, hd⟩ := hD
  have vf' := (pP_iff hn h hb hf hv).mp vf
  have vg' := (pP_iff hn h hb hg hv).mp vg
  obtain ⟨_, i2⟩ := io_ok h hb hf hxf hv vf'.1 vf'.2
  obtain ⟨_, j2⟩ := io_ok h hb hg hxg hv vg'.1 vg'.2
  intro e
  rcases i2 with ⟨r1, r2⟩ | ⟨r1, c, c1, c2, c3, c4⟩ <;> rcases j2 with ⟨s1, s2⟩ | ⟨s1, d, d1, d2, d3, d4⟩
  · exact hfg (by rw [← r2, ← s2, e])
  · rw [← e, r2] at d4
    exact hnf ⟨d, d1, d4⟩
  · rw [e, s2] at c4
    exact hng ⟨c, c1, c4⟩
  · have hcd := tr_child h c1 d1 c4 (by rw [e]; exact d4)
    rw [← hcd] at d3
    have := hd c c1 ((pP_iff hn h hb hf c1).mpr ⟨anc_trans vf'.1 (anc_par c2), c3⟩) ((pP_iff hn h hb hg c1).mpr ⟨anc_trans vg'.1 (anc_par c2), d3⟩)
    have h1 := (par_dep h c1 c2).2.1
    have h2 := (anc_lt h hv this).2
    rcases h2 with w | w
    · rw [w] at h1; omega
    · have : dep Dp c < dep Dp v := w
      omega
/-- an edge by which v is left downwards -/
def Od (n k : Nat) (x : Int32) (Yb sh : Nat → Nat) (v d : Nat) : Prop := d < k ∧ pm_has x (nI d) = true ∧ Yb v ≠ d + 1 ∧ ¬ incm n Yb sh v d
theorem out_Od (h : Forest n k E x Dp Pr Yb) (hb : bEnds n k E x Pr dq sh) {f v : Nat} (hv : v < n) (hf : f < k) (hxf : pm_has x (nI f) = true) (hnf : ¬ trE n Yb f) (h1 : anc Pr (sh f) v) (h2 : anc Pr v (dq f)) : Od n k x Yb sh v (outF Dp Pr Yb dq f v) := by
  obtain ⟨_, i2⟩ := io_ok h hb hf hxf hv h1 h2
  rcases i2 with ⟨r1, r2⟩ | ⟨r1, c, c1, c2, c3, c4⟩
  · rw [r2]
    exact ⟨hf, hxf, fun z => hnf ⟨v, hv, z⟩, fun z => (hb f hf).2.2.2.1 (by rw [z.2, r1])⟩
  · obtain ⟨p, p1, p2, p3, p4, p5, p6⟩ := tr_edge h c1 c4
    refine ⟨p2, p3, fun z => ?_, fun z => z.1 ⟨c, c1, c4⟩⟩
    have := tr_child h hv c1 z c4
    have hd := (par_dep h c1 c2).2.1
    rw [← this] at hd
    omega
theorem oS_tour (hn : n ≤ 10) (hk : k ≤ 18) (hEn : ∀ e, e < k → E (2 * e) < n ∧ E (2 * e + 1) < n) (hne : ∀ e, e < k → E (2 * e) ≠ E (2 * e + 1)) (h : Forest n k E x Dp Pr Yb) (hb : bEnds n k E x Pr dq sh) (ho : ∀ v d e, v < n → d < k → e < k → d ≠ e → ord v e d = !ord v d e) (hq : ∀ f g v, Dc n Pr dq sh f g v → q f g = ord v (outF Dp Pr Yb dq f v) (outF Dp Pr Yb dq g v)) : pg_tour n k (eF E) (eS E) (oS n x Dp Pr Yb dq sh lam ord q) := by
  intro v d e hv hd he hde id' ie
  by_cases hx : pm_has x (nI d) = true ∧ pm_has x (nI e) = true
  · by_cases p1 : Yb v = d + 1
    · rw [oS_p hx.1 hx.2 p1, oS_q hx.2 hx.1 p1 (fun z => hde z.symm)]; rfl
    · by_cases p2 : Yb v = e + 1
      · rw [oS_q hx.1 hx.2 p2 hde, oS_p hx.2 hx.1 p2]; rfl
      · have hout : ∀ d, d < k → pm_has x (nI d) = true → incm n Yb sh v d → outF Dp Pr Yb dq d v < k := fun d hd hxd i => by
          have bd := hb d hd
          have := out_Od h hb hv hd hxd i.1 (by rw [i.2]; exact anc_refl _ _) (by rw [← i.2]; exact bd.2.2.2.2 hxd)
          exact this.1
        have hrep : ∀ d, d < k → pm_has x (nI d) = true → repD n Dp Pr Yb dq sh v d < k := fun d hd hxd => by
          by_cases i : incm n Yb sh v d
          · rw [rep_i i]; exact hout d hd hxd i
          · rw [rep_o i]; exact hd
        by_cases r : repD n Dp Pr Yb dq sh v d = repD n Dp Pr Yb dq sh v e
        · by_cases i1 : incm n Yb sh v d
          · by_cases i2 : incm n Yb sh v e
            · rw [oS_ff hx.1 hx.2 p1 p2 r i1 i2, oS_ff hx.2 hx.1 p2 p1 r.symm i2 i1]
              rw [rep_i i1, rep_i i2] at r
              have bd := hb d hd
              have be := hb e he
              have sd : anc Pr (sh d) v := by rw [i1.2]; exact anc_refl _ _
              have se : anc Pr (sh e) v := by rw [i2.2]; exact anc_refl _ _
              have vd : anc Pr v (dq d) := by rw [← i1.2]; exact bd.2.2.2.2 hx.1
              have ve : anc Pr v (dq e) := by rw [← i2.2]; exact be.2.2.2.2 hx.2
              obtain ⟨_, j1⟩ := io_ok h hb hd hx.1 hv sd vd
              obtain ⟨_, j2⟩ := io_ok h hb he hx.2 hv se ve
              rcases j1 with ⟨w, _⟩ | ⟨_, c, c1, c2, c3, c4⟩
              · exact absurd (by rw [i1.2, w]) bd.2.2.2.1
              · rcases j2 with ⟨w, _⟩ | ⟨_, c', c1', c2', c3', c4'⟩
                · exact absurd (by rw [i2.2, w]) be.2.2.2.1
                · have hcc := tr_child h c1 c1' c4 (by rw [r]; exact c4')
                  rw [← hcc] at c3'
                  obtain ⟨v', D⟩ := deepest hn h hb hd he c1 ((pP_iff hn h hb hd c1).mpr ⟨anc_trans sd (anc_par c2), c3⟩) ((pP_iff hn h hb he c1).mpr ⟨anc_trans se (anc_par c2), c3'⟩)
                  have D' : Dc n Pr dq sh d e v' := D
                  have hvf := (pP_iff hn h hb hd D'.1).mp D'.2.1
                  have hvg := (pP_iff hn h hb he D'.1).mp D'.2.2.1
                  have o1 := out_Od h hb D'.1 hd hx.1 i1.1 hvf.1 hvf.2
                  have o2 := out_Od h hb D'.1 he hx.2 i2.1 hvg.1 hvg.2
                  rw [hq e d v' (Dc_symm D'), hq d e v' D', ho v' _ _ D'.1 o1.1 o2.1 (out_ne hn h hb hd hx.1 i1.1 he hx.2 i2.1 hde D')]
                  cases lam d <;> cases lam e <;> cases ord v' (outF Dp Pr Yb dq d v') (outF Dp Pr Yb dq e v') <;> rfl
            · rw [oS_fc hx.1 hx.2 p1 p2 r i1 i2, oS_cf hx.2 hx.1 p2 p1 r.symm i2]
              cases lam d <;> rfl
          · rw [oS_cf hx.1 hx.2 p1 p2 r i1]
            by_cases i2 : incm n Yb sh v e
            · rw [oS_fc hx.2 hx.1 p2 p1 r.symm i2 i1]
              cases lam e <;> rfl
            · rw [rep_o i1, rep_o i2] at r
              exact absurd r hde
        · rw [oS_n hx.1 hx.2 p1 p2 r, oS_n hx.2 hx.1 p2 p1 (fun z => r z.symm), ho v _ _ hv (hrep d hd hx.1) (hrep e he hx.2) r]
          cases ord v (repD n Dp Pr Yb dq sh v d) (repD n Dp Pr Yb dq sh v e) <;> rfl
  · have e1 : oS n x Dp Pr Yb dq sh lam ord q v d e = decide (d < e) := by unfold oS; rw [if_neg hx]
    have e2 : oS n x Dp Pr Yb dq sh lam ord q v e d = decide (e < d) := by unfold oS; rw [if_neg (fun z => hx ⟨z.2, z.1⟩)]
    rw [e1, e2]
    rcases Nat.lt_or_gt_of_ne hde with w | w
    · rw [decide_eq_true w, decide_eq_false (by omega)]; rfl
    · rw [decide_eq_false (show ¬ d < e by omega), decide_eq_true w]; rfl
/-- two circles, the upper end of f not above that of g -/
theorem oS_pair (hn : n ≤ 10) (hk : k ≤ 18) (hEn : ∀ e, e < k → E (2 * e) < n ∧ E (2 * e + 1) < n) (hne : ∀ e, e < k → E (2 * e) ≠ E (2 * e + 1)) (h : Forest n k E x Dp Pr Yb) (hb : bEnds n k E x Pr dq sh) (ho : ∀ v d e, v < n → d < k → e < k → d ≠ e → ord v e d = !ord v d e) (hA : ∀ v d e f, v < n → d < k → e < k → d ≠ e → Am n k x Dp Pr Yb dq sh v d e f → ord v d e = lam f) (hq : ∀ f g v, Dc n Pr dq sh f g v → q f g = ord v (outF Dp Pr Yb dq f v) (outF Dp Pr Yb dq g v))
    {f g v : Nat} (hf : f < k) (hxf : pm_has x (nI f) = true) (hnf : ¬ trE n Yb f) (hg : g < k) (hxg : pm_has x (nI g) = true) (hng : ¬ trE n Yb g) (hfg : f ≠ g) (hD : Dc n Pr dq sh f g v) (htop : anc Pr (sh g) (sh f)) :
    pg_I n k (eF E) (eS E) (oS n x Dp Pr Yb dq sh lam ord q) (cE E Dp Pr Yb f) (cE E Dp Pr Yb g) = false := by
  have ht := oS_tour (lam := lam) hn hk hEn hne h hb ho hq
  have hv := hD.1
  rw [I_meet hn hk hEn hne h hb ht hf hxf hnf hg hxg hng hv hD.2.1 hD.2.2.1 hD.2.2.2 htop]
  have bf := hb f hf
  have bg := hb g hg
  have hu := bf.2.1
  have vf := (pP_iff hn h hb hf hv).mp hD.2.1
  have vg := (pP_iff hn h hb hg hv).mp hD.2.2.1
  have hone := out_ne hn h hb hf hxf hnf hg hxg hng hfg hD
  have uf : anc Pr (sh f) (dq f) := bf.2.2.2.2 hxf
  have ug : anc Pr (sh f) (dq g) := anc_trans vf.1 vg.2
  have Oa := out_Od h hb hv hf hxf hnf vf.1 vf.2
  have Ob := out_Od h hb hv hg hxg hng vg.1 vg.2
  have Ou := out_Od h hb hu hf hxf hnf (anc_refl _ _) uf
  have nodeg : ∀ w f', w < n → ¬ trE n Yb f' → Yb w ≠ f' + 1 := fun w f' hw hn' z => hn' ⟨w, hw, z⟩
  have iu : incm n Yb sh (sh f) f := ⟨hnf, rfl⟩
  have cf := cyc_ok hn hk hEn hne h hb hf hxf hnf
  have cg := cyc_ok hn hk hEn hne h hb hg hxg hng
  obtain ⟨⟨a1, a2, a3, a4, a5⟩, a6⟩ := cf.1 v hv hD.2.1
  obtain ⟨⟨b1, b2, b3, b4, b5⟩, _⟩ := cg.1 v hv hD.2.2.1
  obtain ⟨⟨_, _, w3, _, _⟩, w6⟩ := cf.1 (sh f) hu ((pP_iff hn h hb hf hu).mpr ⟨anc_refl _ _, uf⟩)
  obtain ⟨⟨y1, _, _, y4, _⟩, _⟩ := cg.1 (sh f) hu ((pP_iff hn h hb hg hu).mpr ⟨htop, ug⟩)
  have eo : inF Yb sh f (sh f) = f := by unfold inF; rw [if_pos rfl]
  -- the edge by which g leaves v is not on the circle of f
  have n2 : cE E Dp Pr Yb f (outF Dp Pr Yb dq g v) = false := by
    have := a6 _ b2
    rw [b5, Bool.and_true, decide_eq_false (fun z => ?_), decide_eq_false (fun z => hone z.symm)] at this
    · exact this
    · by_cases c : v = sh f
      · rw [show inF Yb sh f v = f from by unfold inF; rw [if_pos c]] at z
        obtain ⟨_, j2⟩ := io_ok h hb hg hxg hv vg.1 vg.2
        rcases j2 with ⟨_, r⟩ | ⟨_, d, d1, _, _, d4⟩
        · exact hfg (by rw [← z, r])
        · rw [z] at d4; exact hnf ⟨d, d1, d4⟩
      · obtain ⟨i1, _⟩ := io_ok h hb hf hxf hv vf.1 vf.2
        rcases i1 with ⟨r, _⟩ | ⟨_, r⟩
        · exact c r
        · rw [← z] at r
          exact Ob.2.2.1 r
  have n1 : cE E Dp Pr Yb f (inF Yb sh g (sh f)) = false := by
    have := w6 _ y1
    rw [y4, Bool.and_true, eo] at this
    rw [this, Bool.or_eq_false_iff]
    by_cases c : sh f = sh g
    · rw [show inF Yb sh g (sh f) = g from by unfold inF; rw [if_pos c]]
      refine ⟨decide_eq_false (fun z => hfg z.symm), decide_eq_false (fun z => ?_)⟩
      exact Ou.2.2.2 (by rw [← z]; exact ⟨hng, c.symm⟩)
    · obtain ⟨i1, _⟩ := io_ok h hb hg hxg hu htop ug
      rcases i1 with ⟨r, _⟩ | ⟨_, r⟩
      · exact absurd r c
      · exact ⟨decide_eq_false (fun z => by rw [z] at r; exact nodeg _ _ hu hnf r), decide_eq_false (fun z => by rw [z] at r; exact Ou.2.2.1 r)⟩
  rw [n1, n2, Bool.not_false, Bool.true_and, Bool.true_and]
  show (pg_tau (oS n x Dp Pr Yb dq sh lam ord q) (sh f) (inF Yb sh f (sh f)) (outF Dp Pr Yb dq f (sh f)) (inF Yb sh g (sh f)) ^^ pg_tau (oS n x Dp Pr Yb dq sh lam ord q) v (inF Yb sh f v) (outF Dp Pr Yb dq f v) (outF Dp Pr Yb dq g v)) = false
  rw [eo]
  -- f against its own child edge
  have ofa : oS n x Dp Pr Yb dq sh lam ord q (sh f) f (outF Dp Pr Yb dq f (sh f)) = !lam f := oS_fc hxf Ou.2.1 (nodeg _ _ hu hnf) Ou.2.2.1 (by rw [rep_i iu, rep_o Ou.2.2.2]) iu Ou.2.2.2
  -- where g comes higher up
  have high : sh f ≠ sh g → pg_tau (oS n x Dp Pr Yb dq sh lam ord q) (sh f) f (outF Dp Pr Yb dq f (sh f)) (inF Yb sh g (sh f)) = lam f := fun c => by
    obtain ⟨i1, _⟩ := io_ok h hb hg hxg hu htop ug
    rcases i1 with ⟨r, _⟩ | ⟨_, r⟩
    · exact absurd r c
    · obtain ⟨_, _, _, p3, _⟩ := tr_edge h hu r
      unfold pg_tau
      rw [ofa, oS_q Ou.2.1 p3 r (fun z => by rw [← z] at r; exact Ou.2.2.1 r), oS_p p3 hxf r]
      cases lam f <;> rfl
  by_cases huv : v = sh f
  · subst huv
    rw [eo]
    have hab : repD n Dp Pr Yb dq sh (sh f) (outF Dp Pr Yb dq f (sh f)) ≠ repD n Dp Pr Yb dq sh (sh f) (outF Dp Pr Yb dq g (sh f)) := by rw [rep_o Oa.2.2.2, rep_o Ob.2.2.2]; exact hone
    have hbf : repD n Dp Pr Yb dq sh (sh f) (outF Dp Pr Yb dq g (sh f)) ≠ repD n Dp Pr Yb dq sh (sh f) f := by rw [rep_o Ob.2.2.2, rep_i iu]; exact fun z => hone z.symm
    have t2 : pg_tau (oS n x Dp Pr Yb dq sh lam ord q) (sh f) f (outF Dp Pr Yb dq f (sh f)) (outF Dp Pr Yb dq g (sh f)) = lam f := by
      unfold pg_tau
      rw [ofa, oS_n Oa.2.1 Ob.2.1 Oa.2.2.1 Ob.2.2.1 hab, oS_n Ob.2.1 hxf Ob.2.2.1 (nodeg _ _ hu hnf) hbf, rep_o Oa.2.2.2, rep_o Ob.2.2.2, rep_i iu, ho _ _ _ hu Oa.1 Ob.1 hone]
      cases lam f <;> cases ord (sh f) (outF Dp Pr Yb dq f (sh f)) (outF Dp Pr Yb dq g (sh f)) <;> rfl
    rw [t2]
    by_cases c : sh f = sh g
    · rw [show inF Yb sh g (sh f) = g from by unfold inF; rw [if_pos c]]
      have ig : incm n Yb sh (sh f) g := ⟨hng, c.symm⟩
      have t1 : pg_tau (oS n x Dp Pr Yb dq sh lam ord q) (sh f) f (outF Dp Pr Yb dq f (sh f)) g = lam f := by
        unfold pg_tau
        rw [ofa, oS_n Oa.2.1 hxg Oa.2.2.1 (nodeg _ _ hu hng) (by rw [rep_o Oa.2.2.2, rep_i ig]; exact hone), oS_n hxg hxf (nodeg _ _ hu hng) (nodeg _ _ hu hnf) (by rw [rep_i ig, rep_i iu]; exact fun z => hone z.symm), rep_o Oa.2.2.2, rep_i ig, rep_i iu, ho _ _ _ hu Oa.1 Ob.1 hone]
        cases lam f <;> cases ord (sh f) (outF Dp Pr Yb dq f (sh f)) (outF Dp Pr Yb dq g (sh f)) <;> rfl
      rw [t1]
      cases lam f <;> rfl
    · rw [high c]
      cases lam f <;> rfl
  · obtain ⟨i1, _⟩ := io_ok h hb hf hxf hv vf.1 vf.2
    rcases i1 with ⟨r, _⟩ | ⟨_, r⟩
    · exact absurd r huv
    · obtain ⟨_, _, _, p3, _⟩ := tr_edge h hv r
      have hab : repD n Dp Pr Yb dq sh v (outF Dp Pr Yb dq f v) ≠ repD n Dp Pr Yb dq sh v (outF Dp Pr Yb dq g v) := by rw [rep_o Oa.2.2.2, rep_o Ob.2.2.2]; exact hone
      have t2 : pg_tau (oS n x Dp Pr Yb dq sh lam ord q) v (inF Yb sh f v) (outF Dp Pr Yb dq f v) (outF Dp Pr Yb dq g v) = ord v (outF Dp Pr Yb dq f v) (outF Dp Pr Yb dq g v) := by
        unfold pg_tau
        rw [oS_p p3 Oa.2.1 r, oS_n Oa.2.1 Ob.2.1 Oa.2.2.1 Ob.2.2.1 hab, oS_q Ob.2.1 p3 r (fun z => by rw [← z] at r; exact Ob.2.2.1 r), rep_o Oa.2.2.2, rep_o Ob.2.2.2]
        cases ord v (outF Dp Pr Yb dq f v) (outF Dp Pr Yb dq g v) <;> rfl
      rw [t2]
      by_cases c : sh f = sh g
      · rw [show inF Yb sh g (sh f) = g from by unfold inF; rw [if_pos c]]
        have ig : incm n Yb sh (sh f) g := ⟨hng, c.symm⟩
        have hsame : outF Dp Pr Yb dq g (sh f) = outF Dp Pr Yb dq f (sh f) := by
          obtain ⟨c1, c2, c3⟩ := chd_ok h v hv vf.1 (fun z => huv z.symm)
          have nd : ∀ d, d < n → anc Pr v d → sh f ≠ d := fun d hd hvd w => by
            rw [← w] at hvd
            exact huv (anc_anc h hu hvd vf.1)
          unfold outF
          rw [if_neg (nd _ bg.1 vg.2), if_neg (nd _ bf.1 vf.2), chd_one h bg.1 c1 c2 (anc_trans c3 vg.2), chd_one h bf.1 c1 c2 (anc_trans c3 vf.2)]
        have t1 : pg_tau (oS n x Dp Pr Yb dq sh lam ord q) (sh f) f (outF Dp Pr Yb dq f (sh f)) g = q f g := by
          unfold pg_tau
          rw [ofa, oS_cf Ou.2.1 hxg Ou.2.2.1 (nodeg _ _ hu hng) (by rw [rep_o Ou.2.2.2, rep_i ig, hsame]) Ou.2.2.2, oS_ff hxg hxf (nodeg _ _ hu hng) (nodeg _ _ hu hnf) (by rw [rep_i ig, rep_i iu, hsame]) ig iu]
          cases lam f <;> cases lam g <;> cases q f g <;> rfl
        rw [t1, hq f g v hD]
        cases ord v (outF Dp Pr Yb dq f v) (outF Dp Pr Yb dq g v) <;> rfl
      · rw [high c]
        have hvg : sh g ≠ v := fun z => by
          rw [z] at htop
          exact huv (anc_anc h hu htop vf.1)
        rw [hA v _ _ f hv Oa.1 Ob.1 hone ⟨⟨hf, hxf, hnf, vf.1, fun z => huv z.symm, vf.2, rfl⟩, g, ⟨hg, hxg, hng, vg.1, hvg, vg.2, rfl⟩, anc_deep h hu htop (fun z => c z.symm)⟩]
        cases lam f <;> rfl
theorem sat_pp (hn : n ≤ 10) (hk : k ≤ 18) (hEn : ∀ e, e < k → E (2 * e) < n ∧ E (2 * e + 1) < n) (hne : ∀ e, e < k → E (2 * e) ≠ E (2 * e + 1)) (h : Forest n k E x Dp Pr Yb) (hb : bEnds n k E x Pr dq sh) (hs : ∃ lam, SATm n k x Dp Pr Yb dq sh lam) : pg_PP n k (eF E) (eS E) (Xi x k) := by
  obtain ⟨lam, hs⟩ := hs
  obtain ⟨ord, ho, hA⟩ := ord_ex hs
  obtain ⟨q, hq⟩ := q_ex (n := n) (dq := dq) (sh := sh) h ord
  have ht := oS_tour (lam := lam) hn hk hEn hne h hb ho hq
  refine ⟨oS n x Dp Pr Yb dq sh lam ord q, ht, ?_⟩
  have pair : ∀ f g, f < k → pm_has x (nI f) = true → ¬ trE n Yb f → g < k → pm_has x (nI g) = true → ¬ trE n Yb g → pg_I n k (eF E) (eS E) (oS n x Dp Pr Yb dq sh lam ord q) (cE E Dp Pr Yb f) (cE E Dp Pr Yb g) = false := by
    intro f g hf hxf hnf hg hxg hng
    by_cases hfg : f = g
    · subst hfg
      rw [I_sum hn hk hEn hne h hb ht hf hxf hnf hf hxf hnf]
      have cf := cyc_ok hn hk hEn hne h hb hf hxf hnf
      refine xr_zero (fun z hz => ?_)
      cases zf : pP Pr dq sh f z with
      | false => rfl
      | true =>
        obtain ⟨⟨q1, q2, _, q4, q5⟩, q6⟩ := cf.1 z hz zf
        have r1 := q6 _ q1
        have r2 := q6 _ q2
        rw [q4, Bool.and_true, decide_eq_true rfl, Bool.true_or] at r1
        rw [q5, Bool.and_true, decide_eq_true (rfl : outF Dp Pr Yb dq f z = outF Dp Pr Yb dq f z), Bool.or_true] at r2
        rw [r1, r2]; rfl
    · by_cases hc : ∃ z, z < n ∧ pP Pr dq sh f z = true ∧ pP Pr dq sh g z = true
      · obtain ⟨z, z1, z2, z3⟩ := hc
        obtain ⟨v, D⟩ := deepest hn h hb hf hg z1 z2 z3
        have D' : Dc n Pr dq sh f g v := D
        have vf := (pP_iff hn h hb hf D'.1).mp D'.2.1
        have vg := (pP_iff hn h hb hg D'.1).mp D'.2.2.1
        rcases anc_lin vg.1 vf.1 with w | w
        · exact oS_pair hn hk hEn hne h hb ho hA hq hf hxf hnf hg hxg hng hfg D' w
        · rw [pg_symm (fun e he => ⟨(hEn e he).1, (hEn e he).2, hne e he⟩) ht (cE_even hn hEn hne h hg hxg)]
          exact oS_pair hn hk hEn hne h hb ho hA hq hg hxg hng hf hxf hnf (fun z => hfg z.symm) (Dc_symm D') w
      · exact I_disj hn hk hEn hne h hb ht hf hxf hnf hg hxg hng (fun z hz => by
          cases z2 : pP Pr dq sh f z with
          | false => rfl
          | true =>
            cases z3 : pP Pr dq sh g z with
            | false => rfl
            | true => exact absurd ⟨z, hz, z2, z3⟩ hc)
  intro Y Z hY hZ sY sZ
  have eY : Y = fun g => xr k (fun e => Y e && cE E Dp Pr Yb e g) := funext (even_is hn hk hEn hne h hY sY)
  have eZ : Z = fun g => xr k (fun e => Z e && cE E Dp Pr Yb e g) := funext (even_is hn hk hEn hne h hZ sZ)
  have hasY : ∀ e, e < k → Y e = true → pm_has x (nI e) = true := fun e he q => by rw [pm_has_bt x (by omega)]; exact (Xi_t.mp (sY e q)).2
  have hasZ : ∀ e, e < k → Z e = true → pm_has x (nI e) = true := fun e he q => by rw [pm_has_bt x (by omega)]; exact (Xi_t.mp (sZ e q)).2
  rw [eY]
  refine I_lin Y (fun e => cE E Dp Pr Yb e) k (fun e he qe => ?_)
  by_cases t1 : trE n Yb e
  · have hz : cE E Dp Pr Yb e = (fun _ => false) := funext (cE_tree hEn h t1)
    show pg_I n k (eF E) (eS E) (oS n x Dp Pr Yb dq sh lam ord q) (cE E Dp Pr Yb e) Z = false
    rw [hz]
    exact I_zero
  · rw [eZ]
    refine I_linr Z (fun e => cE E Dp Pr Yb e) k (fun f hf qf => ?_)
    by_cases t2 : trE n Yb f
    · have hz : cE E Dp Pr Yb f = (fun _ => false) := funext (cE_tree hEn h t2)
      show pg_I n k (eF E) (eS E) (oS n x Dp Pr Yb dq sh lam ord q) (cE E Dp Pr Yb e) (cE E Dp Pr Yb f) = false
      rw [hz]
      exact I_zeror
    · exact pair e f he (hasY e he qe) t1 hf (hasZ f hf qf) t2
end SP
/-- the reference calls a part flat, if and only if it can be laid -/
theorem isf_pp {n k : Nat} {E : Nat → Nat} (hn : n ≤ 10) (hk : k ≤ 18) (hE : ∀ j, E j < 10) (hEn : ∀ e, e < k → E (2 * e) < n ∧ E (2 * e + 1) < n) (hne : ∀ e, e < k → E (2 * e) ≠ E (2 * e + 1)) (x : Int32) (s : (Nat → Int32) × (Nat → Nat) × (Nat → Nat) × (Nat → Nat) × (Nat → Nat) × (Nat → Nat) × (Nat → Nat) × (Nat → Int32) × (Nat → Int32) × (Nat → Int32) × Bool) (hPr : ∀ j, s.2.1 j ≤ 10) : pm_cfl (pm_isf n k E x s) = false ↔ pg_PP n k (eF E) (eS E) (Xi x k) := by
  have hR := pl_R (x := x) hn hk hE hEn hne s.1 s.2.1 s.2.2.1 s.2.2.2.1 s.2.2.2.2.1 hPr
  have hF := fR_forest hn hE hEn hne hR
  have hb := bEnds_ok (dq := s.2.2.2.2.2.1) (sh := s.2.2.2.2.2.2.1) hEn hne hF
  unfold pm_isf
  dsimp only [pm_cfl]
  rw [flat_iff hn hk]
  exact ⟨fun ⟨lam, h⟩ => sat_pp hn hk hEn hne hF hb ⟨lam, (sat_iff hn hk hE hEn hne hF hb lam).mp h⟩, fun h => (pp_sat hn hk hEn hne hF hb h).elim fun lam hl => ⟨lam, (sat_iff hn hk hE hEn hne hF hb lam).mpr hl⟩⟩
