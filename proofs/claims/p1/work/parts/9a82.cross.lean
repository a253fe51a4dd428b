/-! two circles of edges outside the forest: where they cross -/
section IX
variable {n k : Nat} {E : Nat → Nat} {x : Int32} {Dp : Nat → Int32} {Pr Yb dq sh : Nat → Nat} {o : Nat → Nat → Nat → Bool}
abbrev tauIn (Dp : Nat → Int32) (Pr Yb dq sh : Nat → Nat) (o : Nat → Nat → Nat → Bool) (f g z : Nat) : Bool := pg_tau o z (inF Yb sh f z) (outF Dp Pr Yb dq f z) (inF Yb sh g z)
abbrev tauOut (Dp : Nat → Int32) (Pr Yb dq sh : Nat → Nat) (o : Nat → Nat → Nat → Bool) (f g z : Nat) : Bool := pg_tau o z (inF Yb sh f z) (outF Dp Pr Yb dq f z) (outF Dp Pr Yb dq g z)
theorem I_sum (hn : n ≤ 10) (hk : k ≤ 18) (hEn : ∀ e, e < k → E (2 * e) < n ∧ E (2 * e + 1) < n) (hne : ∀ e, e < k → E (2 * e) ≠ E (2 * e + 1)) (h : Forest n k E x Dp Pr Yb) (hb : bEnds n k E x Pr dq sh) (ht : pg_tour n k (eF E) (eS E) o) {f g : Nat} (hf : f < k) (hxf : pm_has x (nI f) = true) (hnf : ¬ trE n Yb f) (hg : g < k) (hxg : pm_has x (nI g) = true) (hng : ¬ trE n Yb g) :
    pg_I n k (eF E) (eS E) o (cE E Dp Pr Yb f) (cE E Dp Pr Yb g) = xr n (fun z => (pP Pr dq sh f z && pP Pr dq sh g z) && ((!(cE E Dp Pr Yb f (inF Yb sh g z)) && tauIn Dp Pr Yb dq sh o f g z) ^^ (!(cE E Dp Pr Yb f (outF Dp Pr Yb dq g z)) && tauOut Dp Pr Yb dq sh o f g z))) := by
  have cf := cyc_ok hn hk hEn hne h hb hf hxf hnf
  have cg := cyc_ok hn hk hEn hne h hb hg hxg hng
  rw [pg_gl ht cf (cE_even hn hEn hne h hg hxg)]
  refine xr_congr (fun z hz => ?_)
  cases pf : pP Pr dq sh f z with
  | false => rfl
  | true =>
    cases pg : pP Pr dq sh g z with
    | false =>
      rw [Bool.true_and, Bool.and_false, Bool.false_and]
      exact xr_zero (fun d hd => by rw [cg.2.1 z hz pg d hd]; rfl)
    | true =>
      obtain ⟨⟨q1, q2, q3, q4, q5⟩, q6⟩ := cg.1 z hz pg
      rw [Bool.true_and, Bool.true_and]
      rw [xr_congr (g := fun d => (decide (d = inF Yb sh g z) || decide (d = outF Dp Pr Yb dq g z)) && (!(cE E Dp Pr Yb f d) && pg_tau o z (inF Yb sh f z) (outF Dp Pr Yb dq f z) d)) (fun d hd => by rw [q6 d hd])]
      rw [xr_two q1 q2 q3 (fun d _ e1 e2 => by rw [decide_eq_false e1, decide_eq_false e2]; rfl)]
      rw [decide_eq_true (rfl : inF Yb sh g z = inF Yb sh g z), decide_eq_true (rfl : outF Dp Pr Yb dq g z = outF Dp Pr Yb dq g z), Bool.true_or, Bool.or_true, Bool.true_and, Bool.true_and]
      rfl
theorem I_disj (hn : n ≤ 10) (hk : k ≤ 18) (hEn : ∀ e, e < k → E (2 * e) < n ∧ E (2 * e + 1) < n) (hne : ∀ e, e < k → E (2 * e) ≠ E (2 * e + 1)) (h : Forest n k E x Dp Pr Yb) (hb : bEnds n k E x Pr dq sh) (ht : pg_tour n k (eF E) (eS E) o) {f g : Nat} (hf : f < k) (hxf : pm_has x (nI f) = true) (hnf : ¬ trE n Yb f) (hg : g < k) (hxg : pm_has x (nI g) = true) (hng : ¬ trE n Yb g) (hd : ∀ z, z < n → (pP Pr dq sh f z && pP Pr dq sh g z) = false) : pg_I n k (eF E) (eS E) o (cE E Dp Pr Yb f) (cE E Dp Pr Yb g) = false := by
  rw [I_sum hn hk hEn hne h hb ht hf hxf hnf hg hxg hng]
  exact xr_zero (fun z hz => by rw [hd z hz]; rfl)
/-- the deepest common vertex v, the highest common vertex u, which is the upper end of f -/
theorem I_meet (hn : n ≤ 10) (hk : k ≤ 18) (hEn : ∀ e, e < k → E (2 * e) < n ∧ E (2 * e + 1) < n) (hne : ∀ e, e < k → E (2 * e) ≠ E (2 * e + 1)) (h : Forest n k E x Dp Pr Yb) (hb : bEnds n k E x Pr dq sh) (ht : pg_tour n k (eF E) (eS E) o) {f g : Nat} (hf : f < k) (hxf : pm_has x (nI f) = true) (hnf : ¬ trE n Yb f) (hg : g < k) (hxg : pm_has x (nI g) = true) (hng : ¬ trE n Yb g)
    {v : Nat} (hv : v < n) (vf : pP Pr dq sh f v = true) (vg : pP Pr dq sh g v = true) (hdeep : ∀ z, z < n → pP Pr dq sh f z = true → pP Pr dq sh g z = true → anc Pr z v) (htop : anc Pr (sh g) (sh f)) :
    pg_I n k (eF E) (eS E) o (cE E Dp Pr Yb f) (cE E Dp Pr Yb g) = ((!(cE E Dp Pr Yb f (inF Yb sh g (sh f))) && tauIn Dp Pr Yb dq sh o f g (sh f)) ^^ (!(cE E Dp Pr Yb f (outF Dp Pr Yb dq g v)) && tauOut Dp Pr Yb dq sh o f g v)) := by
  rw [I_sum hn hk hEn hne h hb ht hf hxf hnf hg hxg hng]
  have hbf := hb f hf
  have hbg := hb g hg
  have hu : sh f < n := hbf.2.1
  have vf' := (pP_iff hn h hb hf hv).mp vf
  have vg' := (pP_iff hn h hb hg hv).mp vg
  have uf : pP Pr dq sh f (sh f) = true := (pP_iff hn h hb hf hu).mpr ⟨anc_refl _ _, hbf.2.2.2.2 hxf⟩
  have ug : pP Pr dq sh g (sh f) = true := (pP_iff hn h hb hg hu).mpr ⟨htop, anc_trans vf'.1 vg'.2⟩
  have cf := cyc_ok hn hk hEn hne h hb hf hxf hnf
  have hA : ∀ z, z < n → pP Pr dq sh f z = true → pP Pr dq sh g z = true → z ≠ sh f → (!(cE E Dp Pr Yb f (inF Yb sh g z)) && tauIn Dp Pr Yb dq sh o f g z) = false := fun z hz zf zg hzu => by
    have zf' := (pP_iff hn h hb hf hz).mp zf
    have zg' := (pP_iff hn h hb hg hz).mp zg
    have hzg : z ≠ sh g := fun q => by
      have := anc_anc h hu (by rw [← q] at htop; exact htop) zf'.1
      exact hzu this
    have e1 : inF Yb sh g z = inF Yb sh f z := by unfold inF; rw [if_neg hzg, if_neg hzu]
    obtain ⟨⟨q1, _, _, q4, _⟩, q6⟩ := cf.1 z hz zf
    have := q6 _ q1
    rw [q4, Bool.and_true, decide_eq_true rfl, Bool.true_or] at this
    rw [e1, this]; rfl
  have hB : ∀ z, z < n → pP Pr dq sh f z = true → pP Pr dq sh g z = true → z ≠ v → (!(cE E Dp Pr Yb f (outF Dp Pr Yb dq g z)) && tauOut Dp Pr Yb dq sh o f g z) = false := fun z hz zf zg hzv => by
    have hzv' := hdeep z hz zf zg
    obtain ⟨c1, c2, c3⟩ := chd_ok h v hv hzv' hzv
    have hcd := (par_dep h c1 c2).2.1
    have nd : ∀ d, anc Pr v d → d < n → z ≠ d := fun d hd hdn q => by
      rw [← q] at hd
      exact hzv (anc_anc h hv hzv' hd)
    have e1 : outF Dp Pr Yb dq g z = outF Dp Pr Yb dq f z := by
      unfold outF
      rw [if_neg (nd _ vg'.2 hbg.1), if_neg (nd _ vf'.2 hbf.1), chd_one h hbg.1 c1 c2 (anc_trans c3 vg'.2), chd_one h hbf.1 c1 c2 (anc_trans c3 vf'.2)]
    obtain ⟨⟨_, q2, _, _, q5⟩, q6⟩ := cf.1 z hz zf
    have := q6 _ q2
    rw [q5, Bool.and_true, decide_eq_true (rfl : outF Dp Pr Yb dq f z = outF Dp Pr Yb dq f z), Bool.or_true] at this
    rw [e1, this]; rfl
  by_cases huv : sh f = v
  · subst huv
    rw [xr_one hv (fun z hz hzv => ?_)]
    · rw [vf, vg]; rfl
    · cases zf : pP Pr dq sh f z with
      | false => rfl
      | true =>
        cases zg : pP Pr dq sh g z with
        | false => rfl
        | true => rw [hA z hz zf zg hzv, hB z hz zf zg hzv]; rfl
  · rw [xr_two hu hv huv (fun z hz h1 h2 => ?_)]
    · rw [uf, ug, vf, vg, hB _ hu uf ug huv, hA _ hv vf vg (fun q => huv q.symm)]
      simp
    · cases zf : pP Pr dq sh f z with
      | false => rfl
      | true =>
        cases zg : pP Pr dq sh g z with
        | false => rfl
        | true => rw [hA z hz zf zg h1, hB z hz zf zg h2]; rfl
/-- common vertices have a deepest one -/
theorem deepest (hn : n ≤ 10) (h : Forest n k E x Dp Pr Yb) (hb : bEnds n k E x Pr dq sh) {f g : Nat} (hf : f < k) (hg : g < k) {z : Nat} (hz : z < n) (zf : pP Pr dq sh f z = true) (zg : pP Pr dq sh g z = true) : ∃ v, v < n ∧ pP Pr dq sh f v = true ∧ pP Pr dq sh g v = true ∧ ∀ w, w < n → pP Pr dq sh f w = true → pP Pr dq sh g w = true → anc Pr w v := by
  have : ∀ d, d ≤ 10 → ∀ z, z < n → pP Pr dq sh f z = true → pP Pr dq sh g z = true → 10 - d ≤ dep Dp z → ∃ v, v < n ∧ pP Pr dq sh f v = true ∧ pP Pr dq sh g v = true ∧ ∀ w, w < n → pP Pr dq sh f w = true → pP Pr dq sh g w = true → anc Pr w v := by
    intro d
    induction d with
    | zero =>
      intro _ z hz _ _ hd
      have : dep Dp z ≤ 9 := (fo_dep h hz).1
      omega
    | succ d ih =>
      intro hd z hz zf zg hdz
      by_cases q : ∃ w, w < n ∧ pP Pr dq sh f w = true ∧ pP Pr dq sh g w = true ∧ ¬ anc Pr w z
      · obtain ⟨w, w1, w2, w3, w4⟩ := q
        have zf' := (pP_iff hn h hb hf hz).mp zf
        have wf' := (pP_iff hn h hb hf w1).mp w2
        rcases anc_lin zf'.2 wf'.2 with r | r
        · have := (anc_lt h w1 r).2
          have hlt : dep Dp z < dep Dp w := by
            rcases this with s | s
            · exact absurd (by rw [s]; exact anc_refl _ _) w4
            · exact s
          exact ih (by omega) w w1 w2 w3 (by omega)
        · exact absurd r w4
      · refine ⟨z, hz, zf, zg, fun w w1 w2 w3 => ?_⟩
        exact Classical.byContradiction fun r => q ⟨w, w1, w2, w3, r⟩
  exact this 10 (Nat.le_refl _) z hz zf zg (by omega)
end IX
