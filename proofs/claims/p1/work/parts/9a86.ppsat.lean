/-! the form is symmetric; a laid part gives sides that keep the comparisons -/
theorem pg_loc_symm {n m : Nat} {a b : Nat → Nat} {o : Nat → Nat → Nat → Bool} {Y Z : Nat → Bool} {v : Nat} (hv : v < n) (ht : pg_tour n m a b o) (hZ : xr m (fun e => Z e && pg_inc a b v e) = false) : (pg_loc m a b o Y Z v ^^ pg_loc m a b o Z Y v) = xr m (fun e => (Y e && Z e) && pg_inc a b v e) := by
  have e1 : pg_loc m a b o Z Y v = xr m (fun e => xr m (fun f => (Z f && pg_inc a b v f) && ((Y e && pg_inc a b v e) && (!decide (f = e) && o v f e)))) := by
    unfold pg_loc
    rw [xr_swap]
  rw [e1]
  unfold pg_loc
  rw [← xr_xor]
  refine xr_congr (fun e he => ?_)
  rw [← xr_xor]
  have e2 : xr m (fun f => ((Y e && pg_inc a b v e) && ((Z f && pg_inc a b v f) && (!decide (e = f) && o v e f))) ^^ ((Z f && pg_inc a b v f) && ((Y e && pg_inc a b v e) && (!decide (f = e) && o v f e)))) = xr m (fun f => ((Y e && pg_inc a b v e) && (Z f && pg_inc a b v f)) ^^ (decide (f = e) && ((Y e && pg_inc a b v e) && (Z f && pg_inc a b v f)))) := by
    refine xr_congr (fun f hf => ?_)
    by_cases q : e = f
    · subst q
      rw [decide_eq_true rfl]
      generalize (Y e && pg_inc a b v e) = A
      generalize (Z e && pg_inc a b v e) = B
      cases A <;> cases B <;> rfl
    · rw [decide_eq_false q, decide_eq_false (fun z => q z.symm)]
      cases hA : (Y e && pg_inc a b v e) with
      | false => cases (Z f && pg_inc a b v f) <;> rfl
      | true =>
        cases hB : (Z f && pg_inc a b v f) with
        | false => rfl
        | true =>
          rw [Bool.and_eq_true] at hA hB
          have t := ht v e f hv he hf q hA.2 hB.2
          revert t
          cases o v e f <;> cases o v f e <;> decide
  rw [e2, xr_xor, xr_and, hZ, Bool.and_false, Bool.false_xor, xr_one (k := e) he (fun i _ hie => by rw [decide_eq_false hie]; rfl), decide_eq_true rfl]
  cases Y e <;> cases Z e <;> cases pg_inc a b v e <;> rfl
theorem pg_symm {n m : Nat} {a b : Nat → Nat} {o : Nat → Nat → Nat → Bool} {Y Z : Nat → Bool} (hab : ∀ e, e < m → a e < n ∧ b e < n ∧ a e ≠ b e) (ht : pg_tour n m a b o) (hZ : pg_even n m a b Z) : pg_I n m a b o Y Z = pg_I n m a b o Z Y := by
  have h1 : (xr n (fun v => pg_loc m a b o Y Z v) ^^ xr n (fun v => pg_loc m a b o Z Y v)) = false := by
    rw [← xr_xor, xr_congr (fun v hv => pg_loc_symm hv ht (hZ.2 v hv)), xr_swap]
    refine xr_zero (fun e he => ?_)
    rw [xr_and]
    obtain ⟨q1, q2, q3⟩ := hab e he
    rw [xr_two q1 q2 q3 (fun i _ h1 h2 => by unfold pg_inc; rw [decide_eq_false (fun z => h1 z.symm), decide_eq_false (fun z => h2 z.symm)]; rfl)]
    unfold pg_inc
    rw [decide_eq_true (rfl : a e = a e), decide_eq_true (rfl : b e = b e), Bool.true_or, Bool.or_true]
    exact Bool.and_false _
  unfold pg_I
  have h2 : xr m (fun e => Y e && Z e) = xr m (fun e => Z e && Y e) := xr_congr (fun e _ => Bool.and_comm _ _)
  rw [h2]
  revert h1
  generalize xr n (fun v => pg_loc m a b o Y Z v) = p
  generalize xr n (fun v => pg_loc m a b o Z Y v) = q
  cases p <;> cases q <;> simp
theorem tau_swap {n m : Nat} {a b : Nat → Nat} {o : Nat → Nat → Nat → Bool} (ht : pg_tour n m a b o) {v p d e : Nat} (hv : v < n) (hp : p < m) (hd : d < m) (he : e < m) (ip : pg_inc a b v p = true) (id' : pg_inc a b v d = true) (ie : pg_inc a b v e = true) (h1 : p ≠ d) (h2 : p ≠ e) (h3 : d ≠ e) : pg_tau o v p e d = !pg_tau o v p d e := by
  have t1 := ht v p d hv hp hd h1 ip id'
  have t2 := ht v p e hv hp he h2 ip ie
  have t3 := ht v d e hv hd he h3 id' ie
  unfold pg_tau
  revert t1 t2 t3
  cases o v p d <;> cases o v d p <;> cases o v p e <;> cases o v e p <;> cases o v d e <;> cases o v e d <;> decide
section PS
variable {n k : Nat} {E : Nat → Nat} {x : Int32} {Dp : Nat → Int32} {Pr Yb dq sh : Nat → Nat}
theorem cE_X (hEn : ∀ e, e < k → E (2 * e) < n ∧ E (2 * e + 1) < n) (hk : k ≤ 18) (h : Forest n k E x Dp Pr Yb) (hb : bEnds n k E x Pr dq sh) {f : Nat} (hf : f < k) (hx : pm_has x (nI f) = true) (hnt : ¬ trE n Yb f) (g : Nat) (hg : cE E Dp Pr Yb f g = true) : Xi x k g = true := by
  rcases (cE_iff hEn h hb hf hx hnt g).mp hg with q | ⟨z, z1, z2, _⟩
  · rw [q]; exact Xi_t.mpr ⟨hf, by rw [pm_has_bt x (by omega)] at hx; exact hx⟩
  · obtain ⟨_, _, p2, p3, _⟩ := tr_edge h z1 z2
    exact Xi_t.mpr ⟨p2, by rw [pm_has_bt x (by omega)] at p3; exact p3⟩
/-- at v, left by two edges: v is the deepest common vertex -/
theorem fr_deep (hn : n ≤ 10) (h : Forest n k E x Dp Pr Yb) (hb : bEnds n k E x Pr dq sh) {v f g : Nat} (hv : v < n) (hf : f < k) (hg : g < k) (vf : anc Pr v (dq f)) (vg : anc Pr v (dq g)) (hne : outF Dp Pr Yb dq f v ≠ outF Dp Pr Yb dq g v) : ∀ z, z < n → pP Pr dq sh f z = true → pP Pr dq sh g z = true → anc Pr z v := by
  intro z hz zf zg
  have zf' := (pP_iff hn h hb hf hz).mp zf
  have zg' := (pP_iff hn h hb hg hz).mp zg
  rcases anc_lin zf'.2 vf with q | q
  · exact q
  · by_cases e : v = z
    · rw [e]; exact anc_refl _ _
    · exfalso
      obtain ⟨c1, c2, c3⟩ := chd_ok h z hz q e
      have nd : ∀ d, d < n → anc Pr z d → v ≠ d := fun d hd hzd w => by
        rw [← w] at hzd
        exact e (anc_anc h hz q hzd)
      apply hne
      unfold outF
      rw [if_neg (nd _ (hb f hf).1 zf'.2), if_neg (nd _ (hb g hg).1 zg'.2), chd_one h (hb f hf).1 c1 c2 (anc_trans c3 zf'.2), chd_one h (hb g hg).1 c1 c2 (anc_trans c3 zg'.2)]
theorem pp_sat (hn : n ≤ 10) (hk : k ≤ 18) (hEn : ∀ e, e < k → E (2 * e) < n ∧ E (2 * e + 1) < n) (hne : ∀ e, e < k → E (2 * e) ≠ E (2 * e + 1)) (h : Forest n k E x Dp Pr Yb) (hb : bEnds n k E x Pr dq sh) (hP : pg_PP n k (eF E) (eS E) (Xi x k)) : ∃ lam, SATm n k x Dp Pr Yb dq sh lam := by
  obtain ⟨o, ht, hI⟩ := hP
  refine ⟨fun f => pg_tau o (sh f) f (outF Dp Pr Yb dq f (sh f)) (Yb (sh f) - 1), ?_⟩
  have at2 : ∀ v e1 e2 f, v < n → e1 ≠ e2 → Am n k x Dp Pr Yb dq sh v e1 e2 f → (pg_tau o (sh f) f (outF Dp Pr Yb dq f (sh f)) (Yb (sh f) - 1) = pg_tau o v (Yb v - 1) e1 e2) ∧ pg_tau o v (Yb v - 1) e2 e1 = !pg_tau o v (Yb v - 1) e1 e2 := by
    intro v e1 e2 f hv h12 hA
    obtain ⟨⟨f1, f2, f3, f4, f5, f6, f7⟩, g, ⟨g1, g2, g3, g4, g5, g6, g7⟩, hd⟩ := hA
    have bf := hb f f1
    have bg := hb g g1
    have cf := cyc_ok hn hk hEn hne h hb f1 f2 f3
    have cg := cyc_ok hn hk hEn hne h hb g1 g2 g3
    have vf := (pP_iff hn h hb f1 hv).mpr ⟨f4, f6⟩
    have vg := (pP_iff hn h hb g1 hv).mpr ⟨g4, g6⟩
    have hdeep := fr_deep hn h hb hv f1 g1 f6 g6 (by rw [f7, g7]; exact h12)
    have htop : anc Pr (sh g) (sh f) := by
      rcases anc_lin g4 f4 with q | q
      · exact q
      · by_cases e : sh f = sh g
        · rw [e]; exact anc_refl _ _
        · have := anc_deep h bg.2.1 q e
          omega
    have hsg : sh f ≠ sh g := fun q => by rw [q] at hd; omega
    have hz := hI _ _ (cE_even hn hEn hne h f1 f2) (cE_even hn hEn hne h g1 g2) (cE_X hEn hk h hb f1 f2 f3) (cE_X hEn hk h hb g1 g2 g3)
    rw [I_meet hn hk hEn hne h hb ht f1 f2 f3 g1 g2 g3 hv vf vg hdeep htop] at hz
    obtain ⟨⟨a1, a2, a3, a4, a5⟩, a6⟩ := cf.1 v hv vf
    obtain ⟨⟨b1, b2, b3, b4, b5⟩, _⟩ := cg.1 v hv vg
    have ei : inF Yb sh f v = Yb v - 1 := by unfold inF; rw [if_neg (fun z => f5 z.symm)]
    have ej : inF Yb sh g v = Yb v - 1 := by unfold inF; rw [if_neg (fun z => g5 z.symm)]
    have eu : inF Yb sh g (sh f) = Yb (sh f) - 1 := by unfold inF; rw [if_neg hsg]
    have eo : inF Yb sh f (sh f) = f := by unfold inF; rw [if_pos rfl]
    have n1 : cE E Dp Pr Yb f (Yb (sh f) - 1) = false := by
      rcases anc_step htop with q | ⟨p, p1, p2⟩
      · exact absurd q.symm hsg
      · obtain ⟨_, _, y, hy⟩ := par_dep h bf.2.1 p1
        cases w : cE E Dp Pr Yb f (Yb (sh f) - 1) with
        | false => rfl
        | true =>
          rw [hy, Nat.add_sub_cancel] at w
          rcases (cE_iff hEn h hb f1 f2 f3 y).mp w with r | ⟨z, z1, z2, z3, z4, z5⟩
          · rw [r] at hy
            exact absurd ⟨_, bf.2.1, hy⟩ f3
          · exact absurd (tr_child h bf.2.1 z1 hy z2) z5
    have n2 : cE E Dp Pr Yb f (outF Dp Pr Yb dq g v) = false := by
      have := a6 _ b2
      rw [b5, Bool.and_true, decide_eq_false (fun z => b3 (by rw [ej, ← ei]; exact z.symm)), decide_eq_false (fun z => h12 (by rw [← f7, ← g7]; exact z.symm))] at this
      exact this
    have eI : tauIn Dp Pr Yb dq sh o f g (sh f) = pg_tau o (sh f) f (outF Dp Pr Yb dq f (sh f)) (Yb (sh f) - 1) := by
      show pg_tau o (sh f) (inF Yb sh f (sh f)) (outF Dp Pr Yb dq f (sh f)) (inF Yb sh g (sh f)) = _
      rw [eo, eu]
    have eO : tauOut Dp Pr Yb dq sh o f g v = pg_tau o v (Yb v - 1) e1 e2 := by
      show pg_tau o v (inF Yb sh f v) (outF Dp Pr Yb dq f v) (outF Dp Pr Yb dq g v) = _
      rw [ei, f7, g7]
    rw [eu, n1, n2, eI, eO] at hz
    rw [ei] at a1 a3 a4
    rw [f7] at a2 a3 a5
    rw [ej] at b3
    rw [g7] at b2 b3 b5
    refine ⟨?_, tau_swap ht hv a1 a2 b2 a4 a5 b5 a3 b3 h12⟩
    revert hz
    generalize pg_tau o (sh f) f (outF Dp Pr Yb dq f (sh f)) (Yb (sh f) - 1) = p
    generalize pg_tau o v (Yb v - 1) e1 e2 = q
    cases p <;> cases q <;> decide
  intro v e1 e2 hv h1 h2 h12
  refine ⟨fun f f' a a' => ?_, fun f g a c => ?_⟩
  · exact (at2 v e1 e2 f hv h12 a).1.trans (at2 v e1 e2 f' hv h12 a').1.symm
  · show pg_tau o (sh f) f (outF Dp Pr Yb dq f (sh f)) (Yb (sh f) - 1) ≠ pg_tau o (sh g) g (outF Dp Pr Yb dq g (sh g)) (Yb (sh g) - 1)
    rw [(at2 v e1 e2 f hv h12 a).1, (at2 v e2 e1 g hv (fun z => h12 z.symm) c).1, (at2 v e1 e2 f hv h12 a).2]
    cases pg_tau o v (Yb v - 1) e1 e2 <;> decide
end PS
