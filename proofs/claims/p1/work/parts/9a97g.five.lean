/-! five vertices, two of them not joined: laid; parts carried over by a map -/
def dg5 (c e : Nat) : Nat := c / 10 ^ e % 10
def a5 (e : Nat) : Nat := dg5 221110000 e
def b5 (e : Nat) : Nat := dg5 434324321 e
def r5 (v : Nat) : Nat := if v = 0 then 999992031 else if v = 1 then 992019993 else if v = 2 then 209939919 else if v = 3 then 919299099 else 291990999
def p5 (v e : Nat) : Nat := dg5 (r5 v) e
def o5 (v d e : Nat) : Bool := decide (p5 v d < p5 v e)
def T5 (e g : Nat) : Bool := decide (4 ≤ e) && (decide (g = e) || (decide (g + 1 = a5 e) || decide (g + 1 = b5 e)))
theorem k5_tb : ∀ v, v < 5 → ∀ e, e < 9 → ∀ f, f < 9 → (decide (e = f) || (!(pg_inc a5 b5 v e) || (!(pg_inc a5 b5 v f) || (o5 v e f ^^ o5 v f e)))) = true := by decide +kernel
theorem k5_tour (v : Nat) (hv : v < 5) (e : Nat) (he : e < 9) (f : Nat) (hf : f < 9) (hef : e ≠ f) (ie : pg_inc a5 b5 v e = true) (jf : pg_inc a5 b5 v f = true) : (o5 v e f ^^ o5 v f e) = true := by
  have := k5_tb v hv e he f hf
  rw [decide_eq_false hef, ie, jf] at this
  exact this
theorem k5_I : ∀ e, e < 9 → ∀ f, f < 9 → pg_I 5 9 a5 b5 o5 (T5 e) (T5 f) = false := by decide +kernel
theorem k5_inc : ∀ g, g < 4 → ∀ e, e < 9 → pg_inc a5 b5 (g + 1) e = (decide (e = g) ^^ T5 e g) := by decide +kernel
theorem k5_T : ∀ g, g < 9 → 4 ≤ g → ∀ e, e < 9 → T5 e g = decide (e = g) := by decide +kernel
theorem k5_9 : ∀ e, e < 9 → a5 e ≤ 4 ∧ b5 e ≤ 4 := by decide +kernel
theorem k5_PP : pg_PP 5 9 a5 b5 (fun e => decide (e < 9)) := by
  have dec : ∀ Y, pg_even 5 9 a5 b5 Y → Y = fun g => xr 9 (fun e => Y e && T5 e g) := fun Y hY => by
    funext g
    rcases Nat.lt_or_ge g 9 with hg | hg
    · rcases Nat.lt_or_ge g 4 with h4 | h4
      · have h := hY.2 (g + 1) (by omega)
        have e : xr 9 (fun e => Y e && pg_inc a5 b5 (g + 1) e) = (Y g ^^ xr 9 (fun e => Y e && T5 e g)) := by
          rw [xr_congr (g := fun e => (Y e && decide (e = g)) ^^ (Y e && T5 e g)) (fun e he => by
            rw [k5_inc g h4 e he]
            cases Y e <;> cases decide (e = g) <;> cases T5 e g <;> rfl), xr_xor, xr_one (k := g) (f := fun e => Y e && decide (e = g)) hg (fun i _ hi => by rw [decide_eq_false hi, Bool.and_false]), decide_eq_true rfl, Bool.and_true]
        rw [e] at h
        revert h
        cases Y g <;> cases xr 9 (fun e => Y e && T5 e g) <;> decide
      · rw [xr_one (k := g) hg (fun i hi hne => by rw [k5_T g hg h4 i hi, decide_eq_false hne, Bool.and_false]), k5_T g hg h4 g hg, decide_eq_true rfl, Bool.and_true]
    · rw [hY.1 g hg]
      refine (xr_zero (fun e he => ?_)).symm
      have := k5_9 e he
      unfold T5
      rw [decide_eq_false (show ¬ g = e by omega), decide_eq_false (show ¬ g + 1 = a5 e by omega), decide_eq_false (show ¬ g + 1 = b5 e by omega)]
      cases Y e <;> cases decide (4 ≤ e) <;> rfl
  refine ⟨o5, fun v e f hv he hf hef ie jf => k5_tour v hv e he f hf hef ie jf, fun Y Z hY hZ _ _ => ?_⟩
  rw [dec Y hY]
  refine I_lin Y (fun e => T5 e) 9 (fun e he _ => ?_)
  rw [dec Z hZ]
  exact I_linr Z (fun e => T5 e) 9 (fun f hf _ => k5_I e he f hf)
section MP
variable {n m : Nat} {a b : Nat → Nat} {X : Nat → Bool} {n' m' : Nat} {a' b' : Nat → Nat} {X' : Nat → Bool}
/-- the image of a set of edges -/
def img (m : Nat) (ep : Nat → Nat) (Y : Nat → Bool) : Nat → Bool := fun e' => xr m (fun e => Y e && decide (ep e = e'))
theorem img_sum {ep : Nat → Nat} {Y : Nat → Bool} (hb : ∀ e, e < m → Y e = true → ep e < m') (φ : Nat → Bool) : xr m' (fun e' => img m ep Y e' && φ e') = xr m (fun e => Y e && φ (ep e)) := by
  unfold img
  rw [xr_congr (g := fun e' => xr m (fun e => (Y e && decide (ep e = e')) && φ e')) (fun e' _ => (xr_and_r m (φ e') (fun e => Y e && decide (ep e = e'))).symm), xr_swap]
  refine xr_congr (fun e he => ?_)
  cases hY : Y e with
  | false => exact xr_zero (fun e' _ => rfl)
  | true =>
    rw [xr_one (k := ep e) (hb e he hY) (fun i _ hi => by rw [decide_eq_false (fun z => hi z.symm)]; rfl), decide_eq_true rfl]
    rfl
theorem PP_map {P : Nat → Bool} {sg ep : Nat → Nat} (hP : ∀ v e, v < n → e < m → X e = true → pg_inc a b v e = true → P v = true) (hs : ∀ v, v < n → P v = true → sg v < n') (hsi : ∀ u v, u < n → v < n → P u = true → P v = true → sg u = sg v → u = v)
    (hab : ∀ e, e < m → a e < n ∧ b e < n ∧ a e ≠ b e) (he : ∀ e, e < m → X e = true → ep e < m' ∧ X' (ep e) = true ∧ pg_joins a' b' (ep e) (sg (a e)) (sg (b e))) (hei : ∀ e f, e < m → f < m → X e = true → X f = true → ep e = ep f → e = f)
    (h : pg_PP n' m' a' b' X') : pg_PP n m a b X := by
  obtain ⟨o', t', hI⟩ := h
  have Pa : ∀ e, e < m → X e = true → P (a e) = true ∧ P (b e) = true := fun e hem hx => by
    obtain ⟨q1, q2, q3⟩ := hab e hem
    exact ⟨hP _ e q1 hem hx ((inc_t (Or.inl ⟨rfl, rfl⟩) q3).mpr (Or.inl rfl)), hP _ e q2 hem hx ((inc_t (Or.inl ⟨rfl, rfl⟩) q3).mpr (Or.inr rfl))⟩
  -- where an edge lies
  have hinc : ∀ v e, v < n → e < m → P v = true → X e = true → pg_inc a' b' (sg v) (ep e) = pg_inc a b v e := fun v e hv hem hp hx => by
    obtain ⟨q1, q2, q3⟩ := hab e hem
    obtain ⟨p1, p2⟩ := Pa e hem hx
    have hne : sg (a e) ≠ sg (b e) := fun z => q3 (hsi _ _ q1 q2 p1 p2 z)
    rw [Bool.eq_iff_iff, inc_t (he e hem hx).2.2 hne, inc_t (a := a) (b := b) (e := e) (Or.inl ⟨rfl, rfl⟩) q3]
    exact ⟨fun z => z.elim (fun w => Or.inl (hsi _ _ hv q1 hp p1 w)) (fun w => Or.inr (hsi _ _ hv q2 hp p2 w)), fun z => z.elim (fun w => Or.inl (by rw [w])) (fun w => Or.inr (by rw [w]))⟩
  have hoff : ∀ v' e, e < m → X e = true → (∀ v, v < n → P v = true → sg v ≠ v') → pg_inc a' b' v' (ep e) = false := fun v' e hem hx hno => by
    obtain ⟨q1, q2, q3⟩ := hab e hem
    obtain ⟨p1, p2⟩ := Pa e hem hx
    have hne : sg (a e) ≠ sg (b e) := fun z => q3 (hsi _ _ q1 q2 p1 p2 z)
    cases q : pg_inc a' b' v' (ep e) with
    | false => rfl
    | true =>
      rcases (inc_t (he e hem hx).2.2 hne).mp q with w | w
      · exact absurd w.symm (hno _ q1 p1)
      · exact absurd w.symm (hno _ q2 p2)
  have ho : ∃ o : Nat → Nat → Nat → Bool, (∀ v d e, P v = true → X d = true → X e = true → o v d e = o' (sg v) (ep d) (ep e)) ∧ ∀ v d e, ¬ (P v = true ∧ X d = true ∧ X e = true) → o v d e = decide (d < e) :=
    ⟨fun v d e => if P v = true ∧ X d = true ∧ X e = true then o' (sg v) (ep d) (ep e) else decide (d < e), fun v d e q1 q2 q3 => if_pos ⟨q1, q2, q3⟩, fun v d e q => if_neg q⟩
  obtain ⟨o, o1, o2⟩ := ho
  have ht : pg_tour n m a b o := by
    intro v e f hv hem hfm hef ie jf
    by_cases c : P v = true ∧ X e = true ∧ X f = true
    · rw [o1 v e f c.1 c.2.1 c.2.2, o1 v f e c.1 c.2.2 c.2.1]
      exact t' _ _ _ (hs v hv c.1) (he e hem c.2.1).1 (he f hfm c.2.2).1 (fun z => hef (hei e f hem hfm c.2.1 c.2.2 z)) (by rw [hinc v e hv hem c.1 c.2.1]; exact ie) (by rw [hinc v f hv hfm c.1 c.2.2]; exact jf)
    · rw [o2 v e f c, o2 v f e (fun z => c ⟨z.1, z.2.2, z.2.1⟩)]
      rcases Nat.lt_or_gt_of_ne hef with q | q
      · rw [decide_eq_true q, decide_eq_false (show ¬ f < e by omega)]; rfl
      · rw [decide_eq_false (show ¬ e < f by omega), decide_eq_true (show f < e from q)]; rfl
  have bd : ∀ Y : Nat → Bool, (∀ e, Y e = true → X e = true) → ∀ e, e < m → Y e = true → ep e < m' := fun Y sY e hem hy => (he e hem (sY e hy)).1
  have hcase : ∀ v', (∃ v, v < n ∧ P v = true ∧ sg v = v') ∨ ∀ v, v < n → P v = true → sg v ≠ v' := fun v' => by
    by_cases c : ∃ v, v < n ∧ P v = true ∧ sg v = v'
    · exact Or.inl c
    · exact Or.inr (fun v q1 q2 q3 => c ⟨v, q1, q2, q3⟩)
  have even' : ∀ Y, pg_even n m a b Y → (∀ e, Y e = true → X e = true) → pg_even n' m' a' b' (img m ep Y) := fun Y hY sY => by
    refine ⟨fun e' he' => xr_zero (fun e hem => ?_), fun v' hv' => ?_⟩
    · cases q : Y e with
      | false => rfl
      | true =>
        have := bd Y sY e hem q
        rw [decide_eq_false (by omega)]; rfl
    · rw [img_sum (bd Y sY) (fun e' => pg_inc a' b' v' e')]
      rcases hcase v' with ⟨v, q1, q2, q3⟩ | hno
      · rw [xr_congr (g := fun e => Y e && pg_inc a b v e) (fun e hem => by
          cases q : Y e with
          | false => rfl
          | true => rw [← q3, hinc v e q1 hem q2 (sY e q)])]
        exact hY.2 v q1
      · exact xr_zero (fun e hem => by
          cases q : Y e with
          | false => rfl
          | true => rw [hoff v' e hem (sY e q) hno]; rfl)
  have imX : ∀ Y : Nat → Bool, (∀ e, Y e = true → X e = true) → (∀ e, m ≤ e → Y e = false) → ∀ e', img m ep Y e' = true → X' e' = true := fun Y sY _ e' hz => by
    obtain ⟨e, hem, hq⟩ := xr_ex hz
    rw [Bool.and_eq_true, decide_eq_true_iff] at hq
    rw [← hq.2]; exact (he e hem (sY e hq.1)).2.1
  refine ⟨o, ht, fun Y Z hY hZ sY sZ => ?_⟩
  have hh := hI _ _ (even' Y hY sY) (even' Z hZ sZ) (imX Y sY hY.1) (imX Z sZ hZ.1)
  rw [← hh]
  unfold pg_I
  have s2 : xr m' (fun e' => img m ep Y e' && img m ep Z e') = xr m (fun e => Y e && Z e) := by
    rw [img_sum (bd Y sY) (fun e' => img m ep Z e')]
    refine xr_congr (fun e hem => ?_)
    cases q : Y e with
    | false => rfl
    | true =>
      rw [Bool.true_and, Bool.true_and]
      unfold img
      rw [xr_one (k := e) hem (fun f hfm hne => by
        cases q2 : Z f with
        | false => rfl
        | true => rw [decide_eq_false (fun z => hne (hei f e hfm hem (sZ f q2) (sY e q) z))]; rfl), decide_eq_true rfl, Bool.and_true]
  have loc' : ∀ v', pg_loc m' a' b' o' (img m ep Y) (img m ep Z) v' = xr m (fun e => Y e && (pg_inc a' b' v' (ep e) && xr m (fun f => Z f && (pg_inc a' b' v' (ep f) && (!decide (ep e = ep f) && o' v' (ep e) (ep f)))))) := fun v' => by
    unfold pg_loc
    rw [← img_sum (m' := m') (bd Y sY) (fun e' => pg_inc a' b' v' e' && xr m (fun f => Z f && (pg_inc a' b' v' (ep f) && (!decide (e' = ep f) && o' v' e' (ep f)))))]
    refine xr_congr (fun e' _ => ?_)
    rw [← img_sum (m' := m') (bd Z sZ) (fun f' => pg_inc a' b' v' f' && (!decide (e' = f') && o' v' e' f'))]
    rw [← Bool.and_assoc, ← xr_and]
    refine xr_congr (fun f' _ => ?_)
    cases img m ep Y e' <;> cases pg_inc a' b' v' e' <;> cases img m ep Z f' <;> cases pg_inc a' b' v' f' <;> rfl
  have loc1 : ∀ v, v < n → P v = true → pg_loc m' a' b' o' (img m ep Y) (img m ep Z) (sg v) = pg_loc m a b o Y Z v := fun v hv hp => by
    rw [loc']
    unfold pg_loc
    refine xr_congr (fun e hem => ?_)
    cases q : Y e with
    | false => exact (xr_zero (fun f _ => rfl)).symm
    | true =>
      rw [hinc v e hv hem hp (sY e q), Bool.true_and, ← xr_and]
      refine xr_congr (fun f hfm => ?_)
      cases q2 : Z f with
      | false => cases pg_inc a b v e <;> rfl
      | true =>
        have hd : decide (ep e = ep f) = decide (e = f) := decide_eq_decide.mpr ⟨fun z => hei e f hem hfm (sY e q) (sZ f q2) z, fun z => by rw [z]⟩
        rw [hinc v f hv hfm hp (sZ f q2), hd, o1 v e f hp (sY e q) (sZ f q2)]
        rfl
  have loc0 : ∀ v, v < n → P v = false → pg_loc m a b o Y Z v = false := fun v hv hp => pg_loc_zero (Or.inl (fun e hem => by
    cases q : Y e with
    | false => rfl
    | true =>
      cases q2 : pg_inc a b v e with
      | false => rfl
      | true => rw [hP v e hv hem (sY e q) q2] at hp; cases hp))
  have s1 : xr n' (fun v' => pg_loc m' a' b' o' (img m ep Y) (img m ep Z) v') = xr n (fun v => pg_loc m a b o Y Z v) := by
    rw [xr_congr (g := fun v' => xr n (fun v => (P v && decide (sg v = v')) && pg_loc m' a' b' o' (img m ep Y) (img m ep Z) v')) (fun v' hv' => ?_), xr_swap]
    · refine xr_congr (fun v hv => ?_)
      cases hp : P v with
      | false => rw [loc0 v hv hp]; exact xr_zero (fun v' _ => rfl)
      | true =>
        rw [xr_one (k := sg v) (hs v hv hp) (fun i _ hi => by rw [decide_eq_false (fun z => hi z.symm)]; rfl), decide_eq_true rfl, loc1 v hv hp]
        rfl
    · rcases hcase v' with ⟨v, q1, q2, q3⟩ | hno
      · rw [xr_one (k := v) q1 (fun i hi hne => by
          cases hp : P i with
          | false => rfl
          | true => rw [decide_eq_false (fun z => hne (hsi i v hi q1 hp q2 (by rw [z, q3])))]; rfl), q2, decide_eq_true q3]
        rfl
      · rw [xr_zero (f := fun v => (P v && decide (sg v = v')) && pg_loc m' a' b' o' (img m ep Y) (img m ep Z) v') (fun v hv => by
          cases hp : P v with
          | false => rfl
          | true => rw [decide_eq_false (hno v hv hp)]; rfl), loc']
        exact xr_zero (fun e hem => by
          cases q : Y e with
          | false => rfl
          | true => rw [hoff v' e hem (sY e q) hno]; rfl)
  rw [s1, s2]
end MP
