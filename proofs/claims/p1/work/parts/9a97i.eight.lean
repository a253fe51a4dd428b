section EI
/-- ranks -/
theorem cn_lt' {P : Nat → Bool} {u v : Nat} (h : u < v) (hu : P u = true) : cn u P < cn v P := by
  have h1 : cn (u + 1) P = cn u P + 1 := by rw [cn_s, hu]; rfl
  have h2 : cn (u + 1) P ≤ cn v P := by
    obtain ⟨d, rfl⟩ : ∃ d, v = u + 1 + d := ⟨v - (u + 1), by omega⟩
    rw [cn_add (u + 1) d P]; exact Nat.le_add_right _ _
  omega
theorem cn_inj {P : Nat → Bool} {u v : Nat} (hu : P u = true) (hv : P v = true) (h : cn u P = cn v P) : u = v := by
  rcases Nat.lt_or_ge u v with z | z
  · have := cn_lt' z hu; omega
  · by_cases w : u = v
    · exact w
    · have := cn_lt' (show v < u by omega) hv; omega
theorem PP_eight : ∀ N, N ≤ 8 → ∀ (n m : Nat) (a b : Nat → Nat) (X : Nat → Bool), (∀ e, e < m → a e < n ∧ b e < n ∧ a e ≠ b e) → cn m X ≤ N → pg_PP n m a b X := by
  intro N
  induction N with
  | zero =>
    intro _ n m a b X _ hc
    have h0 := cn_none (show cn m X = 0 by omega)
    refine ⟨fun _ x y => decide (x < y), fun v e f _ _ _ hef _ _ => ?_, fun Y Z hY _ sY _ => ?_⟩
    · show (decide (e < f) ^^ decide (f < e)) = true
      rcases Nat.lt_or_gt_of_ne hef with q | q
      · rw [decide_eq_true q, decide_eq_false (show ¬ f < e by omega)]; rfl
      · rw [decide_eq_false (show ¬ e < f by omega), decide_eq_true (show f < e from q)]; rfl
    · have hz : Y = fun _ => false := by
        funext e
        cases q : Y e with
        | false => rfl
        | true =>
          rcases Nat.lt_or_ge e m with w | w
          · have := h0 e w; rw [sY e q] at this; cases this
          · rw [hY.1 e w] at q; cases q
      rw [hz]; exact I_zero
  | succ N ih =>
    intro hN n m a b X hab hc
    have less : ∀ e, e < m → X e = true → cn m (fun f => X f && !decide (f = e)) ≤ N := fun e he hx => by
      have := cn_drop he hx; omega
    by_cases c1 : ∃ v, v < n ∧ cn m (fun e => X e && pg_inc a b v e) = 1
    · obtain ⟨v, hv, h1⟩ := c1
      obtain ⟨e, e1, e2, e3⟩ := cn_one h1
      rw [Bool.and_eq_true] at e2
      exact PP_leaf hv e1 e2.2 (fun f hf hx hi => e3 f hf (by show (X f && pg_inc a b v f) = true; rw [hx, hi]; rfl)) (ih (by omega) n m a b _ hab (less e e1 e2.1))
    · by_cases c2 : ∃ e e', e < m ∧ e' < m ∧ e ≠ e' ∧ X e = true ∧ X e' = true ∧ pg_joins a b e' (a e) (b e)
      · obtain ⟨e, e', q1, q2, q3, q4, q5, q6⟩ := c2
        exact PP_par q1 q2 q3 hab q4 q6 (ih (by omega) n m a b _ hab (less e' q2 q5))
      · have hpar : ∀ e f, e < m → f < m → X e = true → X f = true → pg_joins a b f (a e) (b e) → e = f := fun e f q1 q2 q3 q4 q5 => Classical.byContradiction fun z => c2 ⟨e, f, q1, q2, z, q3, q4, q5⟩
        by_cases c3 : ∃ v, v < n ∧ cn m (fun e => X e && pg_inc a b v e) = 2
        · obtain ⟨v, hv, h2⟩ := c3
          obtain ⟨e1, e2, q1, q2, q3, q4, q5, q6⟩ := cn_two h2
          rw [Bool.and_eq_true] at q4 q5
          obtain ⟨x1, x2, x3⟩ := hab e1 q1
          obtain ⟨y1, y2, y3⟩ := hab e2 q2
          -- the other ends
          have o1 : ∃ u, u < n ∧ u ≠ v ∧ pg_joins a b e1 u v := by
            rcases (inc_t (a := a) (b := b) (e := e1) (Or.inl ⟨rfl, rfl⟩) x3).mp q4.2 with z | z
            · exact ⟨b e1, x2, fun w => x3 (by rw [w, z]), Or.inr ⟨z.symm, rfl⟩⟩
            · exact ⟨a e1, x1, fun w => x3 (by rw [w, z]), Or.inl ⟨rfl, z.symm⟩⟩
          have o2 : ∃ w, w < n ∧ v ≠ w ∧ pg_joins a b e2 v w := by
            rcases (inc_t (a := a) (b := b) (e := e2) (Or.inl ⟨rfl, rfl⟩) y3).mp q5.2 with z | z
            · exact ⟨b e2, y2, fun w => y3 (by rw [← z, w]), Or.inl ⟨z.symm, rfl⟩⟩
            · exact ⟨a e2, y1, fun w => y3 (by rw [← z, w]), Or.inr ⟨rfl, z.symm⟩⟩
          obtain ⟨u, u1, u2, u3⟩ := o1
          obtain ⟨w, w1, w2, w3⟩ := o2
          have huw : u ≠ w := fun z => by
            subst z
            refine q3 (hpar e1 e2 q1 q2 q4.1 q5.1 ?_)
            rcases u3 with ⟨s1, s2⟩ | ⟨s1, s2⟩
            · rw [s1, s2]; exact joins_symm w3
            · rw [s1, s2]; exact w3
          refine PP_ser hv w1 q1 q2 q3 u3 w3 u2 w2 huw (fun f hf hx hi => q6 f hf (by show (X f && pg_inc a b v f) = true; rw [hx, hi]; rfl)) (ih (by omega) n m _ _ _ (fun e he => ?_) (less e2 q2 q5.1))
          by_cases z : e = e1
          · rw [if_pos z, if_pos z]; exact ⟨u1, w1, huw⟩
          · rw [if_neg z, if_neg z]; exact hab e he
        · -- all degrees are none, or three and more
          have hact : ∀ v, v < n → cn m (fun e => X e && pg_inc a b v e) ≠ 0 → 3 ≤ cn m (fun e => X e && pg_inc a b v e) := fun v hv h0 => by
            have n1 : cn m (fun e => X e && pg_inc a b v e) ≠ 1 := fun z => c1 ⟨v, hv, z⟩
            have n2 : cn m (fun e => X e && pg_inc a b v e) ≠ 2 := fun z => c3 ⟨v, hv, z⟩
            omega
          have hsh := shakes (X := X) m hab
          generalize hdg : (fun v => cn m (fun e => X e && pg_inc a b v e)) = dg at hsh
          have dge : ∀ v, dg v = cn m (fun e => X e && pg_inc a b v e) := fun v => by rw [← hdg]
          have P1 : ∀ v e, v < n → e < m → X e = true → pg_inc a b v e = true → (!decide (dg v = 0)) = true := fun v e hv he hx hi => by
            rw [Bool.not_eq_true', decide_eq_false_iff_not, dge]
            intro z
            have := cn_none z e he
            have this' : (X e && pg_inc a b v e) = false := this
            rw [hx, hi] at this'; cases this'
          have Pn : ∀ v, (!decide (dg v = 0)) = true ↔ dg v ≠ 0 := fun v => by rw [Bool.not_eq_true', decide_eq_false_iff_not]
          have low := sm_low (c := 3) (f := dg) (P := fun v => !decide (dg v = 0)) n (fun v hv hp => by rw [dge]; exact hact v hv (by rw [← dge]; exact (Pn v).mp hp))
          by_cases c4 : cn n (fun v => !decide (dg v = 0)) ≤ 4
          · refine PP_five (P := fun v => !decide (dg v = 0)) (sg := fun v => cn v (fun u => !decide (dg u = 0))) hab P1 (fun v hv hp => ?_) (fun u v hu hv pu pv z => cn_inj (P := fun u => !decide (dg u = 0)) pu pv z) (fun e he hx => ?_) hpar
            · have := cn_lt' (P := fun u => !decide (dg u = 0)) hv hp
              show cn v _ < 5
              omega
            · have f4 : ∀ v, v < n → (!decide (dg v = 0)) = true → cn v (fun u => !decide (dg u = 0)) < 4 := fun v hv hp => by
                have := cn_lt' (P := fun u => !decide (dg u = 0)) hv hp
                omega
              obtain ⟨q1, q2, q3⟩ := hab e he
              have g1 := f4 _ q1 (P1 _ e q1 he hx ((inc_t (Or.inl ⟨rfl, rfl⟩) q3).mpr (Or.inl rfl)))
              have g2 := f4 _ q2 (P1 _ e q2 he hx ((inc_t (Or.inl ⟨rfl, rfl⟩) q3).mpr (Or.inr rfl)))
              exact ⟨fun z => by have := z.2; omega, fun z => by have := z.1; omega⟩
          · have c5 : cn n (fun v => !decide (dg v = 0)) = 5 := by omega
            -- a vertex of degree three
            have hp3 : ∃ p, p < n ∧ dg p = 3 := by
              refine Classical.byContradiction fun z => ?_
              have := sm_low (c := 4) (f := dg) (P := fun v => !decide (dg v = 0)) n (fun v hv hp => by
                have h3 := hact v hv (by rw [← dge]; exact (Pn v).mp hp)
                rw [← dge] at h3
                have : dg v ≠ 3 := fun w => z ⟨v, hv, w⟩
                omega)
              omega
            obtain ⟨p, hp, hp3⟩ := hp3
            have pact : (!decide (dg p = 0)) = true := (Pn p).mpr (by omega)
            have hd1 := cn_drop (P := fun v => !decide (dg v = 0)) hp pact
            -- one that it is not joined to
            have hq : ∃ q, q < n ∧ (!decide (dg q = 0)) = true ∧ q ≠ p ∧ ∀ e, e < m → X e = true → ¬ pg_joins a b e p q := by
              refine Classical.byContradiction fun z => ?_
              have hle := cn_img (n := n) (Q := fun v => (!decide (dg v = 0)) && !decide (v = p)) (R := fun e => X e && pg_inc a b p e) (ph := fun e => if a e = p then b e else a e) m (fun v hv hq => by
                rw [Bool.and_eq_true, Bool.not_eq_true' (decide (v = p)), decide_eq_false_iff_not] at hq
                have : ∃ e, e < m ∧ X e = true ∧ pg_joins a b e p v := Classical.byContradiction fun w => z ⟨v, hv, hq.1, hq.2, fun e he hx hj => w ⟨e, he, hx, hj⟩⟩
                obtain ⟨e, e1, e2, e3⟩ := this
                refine ⟨e, e1, ?_, ?_⟩
                · rw [e2, (inc_t e3 (fun w => hq.2 w.symm)).mpr (Or.inl rfl)]; rfl
                · show (if a e = p then b e else a e) = v
                  rcases e3 with ⟨s1, s2⟩ | ⟨s1, s2⟩
                  · rw [if_pos s1]; exact s2
                  · rw [if_neg (fun w => hq.2 (by rw [← s1, w]))]; exact s1)
              rw [← dge] at hle
              omega
            obtain ⟨q, hq, qact, hqp, hqn⟩ := hq
            have hd2 := cn_drop (P := fun v => (!decide (dg v = 0)) && !decide (v = p)) hq (by show ((!decide (dg q = 0)) && !decide (q = p)) = true; rw [qact, decide_eq_false hqp]; rfl)
            generalize hoth : (fun f => ((!decide (dg f = 0)) && !decide (f = p)) && !decide (f = q)) = oth at hd2
            have otht : ∀ v, (!decide (dg v = 0)) = true → v ≠ p → v ≠ q → oth v = true := fun v h1 h2 h3 => by
              rw [← hoth]
              show (((!decide (dg v = 0)) && !decide (v = p)) && !decide (v = q)) = true
              rw [h1, decide_eq_false h2, decide_eq_false h3]; rfl
            have o3 : cn n oth = 3 := by omega
            -- the map
            have hsg : ∃ sg : Nat → Nat, sg p = 3 ∧ sg q = 4 ∧ ∀ v, v ≠ p → v ≠ q → sg v = cn v oth := ⟨fun v => if v = p then 3 else if v = q then 4 else cn v oth, if_pos rfl, (if_neg hqp).trans (if_pos rfl), fun v h1 h2 => (if_neg h1).trans (if_neg h2)⟩
            obtain ⟨sg, s1, s2, s3⟩ := hsg
            have sl : ∀ v, v < n → (!decide (dg v = 0)) = true → v ≠ p → v ≠ q → sg v < 3 := fun v hv hp' h1 h2 => by
              rw [s3 v h1 h2]
              have := cn_lt' hv (otht v hp' h1 h2)
              omega
            refine PP_five (P := fun v => !decide (dg v = 0)) (sg := sg) hab P1 (fun v hv hp' => ?_) (fun u v hu hv pu pv z => ?_) (fun e he hx => ?_) hpar
            · by_cases z1 : v = p
              · rw [z1, s1]; omega
              · by_cases z2 : v = q
                · rw [z2, s2]; omega
                · have := sl v hv hp' z1 z2; omega
            · by_cases u1 : u = p
              · by_cases v1 : v = p
                · rw [u1, v1]
                · by_cases v2 : v = q
                  · rw [u1, v2, s1, s2] at z; omega
                  · have := sl v hv pv v1 v2; rw [u1, s1] at z; omega
              · by_cases u2 : u = q
                · by_cases v1 : v = p
                  · rw [u2, v1, s1, s2] at z; omega
                  · by_cases v2 : v = q
                    · rw [u2, v2]
                    · have := sl v hv pv v1 v2; rw [u2, s2] at z; omega
                · have hu3 := sl u hu pu u1 u2
                  by_cases v1 : v = p
                  · rw [v1, s1] at z; omega
                  · by_cases v2 : v = q
                    · rw [v2, s2] at z; omega
                    · rw [s3 u u1 u2, s3 v v1 v2] at z
                      exact cn_inj (otht u pu u1 u2) (otht v pv v1 v2) z
            · obtain ⟨q1, q2, q3⟩ := hab e he
              have pa := P1 _ e q1 he hx ((inc_t (Or.inl ⟨rfl, rfl⟩) q3).mpr (Or.inl rfl))
              have pb := P1 _ e q2 he hx ((inc_t (Or.inl ⟨rfl, rfl⟩) q3).mpr (Or.inr rfl))
              have is3 : ∀ v, v < n → (!decide (dg v = 0)) = true → sg v = 3 → v = p := fun v hv hp' z => by
                refine Classical.byContradiction fun w => ?_
                by_cases w2 : v = q
                · rw [w2, s2] at z; omega
                · have := sl v hv hp' w w2; omega
              have is4 : ∀ v, v < n → (!decide (dg v = 0)) = true → sg v = 4 → v = q := fun v hv hp' z => by
                refine Classical.byContradiction fun w => ?_
                by_cases w2 : v = p
                · rw [w2, s1] at z; omega
                · have := sl v hv hp' w2 w; omega
              refine ⟨fun z => hqn e he hx (Or.inl ⟨is3 _ q1 pa z.1, is4 _ q2 pb z.2⟩), fun z => hqn e he hx (Or.inr ⟨is4 _ q1 pa z.1, is3 _ q2 pb z.2⟩)⟩
end EI
