/-! a vertex with two edges: both may be made one -/
def sw (i j x : Nat) : Nat := if x = i then j else if x = j then i else x
theorem sw_l {i j : Nat} : sw i j i = j := by unfold sw; rw [if_pos rfl]
theorem sw_r {i j : Nat} (h : i ≠ j) : sw i j j = i := by unfold sw; rw [if_neg (fun z => h z.symm), if_pos rfl]
theorem sw_o {i j x : Nat} (h1 : x ≠ i) (h2 : x ≠ j) : sw i j x = x := by unfold sw; rw [if_neg h1, if_neg h2]
theorem sw_sw {i j : Nat} (h : i ≠ j) (x : Nat) : sw i j (sw i j x) = x := by
  by_cases c1 : x = i
  · rw [c1, sw_l, sw_r h]
  · by_cases c2 : x = j
    · rw [c2, sw_r h, sw_l]
    · rw [sw_o c1 c2, sw_o c1 c2]
theorem sw_lt {i j x m : Nat} (hi : i < m) (hj : j < m) (hx : x < m) : sw i j x < m := by unfold sw; (repeat' split) <;> omega
theorem xr_sw {m i j : Nat} (hi : i < m) (hj : j < m) (h : i ≠ j) (f : Nat → Bool) : xr m (fun x => f (sw i j x)) = xr m f := by
  have e : xr m (fun x => f (sw i j x) ^^ f x) = false := by
    rw [xr_two hi hj h (fun x _ n1 n2 => by rw [sw_o n1 n2, Bool.xor_self]), sw_l, sw_r h]
    cases f i <;> cases f j <;> rfl
  rw [xr_xor] at e
  revert e
  generalize xr m (fun x => f (sw i j x)) = p
  generalize xr m f = q
  cases p <;> cases q <;> decide
section SR
variable {n m : Nat} {a b : Nat → Nat} {X : Nat → Bool}
theorem PP_ser {e1 e2 u v w : Nat} (hv : v < n) (hw : w < n) (h1 : e1 < m) (h2 : e2 < m) (h12 : e1 ≠ e2) (j1 : pg_joins a b e1 u v) (j2 : pg_joins a b e2 v w) (huv : u ≠ v) (hvw : v ≠ w) (huw : u ≠ w) (hX : ∀ f, f < m → X f = true → pg_inc a b v f = true → f = e1 ∨ f = e2)
    (h : pg_PP n m (fun f => if f = e1 then u else a f) (fun f => if f = e1 then w else b f) (fun f => X f && !decide (f = e2))) : pg_PP n m a b X := by
  obtain ⟨o', t', hI⟩ := h
  generalize ha : (fun f => if f = e1 then u else a f) = a' at t' hI
  generalize hb : (fun f => if f = e1 then w else b f) = b' at t' hI
  have jn' : pg_joins a' b' e1 u w := by rw [← ha, ← hb]; exact Or.inl ⟨if_pos rfl, if_pos rfl⟩
  have i1 : ∀ z, pg_inc a b z e1 = true ↔ z = u ∨ z = v := fun z => inc_t j1 huv
  have i2 : ∀ z, pg_inc a b z e2 = true ↔ z = v ∨ z = w := fun z => inc_t j2 hvw
  have i1' : ∀ z, pg_inc a' b' z e1 = true ↔ z = u ∨ z = w := fun z => inc_t jn' huw
  have io : ∀ z f, f ≠ e1 → pg_inc a' b' z f = pg_inc a b z f := fun z f hf => by
    unfold pg_inc
    rw [← ha, ← hb]
    show (decide ((if f = e1 then u else a f) = z) || decide ((if f = e1 then w else b f) = z)) = _
    rw [if_neg hf, if_neg hf]
  have fal : ∀ {p : Bool}, ¬ p = true → p = false := fun hp => by rw [Bool.not_eq_true] at hp; exact hp
  have nW1 : pg_inc a b w e1 = false := fal (fun z => ((i1 w).mp z).elim (fun q => huw q.symm) (fun q => hvw q.symm))
  have nV1' : pg_inc a' b' v e1 = false := fal (fun z => ((i1' v).mp z).elim (fun q => huv q.symm) (fun q => hvw q))
  -- the order
  have ho : ∃ o : Nat → Nat → Nat → Bool, (∀ x y, o w x y = o' w (sw e1 e2 x) (sw e1 e2 y)) ∧ (∀ x y, o v x y = decide (x < y)) ∧ ∀ z, z ≠ w → z ≠ v → ∀ x y, o z x y = o' z x y :=
    ⟨fun z x y => if z = w then o' w (sw e1 e2 x) (sw e1 e2 y) else if z = v then decide (x < y) else o' z x y, fun x y => if_pos rfl, fun x y => (if_neg hvw).trans (if_pos rfl), fun z n1 n2 x y => (if_neg n1).trans (if_neg n2)⟩
  obtain ⟨o, ow, ov, oo⟩ := ho
  have incw : ∀ f, pg_inc a b w f = true → pg_inc a' b' w (sw e1 e2 f) = true := fun f hf => by
    by_cases c1 : f = e1
    · rw [c1, nW1] at hf; cases hf
    · by_cases c2 : f = e2
      · rw [c2, sw_r h12]; exact (i1' w).mpr (Or.inr rfl)
      · rw [sw_o c1 c2, io w f c1]; exact hf
  have inco : ∀ z f, z ≠ w → z ≠ v → pg_inc a b z f = true → pg_inc a' b' z f = true := fun z f n1 n2 hf => by
    by_cases c1 : f = e1
    · rw [c1] at hf ⊢
      rcases (i1 z).mp hf with q | q
      · exact (i1' z).mpr (Or.inl q)
      · exact absurd q n2
    · rw [io z f c1]; exact hf
  have ht : pg_tour n m a b o := by
    intro z e f hz he hf hef ie jf
    by_cases c1 : z = w
    · subst c1
      rw [ow, ow]
      exact t' z _ _ hz (sw_lt h1 h2 he) (sw_lt h1 h2 hf) (fun q => hef (by rw [← sw_sw h12 e, q, sw_sw h12])) (incw e ie) (incw f jf)
    · by_cases c2 : z = v
      · subst c2
        rw [ov, ov]
        rcases Nat.lt_or_gt_of_ne hef with q | q
        · rw [decide_eq_true q, decide_eq_false (show ¬ f < e by omega)]; rfl
        · rw [decide_eq_false (show ¬ e < f by omega), decide_eq_true (show f < e from q)]; rfl
      · rw [oo z c1 c2, oo z c1 c2]
        exact t' z e f hz he hf hef (inco z e c1 c2 ie) (inco z f c1 c2 jf)
  -- an even set has both or none
  have both : ∀ Y, pg_even n m a b Y → (∀ f, Y f = true → X f = true) → Y e2 = Y e1 := fun Y hY sY => by
    have hx := hY.2 v hv
    rw [xr_two h1 h2 h12 (fun i hi n1 n2 => by
      cases q : Y i with
      | false => rfl
      | true =>
        cases q2 : pg_inc a b v i with
        | false => rfl
        | true => rcases hX i hi (sY i q) q2 with z | z <;> contradiction), (i1 v).mpr (Or.inr rfl), (i2 v).mpr (Or.inl rfl), Bool.and_true, Bool.and_true] at hx
    revert hx
    cases Y e1 <;> cases Y e2 <;> decide
  have atw : ∀ Y : Nat → Bool, Y e2 = Y e1 → ∀ f, (Y (sw e1 e2 f) && pg_inc a b w (sw e1 e2 f)) = ((Y f && !decide (f = e2)) && pg_inc a' b' w f) := fun Y hY f => by
    by_cases c1 : f = e1
    · rw [c1, sw_l, hY, (i2 w).mpr (Or.inr rfl), (i1' w).mpr (Or.inr rfl), decide_eq_false h12]
      cases Y e1 <;> rfl
    · by_cases c2 : f = e2
      · rw [c2, sw_r h12, nW1, decide_eq_true rfl, Bool.and_false]
        cases Y e2 <;> rfl
      · rw [sw_o c1 c2, io w f c1, decide_eq_false c2]
        cases Y f <;> rfl
  have ato : ∀ (Y : Nat → Bool) z f, z ≠ w → z ≠ v → (Y f && pg_inc a b z f) = ((Y f && !decide (f = e2)) && pg_inc a' b' z f) := fun Y z f n1 n2 => by
    by_cases c1 : f = e1
    · rw [c1, decide_eq_false h12]
      have : pg_inc a b z e1 = pg_inc a' b' z e1 := by
        rw [Bool.eq_iff_iff, i1, i1']
        exact ⟨fun q => q.elim Or.inl (fun y => absurd y n2), fun q => q.elim Or.inl (fun y => absurd y n1)⟩
      rw [this]
      cases Y e1 <;> rfl
    · by_cases c2 : f = e2
      · rw [c2, decide_eq_true rfl]
        have : pg_inc a b z e2 = false := fal (fun q => ((i2 z).mp q).elim n2 n1)
        rw [this]
        cases Y e2 <;> rfl
      · rw [io z f c1, decide_eq_false c2]
        cases Y f <;> rfl
  have atv : ∀ Y : Nat → Bool, (∀ f, Y f = true → X f = true) → ∀ f, f < m → ((Y f && !decide (f = e2)) && pg_inc a' b' v f) = false := fun Y sY f hf => by
    by_cases c1 : f = e1
    · rw [c1, nV1', Bool.and_false]
    · by_cases c2 : f = e2
      · rw [c2, decide_eq_true rfl]
        cases Y e2 <;> rfl
      · rw [io v f c1]
        cases q : Y f with
        | false => rfl
        | true =>
          cases q2 : pg_inc a b v f with
          | false => rw [Bool.and_false]
          | true => rcases hX f hf (sY f q) q2 with z | z <;> contradiction
  have even' : ∀ Y, pg_even n m a b Y → (∀ f, Y f = true → X f = true) → pg_even n m a' b' (fun f => Y f && !decide (f = e2)) := fun Y hY sY => by
    refine ⟨fun e he => by show (Y e && _) = false; rw [hY.1 e he]; rfl, fun z hz => ?_⟩
    by_cases c1 : z = w
    · subst c1
      rw [← xr_congr (fun f _ => atw Y (both Y hY sY) f), xr_sw h1 h2 h12 (fun f => Y f && pg_inc a b z f)]
      exact hY.2 z hz
    · by_cases c2 : z = v
      · subst c2
        exact xr_zero (fun f hf => atv Y sY f hf)
      · rw [← xr_congr (fun f _ => ato Y z f c1 c2)]
        exact hY.2 z hz
  refine ⟨o, ht, fun Y Z hY hZ sY sZ => ?_⟩
  have bY := both Y hY sY
  have bZ := both Z hZ sZ
  have hh := hI _ _ (even' Y hY sY) (even' Z hZ sZ) (fun f hf => by
    have hf' : (Y f && !decide (f = e2)) = true := hf
    rw [Bool.and_eq_true] at hf'
    show (X f && !decide (f = e2)) = true
    rw [sY f hf'.1, hf'.2]; rfl) (fun f hf => by
    have hf' : (Z f && !decide (f = e2)) = true := hf
    rw [Bool.and_eq_true] at hf'
    show (X f && !decide (f = e2)) = true
    rw [sZ f hf'.1, hf'.2]; rfl)
  -- place by place
  have locw : pg_loc m a b o Y Z w = pg_loc m a' b' o' (fun f => Y f && !decide (f = e2)) (fun f => Z f && !decide (f = e2)) w := by
    unfold pg_loc
    rw [← xr_sw h1 h2 h12 (fun e => xr m (fun f => (Y e && pg_inc a b w e) && ((Z f && pg_inc a b w f) && (!decide (e = f) && o w e f))))]
    refine xr_congr (fun e _ => ?_)
    rw [← xr_sw h1 h2 h12 (fun f => (Y (sw e1 e2 e) && pg_inc a b w (sw e1 e2 e)) && ((Z f && pg_inc a b w f) && (!decide (sw e1 e2 e = f) && o w (sw e1 e2 e) f)))]
    refine xr_congr (fun f _ => ?_)
    rw [atw Y bY e, atw Z bZ f, ow, sw_sw h12, sw_sw h12]
    have : decide (sw e1 e2 e = sw e1 e2 f) = decide (e = f) := decide_eq_decide.mpr ⟨fun q => by rw [← sw_sw h12 e, q, sw_sw h12], fun q => by rw [q]⟩
    rw [this]
  have loco : ∀ z, z ≠ w → z ≠ v → pg_loc m a b o Y Z z = pg_loc m a' b' o' (fun f => Y f && !decide (f = e2)) (fun f => Z f && !decide (f = e2)) z := fun z n1 n2 => by
    unfold pg_loc
    refine xr_congr (fun e _ => xr_congr (fun f _ => ?_))
    rw [ato Y z e n1 n2, ato Z z f n1 n2, oo z n1 n2]
  have locv' : pg_loc m a' b' o' (fun f => Y f && !decide (f = e2)) (fun f => Z f && !decide (f = e2)) v = false := pg_loc_zero (Or.inl (fun e he => atv Y sY e he))
  have locv : pg_loc m a b o Y Z v = (Y e1 && Z e1) := by
    have vY : ∀ Y : Nat → Bool, (∀ f, Y f = true → X f = true) → Y e2 = Y e1 → ∀ f, f < m → (Y f && pg_inc a b v f) = ((decide (f = e1) || decide (f = e2)) && Y e1) := fun Y sY hb f hf => by
      by_cases c1 : f = e1
      · rw [c1, (i1 v).mpr (Or.inr rfl), decide_eq_true rfl]; cases Y e1 <;> rfl
      · by_cases c2 : f = e2
        · rw [c2, (i2 v).mpr (Or.inl rfl), decide_eq_true rfl, hb, Bool.or_true]; cases Y e1 <;> rfl
        · rw [decide_eq_false c1, decide_eq_false c2]
          cases q : Y f with
          | false => rfl
          | true =>
            cases q2 : pg_inc a b v f with
            | false => rfl
            | true => rcases hX f hf (sY f q) q2 with z | z <;> contradiction
    unfold pg_loc
    rw [xr_two h1 h2 h12 (fun e he n1 n2 => xr_zero (fun f _ => by rw [vY Y sY bY e he, decide_eq_false n1, decide_eq_false n2]; rfl))]
    rw [xr_two h1 h2 h12 (fun f hf n1 n2 => by rw [vY Z sZ bZ f hf, decide_eq_false n1, decide_eq_false n2]; simp), xr_two h1 h2 h12 (fun f hf n1 n2 => by rw [vY Z sZ bZ f hf, decide_eq_false n1, decide_eq_false n2]; simp)]
    rw [vY Y sY bY e1 h1, vY Y sY bY e2 h2, vY Z sZ bZ e1 h1, vY Z sZ bZ e2 h2]
    rw [decide_eq_true (rfl : e1 = e1), decide_eq_true (rfl : e2 = e2), decide_eq_false h12, decide_eq_false (show ¬ e2 = e1 from fun q => h12 q.symm)]
    have t0 := ht v e1 e2 hv h1 h2 h12 ((i1 v).mpr (Or.inr rfl)) ((i2 v).mpr (Or.inl rfl))
    revert t0
    cases o v e1 e2 <;> cases o v e2 e1 <;> cases o v e1 e1 <;> cases o v e2 e2 <;> cases Y e1 <;> cases Z e1 <;> decide
  unfold pg_I at hh ⊢
  have s1 : xr n (fun z => pg_loc m a b o Y Z z) = (xr n (fun z => pg_loc m a' b' o' (fun f => Y f && !decide (f = e2)) (fun f => Z f && !decide (f = e2)) z) ^^ (Y e1 && Z e1)) := by
    rw [xr_change (f := fun z => pg_loc m a b o Y Z z) (g := fun z => pg_loc m a' b' o' (fun f => Y f && !decide (f = e2)) (fun f => Z f && !decide (f = e2)) z) hv (fun z hz hne => by
      by_cases c1 : z = w
      · rw [c1]; exact locw
      · exact loco z c1 hne), locv, locv', Bool.xor_false]
  have s2 : xr m (fun e => Y e && Z e) = (xr m (fun e => (Y e && !decide (e = e2)) && (Z e && !decide (e = e2))) ^^ (Y e1 && Z e1)) := by
    rw [xr_change (f := fun e => Y e && Z e) (g := fun e => (Y e && !decide (e = e2)) && (Z e && !decide (e = e2))) h2 (fun e he hne => by
      rw [decide_eq_false hne]
      cases Y e <;> cases Z e <;> rfl), decide_eq_true (rfl : e2 = e2), bY, bZ]
    cases Y e1 <;> cases Z e1 <;> simp
  rw [s1, s2]
  revert hh
  generalize xr n (fun z => pg_loc m a' b' o' (fun f => Y f && !decide (f = e2)) (fun f => Z f && !decide (f = e2)) z) = p
  generalize xr m (fun e => (Y e && !decide (e = e2)) && (Z e && !decide (e = e2))) = q
  generalize (Y e1 && Z e1) = r
  cases p <;> cases q <;> cases r <;> decide
end SR
