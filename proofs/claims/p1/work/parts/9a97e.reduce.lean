/-! small parts: what may be left out -/
section RD
variable {n m : Nat} {a b : Nat → Nat} {X : Nat → Bool}
/-- an edge alone at a vertex -/
theorem PP_leaf {v e : Nat} (hv : v < n) (he : e < m) (hi : pg_inc a b v e = true) (ho : ∀ f, f < m → X f = true → pg_inc a b v f = true → f = e) (h : pg_PP n m a b (fun f => X f && !decide (f = e))) : pg_PP n m a b X := by
  obtain ⟨o, h1, h2⟩ := h
  have key : ∀ Y, pg_even n m a b Y → (∀ f, Y f = true → X f = true) → ∀ f, Y f = true → (X f && !decide (f = e)) = true := fun Y hY sY f hf => by
    rw [sY f hf, Bool.true_and, Bool.not_eq_true', decide_eq_false_iff_not]
    intro z
    subst z
    have hx := hY.2 v hv
    rw [xr_one (k := f) he (fun i hi' hne => by
      cases q : Y i with
      | false => rfl
      | true =>
        cases q2 : pg_inc a b v i with
        | false => rfl
        | true => exact absurd (ho i hi' (sY i q) q2) hne), hf, hi] at hx
    cases hx
  exact ⟨o, h1, fun Y Z hY hZ sY sZ => h2 Y Z hY hZ (key Y hY sY) (key Z hZ sZ)⟩
/-- e0 laid at v0 beside i0, on the side c -/
def ins2 (o : Nat → Nat → Nat → Bool) (c : Bool) (v0 e0 i0 : Nat) : Nat → Nat → Nat → Bool := fun v x y => if v = v0 then (if x = e0 then (if y = i0 then c else o v i0 y) else if y = e0 then (if x = i0 then !c else !(o v i0 x)) else o v x y) else o v x y
theorem ins2_off {o : Nat → Nat → Nat → Bool} {c : Bool} {v0 e0 i0 v : Nat} (h : v ≠ v0) (x y : Nat) : ins2 o c v0 e0 i0 v x y = o v x y := by unfold ins2; rw [if_neg h]
theorem ins2_old {o : Nat → Nat → Nat → Bool} {c : Bool} {v0 e0 i0 : Nat} (v : Nat) {x y : Nat} (hx : x ≠ e0) (hy : y ≠ e0) : ins2 o c v0 e0 i0 v x y = o v x y := by
  unfold ins2
  by_cases h : v = v0
  · rw [if_pos h, if_neg hx, if_neg hy]
  · rw [if_neg h]
theorem ins2_l {o : Nat → Nat → Nat → Bool} {c : Bool} {v0 e0 i0 y : Nat} (hy : y ≠ i0) : ins2 o c v0 e0 i0 v0 e0 y = o v0 i0 y := by unfold ins2; rw [if_pos rfl, if_pos rfl, if_neg hy]
theorem ins2_r {o : Nat → Nat → Nat → Bool} {c : Bool} {v0 e0 i0 x : Nat} (hx : x ≠ i0) (hxe : x ≠ e0) : ins2 o c v0 e0 i0 v0 x e0 = !(o v0 i0 x) := by unfold ins2; rw [if_pos rfl, if_neg hxe, if_pos rfl, if_neg hx]
theorem ins2_i {o : Nat → Nat → Nat → Bool} {c : Bool} {v0 e0 i0 : Nat} (h : i0 ≠ e0) : ins2 o c v0 e0 i0 v0 i0 e0 = !c := by unfold ins2; rw [if_pos rfl, if_neg h, if_pos rfl, if_pos rfl]
theorem ins2_e {o : Nat → Nat → Nat → Bool} {c : Bool} {v0 e0 i0 : Nat} : ins2 o c v0 e0 i0 v0 e0 i0 = c := by unfold ins2; rw [if_pos rfl, if_pos rfl, if_pos rfl]
theorem ins2_tour {o : Nat → Nat → Nat → Bool} {c : Bool} {v0 e0 i0 : Nat} (h : pg_tour n m a b o) (he : i0 ≠ e0) : pg_tour n m a b (ins2 o c v0 e0 i0) := by
  intro v x y hv hx hy hxy ix iy
  by_cases c0 : v = v0
  · subst c0
    by_cases c1 : x = e0
    · subst c1
      by_cases c2 : y = i0
      · subst c2; rw [ins2_e, ins2_i he]; cases c <;> rfl
      · rw [ins2_l c2, ins2_r c2 (fun z => hxy z.symm)]
        cases o v i0 y <;> rfl
    · by_cases c2 : y = e0
      · subst c2
        by_cases c3 : x = i0
        · subst c3; rw [ins2_e, ins2_i he]; cases c <;> rfl
        · rw [ins2_l c3, ins2_r c3 hxy]
          cases o v i0 x <;> rfl
      · rw [ins2_old v c1 c2, ins2_old v c2 c1]
        exact h v x y hv hx hy hxy ix iy
  · rw [ins2_off c0, ins2_off c0]
    exact h v x y hv hx hy hxy ix iy
/-- of two parallel edges the second may be left out -/
theorem PP_par {e e' : Nat} (he : e < m) (he' : e' < m) (hne : e ≠ e') (hab : ∀ f, f < m → a f < n ∧ b f < n ∧ a f ≠ b f) (hX : X e = true) (hj : pg_joins a b e' (a e) (b e)) (h : pg_PP n m a b (fun f => X f && !decide (f = e'))) : pg_PP n m a b X := by
  obtain ⟨o, h1, h2⟩ := h
  obtain ⟨q1, q2, q3⟩ := hab e he
  have hp : pg_joins a b e (a e) (b e) := Or.inl ⟨rfl, rfl⟩
  have t1 := ins2_tour (c := true) (v0 := a e) h1 hne
  have t2 := ins2_tour (c := false) (v0 := b e) t1 hne
  generalize ho1 : ins2 o true (a e) e' e = o1 at t1 t2
  generalize ho2 : ins2 o1 false (b e) e' e = o2 at t2
  have oA : ∀ x y, o2 (a e) x y = o1 (a e) x y := fun x y => by rw [← ho2]; exact ins2_off q3 x y
  have oB : ∀ x y, o1 (b e) x y = o (b e) x y := fun x y => by rw [← ho1]; exact ins2_off (fun z => q3 z.symm) x y
  have oD : ∀ v x y, x ≠ e' → y ≠ e' → o2 v x y = o v x y := fun v x y hx hy => by rw [← ho2, ins2_old v hx hy, ← ho1, ins2_old v hx hy]
  -- the circle of both
  have two : ∀ p, p < 2 → p = 0 ∨ p = 1 := fun p hp => by omega
  have hC : CS n m a b 2 (fun p => if p = 0 then a e else b e) (fun p => if p = 0 then e else e') := by
    refine ⟨Nat.le_refl 2, fun p hp' => ?_, fun p q hp' hq' z => ?_, fun p q hp' hq' z => ?_⟩
    · rcases two p hp' with w | w <;> subst w
      · exact ⟨q1, he, hp⟩
      · exact ⟨q2, he', joins_symm hj⟩
    · rcases two p hp' with w | w <;> rcases two q hq' with w' | w' <;> subst w w'
      · rfl
      · exact absurd z q3
      · exact absurd z.symm q3
      · rfl
    · rcases two p hp' with w | w <;> rcases two q hq' with w' | w' <;> subst w w'
      · rfl
      · exact absurd z hne
      · exact absurd z.symm hne
      · rfl
  have cyc := CS_cyc hC
  have hTe := pg_cyc_even cyc
  generalize hT : (fun f => isIn (fun p => if p = 0 then e else e') f 2) = T at cyc hTe
  have Tt : ∀ f, T f = true ↔ f = e ∨ f = e' := fun f => by
    rw [← hT]
    show isIn _ f 2 = true ↔ _
    rw [isIn_iff]
    constructor
    · rintro ⟨p, p1, p2⟩
      rcases two p p1 with w | w <;> subst w
      · exact Or.inl p2.symm
      · exact Or.inr p2.symm
    · rintro (z | z)
      · exact ⟨0, by omega, z.symm⟩
      · exact ⟨1, by omega, z.symm⟩
  -- it crosses nothing
  have cross : ∀ Z, pg_even n m a b Z → Z e' = false → pg_I n m a b o2 T Z = false := fun Z hZ hz => by
    rw [pg_gl t2 cyc hZ]
    -- both ends
    have p0 : pos (fun p => if p = 0 then a e else b e) (a e) 2 = 0 := pos_at (L := 2) hC.2.2.1 (p := 0) (by omega) 2 (by omega) (Nat.le_refl 2)
    have p1 : pos (fun p => if p = 0 then a e else b e) (b e) 2 = 1 := pos_at (L := 2) hC.2.2.1 (p := 1) (by omega) 2 (by omega) (Nat.le_refl 2)
    have iA : isIn (fun p => if p = 0 then a e else b e) (a e) 2 = true := (isIn_iff _ _ _).mpr ⟨0, by omega, rfl⟩
    have iB : isIn (fun p => if p = 0 then a e else b e) (b e) 2 = true := (isIn_iff _ _ _).mpr ⟨1, by omega, rfl⟩
    have eA : pg_inc a b (a e) e = true := (inc_t hp q3).mpr (Or.inl rfl)
    have eB : pg_inc a b (b e) e = true := (inc_t hp q3).mpr (Or.inr rfl)
    -- at one end: all other edges of Z lie on one side
    have part : ∀ v c, v < n → pg_inc a b v e = true → (∀ d, d < m → Z d = true → pg_inc a b v d = true → d ≠ e → d ≠ e' → pg_tau o2 v (if (prv 2 (pos (fun p => if p = 0 then a e else b e) v 2)) = 0 then e else e') (if (pos (fun p => if p = 0 then a e else b e) v 2) = 0 then e else e') d = c) → xr m (fun d => (Z d && pg_inc a b v d) && (!(T d) && pg_tau o2 v (if (prv 2 (pos (fun p => if p = 0 then a e else b e) v 2)) = 0 then e else e') (if (pos (fun p => if p = 0 then a e else b e) v 2) = 0 then e else e') d)) = (Z e && c) := fun v c hv hie hc => by
      have e1 : xr m (fun d => (Z d && pg_inc a b v d) && (!(T d) && pg_tau o2 v (if (prv 2 (pos (fun p => if p = 0 then a e else b e) v 2)) = 0 then e else e') (if (pos (fun p => if p = 0 then a e else b e) v 2) = 0 then e else e') d)) = xr m (fun d => ((Z d && pg_inc a b v d) && c) ^^ (decide (d = e) && (Z e && c))) := by
        refine xr_congr (fun d hd => ?_)
        by_cases z1 : d = e
        · subst z1
          rw [(Tt d).mpr (Or.inl rfl), decide_eq_true rfl, hie]
          cases Z d <;> cases c <;> rfl
        · rw [decide_eq_false z1]
          by_cases z2 : d = e'
          · subst z2
            rw [hz]; rfl
          · have hTd : T d = false := by
              cases q : T d with
              | false => rfl
              | true => rcases (Tt d).mp q with w | w <;> contradiction
            cases hZd : Z d with
            | false => rfl
            | true =>
              cases hid : pg_inc a b v d with
              | false => rfl
              | true =>
                rw [hTd, hc d hd hZd hid z1 z2]
                cases c <;> rfl
      rw [e1, xr_xor, xr_and_r, hZ.2 v hv, xr_one (k := e) he (fun i _ hi => by rw [decide_eq_false hi]; rfl), decide_eq_true rfl]
      cases Z e <;> cases c <;> rfl
    rw [xr_two q1 q2 q3 (fun v hv n1 n2 => ?_)]
    · have rA := part (a e) false q1 eA (fun d hd hZd hid z1 z2 => by
        rw [p0]
        show pg_tau o2 (a e) e' e d = false
        rw [tau_eq (o := o1) (oA _ _) (oA _ _) (oA _ _), ← ho1]
        unfold pg_tau
        rw [ins2_e, ins2_old _ hne z2, ins2_r z1 z2]
        cases o (a e) e d <;> rfl)
      have rB := part (b e) false q2 eB (fun d hd hZd hid z1 z2 => by
        rw [p1]
        show pg_tau o2 (b e) e e' d = false
        rw [← ho2]
        unfold pg_tau
        rw [ins2_i hne, ins2_l z1, ins2_old _ z2 hne]
        have := t1 (b e) e d q2 he hd (fun w => z1 w.symm) eB hid
        revert this
        cases o1 (b e) e d <;> cases o1 (b e) d e <;> decide)
      have rA' : xr m (fun d => (Z d && pg_inc a b (a e) d) && (!(T d) && pg_tau o2 (a e) (if (prv 2 (pos (fun p => if p = 0 then a e else b e) (a e) 2)) = 0 then e else e') (if (pos (fun p => if p = 0 then a e else b e) (a e) 2) = 0 then e else e') d)) = false := by rw [rA, Bool.and_false]
      have rB' : xr m (fun d => (Z d && pg_inc a b (b e) d) && (!(T d) && pg_tau o2 (b e) (if (prv 2 (pos (fun p => if p = 0 then a e else b e) (b e) 2)) = 0 then e else e') (if (pos (fun p => if p = 0 then a e else b e) (b e) 2) = 0 then e else e') d)) = false := by rw [rB, Bool.and_false]
      show ((isIn (fun p => if p = 0 then a e else b e) (a e) 2 && _) ^^ (isIn (fun p => if p = 0 then a e else b e) (b e) 2 && _)) = false
      rw [rA', rB', Bool.and_false, Bool.and_false]; rfl
    · have : isIn (fun p => if p = 0 then a e else b e) v 2 = false := by
        cases q : isIn (fun p => if p = 0 then a e else b e) v 2 with
        | false => rfl
        | true =>
          obtain ⟨p, p1, p2⟩ := (isIn_iff _ _ _).mp q
          rcases two p p1 with w | w <;> subst w
          · exact absurd p2.symm n1
          · exact absurd p2.symm n2
      show (isIn (fun p => if p = 0 then a e else b e) v 2 && _) = false
      rw [this]; rfl
  refine ⟨o2, t2, fun Y Z hY hZ sY sZ => ?_⟩
  -- without the second edge
  have clean : ∀ Y, pg_even n m a b Y → (∀ f, Y f = true → X f = true) → ∃ Y0, pg_even n m a b Y0 ∧ Y0 e' = false ∧ (∀ f, Y0 f = true → (X f && !decide (f = e')) = true) ∧ (Y = Y0 ∨ Y = pg_add Y0 T) := fun Y hY sY => by
    cases c : Y e' with
    | false =>
      refine ⟨Y, hY, c, fun f hf => ?_, Or.inl rfl⟩
      rw [sY f hf, Bool.true_and, Bool.not_eq_true', decide_eq_false_iff_not]
      exact fun z => by rw [z, c] at hf; cases hf
    | true =>
      have hT' : T e' = true := (Tt e').mpr (Or.inr rfl)
      refine ⟨pg_add Y T, pg_even_add hY hTe, by show (Y e' ^^ T e') = false; rw [c, hT']; rfl, fun f hf => ?_, Or.inr ?_⟩
      · have hf' : (Y f ^^ T f) = true := hf
        by_cases z : f = e'
        · rw [z, c, hT'] at hf'; cases hf'
        · rw [decide_eq_false z, Bool.not_false, Bool.and_true]
          cases q : Y f with
          | true => exact sY f q
          | false =>
            rw [q, Bool.false_xor] at hf'
            rcases (Tt f).mp hf' with w | w
            · rw [w]; exact hX
            · exact absurd w z
      · funext f
        show Y f = ((Y f ^^ T f) ^^ T f)
        cases Y f <;> cases T f <;> rfl
  obtain ⟨Y0, y1, y2, y3, y4⟩ := clean Y hY sY
  obtain ⟨Z0, z1, z2, z3, z4⟩ := clean Z hZ sZ
  have base : pg_I n m a b o2 Y0 Z0 = false := by
    rw [I_congr (o' := o) (fun v x y hx hy => oD v x y (fun w => by rw [w, y2] at hx; cases hx) (fun w => by rw [w, z2] at hy; cases hy))]
    exact h2 Y0 Z0 y1 z1 y3 z3
  have hYT : pg_I n m a b o2 Y0 T = false := by rw [pg_symm hab t2 hTe]; exact cross Y0 y1 y2
  have hTZ := cross Z0 z1 z2
  have hTT : pg_I n m a b o2 T T = false := by
    rw [pg_gl t2 cyc hTe]
    refine xr_zero (fun v _ => ?_)
    rw [xr_zero (fun d _ => by cases T d <;> simp), Bool.and_false]
  rcases y4 with w | w <;> rcases z4 with w' | w' <;> rw [w, w']
  · exact base
  · rw [pg_I_addr, base, hYT]; rfl
  · rw [pg_I_addl, base, hTZ]; rfl
  · rw [pg_I_addl, pg_I_addr, pg_I_addr, base, hYT, hTZ, hTT]; rfl
end RD
