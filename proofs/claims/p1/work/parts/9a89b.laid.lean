theorem arc_disj {L A B p q : Nat} (hA : A < L) (hB : B < L) (h : A ≠ B) (p1 : 0 < p) (p2 : p ≤ dst L A B) (q1 : 0 < q) (q2 : q ≤ dst L B A) : wrp L (A + p) ≠ wrp L (B + q) := by
  unfold dst at p2 q2
  unfold wrp
  (repeat' split at p2) <;> (repeat' split at q2) <;> (repeat' split) <;> omega
section AE
variable {n m : Nat} {a b : Nat → Nat} {D : Nat → Bool}
theorem tau_eq {o o' : Nat → Nat → Nat → Bool} {v x y d : Nat} (h1 : o' v x y = o v x y) (h2 : o' v y d = o v y d) (h3 : o' v d x = o v d x) : pg_tau o' v x y d = pg_tau o v x y d := by unfold pg_tau; rw [h1, h2, h3]
theorem DS_add {o : Nat → Nat → Nat → Bool} {r : Nat} {L : Nat → Nat} {w g : Nat → Nat → Nat} (h : DS n m a b o D r L w g) {j A B l : Nat} {u hh : Nat → Nat} (hj : j < r) (hA : A < L j) (hB : B < L j) (hAB : A ≠ B) (hp : PT n m a b D l u hh) (h0 : u 0 = w j A) (h1 : u l = w j B) :
    DS n m a b (ins (ins o (w j A) (hh 0) (g j (prv (L j) A))) (w j B) (hh (l - 1)) (g j (prv (L j) B))) (fun e => D e || isIn hh e l) (r + 1) (adL L r j A B l) (adW L w r j A B l u) (adG L g r j A B l hh) := by
  obtain ⟨ht, hF, hS, hE, hU⟩ := h
  obtain ⟨hc, hcD⟩ := hF j hj
  have hl := hp.1
  have hBA : B ≠ A := fun z => hAB z.symm
  have hab' : w j A ≠ w j B := fun z => hAB (hc.2.2.1 A B hA hB z)
  have hpA := prv_lt hA
  have hpB := prv_lt hB
  have nD : ∀ e, D e = true → ∀ t, t < l → e ≠ hh t := fun e he t ht' z => by rw [z, (hp.2.1 t ht').2.1] at he; cases he
  have iA := nD _ (hcD _ hpA) 0 (by omega)
  have iB := nD _ (hcD _ hpB) (l - 1) (by omega)
  have t1 := ins_tour (v0 := w j A) ht iA
  have t2 := ins_tour (v0 := w j B) t1 iB
  generalize ho1 : ins o (w j A) (hh 0) (g j (prv (L j) A)) = o1 at t1 t2 ⊢
  generalize ho2 : ins o1 (w j B) (hh (l - 1)) (g j (prv (L j) B)) = o2 at t2 ⊢
  have o2A : ∀ x y, o2 (w j A) x y = o1 (w j A) x y := fun x y => by rw [← ho2]; exact ins_off hab' x y
  have o1B : ∀ x y, o1 (w j B) x y = o (w j B) x y := fun x y => by rw [← ho1]; exact ins_off (fun z => hab' z.symm) x y
  have o2m : ∀ v, v ≠ w j A → v ≠ w j B → ∀ x y, o2 v x y = o v x y := fun v hv1 hv2 x y => by rw [← ho2, ins_off hv2, ← ho1, ins_off hv1]
  have o2D : ∀ v x y, D x = true → D y = true → o2 v x y = o v x y := fun v x y hx hy => by
    rw [← ho2, ins_old v (nD x hx _ (by omega)) (nD y hy _ (by omega)), ← ho1, ins_old v (nD x hx _ (by omega)) (nD y hy _ (by omega))]
  have vA := (hc.2.1 A hA).1
  have vB := (hc.2.1 B hB).1
  have gA := (hc.2.1 A hA).2.1
  have gB := (hc.2.1 B hB).2.1
  have gpA := (hc.2.1 _ hpA).2.1
  have gpB := (hc.2.1 _ hpB).2.1
  have incA := (CS_at hc hA hA).mpr (Or.inl rfl)
  have incB := (CS_at hc hB hB).mpr (Or.inl rfl)
  have incpA := (CS_at hc hA hpA).mpr (Or.inr rfl)
  have incpB := (CS_at hc hB hpB).mpr (Or.inr rfl)
  have nAp : g j (prv (L j) A) ≠ g j A := fun z => prv_ne hA hc.1 (hc.2.2.2 _ _ hpA hA z)
  have nBp : g j (prv (L j) B) ≠ g j B := fun z => prv_ne hB hc.1 (hc.2.2.2 _ _ hpB hB z)
  -- a path edge at a vertex that is not inside the path
  have pEnd : ∀ v s, s < l → (∀ t, 0 < t → t < l → v ≠ u t) → pg_inc a b v (hh s) = true → (v = w j A ∧ s = 0) ∨ (v = w j B ∧ s = l - 1) := fun v s hs hv hi => by
    rcases (inc_t (hp.2.1 s hs).2.2 (PT_ne hp hs)).mp hi with z | z
    · by_cases c : s = 0
      · rw [c, h0] at z; exact Or.inl ⟨z, c⟩
      · exact absurd z (hv s (by omega) hs)
    · by_cases c : s + 1 = l
      · rw [c, h1] at z; exact Or.inr ⟨z, by omega⟩
      · exact absurd z (hv (s + 1) (by omega) (by omega))
  have inn : ∀ i p, i < r → p < L i → ∀ t, 0 < t → t < l → w i p ≠ u t := fun i p hi hpl t q1 q2 => CS_inner (hF i hi).1 (hF i hi).2 hp hpl q1 q2
  have dD : ∀ v d, (∀ t, 0 < t → t < l → v ≠ u t) → (D d || isIn hh d l) = true → pg_inc a b v d = true → D d = true ∨ (v = w j A ∧ d = hh 0) ∨ (v = w j B ∧ d = hh (l - 1)) := fun v d hv hd hi => by
    rw [Bool.or_eq_true, isIn_iff] at hd
    rcases hd with z | ⟨s, q1, q2⟩
    · exact Or.inl z
    · subst q2
      rcases pEnd v s q1 hv hi with ⟨z1, z2⟩ | ⟨z1, z2⟩
      · exact Or.inr (Or.inl ⟨z1, by rw [z2]⟩)
      · exact Or.inr (Or.inr ⟨z1, by rw [z2]⟩)
  -- the five kinds of corners
  have T1 : ∀ d, d < m → (D d || isIn hh d l) = true → pg_inc a b (w j A) d = true → d ≠ g j A → d ≠ hh 0 → pg_tau o2 (w j A) (hh 0) (g j A) d = false := fun d hd hdd hi n1 n2 => by
    rcases dD _ d (inn j A hj hA) hdd hi with z | ⟨_, z⟩ | ⟨z, _⟩
    · rw [tau_eq (o := o1) (o2A _ _) (o2A _ _) (o2A _ _), ← ho1]
      exact tau_out vA ht gpA gA hd incpA incA hi iA (nD _ (hcD A hA) 0 (by omega)) n2 nAp n1 (fun q => hS j A d hj hA hd z hi n1 q)
    · exact absurd z n2
    · exact absurd z hab'
  have T1' : ∀ d, d < m → (D d || isIn hh d l) = true → pg_inc a b (w j B) d = true → d ≠ g j B → d ≠ hh (l - 1) → pg_tau o2 (w j B) (hh (l - 1)) (g j B) d = false := fun d hd hdd hi n1 n2 => by
    rcases dD _ d (inn j B hj hB) hdd hi with z | ⟨z, _⟩ | ⟨_, z⟩
    · rw [← ho2]
      exact tau_out vB t1 gpB gB hd incpB incB hi iB (nD _ (hcD B hB) _ (by omega)) n2 nBp n1 (fun q => by rw [tau_eq (o := o) (o1B _ _) (o1B _ _) (o1B _ _)]; exact hS j B d hj hB hd z hi n1 q)
    · exact absurd z.symm hab'
    · exact absurd z n2
  have T2 : ∀ d, d < m → (D d || isIn hh d l) = true → pg_inc a b (w j B) d = true → d ≠ hh (l - 1) → d ≠ g j (prv (L j) B) → pg_tau o2 (w j B) (g j (prv (L j) B)) (hh (l - 1)) d = false := fun d hd hdd hi n1 n2 => by
    rw [← ho2]
    exact tau_in vB t1 gpB hd incpB hi iB n1 n2
  have T2' : ∀ d, d < m → (D d || isIn hh d l) = true → pg_inc a b (w j A) d = true → d ≠ hh 0 → d ≠ g j (prv (L j) A) → pg_tau o2 (w j A) (g j (prv (L j) A)) (hh 0) d = false := fun d hd hdd hi n1 n2 => by
    rw [tau_eq (o := o1) (o2A _ _) (o2A _ _) (o2A _ _), ← ho1]
    exact tau_in vA ht gpA hd incpA hi iA n1 n2
  have T3 : ∀ q d, q < L j → q ≠ A → q ≠ B → d < m → (D d || isIn hh d l) = true → pg_inc a b (w j q) d = true → d ≠ g j q → d ≠ g j (prv (L j) q) → pg_tau o2 (w j q) (g j (prv (L j) q)) (g j q) d = false := fun q d hq q1 q2 hd hdd hi n1 n2 => by
    have v1 : w j q ≠ w j A := fun z => q1 (hc.2.2.1 _ _ hq hA z)
    have v2 : w j q ≠ w j B := fun z => q2 (hc.2.2.1 _ _ hq hB z)
    rcases dD _ d (inn j q hj hq) hdd hi with z | ⟨z, _⟩ | ⟨z, _⟩
    · rw [tau_eq (o := o) (o2m _ v1 v2 _ _) (o2m _ v1 v2 _ _) (o2m _ v1 v2 _ _)]
      exact hS j q d hj hq hd z hi n1 n2
    · exact absurd z v1
    · exact absurd z v2
  have T4 : ∀ i p d, i < r → i ≠ j → p < L i → d < m → (D d || isIn hh d l) = true → pg_inc a b (w i p) d = true → d ≠ g i p → d ≠ g i (prv (L i) p) → pg_tau o2 (w i p) (g i (prv (L i) p)) (g i p) d = false := fun i p d hi hij hpl hd hdd hin n1 n2 => by
    obtain ⟨ic, icD⟩ := hF i hi
    have hpp := prv_lt hpl
    have d1 := icD p hpl
    have d2 := icD _ hpp
    have i1 := (CS_at ic hpl hpl).mpr (Or.inl rfl)
    have i2 := (CS_at ic hpl hpp).mpr (Or.inr rfl)
    have npp : g i (prv (L i) p) ≠ g i p := fun z => prv_ne hpl ic.1 (ic.2.2.2 _ _ hpp hpl z)
    rcases dD _ d (inn i p hi hpl) hdd hin with z | ⟨z, zd⟩ | ⟨z, zd⟩
    · rw [tau_eq (o := o) (o2D _ _ _ d2 d1) (o2D _ _ _ d1 z) (o2D _ _ _ z d2)]
      exact hS i p d hi hpl hd z hin n1 n2
    · subst zd
      have hu := hU i j p A hi hj hij hpl hA z
      rw [z] at i1 i2 ⊢
      rw [tau_eq (o := o1) (o2A _ _) (o2A _ _) (o2A _ _), ← ho1]
      exact tau_new vA ht gpA (ic.2.1 _ hpl).2.1 (ic.2.1 _ hpp).2.1 incpA i1 i2 iA (nD _ d2 0 (by omega)) (nD _ d1 0 (by omega)) hu npp (fun q => by
        have := hS i p (g j (prv (L j) A)) hi hpl gpA (hcD _ hpA) (by rw [z]; exact incpA) (fun y => q y.symm) (fun y => hu y.symm)
        rw [z] at this; exact this)
    · subst zd
      have hu := hU i j p B hi hj hij hpl hB z
      rw [z] at i1 i2 ⊢
      rw [← ho2]
      exact tau_new vB t1 gpB (ic.2.1 _ hpl).2.1 (ic.2.1 _ hpp).2.1 incpB i1 i2 iB (nD _ d2 _ (by omega)) (nD _ d1 _ (by omega)) hu npp (fun q => by
        rw [tau_eq (o := o) (o1B _ _) (o1B _ _) (o1B _ _)]
        have := hS i p (g j (prv (L j) B)) hi hpl gpB (hcD _ hpB) (by rw [z]; exact incpB) (fun y => q y.symm) (fun y => hu y.symm)
        rw [z] at this; exact this)
  have hrj : r ≠ j := by omega
  have Lj : adL L r j A B l j = dst (L j) A B + l := by unfold adL; rw [if_pos rfl]
  have Wj : adW L w r j A B l u j = arcW (L j) A (dst (L j) A B) l (w j) u := by unfold adW; rw [if_pos rfl]
  have Gj : adG L g r j A B l hh j = arcG (L j) A (dst (L j) A B) l (g j) hh := by unfold adG; rw [if_pos rfl]
  have Lr : adL L r j A B l r = dst (L j) B A + l := by unfold adL; rw [if_neg hrj, if_pos rfl]
  have Wr : adW L w r j A B l u r = arcW (L j) B (dst (L j) B A) l (w j) (fun t => u (l - t)) := by unfold adW; rw [if_neg hrj, if_pos rfl]
  have Gr : adG L g r j A B l hh r = arcG (L j) B (dst (L j) B A) l (g j) (fun t => hh (l - 1 - t)) := by unfold adG; rw [if_neg hrj, if_pos rfl]
  have Lo : ∀ i, i ≠ j → i ≠ r → adL L r j A B l i = L i := fun i q1 q2 => by unfold adL; rw [if_neg q1, if_neg q2]
  have Wo : ∀ i, i ≠ j → i ≠ r → adW L w r j A B l u i = w i := fun i q1 q2 => by unfold adW; rw [if_neg q1, if_neg q2]
  have Go : ∀ i, i ≠ j → i ≠ r → adG L g r j A B l hh i = g i := fun i q1 q2 => by unfold adG; rw [if_neg q1, if_neg q2]
  have hpr := PT_rev hp
  have hr0 : (fun t => u (l - t)) 0 = w j B := by show u (l - 0) = _; rw [Nat.sub_zero]; exact h1
  have hr1 : (fun t => u (l - t)) l = w j A := by show u (l - l) = _; rw [Nat.sub_self]; exact h0
  have hl1 : l - 1 - (l - 1) = 0 := Nat.sub_self _
  have dL : ∀ e, D e = true → (fun e => D e || isIn hh e l) e = true := fun e he => by
    show (D e || isIn hh e l) = true
    rw [he]; rfl
  have dR : ∀ t, t < l → (fun e => D e || isIn hh e l) (hh t) = true := fun t ht => by
    show (D (hh t) || isIn hh (hh t) l) = true
    rw [(isIn_iff hh _ l).mpr ⟨t, ht, rfl⟩, Bool.or_true]
  refine ⟨t2, fun i hi => ?_, fun i p d hi hpl hd hdd hin n1 n2 => ?_, fun Z hZ hs => ?_, ?_⟩
  · by_cases c1 : i = j
    · subst c1
      rw [Lj, Wj, Gj]
      refine ⟨CS_arc hc hcD hA hB hAB hp h0 h1, fun p hpl => ?_⟩
      have := (arc_mem (L := L i) (g := g i) (h := hh) (A := A) (d := dst (L i) A B) hl _).mp ((isIn_iff _ _ _).mpr ⟨p, hpl, rfl⟩)
      rcases this with ⟨q, q1, q2⟩ | ⟨t, q1, q2⟩
      · rw [← q2]; exact dL _ (hcD _ (wrp_lt hA (by have := dst_b hA hB hAB; omega)))
      · rw [← q2]; exact dR t q1
    · by_cases c2 : i = r
      · subst c2
        rw [Lr, Wr, Gr]
        refine ⟨CS_arc hc hcD hB hA hBA hpr hr0 hr1, fun p hpl => ?_⟩
        have := (arc_mem (L := L j) (g := g j) (h := fun t => hh (l - 1 - t)) (A := B) (d := dst (L j) B A) hl _).mp ((isIn_iff _ _ _).mpr ⟨p, hpl, rfl⟩)
        rcases this with ⟨q, q1, q2⟩ | ⟨t, q1, q2⟩
        · rw [← q2]; exact dL _ (hcD _ (wrp_lt hB (by have := dst_b hB hA hBA; omega)))
        · rw [← q2]; exact dR _ (by omega)
      · rw [Lo i c1 c2, Wo i c1 c2, Go i c1 c2]
        exact ⟨(hF i (by omega)).1, fun p hpl => dL _ ((hF i (by omega)).2 p hpl)⟩
  · by_cases c1 : i = j
    · subst c1
      rw [Lj] at hpl n2 ⊢
      rw [Wj] at hin ⊢
      rw [Gj] at n1 n2 ⊢
      exact arc_side hA hB hAB hp T1 T2 T3 hpl hd hdd hin n1 n2
    · by_cases c2 : i = r
      · subst c2
        rw [Lr] at hpl n2 ⊢
        rw [Wr] at hin ⊢
        rw [Gr] at n1 n2 ⊢
        refine arc_side hB hA hBA hpr (fun d hd hdd hi n1 n2 => ?_) (fun d hd hdd hi n1 n2 => ?_) (fun q d hq q1 q2 hd hdd hi n1 n2 => ?_) hpl hd (by rw [isIn_rev]; exact hdd) hin n1 n2
        · rw [isIn_rev] at hdd
          exact T1' d hd hdd hi n1 n2
        · rw [isIn_rev] at hdd
          have n1' : d ≠ hh (l - 1 - (l - 1)) := n1
          rw [hl1] at n1'
          show pg_tau o2 (w j A) (g j (prv (L j) A)) (hh (l - 1 - (l - 1))) d = false
          rw [hl1]
          exact T2' d hd hdd hi n1' n2
        · rw [isIn_rev] at hdd
          exact T3 q d hq q2 q1 hd hdd hi n1 n2
      · rw [Lo i c1 c2] at hpl n2 ⊢
        rw [Wo i c1 c2] at hin ⊢
        rw [Go i c1 c2] at n1 n2 ⊢
        exact T4 i p d (by omega) c1 hpl hd hdd hin n1 n2
  · have hall := path_all hp hZ hs
    have hC1 : pg_even n m a b (fun e => isIn (arcG (L j) A (dst (L j) A B) l (g j) hh) e (dst (L j) A B + l)) := pg_cyc_even (CS_cyc (CS_arc hc hcD hA hB hAB hp h0 h1))
    have mem1 := arc_mem (L := L j) (g := g j) (h := hh) (A := A) (d := dst (L j) A B) hl
    have hZ0 : pg_even n m a b (pg_add Z (fun e => Z (hh 0) && isIn (arcG (L j) A (dst (L j) A B) l (g j) hh) e (dst (L j) A B + l))) := pg_even_add hZ (even_and _ (fun _ => hC1))
    obtain ⟨c, hc'⟩ := hE _ hZ0 (fun e he => by
      have he' : (Z e ^^ (Z (hh 0) && isIn (arcG (L j) A (dst (L j) A B) l (g j) hh) e (dst (L j) A B + l))) = true := he
      by_cases q : ∃ t, t < l ∧ hh t = e
      · obtain ⟨t, q1, q2⟩ := q
        rw [(mem1 e).mpr (Or.inr ⟨t, q1, q2⟩), ← q2, hall t q1, Bool.and_true, Bool.xor_self] at he'
        cases he'
      · have no : isIn hh e l = false := by
          cases y : isIn hh e l with
          | false => rfl
          | true => exact absurd ((isIn_iff hh e l).mp y) q
        cases hz : Z e with
        | true =>
          have hse : (D e || isIn hh e l) = true := hs e hz
          rw [no, Bool.or_false] at hse; exact hse
        | false =>
          rw [hz, Bool.false_xor, Bool.and_eq_true] at he'
          rcases (mem1 e).mp he'.2 with ⟨p, p1, p2⟩ | z
          · rw [← p2]; exact hcD _ (wrp_lt hA (by have := dst_b hA hB hAB; omega))
          · exact absurd z q)
    refine ⟨fun i => if i = r then c j else if i = j then (c j ^^ Z (hh 0)) else c i, fun e => ?_⟩
    have hz : Z e = ((Z e ^^ (Z (hh 0) && isIn (arcG (L j) A (dst (L j) A B) l (g j) hh) e (dst (L j) A B + l))) ^^ (Z (hh 0) && isIn (arcG (L j) A (dst (L j) A B) l (g j) hh) e (dst (L j) A B + l))) := by
      cases Z e <;> cases (Z (hh 0) && isIn (arcG (L j) A (dst (L j) A B) l (g j) hh) e (dst (L j) A B + l)) <;> rfl
    have hz0 : (Z e ^^ (Z (hh 0) && isIn (arcG (L j) A (dst (L j) A B) l (g j) hh) e (dst (L j) A B + l))) = xr r (fun i => c i && isIn (g i) e (L i)) := hc' e
    rw [hz, hz0]
    show _ = (xr r (fun i => (if i = r then c j else if i = j then (c j ^^ Z (hh 0)) else c i) && isIn (adG L g r j A B l hh i) e (adL L r j A B l i)) ^^ ((if r = r then c j else if r = j then (c j ^^ Z (hh 0)) else c r) && isIn (adG L g r j A B l hh r) e (adL L r j A B l r)))
    rw [xr_change (f := fun i => (if i = r then c j else if i = j then (c j ^^ Z (hh 0)) else c i) && isIn (adG L g r j A B l hh i) e (adL L r j A B l i)) (g := fun i => c i && isIn (g i) e (L i)) hj (fun i hi hij => by rw [if_neg (by omega), if_neg hij, Go i hij (by omega), Lo i hij (by omega)])]
    rw [if_pos rfl, if_neg (show j ≠ r by omega), if_pos rfl, Gj, Lj, Gr, Lr, ← arc_sum hc hcD hA hB hAB hp e]
    cases c j <;> cases Z (hh 0) <;> cases isIn (arcG (L j) A (dst (L j) A B) l (g j) hh) e (dst (L j) A B + l) <;> cases isIn (arcG (L j) B (dst (L j) B A) l (g j) (fun t => hh (l - 1 - t))) e (dst (L j) B A + l) <;> cases xr r (fun i => c i && isIn (g i) e (L i)) <;> rfl
  · -- an edge comes in to a vertex in one face only
    have Kj : ∀ p, p < dst (L j) A B + l → (arcW (L j) A (dst (L j) A B) l (w j) u p = w j A ∧ arcG (L j) A (dst (L j) A B) l (g j) hh (prv (dst (L j) A B + l) p) = hh 0) ∨ (∃ s, 0 < s ∧ s ≤ dst (L j) A B ∧ arcW (L j) A (dst (L j) A B) l (w j) u p = w j (wrp (L j) (A + s)) ∧ arcG (L j) A (dst (L j) A B) l (g j) hh (prv (dst (L j) A B + l) p) = g j (prv (L j) (wrp (L j) (A + s)))) ∨ ∃ t, 0 < t ∧ t < l ∧ arcW (L j) A (dst (L j) A B) l (w j) u p = u t ∧ arcG (L j) A (dst (L j) A B) l (g j) hh (prv (dst (L j) A B + l) p) = hh t := fun p hpl => by
      have hdb := dst_b hA hB hAB
      rcases arc_in (w := w j) (g := g j) (u := u) (h := hh) hA hB hAB hl hpl with ⟨_, e1, e2, e3⟩ | ⟨c0, c, c1, c2, e1, e2, e3⟩ | ⟨_, e1, e2, e3⟩ | ⟨t, q1, q2, e1, e2, e3⟩
      · exact Or.inl ⟨e1, e3⟩
      · exact Or.inr (Or.inl ⟨p, c0, by omega, e1, e3⟩)
      · exact Or.inr (Or.inl ⟨dst (L j) A B, by omega, Nat.le_refl _, by rw [hdb.2.2]; exact e1, by rw [hdb.2.2]; exact e3⟩)
      · exact Or.inr (Or.inr ⟨t, q1, q2, e1, e3⟩)
    have Kr : ∀ p, p < dst (L j) B A + l → (arcW (L j) B (dst (L j) B A) l (w j) (fun t => u (l - t)) p = w j B ∧ arcG (L j) B (dst (L j) B A) l (g j) (fun t => hh (l - 1 - t)) (prv (dst (L j) B A + l) p) = hh (l - 1)) ∨ (∃ s, 0 < s ∧ s ≤ dst (L j) B A ∧ arcW (L j) B (dst (L j) B A) l (w j) (fun t => u (l - t)) p = w j (wrp (L j) (B + s)) ∧ arcG (L j) B (dst (L j) B A) l (g j) (fun t => hh (l - 1 - t)) (prv (dst (L j) B A + l) p) = g j (prv (L j) (wrp (L j) (B + s)))) ∨ ∃ t, 0 < t ∧ t < l ∧ arcW (L j) B (dst (L j) B A) l (w j) (fun t => u (l - t)) p = u t ∧ arcG (L j) B (dst (L j) B A) l (g j) (fun t => hh (l - 1 - t)) (prv (dst (L j) B A + l) p) = hh (t - 1) := fun p hpl => by
      have hdb := dst_b hB hA hBA
      rcases arc_in (w := w j) (g := g j) (u := fun t => u (l - t)) (h := fun t => hh (l - 1 - t)) hB hA hBA hl hpl with ⟨_, e1, e2, e3⟩ | ⟨c0, c, c1, c2, e1, e2, e3⟩ | ⟨_, e1, e2, e3⟩ | ⟨t, q1, q2, e1, e2, e3⟩
      · exact Or.inl ⟨e1, e3⟩
      · exact Or.inr (Or.inl ⟨p, c0, by omega, e1, e3⟩)
      · exact Or.inr (Or.inl ⟨dst (L j) B A, by omega, Nat.le_refl _, by rw [hdb.2.2]; exact e1, by rw [hdb.2.2]; exact e3⟩)
      · exact Or.inr (Or.inr ⟨l - t, by omega, by omega, e1, by rw [e3]; show hh (l - 1 - t) = _; congr 1; omega⟩)
    have wl' : ∀ A' s, A' < L j → s < L j → wrp (L j) (A' + s) < L j := fun A' s q1 q2 => wrp_lt q1 q2
    have dAB := dst_b hA hB hAB
    have dBA := dst_b hB hA hBA
    have Ujr : ∀ p q, p < dst (L j) A B + l → q < dst (L j) B A + l → arcW (L j) A (dst (L j) A B) l (w j) u p = arcW (L j) B (dst (L j) B A) l (w j) (fun t => u (l - t)) q → arcG (L j) A (dst (L j) A B) l (g j) hh (prv (dst (L j) A B + l) p) ≠ arcG (L j) B (dst (L j) B A) l (g j) (fun t => hh (l - 1 - t)) (prv (dst (L j) B A + l) q) := fun p q p1 q1 e => by
      rcases Kj p p1 with ⟨a1, a2⟩ | ⟨s, s1, s2, a1, a2⟩ | ⟨t, t1, t2, a1, a2⟩ <;> rcases Kr q q1 with ⟨b1, b2⟩ | ⟨s', s1', s2', b1, b2⟩ | ⟨t', t1', t2', b1, b2⟩ <;> rw [a1, b1] at e <;> rw [a2, b2]
      · exact absurd e hab'
      · exact fun z => nD _ (hcD _ (prv_lt (wl' B s' hB (by omega)))) 0 (by omega) z.symm
      · exact absurd e (inn j A hj hA t' t1' t2')
      · exact nD _ (hcD _ (prv_lt (wl' A s hA (by omega)))) _ (by omega)
      · exact absurd (hc.2.2.1 _ _ (wl' A s hA (by omega)) (wl' B s' hB (by omega)) e) (arc_disj hA hB hAB s1 s2 s1' s2')
      · exact absurd e (inn j _ hj (wl' A s hA (by omega)) t' t1' t2')
      · exact absurd e.symm (inn j B hj hB t t1 t2)
      · exact absurd e.symm (inn j _ hj (wl' B s' hB (by omega)) t t1 t2)
      · intro z
        have y1 := hp.2.2.2 t t' (by omega) (by omega) e
        have y2 := PT_inj hp t2 (show t' - 1 < l by omega) z
        omega
    have Ujo : ∀ i p q, i < r → i ≠ j → p < dst (L j) A B + l → q < L i → arcW (L j) A (dst (L j) A B) l (w j) u p = w i q → arcG (L j) A (dst (L j) A B) l (g j) hh (prv (dst (L j) A B + l) p) ≠ g i (prv (L i) q) := fun i p q hi hij p1 q1 e => by
      rcases Kj p p1 with ⟨a1, a2⟩ | ⟨s, s1, s2, a1, a2⟩ | ⟨t, t1, t2, a1, a2⟩ <;> rw [a1] at e <;> rw [a2]
      · exact fun z => nD _ ((hF i hi).2 _ (prv_lt q1)) 0 (by omega) z.symm
      · exact hU j i _ q hj hi (fun z => hij z.symm) (wl' A s hA (by omega)) q1 e
      · exact absurd e.symm (inn i q hi q1 t t1 t2)
    have Uro : ∀ i p q, i < r → i ≠ j → p < dst (L j) B A + l → q < L i → arcW (L j) B (dst (L j) B A) l (w j) (fun t => u (l - t)) p = w i q → arcG (L j) B (dst (L j) B A) l (g j) (fun t => hh (l - 1 - t)) (prv (dst (L j) B A + l) p) ≠ g i (prv (L i) q) := fun i p q hi hij p1 q1 e => by
      rcases Kr p p1 with ⟨a1, a2⟩ | ⟨s, s1, s2, a1, a2⟩ | ⟨t, t1, t2, a1, a2⟩ <;> rw [a1] at e <;> rw [a2]
      · exact fun z => nD _ ((hF i hi).2 _ (prv_lt q1)) _ (by omega) z.symm
      · exact hU j i _ q hj hi (fun z => hij z.symm) (wl' B s hB (by omega)) q1 e
      · exact absurd e.symm (inn i q hi q1 t t1 t2)
    intro i i' p q hi hi' hii p1 q1 e
    by_cases c1 : i = j
    · subst c1
      rw [Lj] at p1 ⊢
      rw [Wj] at e
      rw [Gj]
      by_cases c2 : i' = r
      · subst c2
        rw [Lr] at q1 ⊢
        rw [Wr] at e
        rw [Gr]
        exact Ujr p q p1 q1 e
      · have c3 : i' ≠ i := fun z => hii z.symm
        rw [Lo i' c3 c2] at q1 ⊢
        rw [Wo i' c3 c2] at e
        rw [Go i' c3 c2]
        exact Ujo i' p q (by omega) c3 p1 q1 e
    · by_cases c2 : i = r
      · subst c2
        rw [Lr] at p1 ⊢
        rw [Wr] at e
        rw [Gr]
        by_cases c3 : i' = j
        · subst c3
          rw [Lj] at q1 ⊢
          rw [Wj] at e
          rw [Gj]
          exact fun z => Ujr q p q1 p1 e.symm z.symm
        · have c4 : i' ≠ i := fun z => hii z.symm
          rw [Lo i' c3 c4] at q1 ⊢
          rw [Wo i' c3 c4] at e
          rw [Go i' c3 c4]
          exact Uro i' p q (by omega) c3 p1 q1 e
      · rw [Lo i c1 c2] at p1 ⊢
        rw [Wo i c1 c2] at e
        rw [Go i c1 c2]
        by_cases c3 : i' = j
        · subst c3
          rw [Lj] at q1 ⊢
          rw [Wj] at e
          rw [Gj]
          exact fun z => Ujo i q p (by omega) c1 q1 p1 e.symm z.symm
        · by_cases c4 : i' = r
          · subst c4
            rw [Lr] at q1 ⊢
            rw [Wr] at e
            rw [Gr]
            exact fun z => Uro i q p (by omega) c1 q1 p1 e.symm z.symm
          · rw [Lo i' c3 c4] at q1 ⊢
            rw [Wo i' c3 c4] at e
            rw [Go i' c3 c4]
            exact hU i i' p q (by omega) (by omega) hii p1 q1 e
end AE
