/-! a part can be laid where its blocks can -/
section PB
variable {n k : Nat} {F S : Nat → Nat} {x : Int32}
theorem I_congr {m : Nat} {a b : Nat → Nat} {o o' : Nat → Nat → Nat → Bool} {Y Z : Nat → Bool} (h : ∀ v e f, Y e = true → Z f = true → o v e f = o' v e f) : pg_I n m a b o Y Z = pg_I n m a b o' Y Z := by
  unfold pg_I
  congr 1
  refine xr_congr (fun v _ => ?_)
  unfold pg_loc
  refine xr_congr (fun e _ => xr_congr (fun f _ => ?_))
  cases hY : Y e with
  | false => rfl
  | true =>
    cases hZ : Z f with
    | false => cases pg_inc a b v e <;> rfl
    | true => rw [h v e f hY hZ]
/-- sets whose edges are ordered alike throughout do not cross -/
theorem I_const {m : Nat} {a b : Nat → Nat} {o : Nat → Nat → Nat → Bool} {Y Z : Nat → Bool} {c : Bool} (hZ : pg_even n m a b Z) (h : ∀ v e f, Y e = true → Z f = true → o v e f = c) (hd : ∀ e, Y e = true → Z e = false) : pg_I n m a b o Y Z = false := by
  unfold pg_I
  rw [xr_zero (f := fun e => Y e && Z e) (fun e _ => by
    cases hY : Y e with
    | false => rfl
    | true => rw [hd e hY]; rfl), Bool.xor_false]
  refine xr_zero (fun v hv => ?_)
  unfold pg_loc
  refine xr_zero (fun e _ => ?_)
  cases hY : (Y e && pg_inc a b v e) with
  | false => exact xr_zero (fun f _ => rfl)
  | true =>
    rw [Bool.and_eq_true] at hY
    rw [xr_congr (g := fun f => (Z f && pg_inc a b v f) && c) (fun f _ => ?_), xr_and_r, hZ.2 v hv, Bool.false_and]
    cases hZf : Z f with
    | false => rfl
    | true =>
      have hne : e ≠ f := fun z => by have := hd e hY.1; rw [z, hZf] at this; cases this
      rw [h v e f hY.1 hZf, decide_eq_false hne]
      rfl
theorem PP_blocks (hk : k ≤ 18) {C B Y : Nat → Int32} (h : pcI n k F S x k C B Y) (hP : ∀ e, e < k → bt x e = true → pg_PP n k F S (fun f => bt (B e) f)) : pg_PP n k F S (Xi x k) := by
  have hb := fun e he hx => pc_blk h (e := e) he hx
  obtain ⟨_, _, _, _, _, _, _, h8, h9, h10, _⟩ := h
  have hsk : ∀ z : Int32, ∃ o : Nat → Nat → Nat → Bool, pg_PP n k F S (fun f => bt z f) → pg_tour n k F S o ∧ ∀ Y Z, pg_even n k F S Y → pg_even n k F S Z → (∀ e, Y e = true → bt z e = true) → (∀ e, Z e = true → bt z e = true) → pg_I n k F S o Y Z = false := fun z => by
    by_cases c : pg_PP n k F S (fun f => bt z f)
    · obtain ⟨o, q1, q2⟩ := c
      exact ⟨o, fun _ => ⟨q1, q2⟩⟩
    · exact ⟨fun _ _ _ => false, fun w => absurd w c⟩
  obtain ⟨O, hO⟩ := Classical.skolem.mp hsk
  -- one order for all edges
  have hw : ∃ o : Nat → Nat → Nat → Bool, (∀ v d e, d < k → e < k → bt x d = true → bt x e = true → B d = B e → o v d e = O (B d) v d e) ∧ (∀ v d e, d < k → e < k → bt x d = true → bt x e = true → ¬ B d = B e → o v d e = decide (ps_least (B d) < ps_least (B e))) ∧ ∀ v d e, ¬ (d < k ∧ e < k ∧ bt x d = true ∧ bt x e = true) → o v d e = decide (d < e) := by
    refine ⟨fun v d e => @ite Bool (d < k ∧ e < k ∧ bt x d = true ∧ bt x e = true) (Classical.propDecidable _) (if B d = B e then O (B d) v d e else decide (ps_least (B d) < ps_least (B e))) (decide (d < e)), fun v d e q1 q2 q3 q4 q5 => ?_, fun v d e q1 q2 q3 q4 q5 => ?_, fun v d e q => ?_⟩
    · exact (if_pos ⟨q1, q2, q3, q4⟩).trans (if_pos q5)
    · exact (if_pos ⟨q1, q2, q3, q4⟩).trans (if_neg q5)
    · exact if_neg q
  obtain ⟨o, o1, o2, o3⟩ := hw
  have hne : ∀ e, e < k → bt x e = true → ¬ B e = 0 := fun e he hx z => by
    have := (h9 e he hx).1
    rw [z, b_0] at this; cases this
  have hl : ∀ e, e < k → bt x e = true → ps_least (B e) < k ∧ bt x (ps_least (B e)) = true ∧ B (ps_least (B e)) = B e := fun e he hx => by
    obtain ⟨_, l2, _⟩ := ps_least_ok (hne e he hx)
    obtain ⟨⟨q1, q2⟩, q3⟩ := (h9 e he hx).2 _ l2
    exact ⟨q1, q2, q3⟩
  have ht : pg_tour n k F S o := by
    intro v d e hv hd he hde id' ie
    by_cases c : bt x d = true ∧ bt x e = true
    · by_cases c2 : B d = B e
      · rw [o1 v d e hd he c.1 c.2 c2, o1 v e d he hd c.2 c.1 c2.symm, ← c2]
        exact (hO (B d) (hP d hd c.1)).1 v d e hv hd he hde id' ie
      · rw [o2 v d e hd he c.1 c.2 c2, o2 v e d he hd c.2 c.1 (fun z => c2 z.symm)]
        have hn' : ps_least (B d) ≠ ps_least (B e) := fun z => c2 (by rw [← (hl d hd c.1).2.2, z, (hl e he c.2).2.2])
        rcases Nat.lt_or_gt_of_ne hn' with w | w
        · rw [decide_eq_true w, decide_eq_false (by omega)]; rfl
        · rw [decide_eq_false (show ¬ ps_least (B d) < ps_least (B e) by omega), decide_eq_true (show ps_least (B e) < ps_least (B d) from w)]; rfl
    · rw [o3 v d e (fun z => c ⟨z.2.2.1, z.2.2.2⟩), o3 v e d (fun z => c ⟨z.2.2.2, z.2.2.1⟩)]
      rcases Nat.lt_or_gt_of_ne hde with w | w
      · rw [decide_eq_true w, decide_eq_false (show ¬ e < d by omega)]; rfl
      · rw [decide_eq_false (show ¬ d < e by omega), decide_eq_true (show e < d from w)]; rfl
  refine ⟨o, ht, fun Y Z hY hZ sY sZ => ?_⟩
  -- a set is the sum of its parts in the blocks
  have split : ∀ Y : Nat → Bool, (∀ e, Y e = true → Xi x k e = true) → Y = fun e => xr k (fun i => (bt x i && decide (ps_least (B i) = i)) && (Y e && bt (B i) e)) := fun Y sY => by
    funext e
    cases q : Y e with
    | false => exact (xr_zero (fun i _ => by rw [Bool.false_and, Bool.and_false])).symm
    | true =>
      obtain ⟨e1, e2⟩ := Xi_t.mp (sY e q)
      obtain ⟨l1, l2, l3⟩ := hl e e1 e2
      rw [xr_one (k := ps_least (B e)) l1 (fun i hi hne' => ?_)]
      · rw [l2, l3, decide_eq_true rfl, (h9 e e1 e2).1]; rfl
      · cases c : bt x i with
        | false => rfl
        | true =>
          cases c2 : bt (B i) e with
          | false => rw [Bool.and_false, Bool.and_false]
          | true =>
            have h3 := ((h9 i hi c).2 e c2).2
            rw [decide_eq_false (fun z => hne' (by rw [h3, z]))]; rfl
  have even : ∀ Y : Nat → Bool, pg_even n k F S Y → (∀ e, Y e = true → Xi x k e = true) → ∀ i, i < k → bt x i = true → pg_even n k F S (fun e => Y e && bt (B i) e) := fun Y hY sY i hi hx => h10 i hi hx Y hY sY
  rw [split Y sY]
  refine I_lin (fun i => bt x i && decide (ps_least (B i) = i)) (fun i e => Y e && bt (B i) e) k (fun i hi ci => ?_)
  rw [Bool.and_eq_true, decide_eq_true_iff] at ci
  rw [split Z sZ]
  refine I_linr (fun i => bt x i && decide (ps_least (B i) = i)) (fun i e => Z e && bt (B i) e) k (fun j hj cj => ?_)
  rw [Bool.and_eq_true, decide_eq_true_iff] at cj
  have hYi := even Y hY sY i hi ci.1
  have hZj := even Z hZ sZ j hj cj.1
  have inB : ∀ i, i < k → bt x i = true → ∀ e, bt (B i) e = true → e < k ∧ bt x e = true ∧ B e = B i := fun i hi hx e he => ⟨((h9 i hi hx).2 e he).1.1, ((h9 i hi hx).2 e he).1.2, ((h9 i hi hx).2 e he).2⟩
  by_cases hij : i = j
  · subst hij
    have hh := (hO (B i) (hP i hi ci.1)).2 _ _ hYi hZj (fun e he => by rw [Bool.and_eq_true] at he; exact he.2) (fun e he => by rw [Bool.and_eq_true] at he; exact he.2)
    rw [← hh]
    refine I_congr (fun v e f he hf => ?_)
    have he' : (Y e && bt (B i) e) = true := he
    have hf' : (Z f && bt (B i) f) = true := hf
    rw [Bool.and_eq_true] at he' hf'
    obtain ⟨a1, a2, a3⟩ := inB i hi ci.1 e he'.2
    obtain ⟨b1, b2, b3⟩ := inB i hi ci.1 f hf'.2
    rw [o1 v e f a1 b1 a2 b2 (by rw [a3, b3]), a3]
  · have hBij : ¬ B i = B j := fun z => hij (by rw [← ci.2, ← cj.2, z])
    refine I_const (c := decide (i < j)) hZj (fun v e f he hf => ?_) (fun e he => ?_)
    · have he' : (Y e && bt (B i) e) = true := he
      have hf' : (Z f && bt (B j) f) = true := hf
      rw [Bool.and_eq_true] at he' hf'
      obtain ⟨a1, a2, a3⟩ := inB i hi ci.1 e he'.2
      obtain ⟨b1, b2, b3⟩ := inB j hj cj.1 f hf'.2
      rw [o2 v e f a1 b1 a2 b2 (by rw [a3, b3]; exact hBij), a3, b3, ci.2, cj.2]
    · have he' : (Y e && bt (B i) e) = true := he
      rw [Bool.and_eq_true] at he'
      show (Z e && bt (B j) e) = false
      cases c : bt (B j) e with
      | false => rw [Bool.and_false]
      | true =>
        have a3 := (inB i hi ci.1 e he'.2).2.2
        have b3 := (inB j hj cj.1 e c).2.2
        exact absurd (a3.symm.trans b3) hBij
end PB
