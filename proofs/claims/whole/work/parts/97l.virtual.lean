/-! conflicts on the faces of what is drawn: shown with edges that are not there -/
section VT
variable {n m : Nat} {a b : Nat → Nat}
theorem lt_tour {e f : Nat} (h : e ≠ f) : (decide (e < f) ^^ decide (f < e)) = true := by
  rcases Nat.lt_or_gt_of_ne h with q | q
  · rw [decide_eq_true q, decide_eq_false (show ¬ f < e by omega)]; rfl
  · rw [decide_eq_false (show ¬ e < f by omega), decide_eq_true (show f < e from q)]; rfl
theorem DS_ext {n' m' : Nat} {a' b' : Nat → Nat} {o : Nat → Nat → Nat → Bool} {D : Nat → Bool} {r : Nat} {L : Nat → Nat} {w g : Nat → Nat → Nat} (hn : n ≤ n') (hm : m ≤ m') (hab : ∀ e, e < m → a' e = a e ∧ b' e = b e) (hDm : ∀ e, D e = true → e < m) (h : DS n m a b o D r L w g) :
    DS n' m' a' b' (fun v x y => if x < m ∧ y < m ∧ v < n then o v x y else decide (x < y)) D r L w g := by
  obtain ⟨ht, hF, hS, hE, hU⟩ := h
  have inc : ∀ v e, e < m → pg_inc a' b' v e = pg_inc a b v e := fun v e he => by unfold pg_inc; rw [(hab e he).1, (hab e he).2]
  refine ⟨fun v e f hv he hf hef ie jf => ?_, fun i hi => ⟨⟨(hF i hi).1.1, fun p hp => ?_, (hF i hi).1.2.2.1, (hF i hi).1.2.2.2⟩, (hF i hi).2⟩, fun i p d hi hp hd hD hinc n1 n2 => ?_, fun Z hZ hs => hE Z ⟨fun e he => ?_, fun v hv => ?_⟩ hs, hU⟩
  · dsimp only
    by_cases c : e < m ∧ f < m ∧ v < n
    · rw [if_pos c, if_pos ⟨c.2.1, c.1, c.2.2⟩]
      rw [inc v e c.1] at ie
      rw [inc v f c.2.1] at jf
      exact ht v e f c.2.2 c.1 c.2.1 hef ie jf
    · rw [if_neg c, if_neg (fun z => c ⟨z.2.1, z.1, z.2.2⟩)]
      exact lt_tour hef
  · obtain ⟨q1, q2, q3⟩ := (hF i hi).1.2.1 p hp
    refine ⟨by omega, by omega, ?_⟩
    unfold pg_joins
    rw [(hab _ q2).1, (hab _ q2).2]
    exact q3
  · have hdm := hDm d hD
    rw [inc _ _ hdm] at hinc
    have q1 := (hF i hi).1.2.1 p hp
    have q2 := (hF i hi).1.2.1 _ (prv_lt hp)
    have := hS i p d hi hp hdm hD hinc n1 n2
    unfold pg_tau at this ⊢
    dsimp only
    rw [if_pos ⟨q2.2.1, q1.2.1, q1.1⟩, if_pos ⟨q1.2.1, hdm, q1.1⟩, if_pos ⟨hdm, q2.2.1, q1.1⟩]
    exact this
  · cases q : Z e with
    | false => rfl
    | true => have := hDm e (hs e q); omega
  · have hz := hZ.2 v (by omega)
    rw [xr_grow hm (fun e h1 h2 => by
      cases q : Z e with
      | false => rfl
      | true => have := hDm e (hs e q); omega)] at hz
    rw [← hz]
    exact xr_congr (fun e he => by rw [inc v e he])
theorem DS_Flt {o : Nat → Nat → Nat → Bool} {D : Nat → Bool} {r : Nat} {L : Nat → Nat} {w g : Nat → Nat → Nat} (hab : ∀ e, e < m → a e < n ∧ b e < n ∧ a e ≠ b e) (h : DS n m a b o D r L w g) : Flt n m a b o D := by
  refine ⟨h.1, fun Y Z hY hZ sY sZ => ?_⟩
  obtain ⟨c, hc⟩ := h.2.2.2.1 Z hZ sZ
  rw [show Z = fun e => xr r (fun i => c i && isIn (g i) e (L i)) from funext hc]
  refine I_linr c (fun i e => isIn (g i) e (L i)) r (fun i hi _ => ?_)
  rw [pg_symm hab h.1 (CS_cyc (h.2.1 i hi).1 |> pg_cyc_even)]
  exact DS_face h hi hY sY
theorem PT_one {D : Nat → Bool} {e x y : Nat} (he : e < m) (hD : D e = false) (hj : pg_joins a b e x y) (hxy : x ≠ y) : PT n m a b D 1 (fun t => if t = 0 then x else y) (fun _ => e) := by
  refine ⟨Nat.le_refl 1, fun t ht => ?_, fun t t1 t2 => by omega, fun s t hs ht z => ?_⟩
  · have : t = 0 := by omega
    subst this
    exact ⟨he, hD, hj⟩
  · dsimp only at z
    by_cases c1 : s = 0 <;> by_cases c2 : t = 0
    · omega
    · rw [if_pos c1, if_neg c2] at z; exact absurd z hxy
    · rw [if_neg c1, if_pos c2] at z; exact absurd z.symm hxy
    · omega
theorem Wk_one {E U : Nat → Prop} {e x y : Nat} (hE : E e) (hj : pg_joins a b e x y) : Wk a b E U 1 (fun t => if t = 0 then x else y) (fun _ => e) := by
  refine ⟨Nat.le_refl 1, fun t ht => ?_, fun t t1 t2 => by omega⟩
  have : t = 0 := by omega
  subst this
  exact ⟨hE, hj⟩
theorem inj_one {x y : Nat} (hxy : x ≠ y) : ∀ s t, s ≤ 1 → t ≤ 1 → (if s = 0 then x else y) = (if t = 0 then x else y) → s = t := fun s t hs ht z => by
  by_cases c1 : s = 0 <;> by_cases c2 : t = 0
  · omega
  · rw [if_pos c1, if_neg c2] at z; exact absurd z hxy
  · rw [if_neg c1, if_pos c2] at z; exact absurd z.symm hxy
  · omega
theorem two_virt {o : Nat → Nat → Nat → Bool} {D : Nat → Bool} {r : Nat} {L : Nat → Nat} {w g : Nat → Nat → Nat} (hab : ∀ e, e < m → a e < n ∧ b e < n ∧ a e ≠ b e) (hDm : ∀ e, D e = true → e < m) (h : DS n m a b o D r L w g) {f g1 g2 : Nat} (hf : f < r) (h1 : g1 < r) (h2 : g2 < r) (n1 : f ≠ g1) (n2 : f ≠ g2) (n3 : g2 ≠ g1)
    {A1 A2 B1 B2 : Nat} (hA1 : A1 < L f) (hA2 : A2 < L f) (hB1 : B1 < L f) (hB2 : B2 < L f) (c1 : cyc3 A1 A2 B1) (c2 : cyc3 B1 B2 A1) {P1 Q1 P2 Q2 : Nat} (hP1 : P1 < L g1) (hQ1 : Q1 < L g1) (e1 : w g1 P1 = w f A1) (e2 : w g1 Q1 = w f B1) (hP2 : P2 < L g2) (hQ2 : Q2 < L g2) (e3 : w g2 P2 = w f A2) (e4 : w g2 Q2 = w f B2) : False := by
  have hcf := (h.2.1 f hf).1
  have gm : ∀ p, p < L f → g f p < m := fun p hp => (hcf.2.1 p hp).2.1
  have x1 : w f A1 ≠ w f B1 := fun z => by have := hcf.2.2.1 _ _ hA1 hB1 z; unfold cyc3 at c1; omega
  have x2 : w f A2 ≠ w f B2 := fun z => by have := hcf.2.2.1 _ _ hA2 hB2 z; unfold cyc3 at c1 c2; omega
  have hab' : ∀ e, e < m + 2 → (fun e => if e = m then w f A1 else if e = m + 1 then w f A2 else a e) e < n ∧ (fun e => if e = m then w f B1 else if e = m + 1 then w f B2 else b e) e < n ∧ (fun e => if e = m then w f A1 else if e = m + 1 then w f A2 else a e) e ≠ (fun e => if e = m then w f B1 else if e = m + 1 then w f B2 else b e) e := fun e he => by
    dsimp only
    by_cases z1 : e = m
    · simp only [if_pos z1]; exact ⟨(hcf.2.1 _ hA1).1, (hcf.2.1 _ hB1).1, x1⟩
    · by_cases z2 : e = m + 1
      · simp only [if_neg z1, if_pos z2]; exact ⟨(hcf.2.1 _ hA2).1, (hcf.2.1 _ hB2).1, x2⟩
      · simp only [if_neg z1, if_neg z2]; exact hab e (by omega)
  have hx := DS_ext (n' := n) (m' := m + 2) (a' := fun e => if e = m then w f A1 else if e = m + 1 then w f A2 else a e) (b' := fun e => if e = m then w f B1 else if e = m + 1 then w f B2 else b e) (Nat.le_refl n) (by omega) (fun e he => by rw [if_neg (by omega), if_neg (by omega), if_neg (by omega), if_neg (by omega)]; exact ⟨rfl, rfl⟩) hDm h
  have j1 : pg_joins (fun e => if e = m then w f A1 else if e = m + 1 then w f A2 else a e) (fun e => if e = m then w f B1 else if e = m + 1 then w f B2 else b e) m (w f A1) (w f B1) := Or.inl ⟨by dsimp only; rw [if_pos rfl], by dsimp only; rw [if_pos rfl]⟩
  have j2 : pg_joins (fun e => if e = m then w f A1 else if e = m + 1 then w f A2 else a e) (fun e => if e = m then w f B1 else if e = m + 1 then w f B2 else b e) (m + 1) (w f A2) (w f B2) := Or.inl ⟨by dsimp only; rw [if_neg (by omega), if_pos rfl], by dsimp only; rw [if_neg (by omega), if_pos rfl]⟩
  generalize (fun e => if e = m then w f A1 else if e = m + 1 then w f A2 else a e) = a' at hab' hx j1 j2
  generalize (fun e => if e = m then w f B1 else if e = m + 1 then w f B2 else b e) = b' at hab' hx j1 j2
  have Dno : ∀ e, m ≤ e → D e = false := fun e he => by
    cases q : D e with
    | false => rfl
    | true => have := hDm e q; omega
  have d1 := DS_add hx h1 hP1 hQ1 (fun z => x1 (by rw [← e1, ← e2, z])) (PT_one (by omega) (Dno m (Nat.le_refl m)) j1 x1) e1.symm e2.symm
  have k1 : adL L r g1 P1 Q1 1 g2 = L g2 := by unfold adL; rw [if_neg n3, if_neg (by omega)]
  have k2 : adW L w r g1 P1 Q1 1 (fun t => if t = 0 then w f A1 else w f B1) g2 = w g2 := by unfold adW; rw [if_neg n3, if_neg (by omega)]
  have d2 := DS_add d1 (j := g2) (A := P2) (B := Q2) (l := 1) (u := fun t => if t = 0 then w f A2 else w f B2) (hh := fun _ => m + 1) (by omega) (by rw [k1]; exact hP2) (by rw [k1]; exact hQ2) (fun z => x2 (by rw [← e3, ← e4, z])) (PT_one (by omega) (by
    rw [Dno (m + 1) (by omega)]
    unfold isIn isIn
    simp) j2 x2) (by rw [k2]; exact e3.symm) (by rw [k2]; exact e4.symm)
  have eL : adL (adL L r g1 P1 Q1 1) (r + 1) g2 P2 Q2 1 f = L f := by unfold adL; rw [if_neg n2, if_neg (by omega), if_neg n1, if_neg (by omega)]
  have eW : adW (adL L r g1 P1 Q1 1) (adW L w r g1 P1 Q1 1 (fun t => if t = 0 then w f A1 else w f B1)) (r + 1) g2 P2 Q2 1 (fun t => if t = 0 then w f A2 else w f B2) f = w f := by unfold adW; rw [if_neg n2, if_neg (by omega), if_neg n1, if_neg (by omega)]
  have eG : adG (adL L r g1 P1 Q1 1) (adG L g r g1 P1 Q1 1 (fun _ => m)) (r + 1) g2 P2 Q2 1 (fun _ => m + 1) f = g f := by unfold adG; rw [if_neg n2, if_neg (by omega), if_neg n1, if_neg (by omega)]
  have hFl := DS_Flt hab' d2
  have hc := (d2.2.1 f (by omega)).1
  have hX := (d2.2.1 f (by omega)).2
  have hS := d2.2.2.1 f
  rw [eL, eW, eG] at hc
  rw [eL, eG] at hX
  rw [eL, eW, eG] at hS
  have m1 : ((D m || isIn (fun _ => m) m 1) || isIn (fun _ => m + 1) m 1) = true := by unfold isIn; simp
  have m2 : ((D (m + 1) || isIn (fun _ => m) (m + 1) 1) || isIn (fun _ => m + 1) (m + 1) 1) = true := by unfold isIn; simp
  have hs := itl_side hab' hFl hc hX hA1 hB1 hA2 hB2 c1 c2 (Wk_one (E := offE (m + 2) (fun e => (D e || isIn (fun _ => m) e 1) || isIn (fun _ => m + 1) e 1) (L f) (g f)) ⟨by omega, m1, fun p hp z => by have := gm p hp; omega⟩ j1) (inj_one x1) rfl rfl (Wk_one ⟨⟨by omega, m2, fun p hp z => by have := gm p hp; omega⟩, fun t ht => by omega⟩ j2) rfl rfl
  have s1 := hS A1 m (by omega) hA1 (by omega) m1 (joins_inc j1).1 (fun z => by have := gm _ hA1; omega) (fun z => by have := gm _ (prv_lt hA1); omega)
  have s2 := hS A2 (m + 1) (by omega) hA2 (by omega) m2 (joins_inc j2).1 (fun z => by have := gm _ hA2; omega) (fun z => by have := gm _ (prv_lt hA2); omega)
  rw [s1, s2] at hs
  cases hs
end VT
