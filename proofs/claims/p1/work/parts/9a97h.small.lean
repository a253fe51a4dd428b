/-! a part with at most eight edges can be laid -/
section SM
theorem cn_drop {m e : Nat} {P : Nat → Bool} (he : e < m) (hp : P e = true) : cn m (fun f => P f && !decide (f = e)) + 1 = cn m P := by
  rw [← cn_more (P := fun f => P f && !decide (f = e)) he (by show (P e && !decide (e = e)) = false; rw [decide_eq_true rfl]; simp)]
  refine cn_congr (fun f _ => ?_)
  by_cases c : f = e
  · rw [c, hp, decide_eq_true rfl]; rfl
  · rw [decide_eq_false c]; cases P f <;> rfl
theorem cn_none {m : Nat} {P : Nat → Bool} (h : cn m P = 0) : ∀ f, f < m → P f = false := fun f hf => by
  cases q : P f with
  | false => rfl
  | true => have := cn_drop hf q; omega
theorem cn_some {m : Nat} {P : Nat → Bool} (h : 1 ≤ cn m P) : ∃ e, e < m ∧ P e = true := by
  refine Classical.byContradiction fun z => ?_
  have : cn m P = 0 := by
    rw [cn_congr (g := fun _ => false) (fun i hi => by
      cases q : P i with
      | false => rfl
      | true => exact absurd ⟨i, hi, q⟩ z)]
    exact cn_false m
  omega
theorem cn_one {m : Nat} {P : Nat → Bool} (h : cn m P = 1) : ∃ e, e < m ∧ P e = true ∧ ∀ f, f < m → P f = true → f = e := by
  obtain ⟨e, h1, h2⟩ := cn_some (by omega : 1 ≤ cn m P)
  refine ⟨e, h1, h2, fun f hf hp => ?_⟩
  have := cn_drop h1 h2
  have h0 := cn_none (show cn m (fun f => P f && !decide (f = e)) = 0 by omega) f hf
  refine Classical.byContradiction fun z => ?_
  have h0' : (P f && !decide (f = e)) = false := h0
  rw [hp, decide_eq_false z] at h0'; cases h0'
theorem cn_two {m : Nat} {P : Nat → Bool} (h : cn m P = 2) : ∃ e1 e2, e1 < m ∧ e2 < m ∧ e1 ≠ e2 ∧ P e1 = true ∧ P e2 = true ∧ ∀ f, f < m → P f = true → f = e1 ∨ f = e2 := by
  obtain ⟨e1, h1, h2⟩ := cn_some (by omega : 1 ≤ cn m P)
  have hd := cn_drop h1 h2
  obtain ⟨e2, g1, g2, g3⟩ := cn_one (show cn m (fun f => P f && !decide (f = e1)) = 1 by omega)
  have g2' : (P e2 && !decide (e2 = e1)) = true := g2
  rw [Bool.and_eq_true, Bool.not_eq_true', decide_eq_false_iff_not] at g2'
  refine ⟨e1, e2, h1, g1, fun z => g2'.2 z.symm, h2, g2'.1, fun f hf hp => ?_⟩
  by_cases c : f = e1
  · exact Or.inl c
  · exact Or.inr (g3 f hf (by show (P f && !decide (f = e1)) = true; rw [hp, decide_eq_false c]; rfl))
theorem cn_img {n : Nat} {Q : Nat → Bool} {R : Nat → Bool} {ph : Nat → Nat} : ∀ m, (∀ v, v < n → Q v = true → ∃ e, e < m ∧ R e = true ∧ ph e = v) → cn n Q ≤ cn m R := by
  intro m
  induction m generalizing Q with
  | zero =>
    intro h
    rw [cn_congr (g := fun _ => false) (fun i hi => by
      cases q : Q i with
      | false => rfl
      | true => obtain ⟨e, he, _⟩ := h i hi q; exact absurd he (Nat.not_lt_zero e)), cn_false]
    exact Nat.zero_le _
  | succ m ih =>
    intro h
    rw [cn_s]
    cases hr : R m with
    | false =>
      refine Nat.le_trans (ih (fun v hv hq => ?_)) (Nat.le_add_right _ _)
      obtain ⟨e, e1, e2, e3⟩ := h v hv hq
      refine ⟨e, Nat.lt_of_le_of_ne (by omega) (fun z => ?_), e2, e3⟩
      rw [z, hr] at e2; cases e2
    | true =>
      have h1 := ih (Q := fun v => Q v && !decide (v = ph m)) (fun v hv hq => by
        rw [Bool.and_eq_true, Bool.not_eq_true', decide_eq_false_iff_not] at hq
        obtain ⟨e, e1, e2, e3⟩ := h v hv hq.1
        exact ⟨e, Nat.lt_of_le_of_ne (by omega) (fun z => hq.2 (by rw [← e3, z])), e2, e3⟩)
      have h2 : cn n Q ≤ cn n (fun v => Q v && !decide (v = ph m)) + 1 := by
        by_cases c : ph m < n ∧ Q (ph m) = true
        · have := cn_drop c.1 c.2; omega
        · refine Nat.le_trans (cn_mono n (fun v hv hq => ?_)) (Nat.le_add_right _ _)
          show (Q v && !decide (v = ph m)) = true
          rw [hq, decide_eq_false (fun z => c ⟨by rw [← z]; exact hv, by rw [← z]; exact hq⟩)]; rfl
      show cn n Q ≤ cn m R + 1
      omega
theorem sm_add : ∀ n (f g : Nat → Nat), sm n (fun v => f v + g v) = sm n f + sm n g
  | 0, _, _ => rfl
  | n + 1, f, g => by
    have ih := sm_add n f g
    show sm n (fun v => f v + g v) + (f n + g n) = (sm n f + f n) + (sm n g + g n)
    rw [ih]; omega
theorem sm_cn : ∀ n (P : Nat → Bool), sm n (fun v => (P v).toNat) = cn n P
  | 0, _ => rfl
  | n + 1, P => by
    show sm n (fun v => (P v).toNat) + (P n).toNat = cn n P + (P n).toNat
    rw [sm_cn n P]
/-- the degrees together are twice the edges -/
theorem shakes {n : Nat} {a b : Nat → Nat} {X : Nat → Bool} : ∀ m, (∀ e, e < m → a e < n ∧ b e < n ∧ a e ≠ b e) → sm n (fun v => cn m (fun e => X e && pg_inc a b v e)) = 2 * cn m X
  | 0, _ => by
    rw [show (fun v => cn 0 (fun e => X e && pg_inc a b v e)) = fun v => (false).toNat from rfl, sm_cn n (fun _ => false), cn_false]
    rfl
  | m + 1, h => by
    have ih := shakes (X := X) m (fun e he => h e (by omega))
    obtain ⟨q1, q2, q3⟩ := h m (by omega)
    have e1 : (fun v => cn (m + 1) (fun e => X e && pg_inc a b v e)) = fun v => cn m (fun e => X e && pg_inc a b v e) + (X m && pg_inc a b v m).toNat := rfl
    rw [e1, sm_add, ih, sm_cn n (fun v => X m && pg_inc a b v m), cn_s]
    cases X m with
    | false =>
      have e0 : cn n (fun v => false && pg_inc a b v m) = 0 := cn_false n
      rw [e0]
      show 2 * cn m X + 0 = 2 * (cn m X + 0)
      omega
    | true =>
      have e2 : cn n (fun v => true && pg_inc a b v m) = 2 := by
        have c1 := cn_more (n := n) (a := a m) (P := fun _ => false) q1 rfl
        rw [cn_false] at c1
        have c2 := cn_more (n := n) (a := b m) (P := fun v => false || decide (v = a m)) q2 (by show (false || decide (b m = a m)) = false; rw [decide_eq_false (fun z => q3 z.symm)]; rfl)
        rw [c1] at c2
        refine Eq.trans (cn_congr (fun v _ => ?_)) c2
        rw [Bool.true_and, Bool.eq_iff_iff, inc_t (a := a) (b := b) (e := m) (Or.inl ⟨rfl, rfl⟩) q3, Bool.or_eq_true, Bool.false_or, decide_eq_true_iff, decide_eq_true_iff]
      rw [e2]
      show 2 * cn m X + 2 = 2 * (cn m X + 1)
      omega
theorem sm_low {c : Nat} {f : Nat → Nat} {P : Nat → Bool} : ∀ n, (∀ v, v < n → P v = true → c ≤ f v) → c * cn n P ≤ sm n f
  | 0, _ => by show c * 0 ≤ 0; omega
  | n + 1, h => by
    have ih := sm_low n (fun v hv => h v (by omega))
    have h1 := h n (by omega)
    show c * (cn n P + (P n).toNat) ≤ sm n f + f n
    rw [Nat.mul_add]
    cases q : P n with
    | false => show c * cn n P + c * 0 ≤ _; omega
    | true => have := h1 q; show c * cn n P + c * 1 ≤ _; omega
/-- the place of an edge of the five -/
def ix5 (u v : Nat) : Nat := dg5 (if u = 0 then 32109 else if u = 1 then 65490 else if u = 2 then 87941 else if u = 3 then 99752 else 99863) v
theorem ix_tb : ∀ u, u < 5 → ∀ v, v < 5 → (decide (u = v) || ((decide (u = 3) && decide (v = 4)) || ((decide (u = 4) && decide (v = 3)) || (decide (ix5 u v < 9) && ((decide (a5 (ix5 u v) = u) && decide (b5 (ix5 u v) = v)) || (decide (a5 (ix5 u v) = v) && decide (b5 (ix5 u v) = u))))))) = true := by decide +kernel
theorem ix_ok {u v : Nat} (hu : u < 5) (hv : v < 5) (huv : u ≠ v) (h1 : ¬ (u = 3 ∧ v = 4)) (h2 : ¬ (u = 4 ∧ v = 3)) : ix5 u v < 9 ∧ pg_joins a5 b5 (ix5 u v) u v := by
  have := ix_tb u hu v hv
  rw [decide_eq_false huv, Bool.false_or, Bool.or_eq_true, Bool.or_eq_true, Bool.and_eq_true, Bool.and_eq_true, Bool.and_eq_true, Bool.or_eq_true, Bool.and_eq_true, Bool.and_eq_true] at this
  simp only [decide_eq_true_iff] at this
  rcases this with z | z | ⟨z1, z2⟩
  · exact absurd z h1
  · exact absurd z h2
  · exact ⟨z1, z2⟩
variable {n m : Nat} {a b : Nat → Nat} {X : Nat → Bool}
/-- at most five vertices, two of them not joined -/
theorem PP_five {P : Nat → Bool} {sg : Nat → Nat} (hab : ∀ e, e < m → a e < n ∧ b e < n ∧ a e ≠ b e) (hP : ∀ v e, v < n → e < m → X e = true → pg_inc a b v e = true → P v = true) (hs : ∀ v, v < n → P v = true → sg v < 5) (hsi : ∀ u v, u < n → v < n → P u = true → P v = true → sg u = sg v → u = v) (hno : ∀ e, e < m → X e = true → ¬ (sg (a e) = 3 ∧ sg (b e) = 4) ∧ ¬ (sg (a e) = 4 ∧ sg (b e) = 3)) (hpar : ∀ e f, e < m → f < m → X e = true → X f = true → pg_joins a b f (a e) (b e) → e = f) : pg_PP n m a b X := by
  have Pa : ∀ e, e < m → X e = true → P (a e) = true ∧ P (b e) = true := fun e hem hx => by
    obtain ⟨q1, q2, q3⟩ := hab e hem
    exact ⟨hP _ e q1 hem hx ((inc_t (Or.inl ⟨rfl, rfl⟩) q3).mpr (Or.inl rfl)), hP _ e q2 hem hx ((inc_t (Or.inl ⟨rfl, rfl⟩) q3).mpr (Or.inr rfl))⟩
  have ok : ∀ e, e < m → X e = true → ix5 (sg (a e)) (sg (b e)) < 9 ∧ pg_joins a5 b5 (ix5 (sg (a e)) (sg (b e))) (sg (a e)) (sg (b e)) := fun e hem hx => by
    obtain ⟨q1, q2, q3⟩ := hab e hem
    obtain ⟨p1, p2⟩ := Pa e hem hx
    exact ix_ok (hs _ q1 p1) (hs _ q2 p2) (fun z => q3 (hsi _ _ q1 q2 p1 p2 z)) (hno e hem hx).1 (hno e hem hx).2
  refine PP_map (P := P) (sg := sg) (ep := fun e => ix5 (sg (a e)) (sg (b e))) (X' := fun e => decide (e < 9)) hP hs hsi hab (fun e hem hx => ⟨(ok e hem hx).1, decide_eq_true (ok e hem hx).1, (ok e hem hx).2⟩) (fun e f hem hfm hxe hxf z => hpar e f hem hfm hxe hxf ?_) k5_PP
  have z' : ix5 (sg (a e)) (sg (b e)) = ix5 (sg (a f)) (sg (b f)) := z
  have j1 := (ok e hem hxe).2
  have j2 := (ok f hfm hxf).2
  rw [← z'] at j2
  obtain ⟨q1, q2, _⟩ := hab e hem
  obtain ⟨q1', q2', _⟩ := hab f hfm
  obtain ⟨p1, p2⟩ := Pa e hem hxe
  obtain ⟨p1', p2'⟩ := Pa f hfm hxf
  have same : (sg (a f) = sg (a e) ∧ sg (b f) = sg (b e)) ∨ (sg (a f) = sg (b e) ∧ sg (b f) = sg (a e)) := by
    rcases j1 with ⟨x1, x2⟩ | ⟨x1, x2⟩ <;> rcases j2 with ⟨y1, y2⟩ | ⟨y1, y2⟩
    · exact Or.inl ⟨by rw [← y1, x1], by rw [← y2, x2]⟩
    · exact Or.inr ⟨by rw [← y2, x2], by rw [← y1, x1]⟩
    · exact Or.inr ⟨by rw [← y1, x1], by rw [← y2, x2]⟩
    · exact Or.inl ⟨by rw [← y2, x2], by rw [← y1, x1]⟩
  rcases same with ⟨w1, w2⟩ | ⟨w1, w2⟩
  · exact Or.inl ⟨hsi _ _ q1' q1 p1' p1 w1, hsi _ _ q2' q2 p2' p2 w2⟩
  · exact Or.inr ⟨hsi _ _ q1' q2 p1' p2 w1, hsi _ _ q2' q1 p2' p1 w2⟩
end SM
