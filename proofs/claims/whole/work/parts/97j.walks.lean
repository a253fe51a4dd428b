/-! walks in a part, beside circles: their first and last edges lie on one side -/
def Wk (a b : Nat → Nat) (E U : Nat → Prop) (l : Nat) (u h : Nat → Nat) : Prop := 1 ≤ l ∧ (∀ t, t < l → E (h t) ∧ pg_joins a b (h t) (u t) (u (t + 1))) ∧ ∀ t, 0 < t → t < l → U (u t)
def cU (l : Nat) (u u' : Nat → Nat) (i : Nat) : Nat := if i ≤ l then u i else u' (i - l)
def cH (l : Nat) (h h' : Nat → Nat) (i : Nat) : Nat := if i < l then h i else h' (i - l)
theorem cU_0 (l : Nat) (u u' : Nat → Nat) : cU l u u' 0 = u 0 := by unfold cU; rw [if_pos (Nat.zero_le l)]
theorem cU_e {l l' : Nat} (u u' : Nat → Nat) (h : 1 ≤ l') : cU l u u' (l + l') = u' l' := by unfold cU; rw [if_neg (by omega)]; congr 1; omega
theorem cH_0 {l : Nat} (h h' : Nat → Nat) (hl : 1 ≤ l) : cH l h h' 0 = h 0 := by unfold cH; rw [if_pos (by omega)]
theorem cH_e {l l' : Nat} (h h' : Nat → Nat) (hl : 1 ≤ l') : cH l h h' (l + l' - 1) = h' (l' - 1) := by unfold cH; rw [if_neg (by omega)]; congr 1; omega
section WK
variable {n m : Nat} {a b : Nat → Nat}
theorem Wk_mono {E U E' U' : Nat → Prop} {l : Nat} {u h : Nat → Nat} (hw : Wk a b E U l u h) (hE : ∀ e, E e → E' e) (hU : ∀ v, U v → U' v) : Wk a b E' U' l u h := ⟨hw.1, fun t ht => ⟨hE _ (hw.2.1 t ht).1, (hw.2.1 t ht).2⟩, fun t t1 t2 => hU _ (hw.2.2 t t1 t2)⟩
theorem Wk_rev {E U : Nat → Prop} {l : Nat} {u h : Nat → Nat} (hw : Wk a b E U l u h) : Wk a b E U l (fun t => u (l - t)) (fun t => h (l - 1 - t)) := by
  refine ⟨hw.1, fun t ht => ?_, fun t t1 t2 => hw.2.2 (l - t) (by omega) (by omega)⟩
  obtain ⟨q1, q2⟩ := hw.2.1 (l - 1 - t) (by omega)
  refine ⟨q1, ?_⟩
  have := joins_symm q2
  rw [show l - 1 - t + 1 = l - t from by omega] at this
  show pg_joins a b (h (l - 1 - t)) (u (l - t)) (u (l - (t + 1)))
  rw [show l - (t + 1) = l - 1 - t from by omega]
  exact this
theorem cat_j {l l' : Nat} {u h u' h' : Nat → Nat} {E : Nat → Prop} (h1 : ∀ t, t < l → E (h t) ∧ pg_joins a b (h t) (u t) (u (t + 1))) (h2 : ∀ t, t < l' → E (h' t) ∧ pg_joins a b (h' t) (u' t) (u' (t + 1))) (hj : u l = u' 0) {t : Nat} (ht : t < l + l') : E (cH l h h' t) ∧ pg_joins a b (cH l h h' t) (cU l u u' t) (cU l u u' (t + 1)) := by
  by_cases c : t < l
  · unfold cU cH
    rw [if_pos c, if_pos (by omega), if_pos (by omega)]
    exact h1 t c
  · have q := h2 (t - l) (by omega)
    have e1 : cU l u u' t = u' (t - l) := by
      unfold cU
      by_cases z : t = l
      · rw [if_pos (by omega), z, hj, Nat.sub_self]
      · rw [if_neg (by omega)]
    have e2 : cU l u u' (t + 1) = u' (t - l + 1) := by
      unfold cU; rw [if_neg (by omega)]; congr 1; omega
    have e3 : cH l h h' t = h' (t - l) := by unfold cH; rw [if_neg c]
    rw [e1, e2, e3]; exact q
theorem Wk_cat {E U : Nat → Prop} {l l' : Nat} {u h u' h' : Nat → Nat} (h1 : Wk a b E U l u h) (h2 : Wk a b E U l' u' h') (hj : u l = u' 0) (hU : U (u l)) : Wk a b E U (l + l') (cU l u u') (cH l h h') := by
  have l1 := h1.1
  refine ⟨by omega, fun t ht => cat_j h1.2.1 h2.2.1 hj ht, fun t t1 t2 => ?_⟩
  unfold cU
  by_cases c : t < l
  · rw [if_pos (by omega)]; exact h1.2.2 t t1 c
  · by_cases z : t = l
    · rw [if_pos (by omega), z]; exact hU
    · rw [if_neg (by omega)]; exact h2.2.2 (t - l) (by omega) (by omega)
theorem Wk_arc {L : Nat} {w g : Nat → Nat} (hc : CS n m a b L w g) {B c : Nat} (hB : B < L) (c1 : 1 ≤ c) (c2 : c < L) {E U : Nat → Prop} (hE : ∀ t, t < c → E (g (wrp L (B + t)))) (hU : ∀ t, 0 < t → t < c → U (w (wrp L (B + t)))) : Wk a b E U c (fun t => w (wrp L (B + t))) (fun t => g (wrp L (B + t))) := by
  refine ⟨c1, fun t ht => ⟨hE t ht, ?_⟩, hU⟩
  have := (hc.2.1 _ (wrp_lt hB (show t < L by omega))).2.2
  rw [wrp_nxt hB (by omega)] at this
  exact this
theorem Wk_short {E U : Nat → Prop} : ∀ N l u h, l ≤ N → Wk a b E U l u h → ¬ U (u 0) → ¬ U (u l) → u 0 ≠ u l → ∃ l' u' h', Wk a b E U l' u' h' ∧ u' 0 = u 0 ∧ u' l' = u l ∧ h' 0 = h 0 ∧ h' (l' - 1) = h (l - 1) ∧ ∀ s t, s ≤ l' → t ≤ l' → u' s = u' t → s = t
  | 0, l, u, h, hl, hw, _, _, _ => absurd hw.1 (by omega)
  | N + 1, l, u, h, hl, hw, n0, n1, hne => by
    by_cases hi : ∀ s t, s ≤ l → t ≤ l → u s = u t → s = t
    · exact ⟨l, u, h, hw, rfl, rfl, rfl, rfl, hi⟩
    · obtain ⟨s, t, st, tl, e⟩ : ∃ s t, s < t ∧ t ≤ l ∧ u s = u t := Classical.byContradiction fun z => hi (fun s t hs ht e => by
        rcases Nat.lt_trichotomy s t with q | q | q
        · exact absurd ⟨s, t, q, ht, e⟩ z
        · exact q
        · exact absurd ⟨t, s, q, hs, e.symm⟩ z)
      have s0 : 0 < s := by
        refine Nat.pos_of_ne_zero fun z => ?_
        rw [z] at e st
        by_cases c : t = l
        · rw [c] at e; exact hne e
        · exact n0 (by rw [e]; exact hw.2.2 t st (by omega))
      have t1 : t < l := by
        refine Nat.lt_of_le_of_ne tl fun z => n1 ?_
        rw [← z, ← e]; exact hw.2.2 s s0 (by omega)
      have hw' : Wk a b E U (l - (t - s)) (fun i => if i ≤ s then u i else u (i + (t - s))) (fun i => if i < s then h i else h (i + (t - s))) := by
        refine ⟨by omega, fun i hi' => ?_, fun i i1 i2 => ?_⟩
        · by_cases c : i < s
          · simp only [if_pos c, if_pos (show i ≤ s by omega), if_pos (show i + 1 ≤ s by omega)]
            exact hw.2.1 i (by omega)
          · have q := hw.2.1 (i + (t - s)) (by omega)
            simp only [if_neg c, if_neg (show ¬ i + 1 ≤ s by omega)]
            rw [show i + 1 + (t - s) = i + (t - s) + 1 from by omega]
            refine ⟨q.1, ?_⟩
            by_cases z : i = s
            · rw [if_pos (by omega)]
              have e' : u i = u (i + (t - s)) := by rw [z, e]; congr 1; omega
              rw [e']; exact q.2
            · rw [if_neg (by omega)]; exact q.2
        · dsimp only
          by_cases c : i ≤ s
          · rw [if_pos c]; exact hw.2.2 i i1 (by omega)
          · rw [if_neg c]; exact hw.2.2 _ (by omega) (by omega)
      have a0 : (if 0 ≤ s then u 0 else u (0 + (t - s))) = u 0 := by rw [if_pos (Nat.zero_le s)]
      have al : (if l - (t - s) ≤ s then u (l - (t - s)) else u (l - (t - s) + (t - s))) = u l := by rw [if_neg (by omega)]; congr 1; omega
      obtain ⟨l', u', h', q1, q2, q3, q4, q5, q6⟩ := Wk_short N _ _ _ (by omega) hw' (by rw [a0]; exact n0) (by rw [al]; exact n1) (by rw [a0, al]; exact hne)
      refine ⟨l', u', h', q1, q2.trans a0, q3.trans al, q4.trans ?_, q5.trans ?_, q6⟩
      · rw [if_pos s0]
      · rw [if_neg (by omega)]; congr 1; omega
theorem joins_lt (hab : ∀ e, e < m → a e < n ∧ b e < n ∧ a e ≠ b e) {e u v : Nat} (he : e < m) (h : pg_joins a b e u v) : u < n ∧ v < n ∧ u ≠ v := by
  obtain ⟨q1, q2, q3⟩ := hab e he
  rcases h with ⟨z1, z2⟩ | ⟨z1, z2⟩
  · rw [← z1, ← z2]; exact ⟨q1, q2, q3⟩
  · rw [← z1, ← z2]; exact ⟨q2, q1, Ne.symm q3⟩
/-- what the laid order promises -/
def Flt (n m : Nat) (a b : Nat → Nat) (o : Nat → Nat → Nat → Bool) (X : Nat → Bool) : Prop := pg_tour n m a b o ∧ ∀ Y Z, pg_even n m a b Y → pg_even n m a b Z → (∀ e, Y e = true → X e = true) → (∀ e, Z e = true → X e = true) → pg_I n m a b o Y Z = false
theorem side_walk {o : Nat → Nat → Nat → Bool} {X : Nat → Bool} (hab : ∀ e, e < m → a e < n ∧ b e < n ∧ a e ≠ b e) (hI : Flt n m a b o X)
    {L : Nat} {w g : Nat → Nat} (hc : CS n m a b L w g) (hX : ∀ p, p < L → X (g p) = true) {l : Nat} {u h : Nat → Nat} (hw : Wk a b (fun e => e < m ∧ X e = true ∧ ∀ p, p < L → g p ≠ e) (fun v => ∀ p, p < L → w p ≠ v) l u h) {A B : Nat} (hA : A < L) (hB : B < L) (h0 : u 0 = w A) (h1 : u l = w B) :
    pg_tau o (w A) (g (prv L A)) (g A) (h 0) = pg_tau o (w B) (g (prv L B)) (g B) (h (l - 1)) := by
  obtain ⟨c, c1, c2⟩ : ∃ c, c < L ∧ wrp L (B + c) = A := by
    by_cases z : A = B
    · exact ⟨0, by omega, by rw [wrp_0 hB]; exact z.symm⟩
    · obtain ⟨_, d2, d3⟩ := dst_b hB hA (fun q => z q.symm)
      exact ⟨_, d2, d3⟩
  have l1 := hw.1
  have hj : u l = (fun t => w (wrp L (B + t))) 0 := by
    show u l = w (wrp L (B + 0))
    rw [wrp_0 hB]; exact h1
  have jn : ∀ t, t < l + c → (cH l h (fun t => g (wrp L (B + t))) t < m ∧ X (cH l h (fun t => g (wrp L (B + t))) t) = true) ∧ pg_joins a b (cH l h (fun t => g (wrp L (B + t))) t) (cU l u (fun t => w (wrp L (B + t))) t) (cU l u (fun t => w (wrp L (B + t))) (t + 1)) := fun t ht =>
    cat_j (E := fun e => e < m ∧ X e = true) (fun t ht => ⟨⟨(hw.2.1 t ht).1.1, (hw.2.1 t ht).1.2.1⟩, (hw.2.1 t ht).2⟩) (fun t ht => by
      have hq := wrp_lt hB (show t < L by omega)
      have := (hc.2.1 _ hq).2
      rw [wrp_nxt hB (by omega)] at this
      exact ⟨⟨this.1, hX _ hq⟩, this.2⟩) hj ht
  have hwk : pg_walk n m a b (l + c) (cU l u (fun t => w (wrp L (B + t)))) (cH l h (fun t => g (wrp L (B + t)))) := by
    refine ⟨fun i hi => ?_, fun i hi => ⟨(jn i hi).1.1, (jn i hi).2, (joins_lt hab (jn i hi).1.1 (jn i hi).2).2.2⟩⟩
    by_cases z : i < l + c
    · exact (joins_lt hab (jn i z).1.1 (jn i z).2).1
    · have := (joins_lt hab (jn (i - 1) (by omega)).1.1 (jn (i - 1) (by omega)).2).2.1
      rw [show i - 1 + 1 = i from by omega] at this
      exact this
  have hcl : cU l u (fun t => w (wrp L (B + t))) 0 = cU l u (fun t => w (wrp L (B + t))) (l + c) := by
    rw [cU_0]
    by_cases z : c = 0
    · rw [z, Nat.add_zero]
      unfold cU
      rw [if_pos (Nat.le_refl l), h0, h1]
      rw [z, wrp_0 hB] at c2
      rw [c2]
    · rw [cU_e _ _ (by omega), c2, h0]
  have hz := hI.2 _ _ (pg_cyc_even (CS_cyc hc)) (pg_ws_even hwk hcl) (fun e he => by
    obtain ⟨p, p1, p2⟩ := (isIn_iff g e L).mp he
    rw [← p2]; exact hX p p1) (fun e he => by
    obtain ⟨i, i1, i2⟩ := xr_ex he
    rw [← of_decide_eq_true i2]
    exact (jn i i1).1.2)
  rw [pg_gl_walk hI.1 (CS_cyc hc) hwk hcl] at hz
  have hpA := pos_at hc.2.2.1 hA L hA (Nat.le_refl L)
  have hpB := pos_at hc.2.2.1 hB L hB (Nat.le_refl L)
  have off : ∀ t, 0 < t → t < l → isIn w (u t) L = false := fun t t1 t2 => by
    cases q : isIn w (u t) L with
    | false => rfl
    | true =>
      obtain ⟨p, p1, p2⟩ := (isIn_iff w _ L).mp q
      exact absurd p2 (hw.2.2 t t1 t2 p p1)
  have offe : ∀ t, t < l → isIn g (h t) L = false := fun t t2 => by
    cases q : isIn g (h t) L with
    | false => rfl
    | true =>
      obtain ⟨p, p1, p2⟩ := (isIn_iff g _ L).mp q
      exact absurd p2 ((hw.2.1 t t2).1.2.2 p p1)
  have onA : isIn w (w A) L = true := (isIn_iff w _ L).mpr ⟨A, hA, rfl⟩
  have onB : isIn w (w B) L = true := (isIn_iff w _ L).mpr ⟨B, hB, rfl⟩
  rw [xr_congr (g := fun i => (decide (i = 0) && pg_tau o (w A) (g (prv L A)) (g A) (h 0)) ^^ (decide (i = l - 1) && pg_tau o (w B) (g (prv L B)) (g B) (h (l - 1)))) (fun i hi => by
    by_cases z : i < l
    · have e1 : cH l h (fun t => g (wrp L (B + t))) i = h i := by unfold cH; rw [if_pos z]
      have e2 : cU l u (fun t => w (wrp L (B + t))) i = u i := by unfold cU; rw [if_pos (by omega)]
      have e3 : cU l u (fun t => w (wrp L (B + t))) (i + 1) = u (i + 1) := by unfold cU; rw [if_pos (by omega)]
      rw [e1, e2, e3, offe i z, Bool.not_false, Bool.true_and]
      congr 1
      · by_cases q : i = 0
        · rw [q, h0, onA, hpA]; simp
        · rw [off i (by omega) z]; simp [q]
      · by_cases q : i + 1 = l
        · have q' : i = l - 1 := by omega
          rw [q, h1, onB, hpB, q']; simp
        · have q' : ¬ i = l - 1 := by omega
          rw [off (i + 1) (by omega) (by omega)]; simp [q']
    · have e1 : cH l h (fun t => g (wrp L (B + t))) i = g (wrp L (B + (i - l))) := by unfold cH; rw [if_neg z]
      have hin : isIn g (g (wrp L (B + (i - l)))) L = true := (isIn_iff g _ L).mpr ⟨_, wrp_lt hB (by omega), rfl⟩
      rw [e1, hin]
      have q1 : ¬ i = 0 := by omega
      have q2 : ¬ i = l - 1 := by omega
      simp [q1, q2]), xr_xor, xr_one (k := 0) (by omega) (fun i _ hi => by simp [hi]), xr_one (k := l - 1) (by omega) (fun i _ hi => by simp [hi])] at hz
  simp only [decide_true, Bool.true_and] at hz
  revert hz
  generalize pg_tau o (w A) (g (prv L A)) (g A) (h 0) = p
  generalize pg_tau o (w B) (g (prv L B)) (g B) (h (l - 1)) = q
  cases p <;> cases q <;> decide
end WK
