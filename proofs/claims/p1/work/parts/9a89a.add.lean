/-! what is drawn, with a path laid through one of its faces -/
section AD
variable {n m : Nat} {a b : Nat → Nat} {D : Nat → Bool}
/-- no drawn edge lies inside a new face -/
theorem arc_side {o' : Nat → Nat → Nat → Bool} {L : Nat} {w g : Nat → Nat} {A B : Nat} (hA : A < L) (hB : B < L) (hAB : A ≠ B) {l : Nat} {u h : Nat → Nat} (hp : PT n m a b D l u h)
    (s1 : ∀ d, d < m → (D d || isIn h d l) = true → pg_inc a b (w A) d = true → d ≠ g A → d ≠ h 0 → pg_tau o' (w A) (h 0) (g A) d = false)
    (s2 : ∀ d, d < m → (D d || isIn h d l) = true → pg_inc a b (w B) d = true → d ≠ h (l - 1) → d ≠ g (prv L B) → pg_tau o' (w B) (g (prv L B)) (h (l - 1)) d = false)
    (s3 : ∀ q d, q < L → q ≠ A → q ≠ B → d < m → (D d || isIn h d l) = true → pg_inc a b (w q) d = true → d ≠ g q → d ≠ g (prv L q) → pg_tau o' (w q) (g (prv L q)) (g q) d = false)
    {p d : Nat} (hpl : p < dst L A B + l) (hd : d < m) (hD : (D d || isIn h d l) = true) (hi : pg_inc a b (arcW L A (dst L A B) l w u p) d = true) (n1 : d ≠ arcG L A (dst L A B) l g h p) (n2 : d ≠ arcG L A (dst L A B) l g h (prv (dst L A B + l) p)) :
    pg_tau o' (arcW L A (dst L A B) l w u p) (arcG L A (dst L A B) l g h (prv (dst L A B + l) p)) (arcG L A (dst L A B) l g h p) d = false := by
  have hdb := dst_b hA hB hAB
  rcases arc_in (w := w) (g := g) (u := u) (h := h) hA hB hAB hp.1 hpl with ⟨_, e1, e2, e3⟩ | ⟨_, c, c1, c2, e1, e2, e3⟩ | ⟨_, e1, e2, e3⟩ | ⟨t, t1, t2, e1, e2, e3⟩
  · rw [e1] at hi ⊢
    rw [e2] at n1 ⊢
    rw [e3] at n2 ⊢
    exact s1 d hd hD hi n1 n2
  · rw [e1] at hi ⊢
    rw [e2] at n1 ⊢
    rw [e3] at n2 ⊢
    exact s3 _ d (wrp_lt hA (by omega)) c1 c2 hd hD hi n1 n2
  · rw [e1] at hi ⊢
    rw [e2] at n1 ⊢
    rw [e3] at n2 ⊢
    exact s2 d hd hD hi n1 n2
  · rw [e1] at hi
    rw [e2] at n1
    rw [e3] at n2
    exfalso
    rw [Bool.or_eq_true, isIn_iff] at hD
    rcases hD with z | ⟨s, q1, q2⟩
    · rw [(hp.2.2.1 t t1 t2).2 d hd z] at hi; cases hi
    · subst q2
      rcases (PT_at hp q1 (by omega)).mp hi with z | z
      · exact n2 (by rw [z])
      · exact n1 (by rw [z]; rfl)
/-- the new faces -/
def adL (L : Nat → Nat) (r j A B l : Nat) (i : Nat) : Nat := if i = j then dst (L j) A B + l else if i = r then dst (L j) B A + l else L i
def adW (L : Nat → Nat) (w : Nat → Nat → Nat) (r j A B l : Nat) (u : Nat → Nat) (i : Nat) : Nat → Nat := if i = j then arcW (L j) A (dst (L j) A B) l (w j) u else if i = r then arcW (L j) B (dst (L j) B A) l (w j) (fun t => u (l - t)) else w i
def adG (L : Nat → Nat) (g : Nat → Nat → Nat) (r j A B l : Nat) (h : Nat → Nat) (i : Nat) : Nat → Nat := if i = j then arcG (L j) A (dst (L j) A B) l (g j) h else if i = r then arcG (L j) B (dst (L j) B A) l (g j) (fun t => h (l - 1 - t)) else g i
theorem isIn_rev {h : Nat → Nat} {l e : Nat} : isIn (fun t => h (l - 1 - t)) e l = isIn h e l := by
  rw [Bool.eq_iff_iff, isIn_iff, isIn_iff]
  constructor
  · rintro ⟨p, p1, p2⟩; exact ⟨l - 1 - p, by omega, p2⟩
  · rintro ⟨p, p1, p2⟩
    refine ⟨l - 1 - p, by omega, ?_⟩
    show h (l - 1 - (l - 1 - p)) = e
    rw [show l - 1 - (l - 1 - p) = p from by omega]; exact p2
/-- both new faces together are the old one -/
theorem arc_sum {L : Nat} {w g : Nat → Nat} (hc : CS n m a b L w g) (hD : ∀ p, p < L → D (g p) = true) {A B : Nat} (hA : A < L) (hB : B < L) (hAB : A ≠ B) {l : Nat} {u h : Nat → Nat} (hp : PT n m a b D l u h) (e : Nat) :
    (isIn (arcG L A (dst L A B) l g h) e (dst L A B + l) ^^ isIn (arcG L B (dst L B A) l g (fun t => h (l - 1 - t))) e (dst L B A + l)) = isIn g e L := by
  have m1 := arc_mem (L := L) (g := g) (h := h) (A := A) (d := dst L A B) hp.1 e
  have m2 := arc_mem (L := L) (g := g) (h := fun t => h (l - 1 - t)) (A := B) (d := dst L B A) hp.1 e
  have hdb := dst_b hA hB hAB
  have hdb' := dst_b hB hA (fun z => hAB z.symm)
  by_cases c : ∃ t, t < l ∧ h t = e
  · have r1 := m1.mpr (Or.inr c)
    have r2 := m2.mpr (Or.inr (by obtain ⟨t, t1, t2⟩ := c; exact ⟨l - 1 - t, by omega, by show h (l - 1 - (l - 1 - t)) = e; rw [show l - 1 - (l - 1 - t) = t from by omega]; exact t2⟩))
    rw [r1, r2]
    cases q : isIn g e L with
    | false => rfl
    | true =>
      obtain ⟨p, p1, p2⟩ := (isIn_iff g e L).mp q
      obtain ⟨t, t1, t2⟩ := c
      have := hD p p1
      rw [p2, ← t2, (hp.2.1 t t1).2.1] at this; cases this
  · have m1' : isIn (arcG L A (dst L A B) l g h) e (dst L A B + l) = true ↔ ∃ p, p < dst L A B ∧ g (wrp L (A + p)) = e := m1.trans ⟨fun z => z.elim id (fun y => absurd y c), Or.inl⟩
    have m2' : isIn (arcG L B (dst L B A) l g (fun t => h (l - 1 - t))) e (dst L B A + l) = true ↔ ∃ p, p < dst L B A ∧ g (wrp L (B + p)) = e := m2.trans ⟨fun z => z.elim id (fun ⟨t, t1, t2⟩ => absurd ⟨_, by omega, t2⟩ c), Or.inl⟩
    cases q : isIn g e L with
    | true =>
      obtain ⟨p, p1, p2⟩ := (isIn_iff g e L).mp q
      have tr : ∀ A' d', A' < L → d' < L → ((∃ p', p' < d' ∧ g (wrp L (A' + p')) = e) ↔ ∃ p', p' < d' ∧ wrp L (A' + p') = p) := fun A' d' hA' hd' =>
        ⟨fun ⟨p', q1, q2⟩ => ⟨p', q1, hc.2.2.2 _ _ (wrp_lt hA' (by omega)) p1 (by rw [q2, p2])⟩, fun ⟨p', q1, q2⟩ => ⟨p', q1, by rw [q2]; exact p2⟩⟩
      rw [tr A _ hA hdb.2.1] at m1'
      rw [tr B _ hB hdb'.2.1] at m2'
      rcases arc_part hA hB hAB p1 with ⟨z1, z2⟩ | ⟨z1, z2⟩
      · rw [m1'.mpr z1]
        cases y : isIn (arcG L B (dst L B A) l g (fun t => h (l - 1 - t))) e (dst L B A + l) with
        | false => rfl
        | true => exact absurd (m2'.mp y) z2
      · rw [m2'.mpr z1]
        cases y : isIn (arcG L A (dst L A B) l g h) e (dst L A B + l) with
        | false => rfl
        | true => exact absurd (m1'.mp y) z2
    | false =>
      have no : ∀ p, p < L → g p ≠ e := fun p hp z => by
        rw [(isIn_iff g e L).mpr ⟨p, hp, z⟩] at q; cases q
      have r1 : isIn (arcG L A (dst L A B) l g h) e (dst L A B + l) = false := by
        cases y : isIn (arcG L A (dst L A B) l g h) e (dst L A B + l) with
        | false => rfl
        | true => obtain ⟨p, q1, q2⟩ := m1'.mp y; exact absurd q2 (no _ (wrp_lt hA (by omega)))
      have r2 : isIn (arcG L B (dst L B A) l g (fun t => h (l - 1 - t))) e (dst L B A + l) = false := by
        cases y : isIn (arcG L B (dst L B A) l g (fun t => h (l - 1 - t))) e (dst L B A + l) with
        | false => rfl
        | true => obtain ⟨p, q1, q2⟩ := m2'.mp y; exact absurd q2 (no _ (wrp_lt hB (by omega)))
      rw [r1, r2]; rfl
/-- an even set has all of the path or nothing of it -/
theorem path_all {l : Nat} {u h : Nat → Nat} (hp : PT n m a b D l u h) {Z : Nat → Bool} (hZ : pg_even n m a b Z) (hs : ∀ e, Z e = true → (D e || isIn h e l) = true) : ∀ t, t < l → Z (h t) = Z (h 0)
  | 0, _ => rfl
  | t + 1, ht => by
    rw [← path_all hp hZ hs t (by omega)]
    have hu := hp.2.2.1 (t + 1) (by omega) ht
    have h1 := hp.2.1 t (by omega)
    have h2 := hp.2.1 (t + 1) ht
    have hx := hZ.2 (u (t + 1)) hu.1
    rw [xr_two h1.1 h2.1 (fun z => by have := PT_inj hp (show t < l by omega) ht z; omega) (fun i hi n1 n2 => ?_)] at hx
    · rw [(PT_at hp (show t < l by omega) (show t + 1 ≤ l by omega)).mpr (Or.inr rfl), (PT_at hp ht (show t + 1 ≤ l by omega)).mpr (Or.inl rfl), Bool.and_true, Bool.and_true] at hx
      revert hx
      cases Z (h t) <;> cases Z (h (t + 1)) <;> decide
    · cases hz : Z i with
      | false => rfl
      | true =>
        rw [Bool.true_and]
        have := hs i hz
        rw [Bool.or_eq_true, isIn_iff] at this
        rcases this with z | ⟨s, q1, q2⟩
        · exact hu.2 i hi z
        · subst q2
          cases q : pg_inc a b (u (t + 1)) (h s) with
          | false => rfl
          | true =>
            rcases (PT_at hp q1 (show t + 1 ≤ l by omega)).mp q with z | z
            · exact absurd (by rw [z]) n2
            · exact absurd (by rw [show t = s from by omega]) n1
end AD
