/-! circles as sequences; what is drawn: faces, and no drawn edge inside one -/
def isIn (w : Nat → Nat) (v : Nat) : Nat → Bool
  | 0 => false
  | p + 1 => decide (w p = v) || isIn w v p
def pos (w : Nat → Nat) (v : Nat) : Nat → Nat
  | 0 => 0
  | p + 1 => if w p = v then p else pos w v p
theorem isIn_iff (w : Nat → Nat) (v : Nat) : ∀ L, isIn w v L = true ↔ ∃ p, p < L ∧ w p = v
  | 0 => ⟨fun h => (by cases h), fun ⟨p, h, _⟩ => absurd h (Nat.not_lt_zero p)⟩
  | L + 1 => by
    show (decide (w L = v) || isIn w v L) = true ↔ _
    rw [Bool.or_eq_true, decide_eq_true_iff, isIn_iff w v L]
    constructor
    · rintro (h | ⟨p, h1, h2⟩)
      · exact ⟨L, by omega, h⟩
      · exact ⟨p, by omega, h2⟩
    · rintro ⟨p, h1, h2⟩
      by_cases e : p = L
      · rw [e] at h2; exact Or.inl h2
      · exact Or.inr ⟨p, by omega, h2⟩
theorem pos_at {w : Nat → Nat} {L : Nat} (hi : ∀ p q, p < L → q < L → w p = w q → p = q) {p : Nat} (hp : p < L) : ∀ l, p < l → l ≤ L → pos w (w p) l = p
  | 0, h, _ => absurd h (Nat.not_lt_zero p)
  | l + 1, h, hl => by
    show (if w l = w p then l else pos w (w p) l) = p
    by_cases e : w l = w p
    · rw [if_pos e]; exact hi l p (by omega) hp e
    · rw [if_neg e]
      exact pos_at hi hp l (Nat.lt_of_le_of_ne (by omega) (fun z => e (by rw [z]))) (by omega)
def nxt (L p : Nat) : Nat := if p + 1 < L then p + 1 else 0
def prv (L p : Nat) : Nat := if p = 0 then L - 1 else p - 1
theorem nxt_lt {L p : Nat} (h : p < L) : nxt L p < L := by unfold nxt; split <;> omega
theorem prv_lt {L p : Nat} (h : p < L) : prv L p < L := by unfold prv; split <;> omega
theorem prv_nxt {L p : Nat} (h : p < L) : prv L (nxt L p) = p := by unfold prv nxt; (repeat' split) <;> omega
theorem nxt_prv {L p : Nat} (h : p < L) : nxt L (prv L p) = p := by unfold prv nxt; (repeat' split) <;> omega
theorem prv_ne {L p : Nat} (h : p < L) (h2 : 2 ≤ L) : prv L p ≠ p := by unfold prv; split <;> omega
theorem nxt_ne {L p : Nat} (h : p < L) (h2 : 2 ≤ L) : nxt L p ≠ p := by unfold nxt; split <;> omega
/-- a circle as a sequence of vertices and edges -/
def CS (n m : Nat) (a b : Nat → Nat) (L : Nat) (w g : Nat → Nat) : Prop := 2 ≤ L ∧ (∀ p, p < L → w p < n ∧ g p < m ∧ pg_joins a b (g p) (w p) (w (nxt L p))) ∧ (∀ p q, p < L → q < L → w p = w q → p = q) ∧ ∀ p q, p < L → q < L → g p = g q → p = q
section DSX
variable {n m : Nat} {a b : Nat → Nat}
theorem inc_t {e u v x : Nat} (h : pg_joins a b e u v) (huv : u ≠ v) : pg_inc a b x e = true ↔ x = u ∨ x = v := by
  rw [pg_inc_joins h huv]
  by_cases q1 : u = x <;> by_cases q2 : v = x
  · exact absurd (q1.trans q2.symm) huv
  · simp [q1, q2]
  · simp [q1, q2]
  · simp [q1, q2, Ne.symm q1, Ne.symm q2]
theorem CS_ne {L : Nat} {w g : Nat → Nat} (h : CS n m a b L w g) {p : Nat} (hp : p < L) : w p ≠ w (nxt L p) := fun z => nxt_ne hp h.1 (h.2.2.1 _ _ hp (nxt_lt hp) z).symm
/-- an edge of the circle meets a place of it behind or ahead -/
theorem CS_at {L : Nat} {w g : Nat → Nat} (h : CS n m a b L w g) {p q : Nat} (hp : p < L) (hq : q < L) : pg_inc a b (w p) (g q) = true ↔ q = p ∨ q = prv L p := by
  rw [inc_t (h.2.1 q hq).2.2 (CS_ne h hq)]
  constructor
  · rintro (z | z)
    · exact Or.inl (h.2.2.1 _ _ hp hq z).symm
    · exact Or.inr (by rw [h.2.2.1 _ _ hp (nxt_lt hq) z, prv_nxt hq])
  · rintro (z | z)
    · exact Or.inl (by rw [z])
    · exact Or.inr (by rw [z, nxt_prv hp])
theorem CS_cyc {L : Nat} {w g : Nat → Nat} (h : CS n m a b L w g) : pg_cyc n m a b (fun v => isIn w v L) (fun v => g (prv L (pos w v L))) (fun v => g (pos w v L)) (fun e => isIn g e L) := by
  obtain ⟨h0, h1, h2, h3⟩ := h
  have hc : CS n m a b L w g := ⟨h0, h1, h2, h3⟩
  refine ⟨fun v hv hp => ?_, fun v hv hp e he => ?_, fun u v _ _ pu pv huv => ?_, fun e he hC => ?_, fun e he => ?_⟩
  · obtain ⟨p, p1, p2⟩ := (isIn_iff w v L).mp hp
    subst p2
    have hpos := pos_at h2 p1 L p1 (Nat.le_refl L)
    simp only [hpos]
    have hpl := prv_lt p1
    refine ⟨⟨(h1 _ hpl).2.1, (h1 _ p1).2.1, fun z => prv_ne p1 h0 (h3 _ _ hpl p1 z), (CS_at hc p1 hpl).mpr (Or.inr rfl), (CS_at hc p1 p1).mpr (Or.inl rfl)⟩, fun e he => ?_⟩
    rw [Bool.eq_iff_iff, Bool.and_eq_true, Bool.or_eq_true, decide_eq_true_iff, decide_eq_true_iff, isIn_iff]
    constructor
    · rintro ⟨⟨q, q1, q2⟩, hi⟩
      subst q2
      rcases (CS_at hc p1 q1).mp hi with z | z
      · exact Or.inr (by rw [z])
      · exact Or.inl (by rw [z])
    · rintro (z | z)
      · rw [z]; exact ⟨⟨_, hpl, rfl⟩, (CS_at hc p1 hpl).mpr (Or.inr rfl)⟩
      · rw [z]; exact ⟨⟨_, p1, rfl⟩, (CS_at hc p1 p1).mpr (Or.inl rfl)⟩
  · cases hh : (isIn g e L && pg_inc a b v e) with
    | false => rfl
    | true =>
      rw [Bool.and_eq_true, isIn_iff] at hh
      obtain ⟨⟨q, q1, q2⟩, hi⟩ := hh
      subst q2
      have : isIn w v L = true := (isIn_iff w v L).mpr (by
        rcases (inc_t (h1 q q1).2.2 (CS_ne hc q1)).mp hi with z | z
        · exact ⟨q, q1, z.symm⟩
        · exact ⟨_, nxt_lt q1, z.symm⟩)
      have hp' : isIn w v L = false := hp
      rw [hp'] at this; cases this
  · obtain ⟨p, p1, p2⟩ := (isIn_iff w u L).mp pu
    obtain ⟨q, q1, q2⟩ := (isIn_iff w v L).mp pv
    subst p2 q2
    have huv' : g (pos w (w p) L) = g (pos w (w q) L) := huv
    rw [pos_at h2 p1 L p1 (Nat.le_refl L), pos_at h2 q1 L q1 (Nat.le_refl L)] at huv'
    rw [h3 p q p1 q1 huv']
  · obtain ⟨p, p1, p2⟩ := (isIn_iff g e L).mp hC
    refine ⟨w p, (h1 p p1).1, (isIn_iff w (w p) L).mpr ⟨p, p1, rfl⟩, ?_⟩
    show g (pos w (w p) L) = e
    rw [pos_at h2 p1 L p1 (Nat.le_refl L), p2]
  · cases hh : isIn g e L with
    | false => exact hh
    | true =>
      obtain ⟨p, p1, p2⟩ := (isIn_iff g e L).mp hh
      have := (h1 p p1).2.1
      omega
/-- drawn edges D, r faces: circles of drawn edges; no drawn edge lies inside a face; every even set of drawn edges is a sum of faces; an edge comes in to a vertex in one face only -/
def DS (n m : Nat) (a b : Nat → Nat) (o : Nat → Nat → Nat → Bool) (D : Nat → Bool) (r : Nat) (L : Nat → Nat) (w g : Nat → Nat → Nat) : Prop :=
  pg_tour n m a b o ∧ (∀ i, i < r → CS n m a b (L i) (w i) (g i) ∧ ∀ p, p < L i → D (g i p) = true) ∧
  (∀ i p d, i < r → p < L i → d < m → D d = true → pg_inc a b (w i p) d = true → d ≠ g i p → d ≠ g i (prv (L i) p) → pg_tau o (w i p) (g i (prv (L i) p)) (g i p) d = false) ∧
  (∀ Z, pg_even n m a b Z → (∀ e, Z e = true → D e = true) → ∃ c : Nat → Bool, ∀ e, Z e = xr r (fun i => c i && isIn (g i) e (L i))) ∧
  ∀ i j p q, i < r → j < r → i ≠ j → p < L i → q < L j → w i p = w j q → g i (prv (L i) p) ≠ g j (prv (L j) q)
theorem DS_face {o : Nat → Nat → Nat → Bool} {D : Nat → Bool} {r : Nat} {L : Nat → Nat} {w g : Nat → Nat → Nat} (h : DS n m a b o D r L w g) {i : Nat} (hi : i < r) {Y : Nat → Bool} (hY : pg_even n m a b Y) (hD : ∀ e, Y e = true → D e = true) : pg_I n m a b o (fun e => isIn (g i) e (L i)) Y = false := by
  obtain ⟨h1, h2, h3, _⟩ := h
  have hc := (h2 i hi).1
  refine pg_face h1 (CS_cyc hc) hY (fun v d hv hd hp hy hinc hC => ?_)
  obtain ⟨p, p1, p2⟩ := (isIn_iff (w i) v (L i)).mp hp
  subst p2
  rw [pos_at hc.2.2.1 p1 (L i) p1 (Nat.le_refl _)]
  have hC' : isIn (g i) d (L i) = false := hC
  have hno : ∀ q, q < L i → d ≠ g i q := fun q hq z => by
    rw [(isIn_iff (g i) d (L i)).mpr ⟨q, hq, z.symm⟩] at hC'; cases hC'
  exact h3 i p d hi p1 hd (hD d hy) hinc (hno p p1) (hno _ (prv_lt p1))
/-- all drawn: laid -/
theorem DS_PP {o : Nat → Nat → Nat → Bool} {D : Nat → Bool} {r : Nat} {L : Nat → Nat} {w g : Nat → Nat → Nat} (hab : ∀ e, e < m → a e < n ∧ b e < n ∧ a e ≠ b e) (h : DS n m a b o D r L w g) : pg_PP n m a b D := by
  refine ⟨o, h.1, fun Y Z hY hZ sY sZ => ?_⟩
  obtain ⟨c, hc⟩ := h.2.2.2.1 Z hZ sZ
  rw [show Z = fun e => xr r (fun i => c i && isIn (g i) e (L i)) from funext hc]
  refine I_linr c (fun i e => isIn (g i) e (L i)) r (fun i hi _ => ?_)
  rw [pg_symm hab h.1 (CS_cyc (h.2.1 i hi).1 |> pg_cyc_even)]
  exact DS_face h hi hY sY
end DSX
