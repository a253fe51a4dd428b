/-! the first drawing: one circle, two faces -/
section ST
variable {n m : Nat} {a b : Nat → Nat}
/-- an even set of edges of a circle is nothing or all -/
theorem circ_all {L : Nat} {w g : Nat → Nat} (hc : CS n m a b L w g) {Z : Nat → Bool} (hZ : pg_even n m a b Z) (hs : ∀ e, Z e = true → isIn g e L = true) : ∀ p, p < L → Z (g p) = Z (g 0)
  | 0, _ => rfl
  | p + 1, hp => by
    rw [← circ_all hc hZ hs p (by omega)]
    have hpr : prv L (p + 1) = p := by unfold prv; rw [if_neg (by omega)]; rfl
    have hx := hZ.2 (w (p + 1)) (hc.2.1 _ hp).1
    rw [xr_two (hc.2.1 p (by omega)).2.1 (hc.2.1 (p + 1) hp).2.1 (fun z => by have := hc.2.2.2 p (p + 1) (by omega) hp z; omega) (fun i hi n1 n2 => ?_)] at hx
    · rw [(CS_at hc hp (show p < L by omega)).mpr (Or.inr hpr.symm), (CS_at hc hp hp).mpr (Or.inl rfl), Bool.and_true, Bool.and_true] at hx
      revert hx
      cases Z (g p) <;> cases Z (g (p + 1)) <;> decide
    · cases hz : Z i with
      | false => rfl
      | true =>
        rw [Bool.true_and]
        obtain ⟨q, q1, q2⟩ := (isIn_iff g i L).mp (hs i hz)
        subst q2
        cases y : pg_inc a b (w (p + 1)) (g q) with
        | false => rfl
        | true =>
          rcases (CS_at hc hp q1).mp y with z | z
          · exact absurd (by rw [z]) n2
          · exact absurd (by rw [z, hpr]) n1
theorem DS_two {L : Nat → Nat} {w g : Nat → Nat → Nat} (h0 : CS n m a b (L 0) (w 0) (g 0)) (h1 : CS n m a b (L 1) (w 1) (g 1)) (he : ∀ e, isIn (g 1) e (L 1) = isIn (g 0) e (L 0)) (hu : ∀ p q, p < L 0 → q < L 1 → w 0 p = w 1 q → g 0 (prv (L 0) p) ≠ g 1 (prv (L 1) q)) : DS n m a b (fun _ x y => decide (x < y)) (fun e => isIn (g 0) e (L 0)) 2 L w g := by
  have two : ∀ i, i < 2 → i = 0 ∨ i = 1 := fun i hi => by omega
  refine ⟨fun v e f _ _ _ hef _ _ => ?_, fun i hi => ?_, fun i p d hi hp hd hD hin n1 n2 => ?_, fun Z hZ hs => ?_, fun i j p q hi hj hij hp hq e => ?_⟩
  · show (decide (e < f) ^^ decide (f < e)) = true
    rcases Nat.lt_or_gt_of_ne hef with q | q
    · rw [decide_eq_true q, decide_eq_false (show ¬ f < e by omega)]; rfl
    · rw [decide_eq_false (show ¬ e < f by omega), decide_eq_true (show f < e from q)]; rfl
  · rcases two i hi with q | q
    · subst q; exact ⟨h0, fun p hp => (isIn_iff _ _ _).mpr ⟨p, hp, rfl⟩⟩
    · subst q; exact ⟨h1, fun p hp => by show isIn (g 0) (g 1 p) (L 0) = true; rw [← he]; exact (isIn_iff _ _ _).mpr ⟨p, hp, rfl⟩⟩
  · exfalso
    have hD' : isIn (g 0) d (L 0) = true := hD
    have key : ∀ w g (L : Nat), CS n m a b L w g → isIn g d L = true → p < L → pg_inc a b (w p) d = true → d ≠ g p → d ≠ g (prv L p) → False := fun w g L hc hd' hp hin n1 n2 => by
      obtain ⟨q, q1, q2⟩ := (isIn_iff g d L).mp hd'
      subst q2
      rcases (CS_at hc hp q1).mp hin with z | z
      · exact n1 (by rw [z])
      · exact n2 (by rw [z])
    rcases two i hi with q | q
    · subst q; exact key _ _ _ h0 hD' hp hin n1 n2
    · subst q; exact key _ _ _ h1 (by rw [he]; exact hD') hp hin n1 n2
  · refine ⟨fun i => decide (i = 0) && Z (g 0 0), fun e => ?_⟩
    show Z e = ((false ^^ ((decide (0 = 0) && Z (g 0 0)) && isIn (g 0) e (L 0))) ^^ ((decide (1 = 0) && Z (g 0 0)) && isIn (g 1) e (L 1)))
    have hall := circ_all h0 hZ hs
    cases hi : isIn (g 0) e (L 0) with
    | true =>
      obtain ⟨p, p1, p2⟩ := (isIn_iff _ _ _).mp hi
      rw [← p2, hall p p1]
      cases Z (g 0 0) <;> rfl
    | false =>
      cases hz : Z e with
      | true =>
        have : isIn (g 0) e (L 0) = true := hs e hz
        rw [hi] at this; cases this
      | false => cases Z (g 0 0) <;> rfl
  · rcases two i hi with z | z <;> rcases two j hj with y | y <;> subst z y
    · exact absurd rfl hij
    · exact hu p q hp hq e
    · exact fun x => hu q p hq hp e.symm x.symm
    · exact absurd rfl hij
/-- a circle out of an edge and a path between its ends -/
theorem CS_first {D : Nat → Bool} {w : Nat → Nat} {e0 A B : Nat} (he : e0 < m) (hD : D e0 = true) (hA : A < 2) (hB : B < 2) (hAB : A ≠ B) (hj : pg_joins a b e0 (w A) (w B)) (hw : w A ≠ w B) (hwn : w A < n ∧ w B < n) {l : Nat} {u h : Nat → Nat} (hp : PT n m a b D l u h) (h0 : u 0 = w A) (h1 : u l = w B) : CS n m a b (dst 2 A B + l) (arcW 2 A (dst 2 A B) l w u) (arcG 2 A (dst 2 A B) l (fun _ => e0) h) := by
  have hd : dst 2 A B = 1 := by unfold dst; split <;> omega
  have hwr : wrp 2 (A + 1) = B := by unfold wrp; split <;> omega
  rw [hd]
  have hl := hp.1
  have W0 : arcW 2 A 1 l w u 0 = u 0 := by unfold arcW; rw [if_pos (by omega), wrp_0 hA, h0]
  have Wp : ∀ p, 1 ≤ p → p < 1 + l → arcW 2 A 1 l w u p = u (l - (p - 1)) := fun p p1 p2 => by
    unfold arcW
    by_cases c : p ≤ 1
    · rw [if_pos c, show p = 1 from by omega, hwr, ← h1]; rfl
    · rw [if_neg c]
  have G0 : arcG 2 A 1 l (fun _ => e0) h 0 = e0 := by unfold arcG; rw [if_pos (by omega)]
  have Gp : ∀ p, 1 ≤ p → arcG 2 A 1 l (fun _ => e0) h p = h (l - 1 - (p - 1)) := fun p p1 => by unfold arcG; rw [if_neg (by omega)]
  have un : ∀ t, t ≤ l → u t < n := fun t ht => by
    by_cases c0 : t = 0
    · rw [c0, h0]; exact hwn.1
    · by_cases c1 : t = l
      · rw [c1, h1]; exact hwn.2
      · exact (hp.2.2.1 t (by omega) (by omega)).1
  -- the places as indices of the path
  have idx : ∀ p, p < 1 + l → ∃ t, t ≤ l ∧ arcW 2 A 1 l w u p = u t ∧ ((p = 0 ∧ t = 0) ∨ (1 ≤ p ∧ t = l - (p - 1))) := fun p hp' => by
    by_cases c : p = 0
    · exact ⟨0, by omega, by rw [c]; exact W0, Or.inl ⟨c, rfl⟩⟩
    · exact ⟨l - (p - 1), by omega, Wp p (by omega) hp', Or.inr ⟨by omega, rfl⟩⟩
  refine ⟨by omega, fun p hp' => ?_, fun p q hp' hq' e => ?_, fun p q hp' hq' e => ?_⟩
  · by_cases c : p = 0
    · subst c
      rw [W0, G0, show nxt (1 + l) 0 = 1 from by unfold nxt; rw [if_pos (by omega)], Wp 1 (by omega) (by omega)]
      refine ⟨un 0 (by omega), he, ?_⟩
      rw [show l - (1 - 1) = l from by omega, h0, h1]
      exact hj
    · obtain ⟨q1, q2, q3⟩ := hp.2.1 (l - 1 - (p - 1)) (by omega)
      rw [Wp p (by omega) hp', Gp p (by omega)]
      refine ⟨un _ (by omega), q1, ?_⟩
      have hN : arcW 2 A 1 l w u (nxt (1 + l) p) = u (l - 1 - (p - 1)) := by
        unfold nxt
        by_cases c2 : p + 1 < 1 + l
        · rw [if_pos c2, Wp (p + 1) (by omega) c2]; congr 1; omega
        · rw [if_neg c2, W0]; congr 1; omega
      rw [hN, show l - (p - 1) = l - 1 - (p - 1) + 1 from by omega]
      exact joins_symm q3
  · obtain ⟨t, t1, t2, t3⟩ := idx p hp'
    obtain ⟨s, s1, s2, s3⟩ := idx q hq'
    rw [t2, s2] at e
    have := hp.2.2.2 t s t1 s1 e
    omega
  · have nh : ∀ t, t < l → e0 ≠ h t := fun t ht z => by rw [z, (hp.2.1 t ht).2.1] at hD; cases hD
    by_cases c1 : p = 0 <;> by_cases c2 : q = 0
    · omega
    · rw [c1, G0, Gp q (by omega)] at e
      exact absurd e (nh _ (by omega))
    · rw [c2, G0, Gp p (by omega)] at e
      exact absurd e.symm (nh _ (by omega))
    · rw [Gp p (by omega), Gp q (by omega)] at e
      have := PT_inj hp (by omega) (by omega) e
      omega
theorem DS_start {w : Nat → Nat} {e0 A B : Nat} (he : e0 < m) (hA : A < 2) (hB : B < 2) (hAB : A ≠ B) (hj : pg_joins a b e0 (w A) (w B)) (hw : w A ≠ w B) (hwn : w A < n ∧ w B < n) {l : Nat} {u h : Nat → Nat} (hp : PT n m a b (fun e => decide (e = e0)) l u h) (h0 : u 0 = w A) (h1 : u l = w B) :
    ∃ o, DS n m a b o (fun e => decide (e = e0) || isIn h e l) 2 (adL (fun _ => 2) 1 0 A B l) (adW (fun _ => 2) (fun _ => w) 1 0 A B l u) (adG (fun _ => 2) (fun _ _ => e0) 1 0 A B l h) := by
  have hD : (fun e => decide (e = e0)) e0 = true := decide_eq_true rfl
  have hpr := PT_rev hp
  have hd : dst 2 A B = 1 := by unfold dst; split <;> omega
  have hd' : dst 2 B A = 1 := by unfold dst; split <;> omega
  have c0 := CS_first he hD hA hB hAB hj hw hwn hp h0 h1
  have c1 := CS_first (u := fun t => u (l - t)) (h := fun t => h (l - 1 - t)) he hD hB hA (fun z => hAB z.symm) (joins_symm hj) (fun z => hw z.symm) ⟨hwn.2, hwn.1⟩ hpr (by show u (l - 0) = _; rw [Nat.sub_zero]; exact h1) (by show u (l - l) = _; rw [Nat.sub_self]; exact h0)
  have m0 := arc_mem (L := 2) (g := fun _ => e0) (h := h) (A := A) (d := dst 2 A B) hp.1
  have m1 := arc_mem (L := 2) (g := fun _ => e0) (h := fun t => h (l - 1 - t)) (A := B) (d := dst 2 B A) hp.1
  have hl := hp.1
  have he' : ∀ e, isIn (arcG 2 B (dst 2 B A) l (fun _ => e0) (fun t => h (l - 1 - t))) e (dst 2 B A + l) = isIn (arcG 2 A (dst 2 A B) l (fun _ => e0) h) e (dst 2 A B + l) := fun e => by
    rw [Bool.eq_iff_iff, m0 e, m1 e, hd, hd']
    constructor
    · rintro (z | ⟨t, t1, t2⟩)
      · exact Or.inl z
      · exact Or.inr ⟨l - 1 - t, by omega, t2⟩
    · rintro (z | ⟨t, t1, t2⟩)
      · exact Or.inl z
      · exact Or.inr ⟨l - 1 - t, by omega, by show h (l - 1 - (l - 1 - t)) = e; rw [show l - 1 - (l - 1 - t) = t from by omega]; exact t2⟩
  have hS : (fun e => decide (e = e0) || isIn h e l) = fun e => isIn (arcG 2 A (dst 2 A B) l (fun _ => e0) h) e (dst 2 A B + l) := by
    funext e
    rw [Bool.eq_iff_iff, m0 e, Bool.or_eq_true, decide_eq_true_iff, isIn_iff, hd]
    constructor
    · rintro (z | z)
      · exact Or.inl ⟨0, by omega, z.symm⟩
      · exact Or.inr z
    · rintro (⟨_, _, z⟩ | z)
      · exact Or.inl z.symm
      · exact Or.inr z
  rw [hS]
  refine ⟨_, DS_two (L := adL (fun _ => 2) 1 0 A B l) (w := adW (fun _ => 2) (fun _ => w) 1 0 A B l u) (g := adG (fun _ => 2) (fun _ _ => e0) 1 0 A B l h) c0 c1 he' (fun p q hp' hq' e => ?_)⟩
  have hp2 : p < dst 2 A B + l := hp'
  have hq2 : q < dst 2 B A + l := hq'
  have e2 : arcW 2 A (dst 2 A B) l w u p = arcW 2 B (dst 2 B A) l w (fun t => u (l - t)) q := e
  show arcG 2 A (dst 2 A B) l (fun _ => e0) h (prv (dst 2 A B + l) p) ≠ arcG 2 B (dst 2 B A) l (fun _ => e0) (fun t => h (l - 1 - t)) (prv (dst 2 B A + l) q)
  have nh : ∀ t, t < l → e0 ≠ h t := fun t ht z => by
    have := (hp.2.1 t ht).2.1
    rw [← z] at this
    have h3 : decide (e0 = e0) = false := this
    rw [decide_eq_true rfl] at h3; cases h3
  have inn : ∀ t, 0 < t → t < l → u t ≠ w A ∧ u t ≠ w B := fun t t1 t2 => by
    refine ⟨fun z => ?_, fun z => ?_⟩
    · have := hp.2.2.2 t 0 (by omega) (by omega) (by rw [z, h0]); omega
    · have := hp.2.2.2 t l (by omega) (by omega) (by rw [z, h1]); omega
  rcases arc_in (w := w) (g := fun _ => e0) (u := u) (h := h) hA hB hAB hl hp2 with ⟨_, a1, _, a3⟩ | ⟨x0, x1, _⟩ | ⟨_, a1, _, a3⟩ | ⟨t, t1, t2, a1, _, a3⟩
  · rcases arc_in (w := w) (g := fun _ => e0) (u := fun t => u (l - t)) (h := fun t => h (l - 1 - t)) hB hA (fun z => hAB z.symm) hl hq2 with ⟨_, b1, _, b3⟩ | ⟨x0, x1, _⟩ | ⟨_, b1, _, b3⟩ | ⟨t, t1, t2, b1, _, b3⟩
    · rw [a1, b1] at e2; exact absurd e2 hw
    · omega
    · rw [a3, b3]; exact fun z => nh 0 (by omega) z.symm
    · rw [a1, b1] at e2; exact absurd e2.symm (inn (l - t) (by omega) (by omega)).1
  · omega
  · rcases arc_in (w := w) (g := fun _ => e0) (u := fun t => u (l - t)) (h := fun t => h (l - 1 - t)) hB hA (fun z => hAB z.symm) hl hq2 with ⟨_, b1, _, b3⟩ | ⟨x0, x1, _⟩ | ⟨_, b1, _, b3⟩ | ⟨t, t1, t2, b1, _, b3⟩
    · rw [a3, b3]; exact nh _ (by omega)
    · omega
    · rw [a1, b1] at e2; exact absurd e2.symm hw
    · rw [a1, b1] at e2; exact absurd e2.symm (inn (l - t) (by omega) (by omega)).2
  · rcases arc_in (w := w) (g := fun _ => e0) (u := fun t => u (l - t)) (h := fun t => h (l - 1 - t)) hB hA (fun z => hAB z.symm) hl hq2 with ⟨_, b1, _, b3⟩ | ⟨x0, x1, _⟩ | ⟨_, b1, _, b3⟩ | ⟨s, s1, s2, b1, _, b3⟩
    · rw [a1, b1] at e2; exact absurd e2 (inn t t1 t2).2
    · omega
    · rw [a1, b1] at e2; exact absurd e2 (inn t t1 t2).1
    · rw [a1, b1] at e2
      have y1 := hp.2.2.2 t (l - s) (by omega) (by omega) e2
      rw [a3, b3]
      intro z
      have y2 := PT_inj hp t2 (show l - 1 - s < l by omega) z
      omega
end ST
