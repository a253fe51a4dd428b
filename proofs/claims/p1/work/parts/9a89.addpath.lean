/-! a path laid through a face -/
def dst (L A B : Nat) : Nat := if A ≤ B then B - A else B + L - A
def wrp (L p : Nat) : Nat := if p < L then p else p - L
def arcW (L A d l : Nat) (w u : Nat → Nat) (p : Nat) : Nat := if p ≤ d then w (wrp L (A + p)) else u (l - (p - d))
def arcG (L A d l : Nat) (g h : Nat → Nat) (p : Nat) : Nat := if p < d then g (wrp L (A + p)) else h (l - 1 - (p - d))
theorem dst_b {L A B : Nat} (hA : A < L) (hB : B < L) (h : A ≠ B) : 1 ≤ dst L A B ∧ dst L A B < L ∧ wrp L (A + dst L A B) = B := by
  unfold dst wrp
  (repeat' split) <;> omega
theorem wrp_lt {L A p : Nat} (hA : A < L) (hp : p < L) : wrp L (A + p) < L := by unfold wrp; split <;> omega
theorem wrp_nxt {L A p : Nat} (hA : A < L) (hp : p + 1 < L) : nxt L (wrp L (A + p)) = wrp L (A + (p + 1)) := by
  unfold nxt wrp
  (repeat' split) <;> omega
theorem wrp_prv {L A p : Nat} (hA : A < L) (hp : p + 1 < L) : prv L (wrp L (A + (p + 1))) = wrp L (A + p) := by
  unfold prv wrp
  (repeat' split) <;> omega
theorem wrp_inj {L A p q : Nat} (hA : A < L) (hp : p < L) (hq : q < L) (h : wrp L (A + p) = wrp L (A + q)) : p = q := by
  unfold wrp at h
  split at h <;> split at h <;> omega
theorem wrp_0 {L A : Nat} (hA : A < L) : wrp L (A + 0) = A := by unfold wrp; split <;> omega
/-- a place lies on one of both arcs -/
theorem arc_part {L A B q : Nat} (hA : A < L) (hB : B < L) (h : A ≠ B) (hq : q < L) : ((∃ p, p < dst L A B ∧ wrp L (A + p) = q) ∧ ¬ ∃ p, p < dst L B A ∧ wrp L (B + p) = q) ∨ ((∃ p, p < dst L B A ∧ wrp L (B + p) = q) ∧ ¬ ∃ p, p < dst L A B ∧ wrp L (A + p) = q) := by
  have e1 : (∃ p, p < dst L A B ∧ wrp L (A + p) = q) ↔ (A < B ∧ A ≤ q ∧ q < B) ∨ (B < A ∧ (A ≤ q ∨ q < B)) := by
    unfold dst wrp
    constructor
    · rintro ⟨p, p1, p2⟩
      split at p1 <;> split at p2 <;> omega
    · rintro (⟨z1, z2, z3⟩ | ⟨z1, z2⟩)
      · exact ⟨q - A, by split <;> omega, by split <;> omega⟩
      · rcases z2 with z2 | z2
        · exact ⟨q - A, by split <;> omega, by split <;> omega⟩
        · exact ⟨q + L - A, by split <;> omega, by split <;> omega⟩
  have e2 : (∃ p, p < dst L B A ∧ wrp L (B + p) = q) ↔ (B < A ∧ B ≤ q ∧ q < A) ∨ (A < B ∧ (B ≤ q ∨ q < A)) := by
    unfold dst wrp
    constructor
    · rintro ⟨p, p1, p2⟩
      split at p1 <;> split at p2 <;> omega
    · rintro (⟨z1, z2, z3⟩ | ⟨z1, z2⟩)
      · exact ⟨q - B, by split <;> omega, by split <;> omega⟩
      · rcases z2 with z2 | z2
        · exact ⟨q - B, by split <;> omega, by split <;> omega⟩
        · exact ⟨q + L - B, by split <;> omega, by split <;> omega⟩
  rw [e1, e2]
  clear e1 e2
  omega
theorem joins_symm {a b : Nat → Nat} {e u v : Nat} (h : pg_joins a b e u v) : pg_joins a b e v u := h.elim Or.inr Or.inl
section AP
variable {n m : Nat} {a b : Nat → Nat} {D : Nat → Bool}
/-- a path outside of what is drawn, but for its ends -/
def PT (n m : Nat) (a b : Nat → Nat) (D : Nat → Bool) (l : Nat) (u h : Nat → Nat) : Prop := 1 ≤ l ∧ (∀ t, t < l → h t < m ∧ D (h t) = false ∧ pg_joins a b (h t) (u t) (u (t + 1))) ∧ (∀ t, 0 < t → t < l → u t < n ∧ ∀ e, e < m → D e = true → pg_inc a b (u t) e = false) ∧ ∀ s t, s ≤ l → t ≤ l → u s = u t → s = t
theorem PT_ne {l : Nat} {u h : Nat → Nat} (hp : PT n m a b D l u h) {t : Nat} (ht : t < l) : u t ≠ u (t + 1) := fun z => by
  have := hp.2.2.2 t (t + 1) (by omega) (by omega) z
  omega
theorem PT_at {l : Nat} {u h : Nat → Nat} (hp : PT n m a b D l u h) {s t : Nat} (hs : s < l) (ht : t ≤ l) : pg_inc a b (u t) (h s) = true ↔ t = s ∨ t = s + 1 := by
  rw [inc_t (hp.2.1 s hs).2.2 (PT_ne hp hs)]
  constructor
  · rintro (z | z)
    · exact Or.inl (hp.2.2.2 t s (by omega) (by omega) z)
    · exact Or.inr (hp.2.2.2 t (s + 1) (by omega) (by omega) z)
  · rintro (z | z)
    · exact Or.inl (by rw [z])
    · exact Or.inr (by rw [z])
theorem PT_inj {l : Nat} {u h : Nat → Nat} (hp : PT n m a b D l u h) {s t : Nat} (hs : s < l) (ht : t < l) (e : h s = h t) : s = t := by
  have h1 := (PT_at hp (t := s) ht (by omega)).mp (by rw [← e]; exact (PT_at hp hs (by omega)).mpr (Or.inl rfl))
  have h2 := (PT_at hp (t := t) hs (by omega)).mp (by rw [e]; exact (PT_at hp ht (by omega)).mpr (Or.inl rfl))
  omega
theorem PT_rev {l : Nat} {u h : Nat → Nat} (hp : PT n m a b D l u h) : PT n m a b D l (fun t => u (l - t)) (fun t => h (l - 1 - t)) := by
  obtain ⟨h1, h2, h3, h4⟩ := hp
  refine ⟨h1, fun t ht => ?_, fun t t1 t2 => h3 (l - t) (by omega) (by omega), fun s t hs ht z => ?_⟩
  · obtain ⟨q1, q2, q3⟩ := h2 (l - 1 - t) (by omega)
    refine ⟨q1, q2, ?_⟩
    have := joins_symm q3
    rw [show l - 1 - t + 1 = l - t from by omega] at this
    show pg_joins a b (h (l - 1 - t)) (u (l - t)) (u (l - (t + 1)))
    rw [show l - (t + 1) = l - 1 - t from by omega]
    exact this
  · have := h4 (l - s) (l - t) (by omega) (by omega) z
    omega
theorem CS_inner {L : Nat} {w g : Nat → Nat} (hc : CS n m a b L w g) (hD : ∀ p, p < L → D (g p) = true) {l : Nat} {u h : Nat → Nat} (hp : PT n m a b D l u h) {q t : Nat} (hq : q < L) (t1 : 0 < t) (t2 : t < l) : w q ≠ u t := fun z => by
  have := (hp.2.2.1 t t1 t2).2 (g q) (hc.2.1 q hq).2.1 (hD q hq)
  rw [← z, (CS_at hc hq hq).mpr (Or.inl rfl)] at this
  cases this
theorem CS_arc {L : Nat} {w g : Nat → Nat} (hc : CS n m a b L w g) (hD : ∀ p, p < L → D (g p) = true) {A B : Nat} (hA : A < L) (hB : B < L) (hAB : A ≠ B) {l : Nat} {u h : Nat → Nat} (hp : PT n m a b D l u h) (h0 : u 0 = w A) (h1 : u l = w B) : CS n m a b (dst L A B + l) (arcW L A (dst L A B) l w u) (arcG L A (dst L A B) l g h) := by
  obtain ⟨d1, d2, d3⟩ := dst_b hA hB hAB
  generalize dst L A B = d at d1 d2 d3 ⊢
  have hl := hp.1
  refine ⟨by omega, fun p hpl => ?_, fun p q hpl hql e => ?_, fun p q hpl hql e => ?_⟩
  · by_cases c : p < d
    · have hw := wrp_lt hA (show p < L by omega)
      obtain ⟨q1, q2, q3⟩ := hc.2.1 _ hw
      unfold arcW arcG
      rw [if_pos (by omega), if_pos c, show nxt (d + l) p = p + 1 from by unfold nxt; rw [if_pos (by omega)], if_pos (by omega), ← wrp_nxt hA (by omega)]
      exact ⟨q1, q2, q3⟩
    · obtain ⟨q1, q2, q3⟩ := hp.2.1 (l - 1 - (p - d)) (by omega)
      have hG : arcG L A d l g h p = h (l - 1 - (p - d)) := by unfold arcG; rw [if_neg c]
      have hW : arcW L A d l w u p = u (l - 1 - (p - d) + 1) := by
        unfold arcW
        by_cases c2 : p ≤ d
        · rw [if_pos c2, show p = d from by omega, d3, ← h1]
          congr 1; omega
        · rw [if_neg c2]; congr 1; omega
      have hN : arcW L A d l w u (nxt (d + l) p) = u (l - 1 - (p - d)) := by
        unfold nxt
        by_cases c2 : p + 1 < d + l
        · rw [if_pos c2]
          unfold arcW
          rw [if_neg (by omega)]
          congr 1; omega
        · rw [if_neg c2]
          unfold arcW
          rw [if_pos (Nat.zero_le d), wrp_0 hA, ← h0]
          congr 1; omega
      have hb : arcW L A d l w u p < n := by
        unfold arcW
        by_cases c2 : p ≤ d
        · rw [if_pos c2]; exact (hc.2.1 _ (wrp_lt hA (by omega))).1
        · rw [if_neg c2]; exact (hp.2.2.1 _ (by omega) (by omega)).1
      rw [hG, hN]
      refine ⟨hb, q1, ?_⟩
      rw [hW]
      exact joins_symm q3
  · unfold arcW at e
    by_cases c1 : p ≤ d <;> by_cases c2 : q ≤ d
    · rw [if_pos c1, if_pos c2] at e
      exact wrp_inj hA (by omega) (by omega) (hc.2.2.1 _ _ (wrp_lt hA (by omega)) (wrp_lt hA (by omega)) e)
    · rw [if_pos c1, if_neg c2] at e
      exact absurd e (CS_inner hc hD hp (wrp_lt hA (by omega)) (by omega) (by omega))
    · rw [if_neg c1, if_pos c2] at e
      exact absurd e.symm (CS_inner hc hD hp (wrp_lt hA (by omega)) (by omega) (by omega))
    · rw [if_neg c1, if_neg c2] at e
      have := hp.2.2.2 _ _ (by omega) (by omega) e
      omega
  · unfold arcG at e
    by_cases c1 : p < d <;> by_cases c2 : q < d
    · rw [if_pos c1, if_pos c2] at e
      exact wrp_inj hA (by omega) (by omega) (hc.2.2.2 _ _ (wrp_lt hA (by omega)) (wrp_lt hA (by omega)) e)
    · rw [if_pos c1, if_neg c2] at e
      have h1 := hD _ (wrp_lt hA (show p < L by omega))
      rw [e, (hp.2.1 _ (by omega)).2.1] at h1; cases h1
    · rw [if_neg c1, if_pos c2] at e
      have h1 := hD _ (wrp_lt hA (show q < L by omega))
      rw [← e, (hp.2.1 _ (by omega)).2.1] at h1; cases h1
    · rw [if_neg c1, if_neg c2] at e
      have := PT_inj hp (by omega) (by omega) e
      omega
theorem arc_mem {L : Nat} {g h : Nat → Nat} {A d l : Nat} (hl : 1 ≤ l) (e : Nat) : isIn (arcG L A d l g h) e (d + l) = true ↔ (∃ p, p < d ∧ g (wrp L (A + p)) = e) ∨ ∃ t, t < l ∧ h t = e := by
  rw [isIn_iff]
  constructor
  · rintro ⟨p, p1, p2⟩
    unfold arcG at p2
    by_cases c : p < d
    · rw [if_pos c] at p2; exact Or.inl ⟨p, c, p2⟩
    · rw [if_neg c] at p2; exact Or.inr ⟨_, by omega, p2⟩
  · rintro (⟨p, p1, p2⟩ | ⟨t, t1, t2⟩)
    · refine ⟨p, by omega, ?_⟩
      unfold arcG
      rw [if_pos p1]; exact p2
    · refine ⟨d + (l - 1 - t), by omega, ?_⟩
      unfold arcG
      rw [if_neg (by omega), ← t2]
      congr 1; omega
/-- the way in at each place of a new face -/
theorem arc_in {L : Nat} {w g : Nat → Nat} {A B : Nat} (hA : A < L) (hB : B < L) (hAB : A ≠ B) {l : Nat} {u h : Nat → Nat} (hl : 1 ≤ l) {p : Nat} (hp : p < dst L A B + l) :
    (p = 0 ∧ arcW L A (dst L A B) l w u p = w A ∧ arcG L A (dst L A B) l g h p = g A ∧ arcG L A (dst L A B) l g h (prv (dst L A B + l) p) = h 0) ∨
    (0 < p ∧ p < dst L A B ∧ wrp L (A + p) ≠ A ∧ wrp L (A + p) ≠ B ∧ arcW L A (dst L A B) l w u p = w (wrp L (A + p)) ∧ arcG L A (dst L A B) l g h p = g (wrp L (A + p)) ∧ arcG L A (dst L A B) l g h (prv (dst L A B + l) p) = g (prv L (wrp L (A + p)))) ∨
    (p = dst L A B ∧ arcW L A (dst L A B) l w u p = w B ∧ arcG L A (dst L A B) l g h p = h (l - 1) ∧ arcG L A (dst L A B) l g h (prv (dst L A B + l) p) = g (prv L B)) ∨
    ∃ t, 0 < t ∧ t < l ∧ arcW L A (dst L A B) l w u p = u t ∧ arcG L A (dst L A B) l g h p = h (t - 1) ∧ arcG L A (dst L A B) l g h (prv (dst L A B + l) p) = h t := by
  obtain ⟨d1, d2, d3⟩ := dst_b hA hB hAB
  generalize dst L A B = d at d1 d2 d3 hp ⊢
  by_cases c0 : p = 0
  · refine Or.inl ⟨c0, ?_, ?_, ?_⟩
    · unfold arcW; rw [c0, if_pos (Nat.zero_le d), wrp_0 hA]
    · unfold arcG; rw [c0, if_pos (by omega), wrp_0 hA]
    · unfold prv arcG; rw [if_pos c0, if_neg (by omega)]; congr 1; omega
  · by_cases c1 : p < d
    · refine Or.inr (Or.inl ⟨by omega, c1, fun z => ?_, fun z => ?_, ?_, ?_, ?_⟩)
      · have := wrp_inj hA (show p < L by omega) (show 0 < L by omega) (by rw [z, wrp_0 hA])
        omega
      · have := wrp_inj hA (show p < L by omega) (show d < L by omega) (by rw [z, d3])
        omega
      · unfold arcW; rw [if_pos (by omega)]
      · unfold arcG; rw [if_pos c1]
      · unfold prv
        rw [if_neg c0]
        unfold arcG
        rw [if_pos (by omega)]
        have := wrp_prv (L := L) (A := A) (p := p - 1) hA (by omega)
        rw [show p - 1 + 1 = p from by omega] at this
        rw [← this]
        rfl
    · by_cases c2 : p = d
      · refine Or.inr (Or.inr (Or.inl ⟨c2, ?_, ?_, ?_⟩))
        · unfold arcW; rw [if_pos (by omega), c2, d3]
        · unfold arcG; rw [if_neg c1]; congr 1; omega
        · have hpv : prv (d + l) p = d - 1 := by unfold prv; rw [if_neg c0]; omega
          rw [hpv]
          unfold arcG
          rw [if_pos (by omega)]
          have := wrp_prv (L := L) (A := A) (p := d - 1) hA (by omega)
          rw [show d - 1 + 1 = d from by omega, d3] at this
          rw [this]
      · refine Or.inr (Or.inr (Or.inr ⟨l - (p - d), by omega, by omega, ?_, ?_, ?_⟩))
        · unfold arcW; rw [if_neg (by omega)]
        · unfold arcG; rw [if_neg c1]; congr 1; omega
        · have hpv : prv (d + l) p = p - 1 := by unfold prv; rw [if_neg c0]
          rw [hpv]
          unfold arcG
          rw [if_neg (by omega)]
          congr 1; omega
/-- a new edge laid at v0 next to i0 -/
def ins (o : Nat → Nat → Nat → Bool) (v0 e0 i0 : Nat) : Nat → Nat → Nat → Bool := fun v x y => if v = v0 then (if x = e0 then (if y = i0 then false else o v i0 y) else if y = e0 then (if x = i0 then true else !(o v i0 x)) else o v x y) else o v x y
theorem ins_off {o : Nat → Nat → Nat → Bool} {v0 e0 i0 v : Nat} (h : v ≠ v0) (x y : Nat) : ins o v0 e0 i0 v x y = o v x y := by unfold ins; rw [if_neg h]
theorem ins_old {o : Nat → Nat → Nat → Bool} {v0 e0 i0 : Nat} (v : Nat) {x y : Nat} (hx : x ≠ e0) (hy : y ≠ e0) : ins o v0 e0 i0 v x y = o v x y := by
  unfold ins
  by_cases h : v = v0
  · rw [if_pos h, if_neg hx, if_neg hy]
  · rw [if_neg h]
theorem ins_l {o : Nat → Nat → Nat → Bool} {v0 e0 i0 y : Nat} (hy : y ≠ i0) : ins o v0 e0 i0 v0 e0 y = o v0 i0 y := by unfold ins; rw [if_pos rfl, if_pos rfl, if_neg hy]
theorem ins_r {o : Nat → Nat → Nat → Bool} {v0 e0 i0 x : Nat} (hx : x ≠ i0) (hxe : x ≠ e0) : ins o v0 e0 i0 v0 x e0 = !(o v0 i0 x) := by unfold ins; rw [if_pos rfl, if_neg hxe, if_pos rfl, if_neg hx]
theorem ins_i {o : Nat → Nat → Nat → Bool} {v0 e0 i0 : Nat} (h : i0 ≠ e0) : ins o v0 e0 i0 v0 i0 e0 = true := by unfold ins; rw [if_pos rfl, if_neg h, if_pos rfl, if_pos rfl]
theorem ins_e {o : Nat → Nat → Nat → Bool} {v0 e0 i0 : Nat} : ins o v0 e0 i0 v0 e0 i0 = false := by unfold ins; rw [if_pos rfl, if_pos rfl, if_pos rfl]
theorem ins_tour {o : Nat → Nat → Nat → Bool} {v0 e0 i0 : Nat} (h : pg_tour n m a b o) (he : i0 ≠ e0) : pg_tour n m a b (ins o v0 e0 i0) := by
  intro v x y hv hx hy hxy ix iy
  by_cases c : v = v0
  · subst c
    by_cases c1 : x = e0
    · subst c1
      by_cases c2 : y = i0
      · subst c2; rw [ins_e, ins_i he]; rfl
      · rw [ins_l c2, ins_r c2 (fun z => hxy z.symm)]
        cases o v i0 y <;> rfl
    · by_cases c2 : y = e0
      · subst c2
        by_cases c3 : x = i0
        · subst c3; rw [ins_e, ins_i he]; rfl
        · rw [ins_l c3, ins_r c3 hxy]
          cases o v i0 x <;> rfl
      · rw [ins_old v c1 c2, ins_old v c2 c1]
        exact h v x y hv hx hy hxy ix iy
  · rw [ins_off c, ins_off c]
    exact h v x y hv hx hy hxy ix iy
/-- the three corners at a vertex where a new edge comes in -/
theorem tau_out {o : Nat → Nat → Nat → Bool} {v e0 i0 x d : Nat} (hv : v < n) (ht : pg_tour n m a b o) (hi : i0 < m) (hx : x < m) (hd : d < m) (ii : pg_inc a b v i0 = true) (ix : pg_inc a b v x = true) (id' : pg_inc a b v d = true) (he : i0 ≠ e0) (hxe : x ≠ e0) (hde : d ≠ e0) (hix : i0 ≠ x) (hdx : d ≠ x) (hs : d ≠ i0 → pg_tau o v i0 x d = false) : pg_tau (ins o v e0 i0) v e0 x d = false := by
  unfold pg_tau
  rw [ins_l (fun z => hix z.symm), ins_old v hxe hde]
  by_cases c : d = i0
  · subst c
    rw [ins_i he]
    have := ht v d x hv hd hx hix id' ix
    revert this
    cases o v d x <;> cases o v x d <;> decide
  · rw [ins_r c hde]
    have h1 := hs c
    unfold pg_tau at h1
    have := ht v i0 d hv hi hd (fun z => c z.symm) ii id'
    revert this h1
    cases o v i0 x <;> cases o v x d <;> cases o v d i0 <;> cases o v i0 d <;> decide
theorem tau_in {o : Nat → Nat → Nat → Bool} {v e0 i0 d : Nat} (hv : v < n) (ht : pg_tour n m a b o) (hi : i0 < m) (hd : d < m) (ii : pg_inc a b v i0 = true) (id' : pg_inc a b v d = true) (he : i0 ≠ e0) (hde : d ≠ e0) (hdi : d ≠ i0) : pg_tau (ins o v e0 i0) v i0 e0 d = false := by
  unfold pg_tau
  rw [ins_i he, ins_l hdi, ins_old v hde he]
  have := ht v i0 d hv hi hd (fun z => hdi z.symm) ii id'
  revert this
  cases o v i0 d <;> cases o v d i0 <;> decide
theorem tau_new {o : Nat → Nat → Nat → Bool} {v e0 i0 y x : Nat} (hv : v < n) (ht : pg_tour n m a b o) (hi : i0 < m) (hx : x < m) (hy : y < m) (ii : pg_inc a b v i0 = true) (ix : pg_inc a b v x = true) (iy : pg_inc a b v y = true) (he : i0 ≠ e0) (hye : y ≠ e0) (hxe : x ≠ e0) (hyi : y ≠ i0) (hyx : y ≠ x) (hs : x ≠ i0 → pg_tau o v y x i0 = false) : pg_tau (ins o v e0 i0) v y x e0 = false := by
  unfold pg_tau
  rw [ins_old v hye hxe, ins_l hyi]
  by_cases c : x = i0
  · subst c
    rw [ins_i he]
    have := ht v y x hv hy hx hyx iy ix
    revert this
    cases o v y x <;> cases o v x y <;> decide
  · rw [ins_r c hxe]
    have h1 := hs c
    unfold pg_tau at h1
    have := ht v i0 x hv hi hx (fun z => c z.symm) ii ix
    revert this h1
    cases o v y x <;> cases o v x i0 <;> cases o v i0 x <;> cases o v i0 y <;> decide
theorem xr_change {r j : Nat} {f g : Nat → Bool} (hj : j < r) (h : ∀ i, i < r → i ≠ j → f i = g i) : xr r f = (xr r g ^^ (f j ^^ g j)) := by
  have e : xr r (fun i => f i ^^ g i) = (f j ^^ g j) := xr_one hj (fun i hi hij => by rw [h i hi hij, Bool.xor_self])
  rw [xr_xor] at e
  revert e
  generalize xr r f = p
  generalize xr r g = q
  generalize (f j ^^ g j) = s
  cases p <;> cases q <;> cases s <;> decide
end AP
