/-! all blocks: safe, and what is drawn can be laid -/
section TG
variable {n k : Nat} {F S : Nat → Nat} {x y : Int32}
def DRok (s : DrS) : Prop := (∀ j, s.2.2.2.2.2.2.2.2.2.2.1 j ≤ 10) ∧ ∀ j, s.2.2.2.2.2.2.2.2.2.2.2.2.1 j < 18
theorem dJ_PP (hFS : ∀ e, e < k → F e < n ∧ S e < n ∧ F e ≠ S e) {s : DdS} (h : dJs n k F S y s) : pg_PP n k F S (fun e => bt s.2.1 e) := by
  obtain ⟨_, _, _, _, _, _, _, h8⟩ := h
  rcases h8 with ⟨_, e1, he1, hE, _⟩ | ⟨_, o, L, w, g, hDS, _⟩
  · refine ⟨fun _ a b => decide (a < b), fun v e f _ _ _ hef _ _ => ?_, fun Y Z hY hZ sY sZ => ?_⟩
    · show (decide (e < f) ^^ decide (f < e)) = true
      rcases Nat.lt_or_gt_of_ne hef with q | q
      · rw [decide_eq_true q, decide_eq_false (show ¬ f < e by omega)]; rfl
      · rw [decide_eq_false (show ¬ e < f by omega), decide_eq_true (show f < e from q)]; rfl
    · have hz : Y = fun _ => false := by
        funext e
        cases q : Y e with
        | false => rfl
        | true =>
          have he : e = e1 := (hE e).mp (sY e q)
          have hx := hY.2 (F e1) (hFS e1 he1).1
          rw [xr_one (k := e1) he1 (fun i _ hi => by
            cases w : Y i with
            | false => rfl
            | true => exact absurd ((hE i).mp (sY i w)) hi)] at hx
          rw [← he, q, inc_at.mpr (Or.inl rfl)] at hx
          cases hx
      rw [hz]
      exact I_zero
  · exact DS_PP (fun e he => hFS e he) hDS
theorem can_ok (hn : n ≤ 10) (hk : k ≤ 18) (hFS : ∀ e, e < k → F e < n ∧ S e < n ∧ F e ≠ S e) (hB : Bl n k F S y) (hy : ¬ y = 0) {J : DdS → Prop} (hJ : ∀ eA nb, laOK n k F S y eA nb → ∀ s, dJs n k F S y s → J s → dr_dD y s = false → dok (dr_dS n k F S eA nb y s) = true → J (dr_dS n k F S eA nb y s)) (hJ0 : ∀ fE fV cE cC pn WL WS cb pt ow M, J (dr_d0 F S y fE fV cE cC pn WL WS cb pt ow M)) {s : DrS} (hs : DRok s) :
    dr_canOK n k F S y s ∧ DRok (dr_can n k F S y s).2 ∧ ((dr_can n k F S y s).1 = true → jbN y < 9 ∨ pg_PP n k F S (fun e => bt y e)) ∧ ((dr_can n k F S y s).1 = false → ¬ jbN y < 9 ∧ ∃ eA nb s0, laOK n k F S y eA nb ∧ dJs n k F S y s0 ∧ J s0 ∧ dr_dD y s0 = false ∧ dFail k F S eA nb y s0) := by
  obtain ⟨_, l2, _⟩ := ps_least_ok hy
  have hlk := hB.1 _ l2
  have hla : laOK n k F S y (fo (dr_l2 F S y) k (fo dr_l1 n (s.2.2.2.2.2.2.2.2.1, s.2.2.2.2.2.2.2.2.2.1))).1 (fo (dr_l2 F S y) k (fo dr_l1 n (s.2.2.2.2.2.2.2.2.1, s.2.2.2.2.2.2.2.2.2.1))).2 := fun v hv => la_ok hn hk hFS _ _ k (Nat.le_refl k) v hv
  obtain ⟨w1, w2, w3⟩ := dw_ok (fE := s.2.2.2.1) (fV := s.2.2.2.2.1) (cE := s.2.2.2.2.2.1) (cC := s.2.2.2.2.2.2.1) (pn := s.2.2.2.2.2.2.2.1) (WL := s.2.2.2.2.2.2.2.2.2.2.1) (WS := s.2.2.2.2.2.2.2.2.2.2.2.1) (cb := s.2.2.2.2.2.2.2.2.2.2.2.2.1) (pt := s.2.2.2.2.2.2.2.2.2.2.2.2.2.1) (ow := s.2.2.2.2.2.2.2.2.2.2.2.2.2.2.1) (M := s.2.2.2.2.2.2.2.2.2.2.2.2.2.2.2) hn hk hFS hB hla hy (hJ _ _ hla) hs.2 hs.1 (hJ0 _ _ _ _ _ _ _ _ _ _ _)
  refine ⟨Or.inr ⟨by omega, w1⟩, ?_⟩
  unfold dr_can
  by_cases c : jbN y < 9
  · rw [if_pos c]
    exact ⟨hs, fun _ => Or.inl c, fun z => (by cases z)⟩
  · rw [if_neg c]
    unfold dr_canB
    generalize dr_dw n k F S (fo (dr_l2 F S y) k (fo dr_l1 n (s.2.2.2.2.2.2.2.2.1, s.2.2.2.2.2.2.2.2.2.1))).1 (fo (dr_l2 F S y) k (fo dr_l1 n (s.2.2.2.2.2.2.2.2.1, s.2.2.2.2.2.2.2.2.2.1))).2 y s.2.2.2.1 s.2.2.2.2.1 s.2.2.2.2.2.1 s.2.2.2.2.2.2.1 s.2.2.2.2.2.2.2.1 s.2.2.2.2.2.2.2.2.2.2.1 s.2.2.2.2.2.2.2.2.2.2.2.1 s.2.2.2.2.2.2.2.2.2.2.2.2.1 s.2.2.2.2.2.2.2.2.2.2.2.2.2.1 s.2.2.2.2.2.2.2.2.2.2.2.2.2.2.1 s.2.2.2.2.2.2.2.2.2.2.2.2.2.2.2 = R at w2 w3 ⊢
    obtain ⟨v1, v2, _, v4, v5⟩ := w2
    refine ⟨⟨v2, v1⟩, fun z => Or.inr ?_, fun z => ⟨c, ?_⟩⟩
    · have z' : (R.2.2.2.2.2.2.2.2.2.2.2.2.2.2.2 && decide (R.2.1 = y)) = true := z
      rw [Bool.and_eq_true] at z'
      have := dJ_PP hFS (v4 z'.1).1
      rw [w3 z'.1] at this
      exact this
    · have z' : (R.2.2.2.2.2.2.2.2.2.2.2.2.2.2.2 && decide (R.2.1 = y)) = false := z
      cases hok : dok R with
      | true =>
        have hok' : R.2.2.2.2.2.2.2.2.2.2.2.2.2.2.2 = true := hok
        rw [hok', decide_eq_true (w3 hok)] at z'
        cases z'
      | false =>
        obtain ⟨s0, a1, a2, a3, a4⟩ := v5 hok
        exact ⟨_, _, s0, hla, a1, a2, a3, a4⟩
/-- the block of a head -/
theorem head_Bl (hk : k ≤ 18) {C B Y : Nat → Int32} (h : pcI n k F S x k C B Y) {i : Nat} (hi : i < k) (hb : ps_has (fo (pp_hd B) k 0) (nI i) = true) : bt x i = true ∧ Bl n k F S (B i) ∧ ¬ B i = 0 := by
  rw [ps_has_bt _ (by omega)] at hb
  obtain ⟨j, j1, j2, j3⟩ := (hd_bt B k i (by omega)).mp hb
  obtain ⟨_, l2, _⟩ := ps_least_ok j2
  rw [j3] at l2
  have hxj : bt x j = true := by
    cases q : bt x j with
    | true => rfl
    | false =>
      obtain ⟨_, _, _, _, _, _, _, h8, _⟩ := h
      exact absurd (h8 j j1 q) j2
  have hxi := ((pc_blk h j1 hxj i).mp l2).2.1
  have hBl := Bl_of h hi hxi
  refine ⟨hxi, hBl, fun z => ?_⟩
  obtain ⟨_, _, _, _, _, _, _, _, h9, _⟩ := h
  have := (h9 i hi hxi).1
  rw [z, b_0] at this; cases this
theorem t1_DR (hn : n ≤ 10) (hk : k ≤ 18) (hFS : ∀ e, e < k → F e < n ∧ S e < n ∧ F e ≠ S e) {C B Y : Nat → Int32} (h : pcI n k F S x k C B Y) {s : DrS} (hs : DRok s) : ∀ m, m ≤ k → DRok (fo (dr_t1 n k F S B (fo (pp_hd B) k 0)) m (0, s)).2
  | 0, _ => hs
  | m + 1, hm => by
    have ih := t1_DR hn hk hFS h hs m (by omega)
    rw [fo_s]
    unfold dr_t1 at ih ⊢
    by_cases c : ps_has (fo (pp_hd B) k 0) (nI m) = true
    · rw [if_pos c]
      obtain ⟨_, b2, b3⟩ := head_Bl hk h (by omega) c
      exact (can_ok (J := fun _ => True) hn hk hFS b2 b3 (fun _ _ _ _ _ _ _ _ => trivial) (fun _ _ _ _ _ _ _ _ _ _ _ => trivial) ih).2.1
    · rw [if_neg c]; exact ih
/-- the drawing is safe on all blocks of a part -/
theorem tOK_ok (hn : n ≤ 10) (hk : k ≤ 18) (hFS : ∀ e, e < k → F e < n ∧ S e < n ∧ F e ≠ S e) {C B Y : Nat → Int32} (h : pcI n k F S x k C B Y) {s : DrS} (hs : DRok s) : dr_tOK n k F S B (fo (pp_hd B) k 0) s := fun i hi hb => by
  obtain ⟨_, b2, b3⟩ := head_Bl hk h hi hb
  exact (can_ok (J := fun _ => True) hn hk hFS b2 b3 (fun _ _ _ _ _ _ _ _ => trivial) (fun _ _ _ _ _ _ _ _ _ _ _ => trivial) (t1_DR hn hk hFS h hs i (by omega))).1
/-- the tangle: all blocks that the class does not draw -/
theorem tg_bt (hn : n ≤ 10) (hk : k ≤ 18) (hFS : ∀ e, e < k → F e < n ∧ S e < n ∧ F e ≠ S e) {C B Y : Nat → Int32} (h : pcI n k F S x k C B Y) {s : DrS} (hs : DRok s) {P : Int32 → Prop} (hP : ∀ y s, Bl n k F S y → ¬ y = 0 → DRok s → ((dr_can n k F S y s).1 = true ↔ P y)) : ∀ m, m ≤ k → ∀ e, bt (fo (dr_t1 n k F S B (fo (pp_hd B) k 0)) m (0, s)).1 e = true ↔ ∃ i, i < m ∧ ps_has (fo (pp_hd B) k 0) (nI i) = true ∧ ¬ P (B i) ∧ bt (B i) e = true
  | 0, _, e => ⟨fun z => (by rw [show (fo (dr_t1 n k F S B (fo (pp_hd B) k 0)) 0 (0, s)).1 = 0 from rfl, b_0] at z; cases z), fun ⟨i, z, _⟩ => absurd z (Nat.not_lt_zero i)⟩
  | m + 1, hm, e => by
    have ih := tg_bt hn hk hFS h hs hP m (by omega) e
    have hD := t1_DR hn hk hFS h hs m (by omega)
    rw [fo_s]
    generalize fo (dr_t1 n k F S B (fo (pp_hd B) k 0)) m (0, s) = c at ih hD ⊢
    have grow : ∀ Q : Prop, (bt c.1 e = true ∨ Q ↔ ∃ i, i < m + 1 ∧ ps_has (fo (pp_hd B) k 0) (nI i) = true ∧ ¬ P (B i) ∧ bt (B i) e = true) ↔ (bt c.1 e = true ∨ Q ↔ bt c.1 e = true ∨ (ps_has (fo (pp_hd B) k 0) (nI m) = true ∧ ¬ P (B m) ∧ bt (B m) e = true)) := fun Q => by
      have : (∃ i, i < m + 1 ∧ ps_has (fo (pp_hd B) k 0) (nI i) = true ∧ ¬ P (B i) ∧ bt (B i) e = true) ↔ bt c.1 e = true ∨ (ps_has (fo (pp_hd B) k 0) (nI m) = true ∧ ¬ P (B m) ∧ bt (B m) e = true) := by
        rw [ih]
        constructor
        · rintro ⟨i, i1, i2⟩
          by_cases z : i = m
          · rw [z] at i2; exact Or.inr i2
          · exact Or.inl ⟨i, by omega, i2⟩
        · rintro (⟨i, i1, i2⟩ | z)
          · exact ⟨i, by omega, i2⟩
          · exact ⟨m, by omega, z⟩
      rw [this]
    unfold dr_t1
    by_cases c1 : ps_has (fo (pp_hd B) k 0) (nI m) = true
    · rw [if_pos c1]
      obtain ⟨_, b2, b3⟩ := head_Bl hk h (by omega) c1
      have hp := hP (B m) c.2 b2 b3 hD
      by_cases c2 : (dr_can n k F S (B m) c.2).1 = true
      · dsimp only
        rw [if_pos c2]
        have := (grow False).mpr ⟨fun z => Or.inl (z.elim id (fun f => f.elim)), fun z => z.elim Or.inl (fun w => absurd (hp.mp c2) w.2.1)⟩
        rw [or_false] at this
        exact this
      · dsimp only
        rw [if_neg c2, b_or, Bool.or_eq_true]
        exact (grow _).mpr ⟨fun z => z.elim Or.inl (fun w => Or.inr ⟨c1, fun q => c2 (hp.mpr q), w⟩), fun z => z.elim Or.inl (fun w => Or.inr w.2.2)⟩
    · rw [if_neg c1]
      have := (grow False).mpr ⟨fun z => Or.inl (z.elim id (fun f => f.elim)), fun z => z.elim Or.inl (fun w => absurd w.1 c1)⟩
      rw [or_false] at this
      exact this
end TG
