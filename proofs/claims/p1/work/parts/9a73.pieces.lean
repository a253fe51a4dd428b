/-! the class's pieces: components and blocks of a part, without walks: by even sets and separators -/
def dgp (k : Nat) (F S : Nat → Nat) (Z : Nat → Bool) (w : Nat) : Bool := xr k (fun e => Z e && pg_inc F S w e)
theorem dgp_add (k : Nat) (F S : Nat → Nat) (Y Z : Nat → Bool) (w : Nat) : dgp k F S (fun e => Y e ^^ Z e) w = (dgp k F S Y w ^^ dgp k F S Z w) := by
  unfold dgp
  rw [← xr_xor]
  refine xr_congr (fun e _ => ?_)
  show ((Y e ^^ Z e) && pg_inc F S w e) = ((Y e && pg_inc F S w e) ^^ (Z e && pg_inc F S w e))
  generalize Y e = y; generalize Z e = z; generalize pg_inc F S w e = c
  cases y <;> cases z <;> cases c <;> rfl
theorem dgp_one {k : Nat} {F S : Nat → Nat} {i : Nat} (w : Nat) (hi : i < k) : dgp k F S (fun e => decide (e = i)) w = pg_inc F S w i := by
  unfold dgp
  rw [xr_one hi (fun j _ h => by simp [h])]
  simp
theorem dgp_congr {k : Nat} {F S : Nat → Nat} {Y Z : Nat → Bool} {w : Nat} (h : ∀ e, e < k → Y e = Z e) : dgp k F S Y w = dgp k F S Z w := xr_congr (fun e he => by rw [h e he])
theorem inc_xor {F S : Nat → Nat} {i : Nat} (w : Nat) (h : F i ≠ S i) : pg_inc F S w i = (decide (F i = w) ^^ decide (S i = w)) := by
  unfold pg_inc
  by_cases h1 : F i = w <;> by_cases h2 : S i = w
  · exact absurd (h1.trans h2.symm) h
  · simp [h1, h2]
  · simp [h1, h2]
  · simp [h1, h2]
/-- the sum of the degrees inside W counts the edges that leave W -/
theorem shake {n k : Nat} {F S : Nat → Nat} (hFS : ∀ e, e < k → F e < n ∧ S e < n) (hne : ∀ e, e < k → F e ≠ S e) (W Z : Nat → Bool) : xr n (fun w => W w && dgp k F S Z w) = xr k (fun e => Z e && (W (F e) ^^ W (S e))) := by
  have e1 : xr n (fun w => W w && dgp k F S Z w) = xr n (fun w => xr k (fun e => W w && (Z e && pg_inc F S w e))) := xr_congr (fun w _ => (xr_and k (W w) (fun e => Z e && pg_inc F S w e)).symm)
  rw [e1, xr_swap]
  refine xr_congr (fun e he => ?_)
  obtain ⟨h1, h2⟩ := hFS e he
  have h3 := hne e he
  rw [xr_two h1 h2 h3 (fun w _ q1 q2 => by rw [inc_xor w h3]; simp [Ne.symm q1, Ne.symm q2])]
  rw [inc_xor _ h3, inc_xor _ h3]
  simp [h3, Ne.symm h3]
  generalize W (F e) = p; generalize W (S e) = q; generalize Z e = z
  cases p <;> cases q <;> cases z <;> rfl
theorem shake0 {n k : Nat} {F S : Nat → Nat} (hFS : ∀ e, e < k → F e < n ∧ S e < n) (hne : ∀ e, e < k → F e ≠ S e) (W : Nat → Bool) {Z : Nat → Bool} (hZ : pg_even n k F S Z) : xr k (fun e => Z e && (W (F e) ^^ W (S e))) = false := by
  rw [← shake hFS hne W Z]
  refine xr_zero (fun w hw => ?_)
  rw [show dgp k F S Z w = false from hZ.2 w hw, Bool.and_false]
theorem even_of {n k : Nat} {F S : Nat → Nat} {Z : Nat → Bool} (h1 : ∀ e, k ≤ e → Z e = false) (h2 : ∀ w, w < n → dgp k F S Z w = false) : pg_even n k F S Z := ⟨h1, h2⟩
theorem even_congr {n k : Nat} {F S : Nat → Nat} {Y Z : Nat → Bool} (h : ∀ e, Y e = Z e) (hY : pg_even n k F S Y) : pg_even n k F S Z := by
  have : Y = Z := funext h
  rw [← this]; exact hY
theorem even_zero {n k : Nat} {F S : Nat → Nat} {Z : Nat → Bool} (h : ∀ e, Z e = false) : pg_even n k F S Z := ⟨fun e _ => h e, fun w _ => xr_zero (fun e _ => by rw [h e]; rfl)⟩
/-- K takes an even part out of every even set in X -/
def Sep (n k : Nat) (F S : Nat → Nat) (X K : Nat → Bool) : Prop := ∀ Z, pg_even n k F S Z → (∀ e, Z e = true → X e = true) → pg_even n k F S (fun e => Z e && K e)
theorem Sep_sub {n k : Nat} {F S : Nat → Nat} {X X' K : Nat → Bool} (h : Sep n k F S X K) (hs : ∀ e, X' e = true → X e = true) : Sep n k F S X' K := fun Z hZ hX => h Z hZ (fun e he => hs e (hX e he))
theorem Sep_or {n k : Nat} {F S : Nat → Nat} {X K L : Nat → Bool} (hK : Sep n k F S X K) (hL : Sep n k F S X L) : Sep n k F S X (fun e => K e || L e) := by
  intro Z hZ hX
  have h1 := hK Z hZ hX
  have h2 := hL Z hZ hX
  have h3 := hL _ h1 (fun e he => hX e (by cases q : Z e with | true => rfl | false => rw [q] at he; cases he))
  refine even_congr (fun e => ?_) (pg_even_add (pg_even_add h1 h2) h3)
  dsimp only [pg_add]
  generalize Z e = z; generalize K e = p; generalize L e = q
  cases z <;> cases p <;> cases q <;> rfl
def Xi (x : Int32) (i : Nat) : Nat → Bool := fun e => decide (e < i) && bt x e
theorem Xi_t {x : Int32} {i e : Nat} : Xi x i e = true ↔ e < i ∧ bt x e = true := by
  unfold Xi
  rw [Bool.and_eq_true, decide_eq_true_iff]
/-! the folds, place by place -/
theorem jn_at (a b st : Int32) (C Y : Nat → Int32) : ∀ m, m ≤ 32 → ∀ w, (w < m → (fo (pp_jn a b st) m (C, Y)).1 w = (if bt (a ||| b) w = true then a ||| b else C w) ∧ (fo (pp_jn a b st) m (C, Y)).2 w = (if bt b w = true then Y w ^^^ st else Y w)) ∧ (m ≤ w → (fo (pp_jn a b st) m (C, Y)).1 w = C w ∧ (fo (pp_jn a b st) m (C, Y)).2 w = Y w)
  | 0, _, w => ⟨fun h => by omega, fun _ => ⟨rfl, rfl⟩⟩
  | m + 1, hm, w => by
    have ih := jn_at a b st C Y m (by omega)
    rw [fo_s]
    unfold pp_jn
    rw [ps_has_bt _ (by omega : m < 32), ps_has_bt _ (by omega : m < 32)]
    obtain ⟨i1, i2⟩ := (ih m).2 (Nat.le_refl m)
    refine ⟨fun hw => ?_, fun hw => ?_⟩
    · by_cases e : w = m
      · subst e
        constructor
        · by_cases c : bt (a ||| b) w = true
          · rw [if_pos c, if_pos c]; simp [upd]
          · rw [if_neg c, if_neg c]; exact i1
        · by_cases c : bt b w = true
          · rw [if_pos c, if_pos c]; simp only [upd, if_pos rfl]; exact congrArg (fun y => y ^^^ st) i2
          · rw [if_neg c, if_neg c]; exact i2
      · obtain ⟨j1, j2⟩ := (ih w).1 (by omega)
        constructor
        · by_cases c : bt (a ||| b) m = true
          · rw [if_pos c]; simp only [upd, if_neg e]; exact j1
          · rw [if_neg c]; exact j1
        · by_cases c : bt b m = true
          · rw [if_pos c]; simp only [upd, if_neg e]; exact j2
          · rw [if_neg c]; exact j2
    · have e : w ≠ m := by omega
      obtain ⟨j1, j2⟩ := (ih w).2 (by omega)
      constructor
      · by_cases c : bt (a ||| b) m = true
        · rw [if_pos c]; simp only [upd, if_neg e]; exact j1
        · rw [if_neg c]; exact j1
      · by_cases c : bt b m = true
        · rw [if_pos c]; simp only [upd, if_neg e]; exact j2
        · rw [if_neg c]; exact j2
theorem u2_at (U : Int32) (B : Nat → Int32) : ∀ m, m ≤ 32 → ∀ w, (w < m → fo (pp_u2 U) m B w = if bt U w = true then U else B w) ∧ (m ≤ w → fo (pp_u2 U) m B w = B w)
  | 0, _, w => ⟨fun h => by omega, fun _ => rfl⟩
  | m + 1, hm, w => by
    have ih := u2_at U B m (by omega)
    rw [fo_s]
    unfold pp_u2
    rw [ps_has_bt _ (by omega : m < 32)]
    refine ⟨fun hw => ?_, fun hw => ?_⟩
    · by_cases e : w = m
      · subst e
        by_cases c : bt U w = true
        · rw [if_pos c, if_pos c]; simp [upd]
        · rw [if_neg c, if_neg c]; exact (ih w).2 (Nat.le_refl w)
      · have j := (ih w).1 (by omega)
        by_cases c : bt U m = true
        · rw [if_pos c]; simp only [upd, if_neg e]; exact j
        · rw [if_neg c]; exact j
    · have e : w ≠ m := by omega
      have j := (ih w).2 (by omega)
      by_cases c : bt U m = true
      · rw [if_pos c]; simp only [upd, if_neg e]; exact j
      · rw [if_neg c]; exact j
theorem u1_bt (B : Nat → Int32) (c : Int32) : ∀ m, m ≤ 32 → ∀ f, bt (fo (pp_u1 B c) m 0) f = true ↔ ∃ e, e < m ∧ bt c e = true ∧ bt (B e) f = true
  | 0, _, f => by
    rw [show fo (pp_u1 B c) 0 0 = 0 from rfl, b_0]
    constructor
    · intro h; cases h
    · rintro ⟨e, h, _⟩; omega
  | m + 1, hm, f => by
    have ih := u1_bt B c m (by omega) f
    rw [fo_s]
    unfold pp_u1
    rw [ps_has_bt _ (by omega : m < 32)]
    by_cases q : bt c m = true
    · rw [if_pos q, b_or, Bool.or_eq_true]
      constructor
      · rintro (h | h)
        · obtain ⟨e, h1, h2⟩ := ih.mp h
          exact ⟨e, by omega, h2⟩
        · exact ⟨m, by omega, q, h⟩
      · rintro ⟨e, h1, h2, h3⟩
        by_cases g : e = m
        · subst g; exact Or.inr h3
        · exact Or.inl (ih.mpr ⟨e, by omega, h2, h3⟩)
    · rw [if_neg q]
      constructor
      · intro h
        obtain ⟨e, h1, h2⟩ := ih.mp h
        exact ⟨e, by omega, h2⟩
      · rintro ⟨e, h1, h2, h3⟩
        by_cases g : e = m
        · subst g; exact absurd h2 q
        · exact ih.mpr ⟨e, by omega, h2, h3⟩
theorem s1_at (C Y : Nat → Int32) : ∀ m v, v < m → (fo pp_s1 m (C, Y)).1 v = 1 <<< (nI v &&& 31) ∧ (fo pp_s1 m (C, Y)).2 v = 0
  | 0, v, h => by omega
  | m + 1, v, h => by
    rw [fo_s]
    unfold pp_s1
    by_cases e : v = m
    · subst e; simp [upd]
    · simp only [upd, if_neg e]
      exact s1_at C Y m v (by omega)
theorem s2_at (x : Int32) (B : Nat → Int32) : ∀ m e, e < m → fo (pp_s2 x) m B e = x &&& (1 <<< (nI e &&& 31))
  | 0, v, h => by omega
  | m + 1, v, h => by
    rw [fo_s]
    unfold pp_s2
    by_cases e : v = m
    · subst e; simp [upd]
    · simp only [upd, if_neg e]
      exact s2_at x B m v (by omega)
/-- what holds when the edges below i have been placed -/
def pcI (n k : Nat) (F S : Nat → Nat) (x : Int32) (i : Nat) (C B Y : Nat → Int32) : Prop :=
  (∀ v u, v < n → u < 32 → bt (C v) u = true → u < n ∧ C u = C v) ∧ (∀ v, v < n → bt (C v) v = true) ∧
  (∀ e, e < i → bt x e = true → C (F e) = C (S e)) ∧
  (∀ W : Nat → Bool, (∀ e, e < i → bt x e = true → W (F e) = W (S e)) → ∀ v u, v < n → u < n → bt (C v) u = true → W u = W v) ∧
  (∃ T : Nat → Bool, (∀ e, T e = true → e < i ∧ bt x e = true) ∧ (∀ Z, pg_even n k F S Z → (∀ e, Z e = true → T e = true) → ∀ e, Z e = false) ∧ (∀ v e, v < n → bt (Y v) e = true → T e = true)) ∧
  (∀ u v, u < n → v < n → C u = C v → ∀ w, w < n → dgp k F S (fun e => bt (Y u) e ^^ bt (Y v) e) w = (decide (u = w) ^^ decide (v = w))) ∧
  (∀ e, i ≤ e → e < k → ∀ f, f < 32 → bt (B e) f = (decide (f = e) && bt x e)) ∧
  (∀ e, e < i → bt x e = false → B e = 0) ∧
  (∀ e, e < i → bt x e = true → bt (B e) e = true ∧ ∀ f, bt (B e) f = true → (f < i ∧ bt x f = true) ∧ B f = B e) ∧
  (∀ e, e < i → bt x e = true → Sep n k F S (Xi x i) (bt (B e))) ∧
  (∀ K, Sep n k F S (Xi x i) K → ∀ e f, e < i → bt x e = true → bt (B e) f = true → K e = K f)
theorem bt_lt {y : Int32} {f : Nat} (h : bt y f = true) : f < 32 := by
  refine Classical.byContradiction fun q => ?_
  rw [b_big (by omega)] at h
  cases h
theorem pc_mem {n : Nat} {C : Nat → Int32} (h1 : ∀ v u, v < n → u < 32 → bt (C v) u = true → u < n ∧ C u = C v) (h2 : ∀ v, v < n → bt (C v) v = true) {u v : Nat} (hu : u < n) (hv : v < n) : bt (C v) u = true ↔ C u = C v := by
  constructor
  · intro h; exact (h1 v u hv (bt_lt h) h).2
  · intro h; rw [← h]; exact h2 u hu
theorem pc_start {n k : Nat} {F S : Nat → Nat} {x : Int32} (hn : n ≤ 10) (hk : k ≤ 18) (C B Y : Nat → Int32) : pcI n k F S x 0 (fo pp_s1 n (C, Y)).1 (fo (pp_s2 x) k B) (fo pp_s1 n (C, Y)).2 := by
  have hs := s1_at C Y n
  have hb : ∀ v u, v < n → u < 32 → bt ((fo pp_s1 n (C, Y)).1 v) u = decide (u = v) := fun v u hv hu => by rw [(hs v hv).1, b_one v (by omega) u hu]
  have hy : ∀ v e, v < n → bt ((fo pp_s1 n (C, Y)).2 v) e = false := fun v e hv => by rw [(hs v hv).2, b_0]
  refine ⟨fun v u hv hu h => ?_, fun v hv => ?_, fun e he => by omega, fun W _ v u hv hu h => ?_, ⟨fun _ => false, fun e h => (by cases h), fun Z _ hz e => ?_, fun v e hv h => ?_⟩, fun u v hu hv he w hw => ?_, fun e _ he f hf => ?_, fun e he => by omega, fun e he => by omega, fun e he => by omega, fun K _ e f he => by omega⟩
  · rw [hb v u hv hu] at h
    have := of_decide_eq_true h
    subst this
    exact ⟨hv, rfl⟩
  · rw [hb v v hv (by omega)]; exact decide_eq_true rfl
  · rw [hb v u hv (by omega)] at h
    rw [of_decide_eq_true h]
  · cases q : Z e with
    | false => rfl
    | true => cases hz e q
  · rw [hy v e hv] at h; cases h
  · have : u = v := by
      have h1 := hb v u hv (by omega)
      have h2 := hb u u hu (by omega)
      rw [he, h1] at h2
      have h3 : decide (u = u) = true := decide_eq_true rfl
      rw [h3] at h2
      exact of_decide_eq_true h2
    subst this
    rw [Bool.xor_self]
    exact xr_zero (fun e _ => by dsimp only; rw [hy u e hu]; rfl)
  · rw [s2_at x B k e he, b_and, b_one e (by omega) f hf, Bool.and_comm]
    by_cases q : f = e
    · subst q; rfl
    · simp [q]
