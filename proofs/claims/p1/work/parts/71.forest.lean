/-! the reference's depth-first walk: it stays inside its rows, it ends, it gives a forest; every edge joins a vertex and one above it -/
theorem wl_meas {σ : Type} {dn : σ → Bool} {st : σ → σ} (I : σ → Prop) (μ : σ → Nat) (h : ∀ s, I s → dn s = false → I (st s) ∧ μ (st s) < μ s) : ∀ (f : Nat) (s : σ), I s → μ s ≤ f → dn (wl dn st f s) = true ∧ I (wl dn st f s) := by
  intro f
  induction f with
  | zero =>
    intro s hI hm
    cases hd : dn s with
    | true => exact ⟨hd, hI⟩
    | false => have := (h s hI hd).2; omega
  | succ f ih =>
    intro s hI hm
    cases hd : dn s with
    | true => rw [wl_dn hd]; exact ⟨hd, hI⟩
    | false =>
      rw [wl_st hd]
      have := h s hI hd
      exact ih _ this.1 (by omega)
def sm : Nat → (Nat → Nat) → Nat
  | 0, _ => 0
  | n + 1, f => sm n f + f n
theorem sm_congr {n : Nat} {f g : Nat → Nat} (h : ∀ i, i < n → f i = g i) : sm n f = sm n g := by
  induction n with
  | zero => rfl
  | succ n ih => show sm n f + f n = sm n g + g n; rw [ih (fun i hi => h i (by omega)), h n (by omega)]
theorem sm_down {n v : Nat} {f g : Nat → Nat} (hv : v < n) (h : ∀ i, i < n → i ≠ v → g i = f i) (h1 : g v + 1 = f v) : sm n g + 1 = sm n f := by
  induction n with
  | zero => omega
  | succ n ih =>
    show sm n g + g n + 1 = sm n f + f n
    by_cases e : v = n
    · subst e
      rw [sm_congr (f := g) (g := f) (fun i hi => h i (by omega) (by omega))]
      omega
    · have := ih (by omega) (fun i hi => h i (by omega))
      have := h n (by omega) (by omega)
      omega
theorem sm_le {n c : Nat} {f : Nat → Nat} (h : ∀ i, i < n → f i ≤ c) : sm n f ≤ n * c := by
  induction n with
  | zero => exact Nat.zero_le _
  | succ n ih =>
    show sm n f + f n ≤ (n + 1) * c
    have := ih (fun i hi => h i (by omega))
    have := h n (by omega)
    rw [Nat.succ_mul]
    omega
theorem cn_false (n : Nat) : cn n (fun _ => false) = 0 := by
  induction n with
  | zero => rfl
  | succ n ih => rw [cn_s, ih]; rfl
theorem cn_more {n a : Nat} {P : Nat → Bool} (ha : a < n) (h : P a = false) : cn n (fun v => P v || decide (v = a)) = cn n P + 1 := by
  induction n with
  | zero => omega
  | succ n ih =>
    rw [cn_s, cn_s]
    by_cases e : a = n
    · subst e
      rw [cn_congr (g := P) (fun i hi => by rw [decide_eq_false (by omega), Bool.or_false]), h, decide_eq_true rfl]
      rfl
    · rw [ih (by omega), decide_eq_false (fun q => e q.symm), Bool.or_false]
      omega
theorem inj_le {m N : Nat} {f : Nat → Nat} (hf : ∀ i, i < m → f i < N) (hi : ∀ i j, i < m → j < m → f i = f j → i = j) : m ≤ N := by
  have h : ∀ m', m' ≤ m → cn N (fun v => decide (∃ i, i < m' ∧ f i = v)) = m' := by
    intro m'
    induction m' with
    | zero =>
      intro _
      rw [cn_congr (g := fun _ => false) (fun v _ => decide_eq_false (fun ⟨i, h, _⟩ => by omega))]
      exact cn_false N
    | succ m' ih =>
      intro hm
      have e := cn_more (n := N) (a := f m') (P := fun v => decide (∃ i, i < m' ∧ f i = v)) (hf m' (by omega)) (decide_eq_false (fun ⟨i, h1, h2⟩ => by have := hi i m' (by omega) (by omega) h2; omega))
      rw [cn_congr (g := fun v => decide (∃ i, i < m' ∧ f i = v) || decide (v = f m')) (fun v _ => ?_), e, ih (by omega)]
      by_cases q : v = f m'
      · rw [decide_eq_true q, Bool.or_true]
        exact decide_eq_true ⟨m', by omega, q.symm⟩
      · rw [decide_eq_false q, Bool.or_false]
        by_cases g : ∃ i, i < m' ∧ f i = v
        · rw [decide_eq_true g]
          obtain ⟨i, h1, h2⟩ := g
          exact decide_eq_true ⟨i, by omega, h2⟩
        · rw [decide_eq_false g]
          refine decide_eq_false (fun ⟨i, h1, h2⟩ => ?_)
          by_cases g2 : i = m'
          · subst g2; exact q h2.symm
          · exact g ⟨i, by omega, h2⟩
  have h1 := h m (Nat.le_refl m)
  have h2 := cn_le N (fun v => decide (∃ i, i < m ∧ f i = v))
  omega
/-- j steps upwards; 0 is none, v + 1 is v -/
def ups (P : Nat → Nat) : Nat → Nat → Nat
  | 0, y => y
  | j + 1, y => ups P j (if y = 0 then 0 else P (y - 1))
theorem ups_0 (P : Nat → Nat) : ∀ j, ups P j 0 = 0
  | 0 => rfl
  | j + 1 => ups_0 P j
theorem ups_s (P : Nat → Nat) (j v : Nat) : ups P (j + 1) (v + 1) = ups P j (P v) := rfl
theorem ups_add (P : Nat → Nat) (i : Nat) : ∀ j y, ups P (i + j) y = ups P i (ups P j y)
  | 0, _ => rfl
  | j + 1, y => ups_add P i j _
def anc (P : Nat → Nat) (a b : Nat) : Prop := ∃ j, ups P j (b + 1) = a + 1
theorem anc_refl (P : Nat → Nat) (a : Nat) : anc P a a := ⟨0, rfl⟩
theorem anc_trans {P : Nat → Nat} {a b c : Nat} (h1 : anc P a b) (h2 : anc P b c) : anc P a c := by
  obtain ⟨i, hi⟩ := h1
  obtain ⟨j, hj⟩ := h2
  exact ⟨i + j, by rw [ups_add, hj, hi]⟩
theorem anc_par {P : Nat → Nat} {p v : Nat} (h : P v = p + 1) : anc P p v := ⟨1, by rw [ups_s, h]; rfl⟩
theorem anc_step {P : Nat → Nat} {a b : Nat} (h : anc P a b) : a = b ∨ ∃ p, P b = p + 1 ∧ anc P a p := by
  obtain ⟨j, hj⟩ := h
  cases j with
  | zero => have : b + 1 = a + 1 := hj; exact Or.inl (by omega)
  | succ j =>
    rw [ups_s] at hj
    cases hp : P b with
    | zero => rw [hp, ups_0] at hj; omega
    | succ p => exact Or.inr ⟨p, rfl, j, by rw [← hp]; exact hj⟩
theorem ups_stable {P P' : Nat → Nat} {V : Nat → Prop} (h : ∀ v, V v → P' v = P v ∧ (P v = 0 ∨ V (P v - 1))) : ∀ j v, V v → ups P' j (v + 1) = ups P j (v + 1) := by
  intro j
  induction j with
  | zero => intro v _; rfl
  | succ j ih =>
    intro v hv
    obtain ⟨h1, h2⟩ := h v hv
    rw [ups_s, ups_s, h1]
    cases hp : P v with
    | zero => rw [ups_0, ups_0]
    | succ p =>
      rw [hp] at h2
      rcases h2 with h2 | h2
      · omega
      · exact ih p h2
theorem anc_stable {P P' : Nat → Nat} {V : Nat → Prop} (h : ∀ v, V v → P' v = P v ∧ (P v = 0 ∨ V (P v - 1))) {a b : Nat} (hb : V b) (ha : anc P a b) : anc P' a b := by
  obtain ⟨j, hj⟩ := ha
  exact ⟨j, by rw [ups_stable h j b hb]; exact hj⟩
theorem anc_in {P : Nat → Nat} {V : Nat → Prop} (h : ∀ v, V v → P v = 0 ∨ V (P v - 1)) : ∀ (j a b : Nat), V b → ups P j (b + 1) = a + 1 → V a := by
  intro j
  induction j with
  | zero => intro a b hb he; have he : b + 1 = a + 1 := he; have : b = a := by omega
            rw [← this]; exact hb
  | succ j ih =>
    intro a b hb he
    rw [ups_s] at he
    cases hp : P b with
    | zero => rw [hp, ups_0] at he; omega
    | succ p =>
      rw [hp] at he
      have h2 := h b hb
      rw [hp] at h2
      rcases h2 with h2 | h2
      · omega
      · exact ih a p h2 he
/-- edge e joins p and v -/
def jn (E : Nat → Nat) (e p v : Nat) : Prop := (E (2 * e) = p ∧ E (2 * e + 1) = v) ∨ (E (2 * e) = v ∧ E (2 * e + 1) = p)
theorem jn_symm {E : Nat → Nat} {e p v : Nat} (h : jn E e p v) : jn E e v p := h.elim Or.inr Or.inl
theorem tch_iff {E : Nat → Nat} {e v : Nat} (hE : ∀ j, E j < 10) (hv : v < 10) : pm_tch E e v = true ↔ E (2 * e) = v ∨ E (2 * e + 1) = v := by
  have h1 := hE (2 * e)
  have h2 := hE (2 * e + 1)
  unfold pm_tch
  rw [decide_eq_true_iff, nI_eq (by omega) (by omega), nI_eq (by omega) (by omega)]
theorem oth_jn {E : Nat → Nat} {e v : Nat} (hE : ∀ j, E j < 10) (hv : v < 10) (h : pm_tch E e v = true) : jn E e v (pm_oth E e v) := by
  have h1 := hE (2 * e)
  unfold pm_oth
  by_cases q : E (2 * e) = v
  · rw [if_pos (by rw [q])]
    exact Or.inl ⟨q, rfl⟩
  · rw [if_neg (fun z => q ((nI_eq (by omega) (by omega)).mp z))]
    rcases (tch_iff hE hv).mp h with g | g
    · exact absurd g q
    · exact Or.inr ⟨rfl, g⟩
theorem oth_of {E : Nat → Nat} {e v w : Nat} (hE : ∀ j, E j < 10) (hv : v < 10) (hvw : v ≠ w) (h : jn E e v w) : pm_tch E e v = true ∧ pm_oth E e v = w := by
  have h1 := hE (2 * e)
  refine ⟨(tch_iff hE hv).mpr (h.elim (fun q => Or.inl q.1) (fun q => Or.inr q.2)), ?_⟩
  unfold pm_oth
  rcases h with ⟨q1, q2⟩ | ⟨q1, q2⟩
  · rw [if_pos (by rw [q1]), q2]
  · rw [if_neg (fun z => hvw (by have := (nI_eq (by omega) (by omega)).mp z; omega)), q1]
theorem m1_neg : ¬ (0 : Int32) ≤ -1 := by decide
section FO
variable (n k : Nat) (E : Nat → Nat) (x : Int32)
def fTR (Dp : Nat → Int32) (Pr Yb : Nat → Nat) (v d : Nat) : Prop := (d = 0 ∧ Pr v = 0 ∧ Yb v = 0) ∨ ∃ p e c, d = c + 1 ∧ Dp p = nI c ∧ Pr v = p + 1 ∧ Yb v = e + 1 ∧ p < n ∧ e < k ∧ pm_has x (nI e) = true ∧ jn E e p v
def fND (Dp : Nat → Int32) (Pr Yb nx : Nat → Nat) (v : Nat) : Prop := (Dp v = -1 ∧ nx v = 0) ∨ (v < n ∧ ∃ d, d ≤ 9 ∧ Dp v = nI d ∧ fTR n k E x Dp Pr Yb v d)
def fED (Dp : Nat → Int32) (Pr nx : Nat → Nat) (v : Nat) : Prop := ∀ e, e < k → e < nx v → pm_has x (nI e) = true → pm_tch E e v = true → 0 ≤ Dp (pm_oth E e v) ∧ (anc Pr v (pm_oth E e v) ∨ anc Pr (pm_oth E e v) v)
def fC (Dp : Nat → Int32) (Pr Yb nx : Nat → Nat) : Prop := (∀ v, v < 10 → fND n k E x Dp Pr Yb nx v) ∧ (∀ v, v < 10 → 0 ≤ Dp v → fED k E x Dp Pr nx v) ∧ (∀ v, v < 10 → 0 ≤ Dp v → ∃ q, anc Pr q v ∧ Pr q = 0 ∧ q ≤ v) ∧ (∀ j, Pr j ≤ 10)
/-- between two walks -/
def fR (i : Nat) (Dp : Nat → Int32) (Pr Yb nx : Nat → Nat) : Prop := fC n k E x Dp Pr Yb nx ∧ (∀ v, v < 10 → 0 ≤ Dp v → nx v = k + 1) ∧ (∀ u, u < i → 0 ≤ Dp u)
/-- in a walk from r -/
def fG (r : Nat) (s : Nat × (Nat → Int32) × (Nat → Nat) × (Nat → Nat) × (Nat → Nat) × (Nat → Nat)) : Prop :=
  fC n k E x s.2.1 s.2.2.1 s.2.2.2.1 s.2.2.2.2.1 ∧ (∀ v, v < 10 → 0 ≤ s.2.1 v → s.2.2.2.2.1 v ≤ k + 1 ∧ (s.2.2.2.2.1 v ≤ k → ∃ i, i < s.1 ∧ s.2.2.2.2.2 i = v)) ∧ (∀ u, u ≤ r → 0 ≤ s.2.1 u) ∧
  (∀ i, i < s.1 → s.2.2.2.2.2 i < n ∧ s.2.1 (s.2.2.2.2.2 i) = nI i ∧ s.2.2.2.2.1 (s.2.2.2.2.2 i) ≤ k) ∧ (∀ i, i + 1 < s.1 → s.2.2.1 (s.2.2.2.2.2 (i + 1)) = s.2.2.2.2.2 i + 1) ∧ (0 < s.1 → s.2.2.2.2.2 0 = r) ∧ s.1 ≤ 10
variable {n k : Nat} {E : Nat → Nat} {x : Int32}
theorem fND_vis {Dp : Nat → Int32} {Pr Yb nx : Nat → Nat} {v : Nat} (h : fND n k E x Dp Pr Yb nx v) (hv : 0 ≤ Dp v) : v < n ∧ ∃ d, d ≤ 9 ∧ Dp v = nI d ∧ fTR n k E x Dp Pr Yb v d := by
  rcases h with h | h
  · rw [h.1] at hv; exact absurd hv m1_neg
  · exact h
theorem fND_un {Dp : Nat → Int32} {Pr Yb nx : Nat → Nat} {v : Nat} (h : fND n k E x Dp Pr Yb nx v) (hv : ¬ 0 ≤ Dp v) : Dp v = -1 ∧ nx v = 0 := by
  rcases h with h | ⟨_, d, hd, e, _⟩
  · exact h
  · rw [e] at hv; exact absurd (nI_pos' (by omega)) hv
theorem nn {d : Nat} (h : d ≤ 9) : (0 : Int32) ≤ nI d := nI_pos' (by omega)
/-- what is above a visited vertex is visited -/
theorem fC_up {Dp : Nat → Int32} {Pr Yb nx : Nat → Nat} (hn : n ≤ 10) (h : ∀ v, v < 10 → fND n k E x Dp Pr Yb nx v) : ∀ v, (v < 10 ∧ 0 ≤ Dp v) → Pr v = 0 ∨ (Pr v - 1 < 10 ∧ 0 ≤ Dp (Pr v - 1)) := by
  intro v hv
  obtain ⟨_, d, hd, _, hT⟩ := fND_vis (h v hv.1) hv.2
  rcases hT with ⟨_, h1, _⟩ | ⟨p, e, c, hc, hp, h1, _, hpn, _⟩
  · exact Or.inl h1
  · rw [h1, Nat.add_sub_cancel]
    exact Or.inr ⟨by omega, by rw [hp]; exact nn (by omega)⟩
/-- one more edge of v is looked at -/
theorem fC_nx {Dp : Nat → Int32} {Pr Yb nx : Nat → Nat} {v : Nat} (h : fC n k E x Dp Pr Yb nx) (hv : 0 ≤ Dp v) (hnew : nx v < k → pm_has x (nI (nx v)) = true → pm_tch E (nx v) v = true → 0 ≤ Dp (pm_oth E (nx v) v) ∧ (anc Pr v (pm_oth E (nx v) v) ∨ anc Pr (pm_oth E (nx v) v) v)) : fC n k E x Dp Pr Yb (va_up nx v (nx v + 1)) := by
  obtain ⟨h1, h2, h3, h4⟩ := h
  refine ⟨fun u hu => ?_, fun u hu hu0 => ?_, h3, h4⟩
  · rcases h1 u hu with ⟨q1, q2⟩ | q
    · refine Or.inl ⟨q1, ?_⟩
      have : u ≠ v := fun e => by rw [← e, q1] at hv; exact m1_neg hv
      unfold va_up
      rw [if_neg this]; exact q2
    · exact Or.inr q
  · intro e he hen hx ht
    unfold va_up at hen
    by_cases q : u = v
    · subst q
      rw [if_pos rfl] at hen
      by_cases g : e = nx u
      · subst g; exact hnew he hx ht
      · exact h2 u hu hu0 e he (by omega) hx ht
    · rw [if_neg q] at hen
      exact h2 u hu hu0 e he hen hx ht
/-- the stack is a way up -/
theorem fG_chain {r : Nat} {s : Nat × (Nat → Int32) × (Nat → Nat) × (Nat → Nat) × (Nat → Nat) × (Nat → Nat)} (h : fG n k E x r s) : ∀ d i, i + d < s.1 → anc s.2.2.1 (s.2.2.2.2.2 i) (s.2.2.2.2.2 (i + d)) := by
  intro d
  induction d with
  | zero => intro i _; exact anc_refl _ _
  | succ d ih =>
    intro i hi
    have h5 := h.2.2.2.2.1 (i + d) (by omega)
    exact anc_trans (ih i (by omega)) (anc_par h5)
theorem gdD_f {s : Nat × (Nat → Int32) × (Nat → Nat) × (Nat → Nat) × (Nat → Nat) × (Nat → Nat)} (hs : s.1 ≤ 10) : pm_gdD s = false ↔ 1 ≤ s.1 := by
  unfold pm_gdD
  rw [decide_eq_false_iff_not]
  constructor
  · intro h
    refine Classical.byContradiction fun q => h ?_
    have : s.1 = 0 := by omega
    rw [this]; decide
  · intro h q
    have := nz_le (by omega) q
    omega
abbrev fMu (k : Nat) (nx : Nat → Nat) : Nat := sm 10 (fun v => k + 1 - nx v)
theorem fMu_down {nx : Nat → Nat} {v : Nat} (hv : v < 10) (h : nx v ≤ k) : fMu k (va_up nx v (nx v + 1)) < fMu k nx := by
  have := sm_down (n := 10) (v := v) (f := fun v => k + 1 - nx v) (g := fun u => k + 1 - va_up nx v (nx v + 1) u) hv (fun i _ hi => by simp [va_up, hi]) (by simp [va_up]; omega)
  show sm 10 _ < sm 10 _
  omega
def gdV (k : Nat) (E : Nat → Nat) (x : Int32) (top : Nat) (Dp : Nat → Int32) (Pr Yb nx sk : Nat → Nat) (v : Nat) : Nat × (Nat → Int32) × (Nat → Nat) × (Nat → Nat) × (Nat → Nat) × (Nat → Nat) :=
  if nx v < k then
    (if pm_has x (nI (nx v)) = true ∧ pm_tch E (nx v) v = true then
      (if 0 ≤ Dp (pm_oth E (nx v) v) then (top, Dp, Pr, Yb, va_up nx v (nx v + 1), sk)
       else (top + 1, upd Dp (pm_oth E (nx v) v) (Dp v + 1), va_up Pr (pm_oth E (nx v) v) (v + 1), va_up Yb (pm_oth E (nx v) v) (nx v + 1), va_up nx v (nx v + 1), va_up sk top (pm_oth E (nx v) v)))
    else (top, Dp, Pr, Yb, va_up nx v (nx v + 1), sk))
  else (top - 1, Dp, Pr, Yb, va_up nx v (nx v + 1), sk)
/-- a step of the walk -/
theorem fG_step {r : Nat} {s : Nat × (Nat → Int32) × (Nat → Nat) × (Nat → Nat) × (Nat → Nat) × (Nat → Nat)} (hn : n ≤ 10) (hk : k ≤ 18) (hE : ∀ j, E j < 10) (hEn : ∀ e, e < k → E (2 * e) < n ∧ E (2 * e + 1) < n) (hne : ∀ e, e < k → E (2 * e) ≠ E (2 * e + 1)) (hr : r < n) (h : fG n k E x r s) (hd : pm_gdD s = false) :
    (1 ≤ s.1 ∧ s.1 ≤ 10 ∧ s.2.2.2.2.2 (s.1 - 1) < 10 ∧ s.2.2.2.2.1 (s.2.2.2.2.2 (s.1 - 1)) ≤ 18 ∧ (¬ 0 ≤ s.2.1 (pm_oth E (s.2.2.2.2.1 (s.2.2.2.2.2 (s.1 - 1))) (s.2.2.2.2.2 (s.1 - 1))) → s.2.2.2.2.1 (s.2.2.2.2.2 (s.1 - 1)) < k → pm_has x (nI (s.2.2.2.2.1 (s.2.2.2.2.2 (s.1 - 1)))) = true → pm_tch E (s.2.2.2.2.1 (s.2.2.2.2.2 (s.1 - 1))) (s.2.2.2.2.2 (s.1 - 1)) = true → s.1 ≤ 9)) ∧
    fG n k E x r (pm_gdS k E x s) ∧ fMu k (pm_gdS k E x s).2.2.2.2.1 < fMu k s.2.2.2.2.1 := by
  have hch := fG_chain h
  obtain ⟨top, Dp, Pr, Yb, nx, sk⟩ := s
  obtain ⟨hC, hV, hU, hS, hP, h0, ht⟩ := h
  dsimp only at hC hV hU hS hP h0 ht hch
  have h1 : 1 ≤ top := (gdD_f ht).mp hd
  obtain ⟨v, hv⟩ : ∃ v, v = sk (top - 1) := ⟨_, rfl⟩
  obtain ⟨hvn, hvD, hvx⟩ := hS (top - 1) (by omega)
  rw [← hv] at hvn hvD hvx
  have hv10 : v < 10 := by omega
  have hvis : 0 ≤ Dp v := by rw [hvD]; exact nn (by omega)
  obtain ⟨hC1, hC2, hC3, hC4⟩ := id hC
  have hpush : ¬ 0 ≤ Dp (pm_oth E (nx v) v) → nx v < k → pm_has x (nI (nx v)) = true → pm_tch E (nx v) v = true → top ≤ 9 := by
    intro g1 _ _ _
    have hw := pm_oth_lt hE (nx v) v
    have : top + 1 ≤ 10 := inj_le (m := top + 1) (N := 10) (f := fun i => if i < top then sk i else pm_oth E (nx v) v) (fun i _ => by
      by_cases q : i < top
      · simp only [q, if_true]; have := (hS i q).1; omega
      · simp only [q, if_false]; exact hw) (fun i j hi hj he => by
      by_cases q1 : i < top <;> by_cases q2 : j < top
      · simp only [q1, q2, if_true] at he
        have a := (hS i q1).2.1
        have b := (hS j q2).2.1
        rw [he, b] at a
        have := (nI_eq (by omega) (by omega)).mp a
        omega
      · simp only [q1, q2, if_true, if_false] at he
        rw [← he, (hS i q1).2.1] at g1
        exact absurd (nn (by omega)) g1
      · simp only [q1, q2, if_true, if_false] at he
        rw [he, (hS j q2).2.1] at g1
        exact absurd (nn (by omega)) g1
      · omega)
    omega
  refine ⟨⟨h1, ht, ?_, ?_, ?_⟩, ?_⟩
  · show sk (top - 1) < 10; rw [← hv]; exact hv10
  · show nx (sk (top - 1)) ≤ 18; rw [← hv]; omega
  · have hp' := hpush
    rw [hv] at hp'
    exact hp'
  have hrel : ∀ i, i < top → anc Pr (sk i) v := fun i hi => by
    have := hch (top - 1 - i) i (by omega)
    rw [show i + (top - 1 - i) = top - 1 by omega, ← hv] at this
    exact this
  have hgd : pm_gdS k E x (top, Dp, Pr, Yb, nx, sk) = gdV k E x top Dp Pr Yb nx sk v := by rw [hv]; rfl
  rw [hgd]
  unfold gdV
  by_cases c1 : nx v < k
  · rw [if_pos c1]
    by_cases c2 : pm_has x (nI (nx v)) = true ∧ pm_tch E (nx v) v = true
    · rw [if_pos c2]
      have hj := oth_jn hE hv10 c2.2
      have hw10 := pm_oth_lt hE (nx v) v
      obtain ⟨w, hw⟩ : ∃ w, w = pm_oth E (nx v) v := ⟨_, rfl⟩
      have hnb := hpush
      rw [← hw] at hj hw10 hnb ⊢
      have hwn : w < n := by
        rcases hj with ⟨_, q⟩ | ⟨q, _⟩
        · rw [← q]; exact (hEn _ c1).2
        · rw [← q]; exact (hEn _ c1).1
      have hvw : v ≠ w := by
        rcases hj with ⟨q1, q2⟩ | ⟨q1, q2⟩
        · exact fun z => hne _ c1 (q1.trans (z.trans q2.symm))
        · exact fun z => hne _ c1 (q1.trans (z.symm.trans q2.symm))
      by_cases c3 : 0 ≤ Dp w
      · rw [if_pos c3]
        refine ⟨⟨fC_nx hC hvis (fun _ _ _ => ?_), fun u hu hu0 => ?_, hU, fun i hi => ?_, hP, h0, ht⟩, fMu_down hv10 hvx⟩
        · rw [← hw]
          refine ⟨c3, ?_⟩
          by_cases q : nx v < nx w
          · have hw2 := oth_of hE hw10 (fun z => hvw z.symm) (jn_symm hj)
            have := (hC2 w hw10 c3 (nx v) c1 q c2.1 hw2.1).2
            rw [hw2.2] at this
            exact this.symm
          · obtain ⟨i, hi, he⟩ := (hV w hw10 c3).2 (by omega)
            have := hrel i hi
            rw [he] at this
            exact Or.inr this
        · show va_up nx v (nx v + 1) u ≤ k + 1 ∧ (va_up nx v (nx v + 1) u ≤ k → ∃ i, i < top ∧ sk i = u)
          unfold va_up
          by_cases q : u = v
          · subst q
            rw [if_pos rfl]
            exact ⟨by omega, fun _ => ⟨top - 1, by omega, hv.symm⟩⟩
          · rw [if_neg q]
            exact hV u hu hu0
        · show sk i < n ∧ Dp (sk i) = nI i ∧ va_up nx v (nx v + 1) (sk i) ≤ k
          refine ⟨(hS i hi).1, (hS i hi).2.1, ?_⟩
          unfold va_up
          by_cases q : sk i = v
          · rw [if_pos q]; omega
          · rw [if_neg q]; exact (hS i hi).2.2
      · rw [if_neg c3]
        have ht9 : top ≤ 9 := hnb c3 c1 c2.1 c2.2
        have hwu := fND_un (hC1 w hw10) c3
        have hDv : Dp v + 1 = nI top := by rw [hvD, nI_1]; congr 1; omega
        have hne' : ∀ u, 0 ≤ Dp u → u ≠ w := fun u hu z => c3 (by rw [← z]; exact hu)
        have hvw' : v ≠ w := hvw
        have hst : ∀ u, (u < 10 ∧ 0 ≤ Dp u) → va_up Pr w (v + 1) u = Pr u ∧ (Pr u = 0 ∨ (Pr u - 1 < 10 ∧ 0 ≤ Dp (Pr u - 1))) := fun u hu => ⟨by unfold va_up; rw [if_neg (hne' u hu.2)], fC_up hn hC1 u hu⟩
        have hin : ∀ a u, u < 10 → 0 ≤ Dp u → anc Pr a u → a < 10 ∧ 0 ≤ Dp a := fun a u hu hu0 ⟨j, hj⟩ => anc_in (V := fun u => u < 10 ∧ 0 ≤ Dp u) (fun u hu => fC_up hn hC1 u hu) j a u ⟨hu, hu0⟩ hj
        have hroot : anc Pr r v := by
          have := hrel 0 (by omega)
          rw [h0 (by omega)] at this
          exact this
        have hr0 : Pr r = 0 := by
          have q := (hS 0 (by omega)).2.1
          rw [h0 (by omega)] at q
          obtain ⟨_, d, hd, e, hT⟩ := fND_vis (hC1 r (by omega)) (hU r (Nat.le_refl r))
          rw [q] at e
          have := (nI_eq (by omega) (by omega)).mp e
          rcases hT with ⟨_, g, _⟩ | ⟨p, e, c, g, _⟩
          · exact g
          · omega
        have hDw : upd Dp w (Dp v + 1) w = nI top := by unfold upd; rw [if_pos rfl, hDv]
        have hDu : ∀ u, u ≠ w → upd Dp w (Dp v + 1) u = Dp u := fun u hu => by unfold upd; rw [if_neg hu]
        refine ⟨⟨⟨fun u hu => ?_, fun u hu hu0 => ?_, fun u hu hu0 => ?_, fun j => ?_⟩, fun u hu hu0 => ?_, fun u hu => ?_, fun i hi => ?_, fun i hi => ?_, fun _ => ?_, ?_⟩, fMu_down hv10 hvx⟩
        · -- the tree
          show fND n k E x (upd Dp w (Dp v + 1)) (va_up Pr w (v + 1)) (va_up Yb w (nx v + 1)) (va_up nx v (nx v + 1)) u
          by_cases q : u = w
          · subst q
            refine Or.inr ⟨hwn, top, ht9, hDw, Or.inr ⟨v, nx v, top - 1, by omega, ?_, by simp [va_up], by simp [va_up], hvn, c1, c2.1, hj⟩⟩
            rw [hDu v hvw, hvD]
          · rcases hC1 u hu with ⟨q1, q2⟩ | ⟨q1, d, q2, q3, q4⟩
            · refine Or.inl ⟨by rw [hDu u q]; exact q1, ?_⟩
              have : u ≠ v := fun e => by rw [← e, q1] at hvis; exact m1_neg hvis
              unfold va_up
              rw [if_neg this]; exact q2
            · refine Or.inr ⟨q1, d, q2, by rw [hDu u q]; exact q3, ?_⟩
              rcases q4 with ⟨g1, g2, g3⟩ | ⟨p, e, c, g1, g2, g3, g4, g5⟩
              · exact Or.inl ⟨g1, by simp [va_up, q, g2], by simp [va_up, q, g3]⟩
              · exact Or.inr ⟨p, e, c, g1, by rw [hDu p (hne' p (by rw [g2]; exact nn (by omega)))]; exact g2, by simp [va_up, q, g3], by simp [va_up, q, g4], g5⟩
        · -- the edges
          have hu0' : 0 ≤ upd Dp w (Dp v + 1) u := hu0
          intro e he hen hx hte
          have hen' : e < va_up nx v (nx v + 1) u := hen
          show 0 ≤ upd Dp w (Dp v + 1) (pm_oth E e u) ∧ (anc (va_up Pr w (v + 1)) u (pm_oth E e u) ∨ anc (va_up Pr w (v + 1)) (pm_oth E e u) u)
          by_cases q : u = w
          · subst q
            unfold va_up at hen'
            rw [if_neg (fun z => hvw z.symm), hwu.2] at hen'
            omega
          · rw [hDu u q] at hu0'
            by_cases g : u = v ∧ e = nx v
            · obtain ⟨g1, g2⟩ := g
              subst g1
              rw [g2, ← hw]
              exact ⟨by rw [hDw]; exact nn ht9, Or.inl (anc_par (by simp [va_up]))⟩
            · have hold : e < nx u := by
                unfold va_up at hen'
                by_cases z : u = v
                · rw [if_pos z] at hen'
                  rw [z]
                  have : e ≠ nx v := fun z2 => g ⟨z, z2⟩
                  omega
                · rw [if_neg z] at hen'; exact hen'
              obtain ⟨a1, a2⟩ := hC2 u hu hu0' e he hold hx hte
              refine ⟨by rw [hDu _ (hne' _ a1)]; exact a1, ?_⟩
              have ho := pm_oth_lt hE e u
              rcases a2 with a2 | a2
              · exact Or.inl (anc_stable (V := fun u => u < 10 ∧ 0 ≤ Dp u) hst ⟨ho, a1⟩ a2)
              · exact Or.inr (anc_stable (V := fun u => u < 10 ∧ 0 ≤ Dp u) hst ⟨hu, hu0'⟩ a2)
        · -- the roots
          have hu0' : 0 ≤ upd Dp w (Dp v + 1) u := hu0
          show ∃ q, anc (va_up Pr w (v + 1)) q u ∧ va_up Pr w (v + 1) q = 0 ∧ q ≤ u
          by_cases q : u = w
          · subst q
            refine ⟨r, anc_trans (anc_stable (V := fun u => u < 10 ∧ 0 ≤ Dp u) hst ⟨hv10, hvis⟩ hroot) (anc_par (by simp [va_up])), ?_, ?_⟩
            · have : r ≠ u := hne' r (hU r (Nat.le_refl r))
              unfold va_up
              rw [if_neg this]; exact hr0
            · refine Classical.byContradiction fun z => c3 (hU u (by omega))
          · rw [hDu u q] at hu0'
            obtain ⟨a, a1, a2, a3⟩ := hC3 u hu hu0'
            refine ⟨a, anc_stable (V := fun u => u < 10 ∧ 0 ≤ Dp u) hst ⟨hu, hu0'⟩ a1, ?_, a3⟩
            have := hne' a (hin a u hu hu0' a1).2
            unfold va_up
            rw [if_neg this]; exact a2
        · show va_up Pr w (v + 1) j ≤ 10
          unfold va_up
          by_cases q : j = w
          · rw [if_pos q]; omega
          · rw [if_neg q]; exact hC4 j
        · have hu0' : 0 ≤ upd Dp w (Dp v + 1) u := hu0
          show va_up nx v (nx v + 1) u ≤ k + 1 ∧ (va_up nx v (nx v + 1) u ≤ k → ∃ i, i < top + 1 ∧ va_up sk top w i = u)
          by_cases q : u = w
          · subst q
            have : u ≠ v := fun z => hvw z.symm
            unfold va_up
            rw [if_neg this, hwu.2]
            exact ⟨by omega, fun _ => ⟨top, by omega, by rw [if_pos rfl]⟩⟩
          · rw [hDu u q] at hu0'
            by_cases z : u = v
            · subst z
              refine ⟨by unfold va_up; rw [if_pos rfl]; omega, fun _ => ⟨top - 1, by omega, ?_⟩⟩
              unfold va_up
              rw [if_neg (by omega)]; exact hv.symm
            · have := hV u hu hu0'
              unfold va_up
              rw [if_neg z]
              refine ⟨this.1, fun g => ?_⟩
              obtain ⟨i, i1, i2⟩ := this.2 g
              exact ⟨i, by omega, by rw [if_neg (by omega)]; exact i2⟩
        · show 0 ≤ upd Dp w (Dp v + 1) u
          rw [hDu u (hne' u (hU u hu))]
          exact hU u hu
        · have hi' : i < top + 1 := hi
          show va_up sk top w i < n ∧ upd Dp w (Dp v + 1) (va_up sk top w i) = nI i ∧ va_up nx v (nx v + 1) (va_up sk top w i) ≤ k
          by_cases q : i = top
          · have e1 : va_up sk top w i = w := by unfold va_up; rw [if_pos q]
            have e2 : va_up nx v (nx v + 1) w = 0 := by unfold va_up; rw [if_neg (fun z => hvw z.symm)]; exact hwu.2
            rw [e1, hDw, e2, q]
            exact ⟨hwn, rfl, by omega⟩
          · have e1 : va_up sk top w i = sk i := by unfold va_up; rw [if_neg q]
            obtain ⟨a1, a2, a3⟩ := hS i (by omega)
            rw [e1, hDu _ (hne' _ (by rw [a2]; exact nn (by omega)))]
            refine ⟨a1, a2, ?_⟩
            unfold va_up
            by_cases z : sk i = v
            · rw [if_pos z]; omega
            · rw [if_neg z]; exact a3
        · have hi' : i + 1 < top + 1 := hi
          show va_up Pr w (v + 1) (va_up sk top w (i + 1)) = va_up sk top w i + 1
          have e2 : va_up sk top w i = sk i := by unfold va_up; rw [if_neg (by omega)]
          by_cases q : i + 1 = top
          · have e1 : va_up sk top w (i + 1) = w := by unfold va_up; rw [if_pos q]
            rw [e1, e2]
            have : i = top - 1 := by omega
            rw [this, ← hv]
            simp [va_up]
          · have e1 : va_up sk top w (i + 1) = sk (i + 1) := by unfold va_up; rw [if_neg q]
            obtain ⟨a1, a2, a3⟩ := hS (i + 1) (by omega)
            have a4 := hne' (sk (i + 1)) (by rw [a2]; exact nn (by omega))
            rw [e1, e2]
            unfold va_up
            rw [if_neg a4]
            exact hP i (by omega)
        · show va_up sk top w 0 = r
          unfold va_up
          rw [if_neg (by omega)]
          exact h0 (by omega)
        · show top + 1 ≤ 10
          omega
    · rw [if_neg c2]
      refine ⟨⟨fC_nx hC hvis (fun _ a b => absurd ⟨a, b⟩ c2), fun u hu hu0 => ?_, hU, fun i hi => ?_, hP, h0, ht⟩, fMu_down hv10 hvx⟩
      · show va_up nx v (nx v + 1) u ≤ k + 1 ∧ (va_up nx v (nx v + 1) u ≤ k → ∃ i, i < top ∧ sk i = u)
        unfold va_up
        by_cases q : u = v
        · subst q
          rw [if_pos rfl]
          exact ⟨by omega, fun _ => ⟨top - 1, by omega, hv.symm⟩⟩
        · rw [if_neg q]
          exact hV u hu hu0
      · show sk i < n ∧ Dp (sk i) = nI i ∧ va_up nx v (nx v + 1) (sk i) ≤ k
        refine ⟨(hS i hi).1, (hS i hi).2.1, ?_⟩
        unfold va_up
        by_cases q : sk i = v
        · rw [if_pos q]; omega
        · rw [if_neg q]; exact (hS i hi).2.2
  · rw [if_neg c1]
    refine ⟨⟨fC_nx hC hvis (fun a _ _ => absurd a c1), fun u hu hu0 => ?_, hU, fun i hi => ?_, fun i hi => ?_, fun hi => ?_, ?_⟩, fMu_down hv10 hvx⟩
    · show va_up nx v (nx v + 1) u ≤ k + 1 ∧ (va_up nx v (nx v + 1) u ≤ k → ∃ i, i < top - 1 ∧ sk i = u)
      unfold va_up
      by_cases q : u = v
      · rw [if_pos q]
        exact ⟨by omega, fun z => by omega⟩
      · rw [if_neg q]
        have := hV u hu hu0
        refine ⟨this.1, fun g => ?_⟩
        obtain ⟨i, i1, i2⟩ := this.2 g
        refine ⟨i, ?_, i2⟩
        have : i ≠ top - 1 := fun z => q (by rw [← i2, z, hv])
        omega
    · have hi' : i < top - 1 := hi
      show sk i < n ∧ Dp (sk i) = nI i ∧ va_up nx v (nx v + 1) (sk i) ≤ k
      obtain ⟨a1, a2, a3⟩ := hS i (by omega)
      refine ⟨a1, a2, ?_⟩
      have : sk i ≠ v := fun z => by
        rw [z, hvD] at a2
        have := (nI_eq (by omega) (by omega)).mp a2
        omega
      unfold va_up
      rw [if_neg this]; exact a3
    · have hi' : i + 1 < top - 1 := hi
      exact hP i (by omega)
    · have hi' : 0 < top - 1 := hi
      exact h0 (by omega)
    · show top - 1 ≤ 10
      omega
end FO
