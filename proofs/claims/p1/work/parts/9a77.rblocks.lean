/-! the reference's blocks: circles of the edges outside the forest -/
section RB
variable {n k : Nat} {E : Nat → Nat} {x : Int32} {Dp : Nat → Int32} {Pr Yb : Nat → Nat}
abbrev eF (E : Nat → Nat) : Nat → Nat := fun e => E (2 * e)
abbrev eS (E : Nat → Nat) : Nat → Nat := fun e => E (2 * e + 1)
abbrev dep (Dp : Nat → Int32) (v : Nat) : Nat := (Dp v).toNatClampNeg
/-- the edges of the way up to the root -/
def wrf (Pr Yb : Nat → Nat) : Nat → Nat → Nat → Bool
  | 0, _, _ => false
  | d + 1, v, g => decide (g + 1 = Yb v) ^^ wrf Pr Yb d (Pr v - 1) g
def wr (Dp : Nat → Int32) (Pr Yb : Nat → Nat) (v : Nat) : Nat → Bool := wrf Pr Yb (dep Dp v) v
theorem wr_root (h : Forest n k E x Dp Pr Yb) {v : Nat} (hv : v < n) (h0 : Pr v = 0) (g : Nat) : wr Dp Pr Yb v g = false := by
  obtain ⟨_, _, q⟩ := fo_dep h hv
  rcases q with ⟨_, _, q⟩ | ⟨p, e, q, _⟩
  · unfold wr
    rw [show dep Dp v = 0 from q]; rfl
  · omega
theorem wr_par (h : Forest n k E x Dp Pr Yb) {v p e : Nat} (hv : v < n) (hp : Pr v = p + 1) (he : Yb v = e + 1) (g : Nat) : wr Dp Pr Yb v g = (decide (g = e) ^^ wr Dp Pr Yb p g) := by
  obtain ⟨_, _, q⟩ := fo_dep h hv
  rcases q with ⟨q, _⟩ | ⟨p', e', q1, q2, q3, _, _, _, q7⟩
  · omega
  · have : p' = p := by omega
    subst this
    unfold wr
    rw [show dep Dp v = dep Dp p' + 1 from q7]
    show (decide (g + 1 = Yb v) ^^ wrf Pr Yb (dep Dp p') (Pr v - 1) g) = _
    rw [hp, he, Nat.add_sub_cancel]
    congr 1
    by_cases z : g = e
    · rw [decide_eq_true z, decide_eq_true (by omega)]
    · rw [decide_eq_false z, decide_eq_false (by omega)]
/-- induction down the forest -/
theorem fo_ind (h : Forest n k E x Dp Pr Yb) {Q : Nat → Prop} (h0 : ∀ v, v < n → Pr v = 0 → Yb v = 0 → Q v) (hs : ∀ v p e, v < n → p < n → e < k → pm_has x (nI e) = true → jn E e p v → Pr v = p + 1 → Yb v = e + 1 → dep Dp v = dep Dp p + 1 → Q p → Q v) : ∀ v, v < n → Q v := by
  have : ∀ d v, v < n → dep Dp v = d → Q v := by
    intro d
    induction d with
    | zero =>
      intro v hv hd
      obtain ⟨_, _, q⟩ := fo_dep h hv
      rcases q with ⟨q1, q2, _⟩ | ⟨p, e, q1, q2, q3, q4, q5, q6, q7⟩
      · exact h0 v hv q1 q2
      · have : dep Dp v = dep Dp p + 1 := q7
        omega
    | succ d ih =>
      intro v hv hd
      obtain ⟨_, _, q⟩ := fo_dep h hv
      rcases q with ⟨q1, q2, _⟩ | ⟨p, e, q1, q2, q3, q4, q5, q6, q7⟩
      · exact h0 v hv q1 q2
      · have : dep Dp v = dep Dp p + 1 := q7
        exact hs v p e hv q3 q4 q5 q6 q1 q2 q7 (ih p q3 (by omega))
  exact fun v hv => this _ v hv rfl
/-- tree edges -/
def trE (n : Nat) (Yb : Nat → Nat) (g : Nat) : Prop := ∃ z, z < n ∧ Yb z = g + 1
theorem wr_tree (h : Forest n k E x Dp Pr Yb) : ∀ v, v < n → ∀ g, wr Dp Pr Yb v g = true → trE n Yb g := by
  refine fo_ind h (fun v hv h0 _ g hg => ?_) (fun v p e hv hp _ _ _ q1 q2 _ ih g hg => ?_)
  · rw [wr_root h hv h0] at hg; cases hg
  · rw [wr_par h hv q1 q2] at hg
    by_cases z : g = e
    · exact ⟨v, hv, by rw [z]; exact q2⟩
    · rw [decide_eq_false z, Bool.false_xor] at hg
      exact ih g hg
theorem tr_edge (h : Forest n k E x Dp Pr Yb) {z g : Nat} (hz : z < n) (hg : Yb z = g + 1) : ∃ p, p < n ∧ g < k ∧ pm_has x (nI g) = true ∧ jn E g p z ∧ Pr z = p + 1 ∧ dep Dp z = dep Dp p + 1 := by
  obtain ⟨_, _, q⟩ := fo_dep h hz
  rcases q with ⟨_, q, _⟩ | ⟨p, e, q1, q2, q3, q4, q5, q6, q7⟩
  · omega
  · have : e = g := by omega
    subst this
    exact ⟨p, q3, q4, q5, q6, q1, q7⟩
theorem inc_jn {E : Nat → Nat} {e p v w : Nat} (h : jn E e p v) (hpv : p ≠ v) : pg_inc (eF E) (eS E) w e = (decide (p = w) ^^ decide (v = w)) := by
  rcases h with ⟨h1, h2⟩ | ⟨h1, h2⟩
  · rw [inc_xor w (by show E (2 * e) ≠ E (2 * e + 1); rw [h1, h2]; exact hpv)]
    show (decide (E (2 * e) = w) ^^ decide (E (2 * e + 1) = w)) = _
    rw [h1, h2]
  · rw [inc_xor w (by show E (2 * e) ≠ E (2 * e + 1); rw [h1, h2]; exact fun z => hpv z.symm)]
    show (decide (E (2 * e) = w) ^^ decide (E (2 * e + 1) = w)) = _
    rw [h1, h2, Bool.xor_comm]
theorem wr_dg (hn : n ≤ 10) (h : Forest n k E x Dp Pr Yb) (w : Nat) : ∀ v, v < n → dgp k (eF E) (eS E) (wr Dp Pr Yb v) w = (decide (v = w) ^^ decide (pm_rt Pr v = w)) := by
  refine fo_ind h (fun v hv h0 _ => ?_) (fun v p e hv hp he _ hj q1 q2 q3 ih => ?_)
  · have : pm_rt Pr v = v := by
      obtain ⟨_, b2, b3⟩ := rt_spec hn h hv
      exact root_one b2 (anc_refl _ _) b3 h0
    rw [this, Bool.xor_self]
    exact xr_zero (fun e _ => by rw [wr_root h hv h0]; rfl)
  · rw [dgp_congr (Z := fun g => decide (g = e) ^^ wr Dp Pr Yb p g) (fun g _ => wr_par h hv q1 q2 g), dgp_add, ih, dgp_one w he, inc_jn hj (fun z => by rw [z] at q3; omega), rt_anc hn h hv (anc_par q1)]
    generalize decide (p = w) = a1; generalize decide (v = w) = a2; generalize decide (pm_rt Pr v = w) = a3
    cases a1 <;> cases a2 <;> cases a3 <;> rfl
/-- no circle in the forest -/
theorem tr_acyc (h : Forest n k E x Dp Pr Yb) {Z : Nat → Bool} (hZ : pg_even n k (eF E) (eS E) Z) (hT : ∀ g, Z g = true → trE n Yb g) : ∀ g, Z g = false := by
  have : ∀ d, d ≤ 10 → ∀ z g, z < n → Yb z = g + 1 → 10 - d ≤ dep Dp z → Z g = false := by
    intro d
    induction d with
    | zero =>
      intro _ z g hz _ hd
      have : dep Dp z ≤ 9 := (fo_dep h hz).1
      omega
    | succ d ih =>
      intro hd z g hz hg hdz
      obtain ⟨p, p1, p2, p3, p4, p5, p6⟩ := tr_edge h hz hg
      have he := hZ.2 z hz
      rw [xr_one p2 (fun e hek hne => ?_)] at he
      · rw [inc_jn p4 (fun q => by rw [q] at p6; omega), decide_eq_true (rfl : z = z)] at he
        have hpz : ¬ p = z := fun q => by rw [q] at p6; omega
        rw [decide_eq_false hpz] at he
        cases q : Z g with
        | false => rfl
        | true => rw [q] at he; cases he
      · cases q : Z e with
        | false => rfl
        | true =>
          obtain ⟨z', z1, z2⟩ := hT e q
          obtain ⟨p', r1, r2, r3, r4, r5, r6⟩ := tr_edge h z1 z2
          rw [Bool.true_and, inc_jn r4 (fun w => by rw [w] at r6; omega)]
          have a1 : ¬ z' = z := fun w => by rw [w] at z2; omega
          have a2 : ¬ p' = z := fun w => by
            have := ih (by omega) z' e z1 z2 (by rw [w] at r6; omega)
            rw [q] at this; cases this
          rw [decide_eq_false a1, decide_eq_false a2]; rfl
  intro g
  cases q : Z g with
  | false => rfl
  | true =>
    obtain ⟨z, z1, z2⟩ := hT g q
    rw [this 10 (Nat.le_refl _) z g z1 z2 (by omega)] at q
    cases q
/-- the circle of an edge -/
def cE (E : Nat → Nat) (Dp : Nat → Int32) (Pr Yb : Nat → Nat) (e : Nat) : Nat → Bool := fun g => (wr Dp Pr Yb (E (2 * e)) g ^^ wr Dp Pr Yb (E (2 * e + 1)) g) ^^ decide (g = e)
theorem cE_even (hn : n ≤ 10) (hEn : ∀ e, e < k → E (2 * e) < n ∧ E (2 * e + 1) < n) (hne : ∀ e, e < k → E (2 * e) ≠ E (2 * e + 1)) (h : Forest n k E x Dp Pr Yb) {e : Nat} (he : e < k) (hx : pm_has x (nI e) = true) : pg_even n k (eF E) (eS E) (cE E Dp Pr Yb e) := by
  obtain ⟨a, b⟩ := hEn e he
  refine even_of (fun g hg => ?_) (fun w hw => ?_)
  · have hw : ∀ v, v < n → wr Dp Pr Yb v g = false := fun v hv => by
      cases q : wr Dp Pr Yb v g with
      | false => rfl
      | true =>
        obtain ⟨z, z1, z2⟩ := wr_tree h v hv g q
        obtain ⟨_, _, r2, _⟩ := tr_edge h z1 z2
        omega
    unfold cE
    rw [hw _ a, hw _ b, decide_eq_false (by omega : ¬ g = e)]; rfl
  · have hr : pm_rt Pr (E (2 * e)) = pm_rt Pr (E (2 * e + 1)) := by
      rcases h.2.1 e he hx with g | g
      · exact rt_anc hn h b g
      · exact (rt_anc hn h a g).symm
    unfold cE
    rw [dgp_add, dgp_add, wr_dg hn h w _ a, wr_dg hn h w _ b, dgp_one w he, inc_xor w (hne e he), hr]
    dsimp only [eF, eS]
    generalize decide (E (2 * e) = w) = a1; generalize decide (E (2 * e + 1) = w) = a2; generalize decide (pm_rt Pr (E (2 * e + 1)) = w) = a3
    cases a1 <;> cases a2 <;> cases a3 <;> rfl
theorem cE_tree (hEn : ∀ e, e < k → E (2 * e) < n ∧ E (2 * e + 1) < n) (h : Forest n k E x Dp Pr Yb) {e : Nat} (ht : trE n Yb e) (g : Nat) : cE E Dp Pr Yb e g = false := by
  obtain ⟨z, z1, z2⟩ := ht
  obtain ⟨p, p1, p2, p3, p4, p5, p6⟩ := tr_edge h z1 z2
  unfold cE
  rcases p4 with ⟨q1, q2⟩ | ⟨q1, q2⟩
  · rw [q1, q2, wr_par h z1 p5 z2]
    generalize wr Dp Pr Yb p g = a1; generalize decide (g = e) = a2
    cases a1 <;> cases a2 <;> rfl
  · rw [q1, q2, wr_par h z1 p5 z2]
    generalize wr Dp Pr Yb p g = a1; generalize decide (g = e) = a2
    cases a1 <;> cases a2 <;> rfl
theorem cE_out (hEn : ∀ e, e < k → E (2 * e) < n ∧ E (2 * e + 1) < n) (h : Forest n k E x Dp Pr Yb) {e g : Nat} (he : e < k) (hg : ¬ trE n Yb g) : cE E Dp Pr Yb e g = decide (g = e) := by
  obtain ⟨a, b⟩ := hEn e he
  have hw : ∀ v, v < n → wr Dp Pr Yb v g = false := fun v hv => by
    cases q : wr Dp Pr Yb v g with
    | false => rfl
    | true => exact absurd (wr_tree h v hv g q) hg
  unfold cE
  rw [hw _ a, hw _ b]
  cases decide (g = e) <;> rfl
theorem even_sum {n k : Nat} {F S : Nat → Nat} (m : Nat) (f : Nat → Nat → Bool) (hf : ∀ e, e < m → pg_even n k F S (f e)) : pg_even n k F S (fun g => xr m (fun e => f e g)) := by
  induction m with
  | zero => exact even_zero (fun _ => rfl)
  | succ m ih => exact pg_even_add (ih (fun e he => hf e (by omega))) (hf m (by omega))
theorem even_and {n k : Nat} {F S : Nat → Nat} {Z : Nat → Bool} (c : Bool) (h : c = true → pg_even n k F S Z) : pg_even n k F S (fun g => c && Z g) := by
  cases c with
  | true => exact even_congr (fun e => (Bool.true_and _).symm) (h rfl)
  | false => exact even_zero (fun _ => rfl)
/-- an even set is the sum of the circles of its edges -/
theorem even_is (hn : n ≤ 10) (hk : k ≤ 18) (hEn : ∀ e, e < k → E (2 * e) < n ∧ E (2 * e + 1) < n) (hne : ∀ e, e < k → E (2 * e) ≠ E (2 * e + 1)) (h : Forest n k E x Dp Pr Yb) {Z : Nat → Bool} (hZ : pg_even n k (eF E) (eS E) Z) (hX : ∀ e, Z e = true → Xi x k e = true) (g : Nat) : Z g = xr k (fun e => Z e && cE E Dp Pr Yb e g) := by
  have hS : pg_even n k (eF E) (eS E) (fun g => xr k (fun e => Z e && cE E Dp Pr Yb e g)) := even_sum k _ (fun e he => even_and _ (fun hz => cE_even hn hEn hne h he (by rw [pm_has_bt x (by omega)]; exact (Xi_t.mp (hX e hz)).2)))
  have hD := tr_acyc h (pg_even_add hZ hS) (fun g' hg' => by
    refine Classical.byContradiction fun q => ?_
    dsimp only [pg_add] at hg'
    by_cases hgk : g' < k
    · rw [xr_one hgk (fun e he hne' => by rw [cE_out hEn h he q, decide_eq_false (fun z => hne' z.symm), Bool.and_false]), cE_out hEn h hgk q, decide_eq_true rfl, Bool.and_true, Bool.xor_self] at hg'
      cases hg'
    · have h9 : xr k (fun e => Z e && cE E Dp Pr Yb e g') = false := hS.1 g' (by omega)
      rw [hZ.1 g' (by omega), h9] at hg'
      cases hg') g
  dsimp only [pg_add] at hD
  generalize Z g = a1 at hD ⊢
  generalize xr k (fun e => Z e && cE E Dp Pr Yb e g) = a2 at hD ⊢
  cases a1 <;> cases a2 <;> first | rfl | cases hD
/-- a circle lies in a separator or off it -/
theorem cE_sep (hn : n ≤ 10) (hk : k ≤ 18) (hEn : ∀ e, e < k → E (2 * e) < n ∧ E (2 * e + 1) < n) (hne : ∀ e, e < k → E (2 * e) ≠ E (2 * e + 1)) (h : Forest n k E x Dp Pr Yb) {K : Nat → Bool} (hK : Sep n k (eF E) (eS E) (Xi x k) K) {e : Nat} (he : e < k) (hx : pm_has x (nI e) = true) (hnt : ¬ trE n Yb e) {g : Nat} (hg : cE E Dp Pr Yb e g = true) : K g = K e := by
  have hce := cE_even hn hEn hne h he hx
  have hee : cE E Dp Pr Yb e e = true := by rw [cE_out hEn h he hnt, decide_eq_true rfl]
  have hcT : ∀ g, cE E Dp Pr Yb e g = true → g ≠ e → trE n Yb g := fun g hg' hne' => by
    refine Classical.byContradiction fun q => ?_
    rw [cE_out hEn h he q, decide_eq_false hne'] at hg'
    cases hg'
  have hcX : ∀ g, cE E Dp Pr Yb e g = true → Xi x k g = true := fun g hg' => by
    by_cases q : g = e
    · rw [q]; exact Xi_t.mpr ⟨he, by rw [← pm_has_bt x (by omega)]; exact hx⟩
    · obtain ⟨z, z1, z2⟩ := hcT g hg' q
      obtain ⟨p, _, p2, p3, _⟩ := tr_edge h z1 z2
      exact Xi_t.mpr ⟨p2, by rw [← pm_has_bt x (by omega)]; exact p3⟩
  have hcK := hK _ hce hcX
  cases hKe : K e with
  | false =>
    have := tr_acyc h hcK (fun g' hg' => by
      rw [Bool.and_eq_true] at hg'
      exact hcT g' hg'.1 (fun z => by rw [z, hKe] at hg'; cases hg'.2)) g
    rw [hg, Bool.true_and] at this
    exact this
  | true =>
    have := tr_acyc h (pg_even_add hce hcK) (fun g' hg' => by
      dsimp only [pg_add] at hg'
      have hcg : cE E Dp Pr Yb e g' = true := by
        cases z : cE E Dp Pr Yb e g' with
        | true => rfl
        | false => rw [z] at hg'; cases hg'
      refine hcT g' hcg (fun z => ?_)
      rw [z, hee, hKe] at hg'; cases hg') g
    dsimp only [pg_add] at this
    rw [hg, Bool.true_and] at this
    cases z : K g with
    | true => rfl
    | false => rw [z] at this; cases this
/-- on the way from d up to t -/
theorem way_mem (h : Forest n k E x Dp Pr Yb) {t : Nat} : ∀ d, d < n → anc Pr t d → ∀ g, (wr Dp Pr Yb d g ^^ wr Dp Pr Yb t g) = true → ∃ z, z < n ∧ Yb z = g + 1 ∧ anc Pr z d ∧ ¬ anc Pr z t := by
  refine fo_ind h (fun d hd h0 _ ha g hg => ?_) (fun d p e hd hp he _ _ q1 q2 q3 ih ha g hg => ?_)
  · rcases anc_step ha with q | ⟨p, q, _⟩
    · rw [q, Bool.xor_self] at hg; cases hg
    · omega
  · rcases anc_step ha with q | ⟨p', q, ha'⟩
    · rw [q, Bool.xor_self] at hg; cases hg
    · have : p' = p := by omega
      subst this
      rw [wr_par h hd q1 q2] at hg
      by_cases z : g = e
      · refine ⟨d, hd, by rw [z]; exact q2, anc_refl _ _, fun w => ?_⟩
        have tp := anc_lt h hp ha'
        have dt := anc_lt h tp.1 w
        have l1 : dep Dp t ≤ dep Dp p' := by
          rcases tp.2 with s | s
          · rw [s]; exact Nat.le_refl _
          · exact Nat.le_of_lt s
        have l2 : dep Dp d ≤ dep Dp t := by
          rcases dt.2 with s | s
          · rw [s]; exact Nat.le_refl _
          · exact Nat.le_of_lt s
        omega
      · rw [decide_eq_false z, Bool.false_xor] at hg
        obtain ⟨y, y1, y2, y3, y4⟩ := ih ha' g hg
        exact ⟨y, y1, y2, anc_trans y3 (anc_par q1), y4⟩
end RB
