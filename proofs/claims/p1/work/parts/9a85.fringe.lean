/-! the fringes in words; what the comparisons ask of sides -/
theorem coll {g : Nat → Int32 → Int32} {P : Nat → Prop} (h1 : ∀ f d, P f → g f d = d ||| (1 <<< (nI f &&& 31))) (h0 : ∀ f d, ¬ P f → g f d = d) : ∀ m, m ≤ 32 → ∀ i, bt (fo g m 0) i = true ↔ i < m ∧ P i
  | 0, _, i => by
    rw [show fo g 0 0 = (0 : Int32) from rfl, b_0]
    exact ⟨fun h => (by cases h), fun h => absurd h.1 (Nat.not_lt_zero i)⟩
  | m + 1, hm, i => by
    have ih := coll h1 h0 m (by omega) i
    rw [fo_s]
    by_cases c : P m
    · rw [h1 m _ c, b_or, Bool.or_eq_true, ih]
      rcases Nat.lt_or_ge i 32 with hi | hi
      · rw [b_one m (by omega) i hi, decide_eq_true_iff]
        constructor
        · rintro (q | q)
          · exact ⟨by omega, q.2⟩
          · rw [q]; exact ⟨by omega, c⟩
        · rintro ⟨q1, q2⟩
          by_cases e : i = m
          · exact Or.inr e
          · exact Or.inl ⟨by omega, q2⟩
      · rw [b_big hi]
        constructor
        · rintro (q | q)
          · exact ⟨by omega, q.2⟩
          · cases q
        · rintro ⟨q1, _⟩; omega
    · rw [h0 m _ c, ih]
      constructor
      · rintro ⟨q1, q2⟩; exact ⟨by omega, q2⟩
      · rintro ⟨q1, q2⟩
        by_cases e : i = m
        · rw [e] at q2; exact absurd q2 c
        · exact ⟨by omega, q2⟩
section FR
variable {n k : Nat} {E : Nat → Nat} {x : Int32} {Dp : Nat → Int32} {Pr Yb dq sh : Nat → Nat}
/-- back edge f of the part leaves v upwards by the edge e -/
def Fr (n k : Nat) (x : Int32) (Dp : Nat → Int32) (Pr Yb dq sh : Nat → Nat) (v e f : Nat) : Prop := f < k ∧ pm_has x (nI f) = true ∧ ¬ trE n Yb f ∧ anc Pr (sh f) v ∧ sh f ≠ v ∧ anc Pr v (dq f) ∧ outF Dp Pr Yb dq f v = e
theorem yb_iff (hk : k ≤ 18) (h : Forest n k E x Dp Pr Yb) {v e : Nat} (hv : v < n) (he : e < k) : oI (Yb v) = nI e ↔ Yb v = e + 1 := by
  constructor
  · intro q
    cases y : Yb v with
    | zero =>
      rw [y, oI_0] at q
      have := nI_pos' (n := e) (by omega)
      rw [← q] at this
      exact absurd this m1_neg
    | succ c =>
      rw [y, oI_s] at q
      obtain ⟨_, _, hc, _⟩ := tr_edge h hv y
      have := (nI_eq (by omega) (by omega)).mp q
      omega
  · intro q; rw [q, oI_s]
theorem dp_le (h : Forest n k E x Dp Pr Yb) {u v : Nat} (hu : u < n) (hv : v < n) : Dp u ≤ Dp v ↔ dep Dp u ≤ dep Dp v := by
  have e1 := fo_dep h hu
  have e2 := fo_dep h hv
  rw [e1.2.1, e2.2.1, nI_leI (by omega) (by omega)]
theorem anc_deep (h : Forest n k E x Dp Pr Yb) {a b : Nat} (hb : b < n) (hab : anc Pr a b) (hne : a ≠ b) : dep Dp a < dep Dp b := by
  rcases (anc_lt h hb hab).2 with q | q
  · exact absurd q hne
  · exact q
theorem fr1_bt (hk : k ≤ 18) (v t : Nat) (i : Nat) : bt (fo (pm_fr1 x E Yb Pr dq sh Dp v t) k 0) i = true ↔ i < k ∧ (pm_bk x E Yb i = true ∧ ¬ Dp v ≤ Dp (sh i) ∧ pm_below Pr (dq i) t = true) :=
  coll (g := pm_fr1 x E Yb Pr dq sh Dp v t) (P := fun f => pm_bk x E Yb f = true ∧ ¬ Dp v ≤ Dp (sh f) ∧ pm_below Pr (dq f) t = true) (fun f d hp => by unfold pm_fr1; rw [if_pos hp]) (fun f d hp => by unfold pm_fr1; rw [if_neg hp]) k (by omega) i
theorem fr_iff (hn : n ≤ 10) (hk : k ≤ 18) (hE : ∀ j, E j < 10) (hEn : ∀ e, e < k → E (2 * e) < n ∧ E (2 * e + 1) < n) (hne : ∀ e, e < k → E (2 * e) ≠ E (2 * e + 1)) (h : Forest n k E x Dp Pr Yb) (hb : bEnds n k E x Pr dq sh) {v e : Nat} (hv : v < n) (he : e < k) (f : Nat) : bt (pm_fr k x E Yb Pr dq sh Dp e v) f = true ↔ Fr n k x Dp Pr Yb dq sh v e f := by
  have hint := int_iff hn hk hEn h he
  constructor
  · intro hf
    unfold pm_fr at hf
    by_cases c1 : pm_has x (nI e) = true ∧ pm_tch E e v = true
    · rw [if_pos c1] at hf
      by_cases c2 : pm_int E Yb e = true
      · rw [if_pos c2] at hf
        have hj := oth_jn hE (by omega) c1.2
        generalize pm_oth E e v = c at hf hj
        have hcn : c < n := by
          rcases hj with ⟨_, q⟩ | ⟨q, _⟩
          · rw [← q]; exact (hEn e he).2
          · rw [← q]; exact (hEn e he).1
        by_cases c3 : oI (Yb c) = nI e
        · rw [if_pos c3] at hf
          have hyc := (yb_iff hk h hcn he).mp c3
          obtain ⟨p, p1, p2, p3, p4, p5, p6⟩ := tr_edge h hcn hyc
          have hpv : p = v := by
            have := hne e he
            rcases hj with ⟨q1, q2⟩ | ⟨q1, q2⟩ <;> rcases p4 with ⟨r1, r2⟩ | ⟨r1, r2⟩ <;> omega
          subst hpv
          obtain ⟨g1, g2, g3, g4⟩ := (fr1_bt hk p c f).mp hf
          unfold pm_bk at g2
          rw [Bool.and_eq_true, Bool.not_eq_true'] at g2
          have hbf := hb f g1
          have hnt : ¬ trE n Yb f := fun q => by
            have := (int_iff hn hk hEn h g1).mpr q
            rw [this] at g2; cases g2.2
          have hcd := (below_iff hn h hbf.1 hcn).mp g4
          rw [dp_le h p1 hbf.2.1] at g3
          have hvd := anc_trans (anc_par p5) hcd
          have hsd := hbf.2.2.2.2 g2.1
          have hsv : anc Pr (sh f) p := by
            rcases anc_lin hsd hvd with q | q
            · exact q
            · by_cases z : p = sh f
              · rw [z]; exact anc_refl _ _
              · have := anc_deep h hbf.2.1 q z
                omega
          have hdc := (anc_lt h hbf.1 hcd).2
          refine ⟨g1, g2.1, hnt, hsv, fun q => by rw [q] at g3; omega, hvd, ?_⟩
          unfold outF
          rw [if_neg (fun q => ?_), chd_one h hbf.1 hcn p5 hcd, hyc, Nat.add_sub_cancel]
          rw [← q] at hdc
          have hd6 : (Dp c).toNatClampNeg = (Dp p).toNatClampNeg + 1 := p6
          rcases hdc with w | w
          · rw [w] at hd6; omega
          · omega
        · rw [if_neg c3, b_0] at hf; cases hf
      · rw [if_neg c2] at hf
        by_cases c3 : nI (dq e) = nI v
        · rw [if_pos c3, b_one e (by omega) f (bt_lt hf), decide_eq_true_iff] at hf
          subst hf
          have hbf := hb f he
          have hdv : dq f = v := (nI_eq (by omega) (by omega)).mp c3
          refine ⟨he, c1.1, fun q => c2 (hint.mpr q), ?_, ?_, ?_, ?_⟩
          · rw [← hdv]; exact hbf.2.2.2.2 c1.1
          · rw [← hdv]; exact hbf.2.2.2.1
          · rw [hdv]; exact anc_refl _ _
          · unfold outF; rw [if_pos hdv.symm]
        · rw [if_neg c3, b_0] at hf; cases hf
    · rw [if_neg c1, b_0] at hf; cases hf
  · rintro ⟨g1, g2, g3, g4, g5, g6, g7⟩
    have hbf := hb f g1
    obtain ⟨_, i2⟩ := io_ok h hb g1 g2 hv g4 g6
    rcases i2 with ⟨q1, q2⟩ | ⟨q1, c, c1, c2, c3, c4⟩
    · have hfe : f = e := by rw [← g7, q2]
      subst hfe
      have ht := oth_of (E := E) (e := f) (v := dq f) (w := sh f) hE (by omega) (fun z => hbf.2.2.2.1 z.symm) (jn_symm hbf.2.2.1)
      unfold pm_fr
      rw [if_pos ⟨g2, by rw [q1]; exact ht.1⟩, if_neg (fun q => g3 (hint.mp q)), if_pos (by rw [q1]), b_one f (by omega) f (by omega)]
      exact decide_eq_true rfl
    · rw [g7] at c4
      obtain ⟨p, p1, p2, p3, p4, p5, p6⟩ := tr_edge h c1 c4
      have hpv : p = v := by omega
      subst hpv
      have hpc : p ≠ c := fun z => by rw [z] at p6; omega
      have ht := oth_of (E := E) (e := e) (v := p) (w := c) hE (by omega) hpc p4
      unfold pm_fr
      rw [if_pos ⟨p3, ht.1⟩, if_pos (hint.mpr ⟨c, c1, c4⟩), ht.2, if_pos ((yb_iff hk h c1 he).mpr c4)]
      refine (fr1_bt hk p c f).mpr ⟨g1, ?_, ?_, (below_iff hn h hbf.1 c1).mpr c3⟩
      · unfold pm_bk
        rw [g2, Bool.true_and, Bool.not_eq_true']
        cases w : pm_int E Yb f with
        | false => rfl
        | true => exact absurd ((int_iff hn hk hEn h g1).mp w) g3
      · rw [dp_le h hv hbf.2.1]
        have := anc_deep h hv g4 g5
        omega
theorem lo1_ok (z d0 : Int32) : ∀ m, m ≤ 32 → (∀ g, g < m → bt z g = true → fo (pm_lo1 Dp sh z) m d0 ≤ Dp (sh g)) ∧ fo (pm_lo1 Dp sh z) m d0 ≤ d0 ∧ (fo (pm_lo1 Dp sh z) m d0 = d0 ∨ ∃ g, g < m ∧ bt z g = true ∧ fo (pm_lo1 Dp sh z) m d0 = Dp (sh g))
  | 0, _ => ⟨fun g hg => absurd hg (Nat.not_lt_zero g), Int32.le_refl _, Or.inl rfl⟩
  | m + 1, hm => by
    obtain ⟨i1, i2, i3⟩ := lo1_ok z d0 m (by omega)
    rw [fo_s]
    generalize fo (pm_lo1 Dp sh z) m d0 = d at i1 i2 i3 ⊢
    unfold pm_lo1
    by_cases c : pm_has z (nI m) = true ∧ ¬ d ≤ Dp (sh m)
    · rw [if_pos c]
      have hlt : Dp (sh m) ≤ d := Int32.le_of_lt (Int32.not_le.mp c.2)
      refine ⟨fun g hg hz => ?_, Int32.le_trans hlt i2, Or.inr ⟨m, by omega, by rw [pm_has_bt z (by omega)] at c; exact c.1, rfl⟩⟩
      by_cases e : g = m
      · rw [e]; exact Int32.le_refl _
      · exact Int32.le_trans hlt (i1 g (by omega) hz)
    · rw [if_neg c]
      refine ⟨fun g hg hz => ?_, i2, i3.elim Or.inl (fun ⟨g, q1, q2⟩ => Or.inr ⟨g, by omega, q2⟩)⟩
      by_cases e : g = m
      · rw [e] at hz ⊢
        exact Classical.byContradiction fun q => c ⟨by rw [pm_has_bt z (by omega)]; exact hz, q⟩
      · exact i1 g (by omega) hz
theorem dl_iff (hk : k ≤ 18) (h : Forest n k E x Dp Pr Yb) (hb : bEnds n k E x Pr dq sh) {y z : Int32} {v : Nat} (hv : v < n) (hy : ∀ f, bt y f = true → f < k ∧ dep Dp (sh f) < dep Dp v) (hz : ∀ f, bt z f = true → f < k) (f : Nat) : bt (pm_dl k Dp sh y z v) f = true ↔ bt y f = true ∧ ∃ g, bt z g = true ∧ dep Dp (sh g) < dep Dp (sh f) := by
  obtain ⟨l1, l2, l3⟩ := lo1_ok (Dp := Dp) (sh := sh) z (Dp v) k (by omega)
  unfold pm_dl
  generalize fo (pm_lo1 Dp sh z) k (Dp v) = lo at l1 l2 l3 ⊢
  rw [coll (g := pm_de1 Dp sh y lo) (P := fun f => pm_has y (nI f) = true ∧ ¬ Dp (sh f) ≤ lo) (fun f d hp => by unfold pm_de1; rw [if_pos hp]) (fun f d hp => by unfold pm_de1; rw [if_neg hp]) k (by omega) f]
  constructor
  · rintro ⟨q1, q2, q3⟩
    rw [pm_has_bt y (by omega)] at q2
    refine ⟨q2, ?_⟩
    rcases l3 with r | ⟨g, g1, g2, g3⟩
    · rw [r, dp_le h (hb f q1).2.1 hv] at q3
      have := (hy f q2).2
      omega
    · rw [g3, dp_le h (hb f q1).2.1 (hb g g1).2.1] at q3
      exact ⟨g, g2, by omega⟩
  · rintro ⟨q1, g, g1, g2⟩
    have hf := (hy f q1).1
    have hg := hz g g1
    refine ⟨hf, by rw [pm_has_bt y (by omega)]; exact q1, fun r => ?_⟩
    have := Int32.le_trans r (l1 g hg g1)
    rw [dp_le h (hb f hf).2.1 (hb g hg).2.1] at this
    omega
/-- f leaves v by e1, and something that leaves v by e2 comes higher up -/
def Am (n k : Nat) (x : Int32) (Dp : Nat → Int32) (Pr Yb dq sh : Nat → Nat) (v e1 e2 f : Nat) : Prop := Fr n k x Dp Pr Yb dq sh v e1 f ∧ ∃ g, Fr n k x Dp Pr Yb dq sh v e2 g ∧ dep Dp (sh g) < dep Dp (sh f)
theorem dlA (hn : n ≤ 10) (hk : k ≤ 18) (hE : ∀ j, E j < 10) (hEn : ∀ e, e < k → E (2 * e) < n ∧ E (2 * e + 1) < n) (hne : ∀ e, e < k → E (2 * e) ≠ E (2 * e + 1)) (h : Forest n k E x Dp Pr Yb) (hb : bEnds n k E x Pr dq sh) {v e1 e2 : Nat} (hv : v < n) (h1 : e1 < k) (h2 : e2 < k) (f : Nat) : bt (pm_dl k Dp sh (pm_fr k x E Yb Pr dq sh Dp e1 v) (pm_fr k x E Yb Pr dq sh Dp e2 v) v) f = true ↔ Am n k x Dp Pr Yb dq sh v e1 e2 f := by
  have f1 := fr_iff hn hk hE hEn hne h hb hv h1
  have f2 := fr_iff hn hk hE hEn hne h hb hv h2
  rw [dl_iff hk h hb hv (fun f hf => ⟨((f1 f).mp hf).1, anc_deep h hv ((f1 f).mp hf).2.2.2.1 ((f1 f).mp hf).2.2.2.2.1⟩) (fun f hf => ((f2 f).mp hf).1) f, f1 f]
  unfold Am
  exact and_congr_right fun _ => ⟨fun ⟨g, q1, q2⟩ => ⟨g, (f2 g).mp q1, q2⟩, fun ⟨g, q1, q2⟩ => ⟨g, (f2 g).mpr q1, q2⟩⟩
/-- what the comparisons ask of the sides -/
def SATm (n k : Nat) (x : Int32) (Dp : Nat → Int32) (Pr Yb dq sh : Nat → Nat) (lam : Nat → Bool) : Prop := ∀ v e1 e2, v < n → e1 < k → e2 < k → e1 ≠ e2 → (∀ f f', Am n k x Dp Pr Yb dq sh v e1 e2 f → Am n k x Dp Pr Yb dq sh v e1 e2 f' → lam f = lam f') ∧ (∀ f g, Am n k x Dp Pr Yb dq sh v e1 e2 f → Am n k x Dp Pr Yb dq sh v e2 e1 g → lam f ≠ lam g)
theorem sat_iff (hn : n ≤ 10) (hk : k ≤ 18) (hE : ∀ j, E j < 10) (hEn : ∀ e, e < k → E (2 * e) < n ∧ E (2 * e + 1) < n) (hne : ∀ e, e < k → E (2 * e) ≠ E (2 * e + 1)) (h : Forest n k E x Dp Pr Yb) (hb : bEnds n k E x Pr dq sh) (lam : Nat → Bool) : (∀ v, v < n → SAT k x E Dp Pr Yb dq sh lam v) ↔ SATm n k x Dp Pr Yb dq sh lam := by
  constructor
  · intro hs v e1 e2 hv h1 h2 h12
    have f1 := fr_iff hn hk hE hEn hne h hb hv h1
    have f2 := fr_iff hn hk hE hEn hne h hb hv h2
    have d1 := dlA hn hk hE hEn hne h hb hv h1 h2
    have d2 := dlA hn hk hE hEn hne h hb hv h2 h1
    have n1 : ∀ f, Am n k x Dp Pr Yb dq sh v e1 e2 f → ¬ pm_fr k x E Yb Pr dq sh Dp e1 v = 0 ∧ ¬ pm_fr k x E Yb Pr dq sh Dp e2 v = 0 := fun f ⟨q1, g, q2, _⟩ =>
      ⟨fun z => (by have := (f1 f).mpr q1; rw [z, b_0] at this; cases this), fun z => (by have := (f2 g).mpr q2; rw [z, b_0] at this; cases this)⟩
    rcases Nat.lt_or_gt_of_ne h12 with q | q
    · refine ⟨fun f f' a a' => ?_, fun f g a b => ?_⟩
      · exact (hs v hv e2 e1 h2 q (n1 f a).2 (n1 f a).1).2.1 f f' ((d1 f).mpr a) ((d1 f').mpr a')
      · exact fun z => (hs v hv e2 e1 h2 q (n1 f a).2 (n1 f a).1).2.2 g f ((d2 g).mpr b) ((d1 f).mpr a) z.symm
    · refine ⟨fun f f' a a' => ?_, fun f g a b => ?_⟩
      · exact (hs v hv e1 e2 h1 q (n1 f a).1 (n1 f a).2).1 f f' ((d1 f).mpr a) ((d1 f').mpr a')
      · exact (hs v hv e1 e2 h1 q (n1 f a).1 (n1 f a).2).2.2 f g ((d1 f).mpr a) ((d2 g).mpr b)
  · intro hs v hv e1 e2 h1 h21 _ _
    have h2 : e2 < k := by omega
    have d1 := dlA hn hk hE hEn hne h hb hv h1 h2
    have d2 := dlA hn hk hE hEn hne h hb hv h2 h1
    have s1 := hs v e1 e2 hv h1 h2 (by omega)
    have s2 := hs v e2 e1 hv h2 h1 (by omega)
    exact ⟨fun f g a b => s1.1 f g ((d1 f).mp a) ((d1 g).mp b), fun f g a b => s2.1 f g ((d2 f).mp a) ((d2 g).mp b), fun f g a b => s1.2 f g ((d1 f).mp a) ((d2 g).mp b)⟩
end FR
