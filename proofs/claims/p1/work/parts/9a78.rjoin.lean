/-! the reference joins along circles: its classes are those of the separators -/
section RJ
variable {n k : Nat} {E : Nat → Nat} {x : Int32} {Dp : Nat → Int32} {Pr Yb : Nat → Nat}
theorem tr_child (h : Forest n k E x Dp Pr Yb) {z z' g : Nat} (hz : z < n) (hz' : z' < n) (h1 : Yb z = g + 1) (h2 : Yb z' = g + 1) : z = z' := by
  obtain ⟨p, _, _, _, p4, _, p6⟩ := tr_edge h hz h1
  obtain ⟨q, _, _, _, q4, _, q6⟩ := tr_edge h hz' h2
  refine Classical.byContradiction fun hne => ?_
  have e1 : z = q ∧ z' = p := by
    rcases p4 with ⟨a1, a2⟩ | ⟨a1, a2⟩ <;> rcases q4 with ⟨b1, b2⟩ | ⟨b1, b2⟩
    · exact absurd (by omega) hne
    · exact ⟨by omega, by omega⟩
    · exact ⟨by omega, by omega⟩
    · exact absurd (by omega) hne
  rw [e1.1] at p6
  rw [e1.2] at q6
  omega
theorem anc_anc (h : Forest n k E x Dp Pr Yb) {a b : Nat} (hb : b < n) (h1 : anc Pr a b) (h2 : anc Pr b a) : a = b := by
  have ha := anc_lt h hb h1
  have hb' := anc_lt h ha.1 h2
  rcases ha.2 with q | q
  · exact q
  · rcases hb'.2 with z | z
    · exact z.symm
    · omega
theorem wr_above (h : Forest n k E x Dp Pr Yb) : ∀ v, v < n → ∀ g, wr Dp Pr Yb v g = true → ∃ z, z < n ∧ Yb z = g + 1 ∧ anc Pr z v := by
  refine fo_ind h (fun v hv h0 _ g hg => ?_) (fun v p e hv hp _ _ _ q1 q2 _ ih g hg => ?_)
  · rw [wr_root h hv h0] at hg; cases hg
  · rw [wr_par h hv q1 q2] at hg
    by_cases z : g = e
    · exact ⟨v, hv, by rw [z]; exact q2, anc_refl _ _⟩
    · rw [decide_eq_false z, Bool.false_xor] at hg
      obtain ⟨y, y1, y2, y3⟩ := ih g hg
      exact ⟨y, y1, y2, anc_trans y3 (anc_par q1)⟩
/-- an edge between, seen from below -/
theorem way_in (h : Forest n k E x Dp Pr Yb) {t y g : Nat} (hy : y < n) (hty : anc Pr t y) (hne : t ≠ y) (hg : Yb y = g + 1) : ∀ d, d < n → anc Pr y d → (wr Dp Pr Yb d g ^^ wr Dp Pr Yb t g) = true := by
  have ht := anc_lt h hy hty
  have hwt : wr Dp Pr Yb t g = false := by
    cases q : wr Dp Pr Yb t g with
    | false => rfl
    | true =>
      obtain ⟨z, z1, z2, z3⟩ := wr_above h t ht.1 g q
      have : z = y := tr_child h z1 hy z2 hg
      rw [this] at z3
      exact absurd (anc_anc h hy hty z3) hne
  refine fo_ind h (fun d hd h0 _ ha => ?_) (fun d p e hd hp he _ _ q1 q2 q3 ih ha => ?_)
  · rcases anc_step ha with q | ⟨p, q, _⟩
    · subst q
      obtain ⟨p, _, _, _, _, p5, _⟩ := tr_edge h hy hg
      omega
    · omega
  · rw [hwt, Bool.xor_false, wr_par h hd q1 q2]
    rcases anc_step ha with q | ⟨p', q, ha'⟩
    · subst q
      have : g = e := by omega
      have hwp : wr Dp Pr Yb p g = false := by
        cases w : wr Dp Pr Yb p g with
        | false => rfl
        | true =>
          obtain ⟨z, z1, z2, z3⟩ := wr_above h p hp g w
          have e1 : z = y := tr_child h z1 hy z2 hg
          rw [e1] at z3
          have := anc_anc h hy (anc_par q1) z3
          rw [this] at q3
          omega
      rw [decide_eq_true this, hwp]; rfl
    · have : p' = p := by omega
      subst this
      have i := ih ha'
      rw [hwt, Bool.xor_false] at i
      have : ¬ g = e := fun z => by
        have e1 : d = y := tr_child h hd hy q2 (by rw [← z]; exact hg)
        rw [e1] at q1 q3
        have := anc_anc h hp ha' (anc_par q1)
        rw [← this] at q3
        omega
      rw [decide_eq_false this, i]; rfl
theorem pm_jn_at (e : Nat) (old : Int32) (B : Nat → Int32) : ∀ m j, fo (pm_jn e old) m B j = if j < m ∧ B j = old then B e else B j
  | 0, j => by rw [if_neg (fun h => by omega)]; rfl
  | m + 1, j => by
    have ih := pm_jn_at e old B m
    rw [fo_s]
    generalize fo (pm_jn e old) m B = s at ih ⊢
    unfold pm_jn
    have em : s m = B m := by rw [ih, if_neg (fun h => by omega)]
    have ee : s e = B e := by
      rw [ih]
      by_cases q : e < m ∧ B e = old
      · rw [if_pos q]
      · rw [if_neg q]
    rw [em, ee]
    by_cases q : j = m
    · subst q
      by_cases c : B j = old
      · rw [if_pos c, if_pos ⟨by omega, c⟩]; simp [upd]
      · rw [if_neg c, if_neg (fun h => c h.2)]; simp [upd]
    · by_cases c : B m = old
      · rw [if_pos c]
        simp only [upd, if_neg q]
        rw [ih]
        by_cases g : j < m ∧ B j = old
        · rw [if_pos g, if_pos ⟨by omega, g.2⟩]
        · rw [if_neg g, if_neg (fun h => g ⟨by omega, h.2⟩)]
      · rw [if_neg c]
        simp only [upd, if_neg q]
        rw [ih]
        by_cases g : j < m ∧ B j = old
        · rw [if_pos g, if_pos ⟨by omega, g.2⟩]
        · rw [if_neg g, if_neg (fun h => g ⟨by omega, h.2⟩)]
/-- labels are small, separators don't cut classes -/
def rbL (n k : Nat) (E : Nat → Nat) (x : Int32) (B : Nat → Int32) : Prop := (∀ j, j < k → ∃ c, c < k ∧ B j = nI c) ∧ ∀ K, Sep n k (eF E) (eS E) (Xi x k) K → ∀ a b, a < k → b < k → B a = B b → K a = K b
theorem f4_ok (hn : n ≤ 10) (hk : k ≤ 18) (hEn : ∀ e, e < k → E (2 * e) < n ∧ E (2 * e + 1) < n) (hne : ∀ e, e < k → E (2 * e) ≠ E (2 * e + 1)) (h : Forest n k E x Dp Pr Yb) {e d t : Nat} (he : e < k) (hx : pm_has x (nI e) = true) (hnt : ¬ trE n Yb e) (hd : d < n) (ht : t < n) (hends : (E (2 * e) = d ∧ E (2 * e + 1) = t) ∨ (E (2 * e) = t ∧ E (2 * e + 1) = d)) (hdt : anc Pr t d) {B : Nat → Int32} (hB : rbL n k E x B) :
    rbL n k E x (pm_f4 k Yb Pr e d t B).2 ∧ (∀ a b, a < k → b < k → B a = B b → (pm_f4 k Yb Pr e d t B).2 a = (pm_f4 k Yb Pr e d t B).2 b) ∧ (∀ g, cE E Dp Pr Yb e g = true → (pm_f4 k Yb Pr e d t B).2 g = (pm_f4 k Yb Pr e d t B).2 e) := by
  have hcE : ∀ g, cE E Dp Pr Yb e g = ((wr Dp Pr Yb d g ^^ wr Dp Pr Yb t g) ^^ decide (g = e)) := fun g => by
    unfold cE
    rcases hends with ⟨q1, q2⟩ | ⟨q1, q2⟩
    · rw [q1, q2]
    · rw [q1, q2, Bool.xor_comm (wr Dp Pr Yb t g)]
  have hw := wl_meas (dn := pm_f4D t) (st := pm_f4S k Yb Pr e) (fun s => s.1 < n ∧ anc Pr t s.1 ∧ anc Pr s.1 d ∧ rbL n k E x s.2 ∧ (∀ a b, a < k → b < k → B a = B b → s.2 a = s.2 b) ∧ (∀ z g, z < n → anc Pr z d → ¬ anc Pr z s.1 → Yb z = g + 1 → s.2 g = s.2 e)) (fun s => dep Dp s.1) (fun s hI hdn => by
    obtain ⟨i1, i2, i3, ⟨i4, i5⟩, i6, i7⟩ := hI
    unfold pm_f4D at hdn
    have hyt : ¬ nI s.1 = nI t := of_decide_eq_false hdn
    have hyt' : t ≠ s.1 := fun z => hyt (by rw [z])
    rcases anc_step i2 with q | ⟨p, q, hap⟩
    · exact absurd q hyt'
    obtain ⟨_, _, g⟩ := fo_dep h i1
    rcases g with ⟨g, _⟩ | ⟨p', g', q1, q2, q3, q4, q5, q6, q7⟩
    · omega
    have e1 : p' = p := by omega
    subst e1
    have hgk : Yb s.1 - 1 = g' := by omega
    have hcg : cE E Dp Pr Yb e g' = true := by
      have hge : ¬ g' = e := fun z => hnt ⟨s.1, i1, by rw [← z]; exact q2⟩
      rw [hcE, way_in h i1 i2 hyt' q2 d hd i3, decide_eq_false hge]; rfl
    have hat : ∀ j, j < k → (pm_f4S k Yb Pr e s).2 j = if s.2 j = s.2 g' then s.2 e else s.2 j := fun j hj => by
      show fo (pm_jn e (s.2 (Yb s.1 - 1))) k s.2 j = _
      rw [pm_jn_at, hgk]
      by_cases c : s.2 j = s.2 g'
      · rw [if_pos ⟨hj, c⟩, if_pos c]
      · rw [if_neg (fun z => c z.2), if_neg c]
    have hfst : (pm_f4S k Yb Pr e s).1 = p' := by
      show Pr s.1 - 1 = p'
      omega
    refine ⟨⟨by rw [hfst]; exact q3, by rw [hfst]; exact hap, by rw [hfst]; exact anc_trans (anc_par q1) i3, ⟨fun j hj => ?_, fun K hK a b ha hb hab => ?_⟩, fun a b ha hb hab => ?_, fun z gz hz hzd hzp hyz => ?_⟩, ?_⟩
    · rw [hat j hj]
      by_cases c : s.2 j = s.2 g'
      · rw [if_pos c]; exact i4 e he
      · rw [if_neg c]; exact i4 j hj
    · have hKge : K g' = K e := cE_sep hn hk hEn hne h hK he hx hnt hcg
      rw [hat a ha, hat b hb] at hab
      by_cases c1 : s.2 a = s.2 g' <;> by_cases c2 : s.2 b = s.2 g'
      · exact i5 K hK a b ha hb (c1.trans c2.symm)
      · rw [if_pos c1, if_neg c2] at hab
        rw [i5 K hK a g' ha q4 c1, hKge]
        exact i5 K hK e b he hb hab
      · rw [if_neg c1, if_pos c2] at hab
        rw [i5 K hK b g' hb q4 c2, hKge]
        exact i5 K hK a e ha he hab
      · rw [if_neg c1, if_neg c2] at hab
        exact i5 K hK a b ha hb hab
    · have := i6 a b ha hb hab
      rw [hat a ha, hat b hb, this]
    · rw [hfst] at hzp
      obtain ⟨_, _, gzk, _⟩ := tr_edge h hz hyz
      rw [hat gz gzk, hat e he]
      by_cases c : anc Pr z s.1
      · rcases anc_step c with w | ⟨p2, w1, w2⟩
        · subst w
          have : gz = g' := by omega
          subst this
          rw [if_pos rfl]
          by_cases c2 : s.2 e = s.2 gz
          · rw [if_pos c2]
          · rw [if_neg c2]
        · have : p2 = p' := by omega
          rw [this] at w2
          exact absurd w2 hzp
      · rw [i7 z gz hz hzd c hyz]
    · rw [hfst]
      show dep Dp p' < dep Dp s.1
      have : dep Dp s.1 = dep Dp p' + 1 := q7
      omega) 12 (d, B) ⟨hd, hdt, anc_refl _ _, hB, fun a b _ _ hab => hab, fun z g _ hz hnz _ => absurd hz hnz⟩ (by have : dep Dp d ≤ 9 := (fo_dep h hd).1; show dep Dp d ≤ 12; omega)
  obtain ⟨hdn, i1, i2, i3, i4, i6, i7⟩ := hw
  have hdn' : pm_f4D t (pm_f4 k Yb Pr e d t B) = true := hdn
  unfold pm_f4D at hdn'
  have hy : (pm_f4 k Yb Pr e d t B).1 = t := by
    have i1' : (pm_f4 k Yb Pr e d t B).1 < n := i1
    exact (nI_eq (by omega) (by omega)).mp (of_decide_eq_true hdn')
  refine ⟨i4, i6, fun g hg => ?_⟩
  by_cases q : g = e
  · rw [q]
  · rw [hcE, decide_eq_false q, Bool.xor_false] at hg
    obtain ⟨z, z1, z2, z3, z4⟩ := way_mem h d hd hdt g hg
    have i7' : ∀ z g, z < n → anc Pr z d → ¬ anc Pr z (pm_f4 k Yb Pr e d t B).1 → Yb z = g + 1 → (pm_f4 k Yb Pr e d t B).2 g = (pm_f4 k Yb Pr e d t B).2 e := i7
    exact i7' z g z1 z3 (by rw [hy]; exact z4) z2
theorem int_iff (hn : n ≤ 10) (hk : k ≤ 18) (hEn : ∀ e, e < k → E (2 * e) < n ∧ E (2 * e + 1) < n) (h : Forest n k E x Dp Pr Yb) {e : Nat} (he : e < k) : pm_int E Yb e = true ↔ trE n Yb e := by
  obtain ⟨a, b⟩ := hEn e he
  have hend : ∀ v, v < n → (oI (Yb v) = nI e ↔ Yb v = e + 1) := fun v hv => by
    constructor
    · intro q
      cases y : Yb v with
      | zero =>
        rw [y, oI_0] at q
        have := nI_pos' (n := e) (by omega)
        rw [← q] at this
        exact absurd this m1_neg
      | succ c =>
        rw [y, oI_s] at q
        obtain ⟨_, _, hc, _⟩ := tr_edge h hv y
        have := (nI_eq (by omega) (by omega)).mp q
        omega
    · intro q; rw [q, oI_s]
  unfold pm_int
  rw [decide_eq_true_iff, hend _ a, hend _ b]
  constructor
  · rintro (q | q)
    · exact ⟨_, a, q⟩
    · exact ⟨_, b, q⟩
  · rintro ⟨z, z1, z2⟩
    obtain ⟨p, _, _, _, p4, _⟩ := tr_edge h z1 z2
    rcases p4 with ⟨q1, q2⟩ | ⟨q1, q2⟩
    · exact Or.inr (by rw [q2]; exact z2)
    · exact Or.inl (by rw [q1]; exact z2)
theorem f1_at (B : Nat → Int32) : ∀ m j, j < m → fo pm_f1 m B j = nI j
  | 0, j, h => by omega
  | m + 1, j, h => by
    rw [fo_s]
    unfold pm_f1
    by_cases q : j = m
    · subst q; simp [upd]
    · simp only [upd, if_neg q]; exact f1_at B m j (by omega)
/-- the reference's labels before they are numbered -/
theorem f2_ok (hn : n ≤ 10) (hk : k ≤ 18) (hEn : ∀ e, e < k → E (2 * e) < n ∧ E (2 * e + 1) < n) (hne : ∀ e, e < k → E (2 * e) ≠ E (2 * e + 1)) (h : Forest n k E x Dp Pr Yb) (dq sh : Nat → Nat) (B : Nat → Int32) : ∀ m, m ≤ k →
    rbL n k E x (fo (pm_f2 k x E Yb Pr (fo (pm_p3 E Dp) k (dq, sh)).1 (fo (pm_p3 E Dp) k (dq, sh)).2) m (fo pm_f1 k B)) ∧ ∀ e, e < m → pm_has x (nI e) = true → ∀ g, cE E Dp Pr Yb e g = true → fo (pm_f2 k x E Yb Pr (fo (pm_p3 E Dp) k (dq, sh)).1 (fo (pm_p3 E Dp) k (dq, sh)).2) m (fo pm_f1 k B) g = fo (pm_f2 k x E Yb Pr (fo (pm_p3 E Dp) k (dq, sh)).1 (fo (pm_p3 E Dp) k (dq, sh)).2) m (fo pm_f1 k B) e
  | 0, _ => by
    refine ⟨⟨fun j hj => ⟨j, hj, f1_at B k j hj⟩, fun K _ a b ha hb hab => ?_⟩, fun e he => by omega⟩
    have hab' : fo pm_f1 k B a = fo pm_f1 k B b := hab
    rw [f1_at B k a ha, f1_at B k b hb] at hab'
    rw [(nI_eq (by omega) (by omega)).mp hab']
  | m + 1, hm => by
    obtain ⟨i1, i2⟩ := f2_ok hn hk hEn hne h dq sh B m (by omega)
    rw [fo_s]
    generalize fo (pm_f2 k x E Yb Pr (fo (pm_p3 E Dp) k (dq, sh)).1 (fo (pm_p3 E Dp) k (dq, sh)).2) m (fo pm_f1 k B) = B1 at i1 i2 ⊢
    unfold pm_f2
    have hce : ∀ e g, e < k → pm_has x (nI e) = true → cE E Dp Pr Yb e g = true → g < k := fun e g he hx hg => by
      refine Classical.byContradiction fun q => ?_
      rw [(cE_even hn hEn hne h he hx).1 g (by omega)] at hg
      cases hg
    by_cases c : pm_bk x E Yb m = true
    · rw [if_pos c]
      unfold pm_bk at c
      rw [Bool.and_eq_true] at c
      have hnt : ¬ trE n Yb m := fun z => by
        have := (int_iff hn hk hEn h (show m < k by omega)).mpr z
        rw [this] at c; cases c.2
      obtain ⟨d1, d2, d3⟩ := p3_anc (dq := dq) (sh := sh) hEn hne h (show m < k by omega)
      have hends := p3_at (E := E) (Dp := Dp) (dq := dq) (sh := sh) k m (by omega)
      have f := f4_ok hn hk hEn hne h (show m < k by omega) c.1 hnt d1 d2 (by
        rcases hends with ⟨q1, q2, _⟩ | ⟨q1, q2, _⟩
        · exact Or.inr ⟨q2.symm, q1.symm⟩
        · exact Or.inl ⟨q1.symm, q2.symm⟩) (d3 c.1) i1
      refine ⟨f.1, fun e he hx g hg => ?_⟩
      by_cases q : e = m
      · subst q; exact f.2.2 g hg
      · exact f.2.1 g e (hce e g (by omega) hx hg) (by omega) (i2 e (by omega) hx g hg)
    · rw [if_neg c]
      refine ⟨i1, fun e he hx g hg => ?_⟩
      by_cases q : e = m
      · subst q
        have ht : trE n Yb e := by
          refine Classical.byContradiction fun z => c ?_
          unfold pm_bk
          rw [hx, Bool.true_and]
          cases y : pm_int E Yb e with
          | false => rfl
          | true => exact absurd ((int_iff hn hk hEn h (show e < k by omega)).mp y) z
        rw [cE_tree hEn h ht] at hg
        cases hg
      · exact i2 e (by omega) hx g hg
theorem rb_blk (hn : n ≤ 10) (hk : k ≤ 18) (hEn : ∀ e, e < k → E (2 * e) < n ∧ E (2 * e + 1) < n) (hne : ∀ e, e < k → E (2 * e) ≠ E (2 * e + 1)) (h : Forest n k E x Dp Pr Yb) {B1 : Nat → Int32} (hL : rbL n k E x B1) (hC : ∀ e, e < k → pm_has x (nI e) = true → ∀ g, cE E Dp Pr Yb e g = true → B1 g = B1 e) {e f : Nat} (he : e < k) (hf : f < k) : B1 e = B1 f ↔ Blk n k (eF E) (eS E) x e f := by
  constructor
  · intro q K hK
    exact hL.2 K hK e f he hf q
  · intro hB
    have hS : Sep n k (eF E) (eS E) (Xi x k) (fun g => decide (B1 g = B1 e)) := by
      intro Z hZ hX
      have hev := even_sum k (fun a g => (Z a && decide (B1 a = B1 e)) && cE E Dp Pr Yb a g) (fun a ha => even_and _ (fun hz => by
        rw [Bool.and_eq_true] at hz
        exact cE_even hn hEn hne h ha (by rw [pm_has_bt x (by omega)]; exact (Xi_t.mp (hX a hz.1)).2)))
      refine even_congr (fun g => ?_) hev
      rw [even_is hn hk hEn hne h hZ hX g, ← xr_and_r]
      refine xr_congr (fun a ha => ?_)
      cases z : Z a with
      | false => rfl
      | true =>
        cases c : cE E Dp Pr Yb a g with
        | false => cases decide (B1 a = B1 e) <;> rfl
        | true =>
          have := hC a ha (by rw [pm_has_bt x (by omega)]; exact (Xi_t.mp (hX a z)).2) g c
          show ((true && decide (B1 a = B1 e)) && true) = ((true && true) && decide (B1 g = B1 e))
          rw [this]
          cases decide (B1 a = B1 e) <;> rfl
    have := hB _ hS
    have h1 : decide (B1 e = B1 e) = decide (B1 f = B1 e) := this
    rw [decide_eq_true (rfl : B1 e = B1 e)] at h1
    exact (of_decide_eq_true h1.symm).symm
end RJ
