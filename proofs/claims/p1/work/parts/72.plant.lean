/-! the reference's forest as a whole, and what its methods need of it -/
section PL
variable {n k : Nat} {E : Nat → Nat} {x : Int32}
theorem fG_start {r : Nat} {Dp : Nat → Int32} {Pr Yb nx sk : Nat → Nat} (hn : n ≤ 10) (hE : ∀ j, E j < 10) (hr : r < n) (h : fR n k E x r Dp Pr Yb nx) (hu : ¬ 0 ≤ Dp r) : fG n k E x r (pm_gd0 r Dp Pr Yb nx sk) := by
  obtain ⟨⟨h1, h2, h3, h4⟩, h5, h6⟩ := h
  have hrn := fND_un (h1 r (by omega)) hu
  have hDr : upd Dp r 0 r = nI 0 := by unfold upd; rw [if_pos rfl]; rfl
  have hDu : ∀ u, u ≠ r → upd Dp r 0 u = Dp u := fun u hu => by unfold upd; rw [if_neg hu]
  have hne' : ∀ u, 0 ≤ Dp u → u ≠ r := fun u hu' z => hu (by rw [← z]; exact hu')
  have hst : ∀ u, (u < 10 ∧ 0 ≤ Dp u) → va_up Pr r 0 u = Pr u ∧ (Pr u = 0 ∨ (Pr u - 1 < 10 ∧ 0 ≤ Dp (Pr u - 1))) := fun u hu => ⟨by unfold va_up; rw [if_neg (hne' u hu.2)], fC_up hn h1 u hu⟩
  have hin : ∀ a u, u < 10 → 0 ≤ Dp u → anc Pr a u → a < 10 ∧ 0 ≤ Dp a := fun a u hu hu0 ⟨j, hj⟩ => anc_in (V := fun u => u < 10 ∧ 0 ≤ Dp u) (fun u hu => fC_up hn h1 u hu) j a u ⟨hu, hu0⟩ hj
  refine ⟨⟨fun u hu => ?_, fun u hu hu0 => ?_, fun u hu hu0 => ?_, fun j => ?_⟩, fun u hu hu0 => ?_, fun u hu => ?_, fun i hi => ?_, fun i hi => ?_, fun _ => ?_, ?_⟩
  · show fND n k E x (upd Dp r 0) (va_up Pr r 0) (va_up Yb r 0) nx u
    by_cases q : u = r
    · subst q
      exact Or.inr ⟨hr, 0, by omega, hDr, Or.inl ⟨rfl, by simp [va_up], by simp [va_up]⟩⟩
    · rcases h1 u hu with ⟨q1, q2⟩ | ⟨q1, d, q2, q3, q4⟩
      · exact Or.inl ⟨by rw [hDu u q]; exact q1, q2⟩
      · refine Or.inr ⟨q1, d, q2, by rw [hDu u q]; exact q3, ?_⟩
        rcases q4 with ⟨g1, g2, g3⟩ | ⟨p, e, c, g1, g2, g3, g4, g5⟩
        · exact Or.inl ⟨g1, by simp [va_up, q, g2], by simp [va_up, q, g3]⟩
        · exact Or.inr ⟨p, e, c, g1, by rw [hDu p (hne' p (by rw [g2]; exact nn (by omega)))]; exact g2, by simp [va_up, q, g3], by simp [va_up, q, g4], g5⟩
  · have hu0' : 0 ≤ upd Dp r 0 u := hu0
    intro e he hen hx hte
    have hen' : e < nx u := hen
    show 0 ≤ upd Dp r 0 (pm_oth E e u) ∧ (anc (va_up Pr r 0) u (pm_oth E e u) ∨ anc (va_up Pr r 0) (pm_oth E e u) u)
    by_cases q : u = r
    · subst q; rw [hrn.2] at hen'; omega
    · rw [hDu u q] at hu0'
      obtain ⟨a1, a2⟩ := h2 u hu hu0' e he hen' hx hte
      refine ⟨by rw [hDu _ (hne' _ a1)]; exact a1, ?_⟩
      have ho := pm_oth_lt hE e u
      rcases a2 with a2 | a2
      · exact Or.inl (anc_stable (V := fun u => u < 10 ∧ 0 ≤ Dp u) hst ⟨ho, a1⟩ a2)
      · exact Or.inr (anc_stable (V := fun u => u < 10 ∧ 0 ≤ Dp u) hst ⟨hu, hu0'⟩ a2)
  · have hu0' : 0 ≤ upd Dp r 0 u := hu0
    show ∃ q, anc (va_up Pr r 0) q u ∧ va_up Pr r 0 q = 0 ∧ q ≤ u
    by_cases q : u = r
    · subst q
      exact ⟨u, anc_refl _ _, by simp [va_up], Nat.le_refl u⟩
    · rw [hDu u q] at hu0'
      obtain ⟨a, a1, a2, a3⟩ := h3 u hu hu0'
      refine ⟨a, anc_stable (V := fun u => u < 10 ∧ 0 ≤ Dp u) hst ⟨hu, hu0'⟩ a1, ?_, a3⟩
      have := hne' a (hin a u hu hu0' a1).2
      unfold va_up
      rw [if_neg this]; exact a2
  · show va_up Pr r 0 j ≤ 10
    unfold va_up
    by_cases q : j = r
    · rw [if_pos q]; omega
    · rw [if_neg q]; exact h4 j
  · have hu0' : 0 ≤ upd Dp r 0 u := hu0
    show nx u ≤ k + 1 ∧ (nx u ≤ k → ∃ i, i < 1 ∧ va_up sk 0 r i = u)
    by_cases q : u = r
    · subst q
      rw [hrn.2]
      exact ⟨by omega, fun _ => ⟨0, by omega, by simp [va_up]⟩⟩
    · rw [hDu u q] at hu0'
      have := h5 u hu hu0'
      exact ⟨by omega, fun z => by omega⟩
  · show 0 ≤ upd Dp r 0 u
    by_cases q : u = r
    · subst q; rw [hDr]; decide
    · rw [hDu u q]; exact h6 u (by omega)
  · have hi' : i < 1 := hi
    have : i = 0 := by omega
    subst this
    show va_up sk 0 r 0 < n ∧ upd Dp r 0 (va_up sk 0 r 0) = nI 0 ∧ nx (va_up sk 0 r 0) ≤ k
    have e1 : va_up sk 0 r 0 = r := by simp [va_up]
    rw [e1, hrn.2]
    exact ⟨hr, hDr, by omega⟩
  · have hi' : i + 1 < 1 := hi
    omega
  · show va_up sk 0 r 0 = r
    simp [va_up]
  · show 1 ≤ 10
    omega
theorem fMu_le (nx : Nat → Nat) (hk : k ≤ 18) : fMu k nx ≤ 400 := by
  have : fMu k nx ≤ 10 * 19 := sm_le (fun i _ => by show k + 1 - nx i ≤ 19; omega)
  omega
theorem gd_ok {r : Nat} {Dp : Nat → Int32} {Pr Yb nx sk : Nat → Nat} (hn : n ≤ 10) (hk : k ≤ 18) (hE : ∀ j, E j < 10) (hEn : ∀ e, e < k → E (2 * e) < n ∧ E (2 * e + 1) < n) (hne : ∀ e, e < k → E (2 * e) ≠ E (2 * e + 1)) (hr : r < n) (h : fR n k E x r Dp Pr Yb nx) (hu : ¬ 0 ≤ Dp r) :
    pm_gdOK k E x r Dp Pr Yb nx sk ∧ fR n k E x (r + 1) (pm_gd k E x r Dp Pr Yb nx sk).2.1 (pm_gd k E x r Dp Pr Yb nx sk).2.2.1 (pm_gd k E x r Dp Pr Yb nx sk).2.2.2.1 (pm_gd k E x r Dp Pr Yb nx sk).2.2.2.2.1 := by
  have h0 := fG_start (sk := sk) hn hE hr h hu
  have hend := wl_meas (dn := pm_gdD) (st := pm_gdS k E x) (fG n k E x r) (fun s => fMu k s.2.2.2.2.1) (fun s hI hd => (fG_step hn hk hE hEn hne hr hI hd).2) 400 _ h0 (fMu_le _ hk)
  refine ⟨⟨fG n k E x r, h0, fun s hI hd => ⟨(fG_step hn hk hE hEn hne hr hI hd).1, (fG_step hn hk hE hEn hne hr hI hd).2.1⟩, hend.1⟩, ?_⟩
  have hd : pm_gdD (pm_gd k E x r Dp Pr Yb nx sk) = true := hend.1
  have hI : fG n k E x r (pm_gd k E x r Dp Pr Yb nx sk) := hend.2
  generalize pm_gd k E x r Dp Pr Yb nx sk = s at hd hI ⊢
  obtain ⟨a1, a2, a3, a4, a5, a6, a7⟩ := hI
  have ht : s.1 = 0 := by
    unfold pm_gdD at hd
    have := nz_le (by omega) (of_decide_eq_true hd)
    omega
  refine ⟨a1, fun v hv hv0 => ?_, fun u hu => a3 u (by omega)⟩
  have := a2 v hv hv0
  rw [ht] at this
  refine Classical.byContradiction fun q => ?_
  obtain ⟨i, hi, _⟩ := this.2 (by omega)
  omega
theorem fo_p1 (Dp : Nat → Int32) (nx : Nat → Nat) : ∀ m j, j < m → (fo pm_p1 m (Dp, nx)).1 j = -1 ∧ (fo pm_p1 m (Dp, nx)).2 j = 0
  | 0, j, h => by omega
  | m + 1, j, h => by
    rw [fo_s]
    by_cases e : j = m
    · subst e
      simp [pm_p1, upd, va_up]
    · have := fo_p1 Dp nx m j (by omega)
      simp [pm_p1, upd, va_up, e]
      exact this
theorem plant_ok (hn : n ≤ 10) (hk : k ≤ 18) (hE : ∀ j, E j < 10) (hEn : ∀ e, e < k → E (2 * e) < n ∧ E (2 * e + 1) < n) (hne : ∀ e, e < k → E (2 * e) ≠ E (2 * e + 1)) (Dp : Nat → Int32) (Pr Yb nx sk : Nat → Nat) (hPr : ∀ j, Pr j ≤ 10) : ∀ i, i ≤ n →
    fR n k E x i (fo (pm_p2 k E x) i (pm_pl0 Dp Pr Yb nx sk)).1 (fo (pm_p2 k E x) i (pm_pl0 Dp Pr Yb nx sk)).2.1 (fo (pm_p2 k E x) i (pm_pl0 Dp Pr Yb nx sk)).2.2.1 (fo (pm_p2 k E x) i (pm_pl0 Dp Pr Yb nx sk)).2.2.2.1 := by
  intro i
  induction i with
  | zero =>
    intro _
    have hp := fo_p1 Dp nx 10
    refine ⟨⟨fun v hv => Or.inl (hp v hv), fun v hv h0 => ?_, fun v hv h0 => ?_, hPr⟩, fun v hv h0 => ?_, fun u hu => by omega⟩
    · have h0' : 0 ≤ (fo pm_p1 10 (Dp, nx)).1 v := h0
      rw [(hp v hv).1] at h0'; exact absurd h0' m1_neg
    · have h0' : 0 ≤ (fo pm_p1 10 (Dp, nx)).1 v := h0
      rw [(hp v hv).1] at h0'; exact absurd h0' m1_neg
    · have h0' : 0 ≤ (fo pm_p1 10 (Dp, nx)).1 v := h0
      rw [(hp v hv).1] at h0'; exact absurd h0' m1_neg
  | succ i ih =>
    intro hi
    have h := ih (by omega)
    rw [fo_s]
    generalize fo (pm_p2 k E x) i (pm_pl0 Dp Pr Yb nx sk) = s at h ⊢
    unfold pm_p2
    by_cases q : 0 ≤ s.1 i
    · rw [if_pos q]
      exact ⟨h.1, h.2.1, fun u hu => by
        by_cases z : u = i
        · rw [z]; exact q
        · exact h.2.2 u (by omega)⟩
    · rw [if_neg q]
      exact (gd_ok (sk := s.2.2.2.2) hn hk hE hEn hne (by omega) h q).2
theorem pl_R (hn : n ≤ 10) (hk : k ≤ 18) (hE : ∀ j, E j < 10) (hEn : ∀ e, e < k → E (2 * e) < n ∧ E (2 * e + 1) < n) (hne : ∀ e, e < k → E (2 * e) ≠ E (2 * e + 1)) (Dp : Nat → Int32) (Pr Yb nx sk : Nat → Nat) (hPr : ∀ j, Pr j ≤ 10) :
    fR n k E x n (pm_pl n k E x Dp Pr Yb nx sk).1 (pm_pl n k E x Dp Pr Yb nx sk).2.1 (pm_pl n k E x Dp Pr Yb nx sk).2.2.1 (pm_pl n k E x Dp Pr Yb nx sk).2.2.2.1 := plant_ok hn hk hE hEn hne Dp Pr Yb nx sk hPr n (Nat.le_refl n)
/-- a forest: what mathematics takes from the walk. dp is the depth, Pr the parent (0 none), Yb the edge to it (0 none) -/
def Forest (n k : Nat) (E : Nat → Nat) (x : Int32) (Dp : Nat → Int32) (Pr Yb : Nat → Nat) : Prop :=
  (∀ v, v < n → ∃ d, d ≤ 9 ∧ Dp v = nI d ∧ fTR n k E x Dp Pr Yb v d) ∧ (∀ e, e < k → pm_has x (nI e) = true → anc Pr (E (2 * e)) (E (2 * e + 1)) ∨ anc Pr (E (2 * e + 1)) (E (2 * e))) ∧ (∀ v, v < n → ∃ q, anc Pr q v ∧ Pr q = 0 ∧ q ≤ v)
theorem fR_forest {Dp : Nat → Int32} {Pr Yb nx : Nat → Nat} (hn : n ≤ 10) (hE : ∀ j, E j < 10) (hEn : ∀ e, e < k → E (2 * e) < n ∧ E (2 * e + 1) < n) (hne : ∀ e, e < k → E (2 * e) ≠ E (2 * e + 1)) (h : fR n k E x n Dp Pr Yb nx) : Forest n k E x Dp Pr Yb := by
  obtain ⟨⟨h1, h2, h3, h4⟩, h5, h6⟩ := h
  refine ⟨fun v hv => (fND_vis (h1 v (by omega)) (h6 v hv)).2, fun e he hx => ?_, fun v hv => h3 v (by omega) (h6 v hv)⟩
  have a := hEn e he
  have t := oth_of (E := E) (e := e) (v := E (2 * e)) (w := E (2 * e + 1)) hE (by omega) (hne e he) (Or.inl ⟨rfl, rfl⟩)
  have := (h2 (E (2 * e)) (by omega) (h6 _ a.1) e he (by rw [h5 _ (by omega) (h6 _ a.1)]; omega) hx t.1).2
  rw [t.2] at this
  exact this
theorem fo_dep {Dp : Nat → Int32} {Pr Yb : Nat → Nat} (h : Forest n k E x Dp Pr Yb) {v : Nat} (hv : v < n) : (Dp v).toNatClampNeg ≤ 9 ∧ Dp v = nI (Dp v).toNatClampNeg ∧ (Pr v = 0 ∧ Yb v = 0 ∧ (Dp v).toNatClampNeg = 0 ∨ ∃ p e, Pr v = p + 1 ∧ Yb v = e + 1 ∧ p < n ∧ e < k ∧ pm_has x (nI e) = true ∧ jn E e p v ∧ (Dp v).toNatClampNeg = (Dp p).toNatClampNeg + 1) := by
  obtain ⟨d, hd, e, hT⟩ := h.1 v hv
  have e2 : (Dp v).toNatClampNeg = d := by rw [e, nI_clamp (by omega)]
  rw [e2]
  refine ⟨hd, e, ?_⟩
  rcases hT with ⟨g1, g2, g3⟩ | ⟨p, e', c, g1, g2, g3, g4, g5, g6, g7, g8⟩
  · exact Or.inl ⟨g2, g3, g1⟩
  · exact Or.inr ⟨p, e', g3, g4, g5, g6, g7, g8, by rw [g2, nI_clamp (by omega)]; exact g1⟩
/-- above is less deep -/
theorem anc_dep {Dp : Nat → Int32} {Pr Yb : Nat → Nat} (h : Forest n k E x Dp Pr Yb) : ∀ (j a b : Nat), b < n → ups Pr j (b + 1) = a + 1 → a < n ∧ (a = b ∨ (Dp a).toNatClampNeg < (Dp b).toNatClampNeg) := by
  intro j
  induction j with
  | zero => intro a b hb he; have he : b + 1 = a + 1 := he; exact ⟨by omega, Or.inl (by omega)⟩
  | succ j ih =>
    intro a b hb he
    rw [ups_s] at he
    obtain ⟨_, _, g⟩ := fo_dep h hb
    rcases g with ⟨g, _⟩ | ⟨p, e', g1, _, g3, _, _, _, g7⟩
    · rw [g, ups_0] at he; omega
    · rw [g1] at he
      obtain ⟨i1, i2⟩ := ih a p g3 he
      refine ⟨i1, Or.inr ?_⟩
      rcases i2 with i2 | i2
      · rw [i2]; omega
      · omega
theorem anc_lt {Dp : Nat → Int32} {Pr Yb : Nat → Nat} (h : Forest n k E x Dp Pr Yb) {a b : Nat} (hb : b < n) (hab : anc Pr a b) : a < n ∧ (a = b ∨ (Dp a).toNatClampNeg < (Dp b).toNatClampNeg) := by
  obtain ⟨j, hj⟩ := hab
  exact anc_dep h j a b hb hj
theorem up_end {Dp : Nat → Int32} {Pr Yb : Nat → Nat} (h : Forest n k E x Dp Pr Yb) {a : Nat} (t : Nat) (ha : a < n) : pm_upD t (pm_up Pr a t) = true := by
  refine (wl_meas (dn := pm_upD t) (st := pm_upS Pr) (fun y => y = 0 ∨ (1 ≤ y ∧ y - 1 < n)) (fun y => if y = 0 then 0 else (Dp (y - 1)).toNatClampNeg + 1) (fun y hI hd => ?_) 12 (a + 1) (Or.inr ⟨by omega, by omega⟩) ?_).1
  · have h0 : ¬ oI y < 0 := by
      unfold pm_upD at hd
      intro z
      simp [z] at hd
    have hy := oI_ne h0
    rcases hI with hI | hI
    · exact absurd hI hy
    · obtain ⟨_, _, g⟩ := fo_dep h hI.2
      unfold pm_upS
      rcases g with ⟨g, _⟩ | ⟨p, e', g1, _, g3, _, _, _, g7⟩
      · rw [g]
        refine ⟨Or.inl rfl, ?_⟩
        rw [if_pos rfl, if_neg hy]; omega
      · rw [g1]
        refine ⟨Or.inr ⟨by omega, by omega⟩, ?_⟩
        rw [if_neg (by omega), if_neg hy, Nat.add_sub_cancel]; omega
  · rw [if_neg (by omega), Nat.add_sub_cancel]
    have := (fo_dep h ha).1
    omega
theorem rt_end {Dp : Nat → Int32} {Pr Yb : Nat → Nat} (h : Forest n k E x Dp Pr Yb) {a : Nat} (ha : a < n) : pm_rtD Pr (pm_rt Pr a) = true := by
  refine (wl_meas (dn := pm_rtD Pr) (st := pm_rtS Pr) (fun y => y < n) (fun y => (Dp y).toNatClampNeg) (fun y hI hd => ?_) 12 a ha ?_).1
  · have h0 : ¬ oI (Pr y) < 0 := by
      unfold pm_rtD at hd
      exact of_decide_eq_false hd
    have hy := oI_ne h0
    obtain ⟨_, _, g⟩ := fo_dep h hI
    rcases g with ⟨g, _⟩ | ⟨p, e', g1, _, g3, _, _, _, g7⟩
    · exact absurd g hy
    · unfold pm_rtS
      rw [g1, Nat.add_sub_cancel]
      exact ⟨g3, by omega⟩
  · have := (fo_dep h ha).1
    omega
theorem p3_at {Dp : Nat → Int32} {dq sh : Nat → Nat} : ∀ k f, f < k → ((fo (pm_p3 E Dp) k (dq, sh)).1 f = E (2 * f + 1) ∧ (fo (pm_p3 E Dp) k (dq, sh)).2 f = E (2 * f) ∧ Dp (E (2 * f)) ≤ Dp (E (2 * f + 1))) ∨ ((fo (pm_p3 E Dp) k (dq, sh)).1 f = E (2 * f) ∧ (fo (pm_p3 E Dp) k (dq, sh)).2 f = E (2 * f + 1) ∧ ¬ Dp (E (2 * f)) ≤ Dp (E (2 * f + 1)))
  | 0, f, h => by omega
  | k + 1, f, h => by
    rw [fo_s]
    unfold pm_p3
    by_cases c : Dp (E (2 * k)) ≤ Dp (E (2 * k + 1))
    · rw [if_pos c]
      by_cases e : f = k
      · subst e
        exact Or.inl ⟨by simp [va_up], by simp [va_up], c⟩
      · have := p3_at (Dp := Dp) (dq := dq) (sh := sh) k f (by omega)
        simp only [va_up, if_neg e]
        exact this
    · rw [if_neg c]
      by_cases e : f = k
      · subst e
        exact Or.inr ⟨by simp [va_up], by simp [va_up], c⟩
      · have := p3_at (Dp := Dp) (dq := dq) (sh := sh) k f (by omega)
        simp only [va_up, if_neg e]
        exact this
/-- the deeper end lies below the other -/
theorem p3_anc {Dp : Nat → Int32} {Pr Yb dq sh : Nat → Nat} (hEn : ∀ e, e < k → E (2 * e) < n ∧ E (2 * e + 1) < n) (hne : ∀ e, e < k → E (2 * e) ≠ E (2 * e + 1)) (h : Forest n k E x Dp Pr Yb) {e : Nat} (he : e < k) :
    (fo (pm_p3 E Dp) k (dq, sh)).1 e < n ∧ (fo (pm_p3 E Dp) k (dq, sh)).2 e < n ∧ (pm_has x (nI e) = true → anc Pr ((fo (pm_p3 E Dp) k (dq, sh)).2 e) ((fo (pm_p3 E Dp) k (dq, sh)).1 e)) := by
  have a := hEn e he
  have d1 := fo_dep h a.1
  have d2 := fo_dep h a.2
  have hle : ∀ u v : Nat, u < n → v < n → (Dp u ≤ Dp v ↔ (Dp u).toNatClampNeg ≤ (Dp v).toNatClampNeg) := fun u v hu hv => by
    have e1 := fo_dep h hu
    have e2 := fo_dep h hv
    rw [e1.2.1, e2.2.1, nI_clamp (by omega), nI_clamp (by omega)]
    exact nI_leI (by omega) (by omega)
  rcases p3_at (E := E) (Dp := Dp) (dq := dq) (sh := sh) k e he with ⟨q1, q2, q3⟩ | ⟨q1, q2, q3⟩
  · rw [q1, q2]
    refine ⟨a.2, a.1, fun hx => ?_⟩
    rcases h.2.1 e he hx with g | g
    · exact g
    · have := (anc_lt h a.1 g).2
      rw [hle _ _ a.1 a.2] at q3
      rcases this with z | z
      · exact absurd z.symm (hne e he)
      · omega
  · rw [q1, q2]
    refine ⟨a.1, a.2, fun hx => ?_⟩
    rcases h.2.1 e he hx with g | g
    · have := (anc_lt h a.2 g).2
      rw [hle _ _ a.1 a.2] at q3
      rcases this with z | z
      · exact absurd z (hne e he)
      · omega
    · exact g
theorem fb_ok {Dp : Nat → Int32} {Pr Yb dq sh : Nat → Nat} (hn : n ≤ 10) (hk : k ≤ 18) (hEn : ∀ e, e < k → E (2 * e) < n ∧ E (2 * e + 1) < n) (hne : ∀ e, e < k → E (2 * e) ≠ E (2 * e + 1)) (h : Forest n k E x Dp Pr Yb) :
    pm_fbOK k x E Yb Pr (fo (pm_p3 E Dp) k (dq, sh)).1 (fo (pm_p3 E Dp) k (dq, sh)).2 := by
  intro e he hb
  obtain ⟨h1, h2, h3⟩ := p3_anc (dq := dq) (sh := sh) hEn hne h he
  generalize (fo (pm_p3 E Dp) k (dq, sh)).1 e = d at h1 h3 ⊢
  generalize (fo (pm_p3 E Dp) k (dq, sh)).2 e = t at h2 h3 ⊢
  have hx : pm_has x (nI e) = true := by
    unfold pm_bk at hb
    cases q : pm_has x (nI e) with
    | true => rfl
    | false => rw [q] at hb; cases hb
  have ha := h3 hx
  have hstep : ∀ y, (anc Pr t y ∧ y < n) → ¬ nI y = nI t → y < 10 ∧ 1 ≤ Yb y ∧ Yb y ≤ 18 ∧ 1 ≤ Pr y ∧ (anc Pr t (Pr y - 1) ∧ Pr y - 1 < n) ∧ (Dp (Pr y - 1)).toNatClampNeg < (Dp y).toNatClampNeg := by
    intro y hy hne'
    rcases anc_step hy.1 with g | ⟨p, g1, g2⟩
    · exact absurd (by rw [g]) hne'
    · obtain ⟨_, _, g⟩ := fo_dep h hy.2
      rcases g with ⟨g, _⟩ | ⟨p', e', q1, q2, q3, q4, _, _, q7⟩
      · rw [g] at g1; omega
      · have : p' = p := by omega
        subst this
        rw [q1, q2, Nat.add_sub_cancel]
        exact ⟨by omega, by omega, by omega, by omega, ⟨g2, q3⟩, by omega⟩
  refine ⟨fun y => anc Pr t y ∧ y < n, ⟨ha, h1⟩, fun y hy hne' => ?_, fun B => ?_⟩
  · obtain ⟨a1, a2, a3, a4, a5, _⟩ := hstep y hy hne'
    exact ⟨a1, a2, a3, a4, a5⟩
  · refine (wl_meas (dn := pm_f4D t) (st := pm_f4S k Yb Pr e) (fun s => anc Pr t s.1 ∧ s.1 < n) (fun s => (Dp s.1).toNatClampNeg) (fun s hI hd => ?_) 12 (d, B) ⟨ha, h1⟩ ?_).1
    · unfold pm_f4D at hd
      obtain ⟨_, _, _, _, a5, a6⟩ := hstep s.1 hI (of_decide_eq_false hd)
      exact ⟨a5, a6⟩
    · have := (fo_dep h h1).1
      show (Dp d).toNatClampNeg ≤ 12
      omega
end PL
theorem least_end {y : Int32} (hy : ¬ y = 0) : pm_leD y (pm_least y) = true ∧ pm_least y < 32 := by
  have h := wl_meas (dn := pm_leD y) (st := pm_leS) (fun j => j < 32 ∧ ∀ i, i < j → bt y i = false) (fun j => 32 - j) (fun j hI hd => by
    have hb : bt y j = false := by
      unfold pm_leD at hd
      rw [pm_has_bt y hI.1] at hd
      exact hd
    have h1 : j + 1 < 32 := by
      refine Classical.byContradiction fun q => hy (b_zero.mpr fun i hi => ?_)
      by_cases e : i = j
      · rw [e]; exact hb
      · exact hI.2 i (by omega)
    refine ⟨⟨h1, fun i hi => ?_⟩, ?_⟩
    · have hi' : i < j + 1 := hi
      by_cases e : i = j
      · rw [e]; exact hb
      · exact hI.2 i (by omega)
    · show 32 - (j + 1) < 32 - j
      omega) 32 0 ⟨by decide, fun i hi => by omega⟩ (by decide)
  exact ⟨h.1, h.2.1⟩
theorem least_bt {y : Int32} (hy : ¬ y = 0) : bt y (pm_least y) = true := by
  have h := least_end hy
  have h1 := h.1
  unfold pm_leD at h1
  rw [pm_has_bt y h.2] at h1
  exact h1
theorem de1_lt (Dp : Nat → Int32) (sh : Nat → Nat) (y lo : Int32) : ∀ k, k ≤ 31 → ∀ i, i < 32 → bt (fo (pm_de1 Dp sh y lo) k 0) i = true → i < k
  | 0, _, i, _, h => by rw [show fo (pm_de1 Dp sh y lo) 0 0 = 0 from rfl, b_0] at h; cases h
  | k + 1, hk, i, hi, h => by
    rw [fo_s] at h
    unfold pm_de1 at h
    by_cases c : pm_has y (nI k) = true ∧ ¬ Dp (sh k) ≤ lo
    · rw [if_pos c, b_or, b_one k (by omega) i hi] at h
      by_cases e : i = k
      · omega
      · rw [decide_eq_false e, Bool.or_false] at h
        have := de1_lt Dp sh y lo k (by omega) i hi h
        omega
    · rw [if_neg c] at h
      have := de1_lt Dp sh y lo k (by omega) i hi h
      omega
theorem leOK_ok {k : Nat} (hk : k ≤ 18) : pm_leOK k := by
  intro Dp sh y lo h
  have h1 := least_end h
  exact ⟨h1.1, de1_lt Dp sh y lo k (by omega) _ h1.2 (least_bt h)⟩
/-- the reference stays inside its rows on every graph -/
theorem GOK_ok {n k : Nat} {E : Nat → Nat} (hn : n ≤ 10) (hk : k ≤ 18) (hE : ∀ j, E j < 10) (hEn : ∀ e, e < k → E (2 * e) < n ∧ E (2 * e + 1) < n) (hne : ∀ e, e < k → E (2 * e) ≠ E (2 * e + 1)) : pm_GOK n k E := by
  refine ⟨fun x Dp Pr Yb nx sk hPr => ?_, fun x Dp Pr Yb nx sk hPr a ha => ?_, fun x Dp Pr Yb nx sk dq sh hPr => ?_, leOK_ok hk, fun y hy => (least_end hy).1⟩
  · have hR := pl_R (x := x) hn hk hE hEn hne Dp Pr Yb nx sk hPr
    have hF := fR_forest hn hE hEn hne hR
    refine ⟨fun i hi hu => ?_, hR.1.2.2.2, fun dq sh f t hf => up_end hF t (p3_anc hEn hne hF hf).1⟩
    exact (gd_ok hn hk hE hEn hne hi (plant_ok (x := x) hn hk hE hEn hne Dp Pr Yb nx sk hPr i (by omega)) hu).1
  · exact rt_end (fR_forest hn hE hEn hne (pl_R (x := x) hn hk hE hEn hne Dp Pr Yb nx sk hPr)) ha
  · exact fb_ok hn hk hEn hne (fR_forest hn hE hEn hne (pl_R (x := x) hn hk hE hEn hne Dp Pr Yb nx sk hPr))
