/-! what the pieces are: by connection and by separators; the reference's components -/
def Conn (k : Nat) (F S : Nat → Nat) (x : Int32) (u v : Nat) : Prop := ∀ W : Nat → Bool, (∀ e, e < k → bt x e = true → W (F e) = W (S e)) → W u = W v
def Blk (n k : Nat) (F S : Nat → Nat) (x : Int32) (e f : Nat) : Prop := ∀ K, Sep n k F S (Xi x k) K → K e = K f
theorem pc_conn {n k : Nat} {F S : Nat → Nat} {x : Int32} {C B Y : Nat → Int32} (hFS : ∀ e, e < k → F e < n ∧ S e < n) (h : pcI n k F S x k C B Y) {u v : Nat} (hu : u < n) (hv : v < n) : bt (C v) u = true ↔ Conn k F S x u v := by
  obtain ⟨h1, h2, h3, h4, _⟩ := h
  constructor
  · intro hb W hW
    exact h4 W hW v u hv hu hb
  · intro hc
    have := hc (bt (C v)) (fun e he hb => by
      obtain ⟨a, b⟩ := hFS e he
      rw [Bool.eq_iff_iff, pc_mem h1 h2 a hv, pc_mem h1 h2 b hv, h3 e he hb])
    rw [this]; exact h2 v hv
theorem pc_blk {n k : Nat} {F S : Nat → Nat} {x : Int32} {C B Y : Nat → Int32} (h : pcI n k F S x k C B Y) {e : Nat} (he : e < k) (hx : bt x e = true) (f : Nat) : bt (B e) f = true ↔ f < k ∧ bt x f = true ∧ Blk n k F S x e f := by
  obtain ⟨_, _, _, _, _, _, _, _, h9, h10, h11⟩ := h
  constructor
  · intro hf
    obtain ⟨⟨a, b⟩, _⟩ := (h9 e he hx).2 f hf
    exact ⟨a, b, fun K hK => h11 K hK e f he hx hf⟩
  · intro ⟨_, _, hB⟩
    have := hB _ (h10 e he hx)
    rw [← this]; exact (h9 e he hx).1
theorem Conn_refl (k : Nat) (F S : Nat → Nat) (x : Int32) (u : Nat) : Conn k F S x u u := fun _ _ => rfl
theorem Conn_symm {k : Nat} {F S : Nat → Nat} {x : Int32} {u v : Nat} (h : Conn k F S x u v) : Conn k F S x v u := fun W hW => (h W hW).symm
theorem Conn_trans {k : Nat} {F S : Nat → Nat} {x : Int32} {u v w : Nat} (h1 : Conn k F S x u v) (h2 : Conn k F S x v w) : Conn k F S x u w := fun W hW => (h1 W hW).trans (h2 W hW)
section RT
variable {n k : Nat} {E : Nat → Nat} {x : Int32} {Dp : Nat → Int32} {Pr Yb : Nat → Nat}
theorem rt_spec (hn : n ≤ 10) (h : Forest n k E x Dp Pr Yb) {v : Nat} (hv : v < n) : pm_rt Pr v < n ∧ anc Pr (pm_rt Pr v) v ∧ Pr (pm_rt Pr v) = 0 := by
  have hw := wl_meas (dn := pm_rtD Pr) (st := pm_rtS Pr) (fun y => y < n ∧ anc Pr y v) (fun y => (Dp y).toNatClampNeg) (fun y hI hd => by
    have h0 : ¬ oI (Pr y) < 0 := by
      unfold pm_rtD at hd
      exact of_decide_eq_false hd
    have hy := oI_ne h0
    obtain ⟨_, _, g⟩ := fo_dep h hI.1
    rcases g with ⟨g, _⟩ | ⟨p, e', g1, _, g3, _, _, _, g7⟩
    · exact absurd g hy
    · unfold pm_rtS
      rw [g1, Nat.add_sub_cancel]
      exact ⟨⟨g3, anc_trans (anc_par g1) hI.2⟩, by omega⟩) 12 v ⟨hv, anc_refl _ _⟩ (by have := (fo_dep h hv).1; omega)
  refine ⟨hw.2.1, hw.2.2, ?_⟩
  have hd : pm_rtD Pr (pm_rt Pr v) = true := hw.1
  unfold pm_rtD at hd
  have h1 := of_decide_eq_true hd
  refine Classical.byContradiction fun q => ?_
  obtain ⟨_, _, g⟩ := fo_dep h hw.2.1
  rcases g with ⟨g, _⟩ | ⟨p, e', g1, _, g3, _⟩
  · exact q g
  · have g1' : Pr (pm_rt Pr v) = p + 1 := g1
    rw [g1'] at h1
    exact oI_pos (by omega) h1
/-- one way up: two ends of it are one -/
theorem root_one {P : Nat → Nat} {q q' v : Nat} (h1 : anc P q v) (h2 : anc P q' v) (g1 : P q = 0) (g2 : P q' = 0) : q = q' := by
  obtain ⟨i, hi⟩ := h1
  obtain ⟨j, hj⟩ := h2
  have key : ∀ (i j q q' : Nat), i < j → ups P i (v + 1) = q + 1 → ups P j (v + 1) = q' + 1 → P q = 0 → False := fun i j q q' hij a b c => by
    obtain ⟨d, hd⟩ : ∃ d, j = (d + 1) + i := ⟨j - i - 1, by omega⟩
    rw [hd, ups_add, a, ups_s, c, ups_0] at b
    omega
  rcases Nat.lt_trichotomy i j with g | g | g
  · exact (key i j q q' g hi hj g1).elim
  · subst g; rw [hi] at hj; omega
  · exact (key j i q' q g hj hi g2).elim
theorem rt_anc (hn : n ≤ 10) (h : Forest n k E x Dp Pr Yb) {a b : Nat} (hb : b < n) (hab : anc Pr a b) : pm_rt Pr a = pm_rt Pr b := by
  obtain ⟨a1, a2, a3⟩ := rt_spec hn h (anc_lt h hb hab).1
  obtain ⟨b1, b2, b3⟩ := rt_spec hn h hb
  exact root_one (anc_trans a2 hab) b2 a3 b3
theorem rt_le (hn : n ≤ 10) (h : Forest n k E x Dp Pr Yb) {v : Nat} (hv : v < n) : pm_rt Pr v ≤ v := by
  obtain ⟨q, q1, q2, q3⟩ := h.2.2 v hv
  obtain ⟨_, b2, b3⟩ := rt_spec hn h hv
  rw [← root_one q1 b2 q2 b3]; exact q3
theorem rt_root (hn : n ≤ 10) (h : Forest n k E x Dp Pr Yb) {v : Nat} (hv : v < n) : pm_rt Pr (pm_rt Pr v) = pm_rt Pr v := by
  obtain ⟨b1, b2, b3⟩ := rt_spec hn h hv
  obtain ⟨c1, c2, c3⟩ := rt_spec hn h b1
  exact root_one c2 (anc_refl _ _) c3 b3
theorem anc_conn (h : Forest n k E x Dp Pr Yb) : ∀ (j a b : Nat), b < n → ups Pr j (b + 1) = a + 1 → ∀ W : Nat → Bool, (∀ e, e < k → pm_has x (nI e) = true → W (E (2 * e)) = W (E (2 * e + 1))) → W a = W b := by
  intro j
  induction j with
  | zero => intro a b _ he W _; have he : b + 1 = a + 1 := he; rw [show a = b by omega]
  | succ j ih =>
    intro a b hb he W hW
    rw [ups_s] at he
    obtain ⟨_, _, g⟩ := fo_dep h hb
    rcases g with ⟨g, _⟩ | ⟨p, e', g1, _, g3, g4, g5, g6, _⟩
    · rw [g, ups_0] at he; omega
    · rw [g1] at he
      rw [ih a p g3 he W hW]
      have := hW e' g4 g5
      rcases g6 with ⟨z1, z2⟩ | ⟨z1, z2⟩
      · rw [z1, z2] at this; exact this
      · rw [z1, z2] at this; exact this.symm
/-- connected: one root -/
theorem rt_conn (hn : n ≤ 10) (hk : k ≤ 18) (hEn : ∀ e, e < k → E (2 * e) < n ∧ E (2 * e + 1) < n) (h : Forest n k E x Dp Pr Yb) {u v : Nat} (hu : u < n) (hv : v < n) : Conn k (fun e => E (2 * e)) (fun e => E (2 * e + 1)) x u v ↔ pm_rt Pr u = pm_rt Pr v := by
  constructor
  · intro hc
    have := hc (fun w => decide (pm_rt Pr w = pm_rt Pr v)) (fun e he hb => by
      obtain ⟨a, b⟩ := hEn e he
      have hx : pm_has x (nI e) = true := by rw [pm_has_bt x (by omega)]; exact hb
      have : pm_rt Pr (E (2 * e)) = pm_rt Pr (E (2 * e + 1)) := by
        rcases h.2.1 e he hx with g | g
        · exact rt_anc hn h b g
        · exact (rt_anc hn h a g).symm
      show decide (pm_rt Pr (E (2 * e)) = pm_rt Pr v) = decide (pm_rt Pr (E (2 * e + 1)) = pm_rt Pr v)
      rw [this])
    have h1 : decide (pm_rt Pr u = pm_rt Pr v) = decide (pm_rt Pr v = pm_rt Pr v) := this
    rw [decide_eq_true (rfl : pm_rt Pr v = pm_rt Pr v)] at h1
    exact of_decide_eq_true h1
  · intro hr W hW
    have hW' : ∀ e, e < k → pm_has x (nI e) = true → W (E (2 * e)) = W (E (2 * e + 1)) := fun e he hb => hW e he (by rw [pm_has_bt x (by omega)] at hb; exact hb)
    obtain ⟨_, ⟨i, hi⟩, _⟩ := rt_spec hn h hu
    obtain ⟨_, ⟨j, hj⟩, _⟩ := rt_spec hn h hv
    rw [← anc_conn h i _ u hu hi W hW', ← anc_conn h j _ v hv hj W hW', hr]
/-- the reference's numbers of the components -/
theorem fc_at (hn : n ≤ 10) (h : Forest n k E x Dp Pr Yb) (Cp : Nat → Int32) : ∀ m, m ≤ n → (fo (pm_fc1 Pr) m (Cp, 0)).2 = cn m (fun w => decide (pm_rt Pr w = w)) ∧ ∀ v, v < m → (fo (pm_fc1 Pr) m (Cp, 0)).1 v = nI (cn (pm_rt Pr v) (fun w => decide (pm_rt Pr w = w)))
  | 0, _ => ⟨rfl, fun v hv => by omega⟩
  | m + 1, hm => by
    obtain ⟨i1, i2⟩ := fc_at hn h Cp m (by omega)
    rw [fo_s]
    generalize fo (pm_fc1 Pr) m (Cp, 0) = s at i1 i2 ⊢
    unfold pm_fc1
    have hr := rt_spec hn h (show m < n by omega)
    have hl := rt_le hn h (show m < n by omega)
    rw [cn_s]
    by_cases q : pm_rt Pr m = m
    · rw [if_pos (by rw [q]), decide_eq_true q]
      refine ⟨by rw [i1]; rfl, fun v hv => ?_⟩
      by_cases e : v = m
      · subst e; simp only [upd, if_pos rfl]; rw [q, i1]; rfl
      · simp only [upd, if_neg e]; exact i2 v (by omega)
    · rw [if_neg (fun z => q ((nI_eq (by omega) (by omega)).mp z)), decide_eq_false q]
      refine ⟨i1, fun v hv => ?_⟩
      by_cases e : v = m
      · subst e
        show upd s.1 v (s.1 (pm_rt Pr v)) v = _
        unfold upd
        rw [if_pos rfl, i2 _ (by omega), rt_root hn h (show v < n by omega)]
      · simp only [upd, if_neg e]; exact i2 v (by omega)
end RT
