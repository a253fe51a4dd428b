/-! the reference's test: no conflict, if and only if some choice of sides agrees with all comparisons -/
def okL (lam : Nat → Bool) (a b : Int32) : Prop := (∀ f g, bt a f = true → bt a g = true → lam f = lam g) ∧ (∀ f g, bt b f = true → bt b g = true → lam f = lam g) ∧ (∀ f g, bt a f = true → bt b g = true → lam f ≠ lam g)
def tdL (s : TS) (a b : Int32) : Prop := (∀ f g, bt a f = true → bt a g = true → TD s f g 0) ∧ (∀ f g, bt b f = true → bt b g = true → TD s f g 0) ∧ (∀ f g, bt a f = true → bt b g = true → TD s f g 1)
theorem tdL_later {k : Nat} {s s' : TS} {a b : Int32} (hak : ∀ i, bt a i = true → i < k) (hbk : ∀ i, bt b i = true → i < k) (h : later k s s') (hc : s'.2.2 = false) (ht : tdL s a b) : tdL s' a b := by
  have hl := (h hc).2
  exact ⟨fun f g hf hg => hl f g 0 (hak f hf) (hak g hg) (ht.1 f g hf hg), fun f g hf hg => hl f g 0 (hbk f hf) (hbk g hg) (ht.2.1 f g hf hg), fun f g hf hg => hl f g 1 (hak f hf) (hbk g hg) (ht.2.2 f g hf hg)⟩
theorem cmp3_ok {k : Nat} (hk : k ≤ 18) {a b : Int32} (hak : ∀ i, bt a i = true → i < k) (hbk : ∀ i, bt b i = true → i < k) (s : TS) : later k s (pm_cmp3 k a b s) ∧ ((pm_cmp3 k a b s).2.2 = false → tdL (pm_cmp3 k a b s) a b) ∧ (∀ lam, CL k lam s → okL lam a b → CL k lam (pm_cmp3 k a b s)) := by
  have no0 : ∀ {y : Int32}, y = 0 → ∀ i, bt y i = true → False := fun h i hi => by rw [h, b_0] at hi; cases hi
  have c2 : later k s (pm_cmp2 k a b s) ∧ ((pm_cmp2 k a b s).2.2 = false → (∀ f g, bt a f = true → bt a g = true → TD (pm_cmp2 k a b s) f g 0) ∧ (∀ f g, bt b f = true → bt b g = true → TD (pm_cmp2 k a b s) f g 0)) ∧ (∀ lam, CL k lam s → okL lam a b → CL k lam (pm_cmp2 k a b s)) := by
    unfold pm_cmp2
    by_cases hb : b = 0 <;> by_cases ha : a = 0
    · rw [if_pos hb, if_pos ha]
      exact ⟨later_refl k s, fun _ => ⟨fun f g hf _ => (no0 ha f hf).elim, fun f g hf _ => (no0 hb f hf).elim⟩, fun lam h _ => h⟩
    · rw [if_pos hb, if_neg ha]
      obtain ⟨t1, t2, t3⟩ := ta_ok hk ha hak s
      exact ⟨t1, fun hc => ⟨t2 hc, fun f g hf _ => (no0 hb f hf).elim⟩, fun lam h ho => t3 lam h ho.1⟩
    · rw [if_neg hb, if_pos ha]
      obtain ⟨t1, t2, t3⟩ := ta_ok hk hb hbk s
      exact ⟨t1, fun hc => ⟨fun f g hf _ => (no0 ha f hf).elim, t2 hc⟩, fun lam h ho => t3 lam h ho.2.1⟩
    · rw [if_neg hb, if_neg ha]
      obtain ⟨t1, t2, t3⟩ := ta_ok hk ha hak s
      obtain ⟨u1, u2, u3⟩ := ta_ok hk hb hbk (pm_ta k a s)
      refine ⟨later_trans t1 u1, fun hc => ⟨fun f g hf hg => ?_, u2 hc⟩, fun lam h ho => u3 lam (t3 lam h ho.1) ho.2.1⟩
      exact (u1 hc).2 f g 0 (hak f hf) (hak g hg) (t2 (u1 hc).1 f g hf hg)
  obtain ⟨d1, d2, d3⟩ := c2
  unfold pm_cmp3
  by_cases c : a = 0 ∨ b = 0
  · rw [if_pos c]
    refine ⟨d1, fun hc => ⟨(d2 hc).1, (d2 hc).2, fun f g hf hg => ?_⟩, d3⟩
    rcases c with c | c
    · exact (no0 c f hf).elim
    · exact (no0 c g hg).elim
  · rw [if_neg c]
    have ha : ¬ a = 0 := fun z => c (Or.inl z)
    have hb : ¬ b = 0 := fun z => c (Or.inr z)
    have la := least_bt ha
    have lb := least_bt hb
    obtain ⟨t1, t2⟩ := tell_ok (k := k) (hak _ la) (hbk _ lb) 1 (pm_cmp2 k a b s)
    refine ⟨later_trans d1 t1, fun hc => ?_, fun lam h ho => ?_⟩
    · have hc2 := (t1 hc).1
      have p1 : ∀ f g, bt a f = true → bt a g = true → TD (pm_tell k (pm_least a) (pm_least b) 1 (pm_cmp2 k a b s).1 (pm_cmp2 k a b s).2.1 (pm_cmp2 k a b s).2.2) f g 0 := fun f g hf hg => (t1 hc).2 f g 0 (hak f hf) (hak g hg) ((d2 hc2).1 f g hf hg)
      have p2 : ∀ f g, bt b f = true → bt b g = true → TD (pm_tell k (pm_least a) (pm_least b) 1 (pm_cmp2 k a b s).1 (pm_cmp2 k a b s).2.1 (pm_cmp2 k a b s).2.2) f g 0 := fun f g hf hg => (t1 hc).2 f g 0 (hbk f hf) (hbk g hg) ((d2 hc2).2 f g hf hg)
      refine ⟨p1, p2, fun f g hf hg => ?_⟩
      exact TD_tr (p1 f _ hf la) (TD_symm (TD_tr (p2 g _ hg lb) (TD_symm (t2 hc))))
    · have e1 : (1 : Int32) = bI (lam (pm_least a) ^^ lam (pm_least b)) := by
        have := ho.2.2 _ _ la lb
        generalize lam (pm_least a) = p at this ⊢
        generalize lam (pm_least b) = q at this ⊢
        cases p <;> cases q <;> first | rfl | exact absurd rfl this
      rw [e1]
      exact tell_CL (hak _ la) (hbk _ lb) (d3 lam h ho)
section FL
variable {n k : Nat} {E : Nat → Nat} {x : Int32} {Dp : Nat → Int32} {Pr Yb dq sh : Nat → Nat}
theorem dl_k (hk : k ≤ 18) (Dp : Nat → Int32) (sh : Nat → Nat) (y z : Int32) (v : Nat) : ∀ i, bt (pm_dl k Dp sh y z v) i = true → i < k := fun i hi => de1_lt Dp sh y _ k (by omega) i (bt_lt hi) hi
theorem cmp_ok (hk : k ≤ 18) (y z : Int32) (v : Nat) (s : TS) : later k s (pm_cmp k Dp sh y z v s) ∧ ((pm_cmp k Dp sh y z v s).2.2 = false → tdL (pm_cmp k Dp sh y z v s) (pm_dl k Dp sh y z v) (pm_dl k Dp sh z y v)) ∧ (∀ lam, CL k lam s → okL lam (pm_dl k Dp sh y z v) (pm_dl k Dp sh z y v) → CL k lam (pm_cmp k Dp sh y z v s)) := cmp3_ok hk (dl_k hk Dp sh y z v) (dl_k hk Dp sh z y v) s
theorem i4_ok (hk : k ≤ 18) (fg : Nat → Int32) {e : Nat} (he : e < k) (v : Nat) (s : TS) : later k s (pm_i4 k Dp sh fg e v s.1 s.2.1 s.2.2).2 ∧ ((pm_i4 k Dp sh fg e v s.1 s.2.1 s.2.2).2.2.2 = false → ¬ fg e = 0 → ∀ f, f < e → ¬ fg f = 0 → tdL (pm_i4 k Dp sh fg e v s.1 s.2.1 s.2.2).2 (pm_dl k Dp sh (fg e) (fg f) v) (pm_dl k Dp sh (fg f) (fg e) v)) ∧ (∀ lam, CL k lam s → (¬ fg e = 0 → ∀ f, f < e → ¬ fg f = 0 → okL lam (pm_dl k Dp sh (fg e) (fg f) v) (pm_dl k Dp sh (fg f) (fg e) v)) → CL k lam (pm_i4 k Dp sh fg e v s.1 s.2.1 s.2.2).2) := by
  by_cases h0 : fg e = 0
  · have hd : pm_i4D fg e (0, s.1, s.2.1, s.2.2) = true := by unfold pm_i4D; rw [decide_eq_true h0, Bool.or_true]
    have e1 : pm_i4 k Dp sh fg e v s.1 s.2.1 s.2.2 = (0, s.1, s.2.1, s.2.2) := wl_dn hd 20
    rw [e1]
    exact ⟨later_refl k s, fun _ q => absurd h0 q, fun lam h _ => h⟩
  · have hw := wl_meas (dn := pm_i4D fg e) (st := pm_i4S k Dp sh fg e v) (fun t => t.1 ≤ e ∧ later k s t.2 ∧ (t.2.2.2 = false → ∀ f, f < t.1 → ¬ fg f = 0 → tdL t.2 (pm_dl k Dp sh (fg e) (fg f) v) (pm_dl k Dp sh (fg f) (fg e) v)) ∧ (∀ lam, CL k lam s → (∀ f, f < e → ¬ fg f = 0 → okL lam (pm_dl k Dp sh (fg e) (fg f) v) (pm_dl k Dp sh (fg f) (fg e) v)) → CL k lam t.2)) (fun t => e - t.1) (fun t hI hd => by
      obtain ⟨i1, i2, i3, i4⟩ := hI
      unfold pm_i4D at hd
      rw [Bool.or_eq_false_iff] at hd
      have hlt : t.1 < e := Nat.lt_of_not_le (of_decide_eq_false hd.1)
      unfold pm_i4S
      by_cases c : fg t.1 = 0
      · rw [if_pos c]
        refine ⟨⟨hlt, i2, fun hc f hf hne => ?_, i4⟩, by show e - (t.1 + 1) < e - t.1; omega⟩
        have hf' : f < t.1 + 1 := hf
        by_cases q : f = t.1
        · exact absurd (by rw [q]; exact c) hne
        · exact i3 hc f (by omega) hne
      · rw [if_neg c]
        obtain ⟨c1, c2, c3⟩ := cmp_ok (Dp := Dp) (sh := sh) hk (fg e) (fg t.1) v (t.2.1, t.2.2.1, t.2.2.2)
        refine ⟨⟨hlt, later_trans i2 c1, fun hc f hf hne => ?_, fun lam hL ho => c3 lam (i4 lam hL ho) (ho t.1 hlt c)⟩, by show e - (t.1 + 1) < e - t.1; omega⟩
        have hf' : f < t.1 + 1 := hf
        by_cases q : f = t.1
        · rw [q]; exact c2 hc
        · exact tdL_later (dl_k hk _ _ _ _ _) (dl_k hk _ _ _ _ _) c1 hc (i3 (c1 hc).1 f (by omega) hne)) 20 (0, s.1, s.2.1, s.2.2) ⟨Nat.zero_le e, later_refl k s, fun _ f hf => absurd hf (Nat.not_lt_zero f), fun lam h _ => h⟩ (by show e - 0 ≤ 20; omega)
    obtain ⟨hd, i1, i2, i3, i4⟩ := hw
    have hd' : pm_i4D fg e (pm_i4 k Dp sh fg e v s.1 s.2.1 s.2.2) = true := hd
    have i1' : (pm_i4 k Dp sh fg e v s.1 s.2.1 s.2.2).1 ≤ e := i1
    have hall : (pm_i4 k Dp sh fg e v s.1 s.2.1 s.2.2).1 = e := by
      unfold pm_i4D at hd'
      rw [Bool.or_eq_true] at hd'
      rcases hd' with q | q
      · have := of_decide_eq_true q; omega
      · exact absurd (of_decide_eq_true q) h0
    exact ⟨i2, fun hc _ f hf hne => i3 hc f (by show f < (pm_i4 k Dp sh fg e v s.1 s.2.1 s.2.2).1; rw [hall]; exact hf) hne, fun lam hL ho => i4 lam hL (ho h0)⟩
/-- the comparisons at v are kept -/
def SAT (k : Nat) (x : Int32) (E : Nat → Nat) (Dp : Nat → Int32) (Pr Yb dq sh : Nat → Nat) (lam : Nat → Bool) (v : Nat) : Prop := ∀ e f, e < k → f < e → ¬ pm_fr k x E Yb Pr dq sh Dp e v = 0 → ¬ pm_fr k x E Yb Pr dq sh Dp f v = 0 → okL lam (pm_dl k Dp sh (pm_fr k x E Yb Pr dq sh Dp e v) (pm_fr k x E Yb Pr dq sh Dp f v) v) (pm_dl k Dp sh (pm_fr k x E Yb Pr dq sh Dp f v) (pm_fr k x E Yb Pr dq sh Dp e v) v)
def TDV (k : Nat) (x : Int32) (E : Nat → Nat) (Dp : Nat → Int32) (Pr Yb dq sh : Nat → Nat) (s : TS) (v : Nat) : Prop := ∀ e f, e < k → f < e → ¬ pm_fr k x E Yb Pr dq sh Dp e v = 0 → ¬ pm_fr k x E Yb Pr dq sh Dp f v = 0 → tdL s (pm_dl k Dp sh (pm_fr k x E Yb Pr dq sh Dp e v) (pm_fr k x E Yb Pr dq sh Dp f v) v) (pm_dl k Dp sh (pm_fr k x E Yb Pr dq sh Dp f v) (pm_fr k x E Yb Pr dq sh Dp e v) v)
theorem i3_ok (hk : k ≤ 18) (v : Nat) (fg : Nat → Int32) (s : TS) : ∀ m, m ≤ k → (∀ f, f < m → (fo (pm_i3 k x E Yb Pr dq sh Dp v) m (fg, s)).1 f = pm_fr k x E Yb Pr dq sh Dp f v) ∧ later k s (fo (pm_i3 k x E Yb Pr dq sh Dp v) m (fg, s)).2 ∧
    ((fo (pm_i3 k x E Yb Pr dq sh Dp v) m (fg, s)).2.2.2 = false → ∀ e f, e < m → f < e → ¬ pm_fr k x E Yb Pr dq sh Dp e v = 0 → ¬ pm_fr k x E Yb Pr dq sh Dp f v = 0 → tdL (fo (pm_i3 k x E Yb Pr dq sh Dp v) m (fg, s)).2 (pm_dl k Dp sh (pm_fr k x E Yb Pr dq sh Dp e v) (pm_fr k x E Yb Pr dq sh Dp f v) v) (pm_dl k Dp sh (pm_fr k x E Yb Pr dq sh Dp f v) (pm_fr k x E Yb Pr dq sh Dp e v) v)) ∧
    (∀ lam, CL k lam s → SAT k x E Dp Pr Yb dq sh lam v → CL k lam (fo (pm_i3 k x E Yb Pr dq sh Dp v) m (fg, s)).2)
  | 0, _ => ⟨fun f hf => by omega, later_refl k s, fun _ e f he => by omega, fun lam h _ => h⟩
  | m + 1, hm => by
    obtain ⟨i1, i2, i3, i4⟩ := i3_ok hk v fg s m (by omega)
    rw [fo_s]
    generalize fo (pm_i3 k x E Yb Pr dq sh Dp v) m (fg, s) = t at i1 i2 i3 i4 ⊢
    unfold pm_i3
    obtain ⟨fgN, hfg⟩ : ∃ g, g = upd t.1 m (pm_fr k x E Yb Pr dq sh Dp m v) := ⟨_, rfl⟩
    rw [← hfg]
    have hm1 : fgN m = pm_fr k x E Yb Pr dq sh Dp m v := by rw [hfg]; simp [upd]
    have hlt : ∀ f, f < m → fgN f = pm_fr k x E Yb Pr dq sh Dp f v := fun f hf => by
      rw [hfg]; simp only [upd, if_neg (show ¬ f = m by omega)]; exact i1 f hf
    obtain ⟨q1, q2, q3⟩ := i4_ok (Dp := Dp) (sh := sh) hk fgN (show m < k by omega) v t.2
    refine ⟨fun f hf => ?_, later_trans i2 q1, fun hc e f he hf h1 h2 => ?_, fun lam hL hS => ?_⟩
    · by_cases q : f = m
      · rw [q]; exact hm1
      · exact hlt f (by omega)
    · by_cases q : e = m
      · subst q
        have := q2 hc (by rw [hm1]; exact h1) f hf (by rw [hlt f hf]; exact h2)
        rw [hm1, hlt f hf] at this
        exact this
      · exact tdL_later (dl_k hk _ _ _ _ _) (dl_k hk _ _ _ _ _) q1 hc (i3 (q1 hc).1 e f (by omega) hf h1 h2)
    · refine q3 lam (i4 lam hL hS) (fun h1 f hf h2 => ?_)
      rw [hm1] at h1 ⊢
      rw [hlt f hf] at h2 ⊢
      exact hS m f (by omega) hf h1 h2
theorem i1_at (gp hd : Nat → Int32) : ∀ m j, j < m → (fo pm_i1 m (gp, hd)).1 j = nI j ∧ (fo pm_i1 m (gp, hd)).2 j = 0
  | 0, j, h => by omega
  | m + 1, j, h => by
    rw [fo_s]
    unfold pm_i1
    by_cases q : j = m
    · subst q; simp [upd]
    · simp only [upd, if_neg q]; exact i1_at gp hd m j (by omega)
/-- no conflict, if and only if sides can be chosen -/
theorem flat_iff (hn : n ≤ 10) (hk : k ≤ 18) (fg gp hd : Nat → Int32) : (pm_i2 n k x E Yb Pr dq sh Dp fg (fo pm_i1 18 (gp, hd)).1 (fo pm_i1 18 (gp, hd)).2).2.2.2.2 = false ↔ ∃ lam, ∀ v, v < n → SAT k x E Dp Pr Yb dq sh lam v := by
  have h1 := i1_at gp hd 18
  generalize (fo pm_i1 18 (gp, hd)).1 = gp1 at h1 ⊢
  generalize (fo pm_i1 18 (gp, hd)).2 = hd1 at h1 ⊢
  have hstart : ∀ lam, CL k lam (gp1, hd1, false) := fun lam => ⟨rfl, fun a b ha hb hab => by
    have hab' : gp1 a = gp1 b := hab
    rw [(h1 a (by omega)).1, (h1 b (by omega)).1] at hab'
    have := (nI_eq (by omega) (by omega)).mp hab'
    subst this
    rw [Bool.xor_self]
    apply b_ext
    intro i _
    rw [b_xor, Bool.xor_self]
    exact (b_0 i).symm⟩
  have hw := wl_meas (dn := pm_i2D n) (st := pm_i2S k x E Yb Pr dq sh Dp) (fun t => t.1 ≤ n ∧ (t.2.2.2.2 = false → ∀ v, v < t.1 → TDV k x E Dp Pr Yb dq sh t.2.2 v) ∧ (∀ lam, (∀ v, v < n → SAT k x E Dp Pr Yb dq sh lam v) → CL k lam t.2.2)) (fun t => n - t.1) (fun t hI hdn => by
    obtain ⟨i1, i2, i3⟩ := hI
    unfold pm_i2D at hdn
    rw [Bool.or_eq_false_iff] at hdn
    have hlt : t.1 < n := Nat.lt_of_not_le (of_decide_eq_false hdn.1)
    obtain ⟨_, q2, q3, q4⟩ := i3_ok (x := x) (E := E) (Yb := Yb) (Pr := Pr) (dq := dq) (sh := sh) (Dp := Dp) hk t.1 t.2.1 t.2.2 k (Nat.le_refl k)
    refine ⟨⟨hlt, fun hc v hv => ?_, fun lam hS => q4 lam (i3 lam hS) (hS t.1 hlt)⟩, by show n - (t.1 + 1) < n - t.1; omega⟩
    have hv' : v < t.1 + 1 := hv
    by_cases q : v = t.1
    · rw [q]; exact q3 hc
    · intro e f he hf h1 h2
      exact tdL_later (dl_k hk _ _ _ _ _) (dl_k hk _ _ _ _ _) q2 hc (i2 (q2 hc).1 v (by omega) e f he hf h1 h2)) 11 (0, fg, gp1, hd1, false) ⟨Nat.zero_le n, fun _ v hv => absurd hv (Nat.not_lt_zero v), fun lam _ => hstart lam⟩ (by show n - 0 ≤ 11; omega)
  obtain ⟨hdn, i1, i2, i3⟩ := hw
  have hdn' : pm_i2D n (pm_i2 n k x E Yb Pr dq sh Dp fg gp1 hd1) = true := hdn
  have i1' : (pm_i2 n k x E Yb Pr dq sh Dp fg gp1 hd1).1 ≤ n := i1
  have i2' : (pm_i2 n k x E Yb Pr dq sh Dp fg gp1 hd1).2.2.2.2 = false → ∀ v, v < (pm_i2 n k x E Yb Pr dq sh Dp fg gp1 hd1).1 → TDV k x E Dp Pr Yb dq sh (pm_i2 n k x E Yb Pr dq sh Dp fg gp1 hd1).2.2 v := i2
  have i3' : ∀ lam, (∀ v, v < n → SAT k x E Dp Pr Yb dq sh lam v) → CL k lam (pm_i2 n k x E Yb Pr dq sh Dp fg gp1 hd1).2.2 := i3
  generalize pm_i2 n k x E Yb Pr dq sh Dp fg gp1 hd1 = t at hdn' i1' i2' i3' ⊢
  constructor
  · intro hc
    have hall : t.1 = n := by
      unfold pm_i2D at hdn'
      rw [hc, Bool.or_false] at hdn'
      have := of_decide_eq_true hdn'
      omega
    have h0 : ∀ f g, TD t.2.2 f g 0 → bt (t.2.2.2.1 f) 0 = bt (t.2.2.2.1 g) 0 := fun f g h => by rw [show t.2.2.2.1 f = t.2.2.2.1 g from TD_0 h]
    have h1' : ∀ f g, TD t.2.2 f g 1 → bt (t.2.2.2.1 f) 0 ≠ bt (t.2.2.2.1 g) 0 := fun f g h q => by
      have h2 : t.2.2.2.1 f ^^^ t.2.2.2.1 g = 1 := h.2
      have := congrArg (fun y => bt y 0) h2
      have this' : bt (t.2.2.2.1 f ^^^ t.2.2.2.1 g) 0 = bt 1 0 := this
      rw [b_xor, q, Bool.xor_self, b_1 0 (by decide)] at this'
      cases this'
    refine ⟨fun f => bt (t.2.2.2.1 f) 0, fun v hv e f he hf h1 h2 => ?_⟩
    obtain ⟨a1, a2, a3⟩ := i2' hc v (by omega) e f he hf h1 h2
    exact ⟨fun f g hf hg => h0 f g (a1 f g hf hg), fun f g hf hg => h0 f g (a2 f g hf hg), fun f g hf hg => h1' f g (a3 f g hf hg)⟩
  · rintro ⟨lam, hS⟩
    exact (i3' lam hS).1
end FL
