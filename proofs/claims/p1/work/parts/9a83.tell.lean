/-! groups with hands: what has been told stays true; a choice of sides that agrees with all that is told meets no conflict -/
abbrev TS : Type := (Nat → Int32) × (Nat → Int32) × Bool
theorem bI_xor (a b : Bool) : bI a ^^^ bI b = bI (a ^^ b) := by cases a <;> cases b <;> decide
theorem x_cancel (a b z : Int32) : a ^^^ (b ^^^ ((a ^^^ b) ^^^ z)) = z := by
  apply b_ext
  intro i _
  rw [b_xor, b_xor, b_xor, b_xor]
  generalize bt a i = p; generalize bt b i = q; generalize bt z i = r
  cases p <;> cases q <;> cases r <;> rfl
theorem x_same (a b t : Int32) : (a ^^^ t) ^^^ (b ^^^ t) = a ^^^ b := by
  apply b_ext
  intro i _
  rw [b_xor, b_xor, b_xor, b_xor]
  generalize bt a i = p; generalize bt b i = q; generalize bt t i = r
  cases p <;> cases q <;> cases r <;> rfl
theorem x_mix (a b f g z : Int32) : (a ^^^ ((f ^^^ g) ^^^ z)) ^^^ b = ((a ^^^ g) ^^^ (f ^^^ b)) ^^^ z := by
  apply b_ext
  intro i _
  simp only [b_xor]
  generalize bt a i = p; generalize bt b i = q; generalize bt f i = r; generalize bt g i = s; generalize bt z i = t
  cases p <;> cases q <;> cases r <;> cases s <;> cases t <;> rfl
theorem x_comm (a b : Int32) : a ^^^ b = b ^^^ a := by
  apply b_ext
  intro i _
  rw [b_xor, b_xor, Bool.xor_comm]
theorem t1_at {gp hd : Nat → Int32} {f : Nat} {old tu : Int32} (hne : gp f ≠ old) : ∀ m j, (fo (pm_t1 f old tu) m (gp, hd)).1 j = (if j < m ∧ gp j = old then gp f else gp j) ∧ (fo (pm_t1 f old tu) m (gp, hd)).2 j = (if j < m ∧ gp j = old then hd j ^^^ tu else hd j)
  | 0, j => ⟨by rw [if_neg (fun h => by omega)]; rfl, by rw [if_neg (fun h => by omega)]; rfl⟩
  | m + 1, j => by
    have ih := t1_at (hd := hd) (tu := tu) hne m
    rw [fo_s]
    generalize fo (pm_t1 f old tu) m (gp, hd) = s at ih ⊢
    unfold pm_t1
    have em : s.1 m = gp m := by rw [(ih m).1, if_neg (fun h => by omega)]
    have em2 : s.2 m = hd m := by rw [(ih m).2, if_neg (fun h => by omega)]
    have ef : s.1 f = gp f := by rw [(ih f).1, if_neg (fun h => hne h.2)]
    rw [em]
    by_cases c : gp m = old
    · rw [if_pos c, ef, em2]
      by_cases q : j = m
      · subst q
        rw [if_pos ⟨by omega, c⟩, if_pos ⟨by omega, c⟩]
        simp [upd]
      · simp only [upd, if_neg q]
        rw [(ih j).1, (ih j).2]
        by_cases g : j < m ∧ gp j = old
        · rw [if_pos g, if_pos g, if_pos ⟨by omega, g.2⟩, if_pos ⟨by omega, g.2⟩]; exact ⟨rfl, rfl⟩
        · rw [if_neg g, if_neg g, if_neg (fun z => g ⟨by omega, z.2⟩), if_neg (fun z => g ⟨by omega, z.2⟩)]; exact ⟨rfl, rfl⟩
    · rw [if_neg c, (ih j).1, (ih j).2]
      by_cases g : j < m ∧ gp j = old
      · rw [if_pos g, if_pos g, if_pos ⟨by omega, g.2⟩, if_pos ⟨by omega, g.2⟩]; exact ⟨rfl, rfl⟩
      · have : ¬ (j < m + 1 ∧ gp j = old) := fun z => by
          by_cases q : j = m
          · subst q; exact c z.2
          · exact g ⟨by omega, z.2⟩
        rw [if_neg g, if_neg g, if_neg this, if_neg this]; exact ⟨rfl, rfl⟩
/-- f and g are told: alike (z = 0) or not (z = 1) -/
def TD (s : TS) (f g : Nat) (z : Int32) : Prop := s.1 f = s.1 g ∧ s.2.1 f ^^^ s.2.1 g = z
theorem TD_symm {s : TS} {f g : Nat} {z : Int32} (h : TD s f g z) : TD s g f z := ⟨h.1.symm, by rw [x_comm]; exact h.2⟩
theorem TD_0 {s : TS} {f g : Nat} (h : TD s f g 0) : s.2.1 f = s.2.1 g := by
  have := h.2
  apply b_ext
  intro i hi
  have h1 : bt (s.2.1 f ^^^ s.2.1 g) i = false := by rw [this, b_0]
  rw [b_xor] at h1
  generalize bt (s.2.1 f) i = p at h1 ⊢
  generalize bt (s.2.1 g) i = q at h1 ⊢
  cases p <;> cases q <;> first | rfl | cases h1
theorem TD_tr {s : TS} {f g e : Nat} {z : Int32} (h1 : TD s f g 0) (h2 : TD s g e z) : TD s f e z := ⟨h1.1.trans h2.1, by rw [TD_0 h1]; exact h2.2⟩
/-- later: nothing told is lost, no conflict is forgotten -/
def later (k : Nat) (s s' : TS) : Prop := s'.2.2 = false → s.2.2 = false ∧ ∀ a b z, a < k → b < k → TD s a b z → TD s' a b z
theorem later_refl (k : Nat) (s : TS) : later k s s := fun h => ⟨h, fun _ _ _ _ _ q => q⟩
theorem later_trans {k : Nat} {s t u : TS} (h1 : later k s t) (h2 : later k t u) : later k s u := fun h => by
  obtain ⟨a, b⟩ := h2 h
  obtain ⟨c, d⟩ := h1 a
  exact ⟨c, fun x y z hx hy q => b x y z hx hy (d x y z hx hy q)⟩
/-- the sides lam agree with all that is told -/
def CL (k : Nat) (lam : Nat → Bool) (s : TS) : Prop := s.2.2 = false ∧ ∀ a b, a < k → b < k → s.1 a = s.1 b → s.2.1 a ^^^ s.2.1 b = bI (lam a ^^ lam b)
theorem tell_ok {k f g : Nat} (hf : f < k) (hg : g < k) (z : Int32) (s : TS) : later k s (pm_tell k f g z s.1 s.2.1 s.2.2) ∧ ((pm_tell k f g z s.1 s.2.1 s.2.2).2.2 = false → TD (pm_tell k f g z s.1 s.2.1 s.2.2) f g z) := by
  unfold pm_tell
  by_cases c : s.1 f = s.1 g
  · rw [if_pos c]
    refine ⟨fun h => ?_, fun h => ?_⟩
    · have h' : (s.2.2 || !decide (s.2.1 f ^^^ s.2.1 g = z)) = false := h
      rw [Bool.or_eq_false_iff] at h'
      exact ⟨h'.1, fun a b y _ _ q => q⟩
    · have h' : (s.2.2 || !decide (s.2.1 f ^^^ s.2.1 g = z)) = false := h
      rw [Bool.or_eq_false_iff] at h'
      refine ⟨c, ?_⟩
      have := h'.2
      cases q : decide (s.2.1 f ^^^ s.2.1 g = z) with
      | true => exact of_decide_eq_true q
      | false => rw [q] at this; cases this
  · rw [if_neg c]
    have at' := t1_at (gp := s.1) (hd := s.2.1) (f := f) (old := s.1 g) (tu := (s.2.1 f ^^^ s.2.1 g) ^^^ z) c k
    refine ⟨fun h => ⟨h, fun a b y ha hb q => ?_⟩, fun h => ?_⟩
    · refine ⟨?_, ?_⟩
      · show (fo (pm_t1 f (s.1 g) ((s.2.1 f ^^^ s.2.1 g) ^^^ z)) k (s.1, s.2.1)).1 a = (fo (pm_t1 f (s.1 g) ((s.2.1 f ^^^ s.2.1 g) ^^^ z)) k (s.1, s.2.1)).1 b
        rw [(at' a).1, (at' b).1]
        by_cases w : s.1 a = s.1 g
        · rw [if_pos ⟨ha, w⟩, if_pos ⟨hb, by rw [← q.1]; exact w⟩]
        · rw [if_neg (fun r => w r.2), if_neg (fun r => w (by rw [q.1]; exact r.2)), q.1]
      · show (fo (pm_t1 f (s.1 g) ((s.2.1 f ^^^ s.2.1 g) ^^^ z)) k (s.1, s.2.1)).2 a ^^^ (fo (pm_t1 f (s.1 g) ((s.2.1 f ^^^ s.2.1 g) ^^^ z)) k (s.1, s.2.1)).2 b = y
        rw [(at' a).2, (at' b).2]
        by_cases w : s.1 a = s.1 g
        · rw [if_pos ⟨ha, w⟩, if_pos ⟨hb, by rw [← q.1]; exact w⟩, x_same]; exact q.2
        · rw [if_neg (fun r => w r.2), if_neg (fun r => w (by rw [q.1]; exact r.2))]; exact q.2
    · refine ⟨?_, ?_⟩
      · show (fo (pm_t1 f (s.1 g) ((s.2.1 f ^^^ s.2.1 g) ^^^ z)) k (s.1, s.2.1)).1 f = (fo (pm_t1 f (s.1 g) ((s.2.1 f ^^^ s.2.1 g) ^^^ z)) k (s.1, s.2.1)).1 g
        rw [(at' f).1, (at' g).1, if_neg (fun r => c r.2), if_pos ⟨hg, rfl⟩]
      · show (fo (pm_t1 f (s.1 g) ((s.2.1 f ^^^ s.2.1 g) ^^^ z)) k (s.1, s.2.1)).2 f ^^^ (fo (pm_t1 f (s.1 g) ((s.2.1 f ^^^ s.2.1 g) ^^^ z)) k (s.1, s.2.1)).2 g = z
        rw [(at' f).2, (at' g).2, if_neg (fun r => c r.2), if_pos ⟨hg, rfl⟩, x_cancel]
theorem tell_CL {k f g : Nat} {lam : Nat → Bool} (hf : f < k) (hg : g < k) {s : TS} (h : CL k lam s) : CL k lam (pm_tell k f g (bI (lam f ^^ lam g)) s.1 s.2.1 s.2.2) := by
  obtain ⟨h1, h2⟩ := h
  unfold pm_tell
  by_cases c : s.1 f = s.1 g
  · rw [if_pos c]
    refine ⟨?_, h2⟩
    show (s.2.2 || !decide (s.2.1 f ^^^ s.2.1 g = bI (lam f ^^ lam g))) = false
    rw [h1, decide_eq_true (h2 f g hf hg c)]; rfl
  · rw [if_neg c]
    have at' := t1_at (gp := s.1) (hd := s.2.1) (f := f) (old := s.1 g) (tu := (s.2.1 f ^^^ s.2.1 g) ^^^ bI (lam f ^^ lam g)) c k
    refine ⟨h1, fun a b ha hb hab => ?_⟩
    have hab' : (fo (pm_t1 f (s.1 g) ((s.2.1 f ^^^ s.2.1 g) ^^^ bI (lam f ^^ lam g))) k (s.1, s.2.1)).1 a = (fo (pm_t1 f (s.1 g) ((s.2.1 f ^^^ s.2.1 g) ^^^ bI (lam f ^^ lam g))) k (s.1, s.2.1)).1 b := hab
    rw [(at' a).1, (at' b).1] at hab'
    show (fo (pm_t1 f (s.1 g) ((s.2.1 f ^^^ s.2.1 g) ^^^ bI (lam f ^^ lam g))) k (s.1, s.2.1)).2 a ^^^ (fo (pm_t1 f (s.1 g) ((s.2.1 f ^^^ s.2.1 g) ^^^ bI (lam f ^^ lam g))) k (s.1, s.2.1)).2 b = _
    rw [(at' a).2, (at' b).2]
    by_cases w1 : s.1 a = s.1 g <;> by_cases w2 : s.1 b = s.1 g
    · rw [if_pos ⟨ha, w1⟩, if_pos ⟨hb, w2⟩, x_same]
      exact h2 a b ha hb (w1.trans w2.symm)
    · rw [if_pos ⟨ha, w1⟩, if_neg (fun r => w2 r.2)] at hab' ⊢
      rw [x_mix, h2 a g ha hg w1, h2 f b hf hb hab', bI_xor, bI_xor]
      congr 1
      generalize lam a = p; generalize lam b = q; generalize lam f = r; generalize lam g = t
      cases p <;> cases q <;> cases r <;> cases t <;> rfl
    · rw [if_neg (fun r => w1 r.2), if_pos ⟨hb, w2⟩] at hab' ⊢
      rw [x_comm, x_mix, h2 b g hb hg w2, h2 f a hf ha hab'.symm, bI_xor, bI_xor]
      congr 1
      generalize lam a = p; generalize lam b = q; generalize lam f = r; generalize lam g = t
      cases p <;> cases q <;> cases r <;> cases t <;> rfl
    · rw [if_neg (fun r => w1 r.2), if_neg (fun r => w2 r.2)] at hab' ⊢
      exact h2 a b ha hb hab'
/-- all of a set are told to be alike -/
theorem ta_ok {k : Nat} (hk : k ≤ 18) {y : Int32} (hy : ¬ y = 0) (hyk : ∀ i, bt y i = true → i < k) (s : TS) : later k s (pm_ta k y s) ∧ ((pm_ta k y s).2.2 = false → ∀ f g, bt y f = true → bt y g = true → TD (pm_ta k y s) f g 0) ∧ (∀ lam, CL k lam s → (∀ f g, bt y f = true → bt y g = true → lam f = lam g) → CL k lam (pm_ta k y s)) := by
  have hl := least_end hy
  have hlb := least_bt hy
  have hlk := hyk _ hlb
  have hmin : ∀ j, bt y j = true → pm_least y ≤ j := by
    have hw := wl_meas (dn := pm_leD y) (st := pm_leS) (fun j => j < 32 ∧ ∀ i, i < j → bt y i = false) (fun j => 32 - j) (fun j hI hd => by
      have hb : bt y j = false := by
        unfold pm_leD at hd
        rw [pm_has_bt y hI.1] at hd
        exact hd
      have h1 : j + 1 < 32 := by
        refine Classical.byContradiction fun q => hy (b_zero.mpr fun i hi => ?_)
        by_cases e : i = j
        · rw [e]; exact hb
        · exact hI.2 i (by omega)
      refine ⟨⟨h1, fun i hi => ?_⟩, ?_⟩
      · have hi' : i < j + 1 := hi
        by_cases e : i = j
        · rw [e]; exact hb
        · exact hI.2 i (by omega)
      · show 32 - (j + 1) < 32 - j
        omega) 32 0 ⟨by decide, fun i hi => by omega⟩ (by decide)
    intro j hj
    refine Classical.byContradiction fun q => ?_
    have := hw.2.2 j (by have : pm_least y = wl (pm_leD y) pm_leS 32 0 := rfl; omega)
    rw [hj] at this; cases this
  unfold pm_ta
  generalize pm_least y = l at hl hlb hlk hmin ⊢
  have main : ∀ m, l + 1 + m ≤ k → later k s (fo (pm_ta1 k y l) m s) ∧ ((fo (pm_ta1 k y l) m s).2.2 = false → ∀ f, f < l + 1 + m → bt y f = true → f ≠ l → TD (fo (pm_ta1 k y l) m s) l f 0) ∧ (∀ lam, CL k lam s → (∀ f g, bt y f = true → bt y g = true → lam f = lam g) → CL k lam (fo (pm_ta1 k y l) m s)) := by
    intro m
    induction m with
    | zero =>
      intro _
      refine ⟨later_refl k s, fun _ f hf hb hne => ?_, fun lam h _ => h⟩
      have := hmin f hb
      omega
    | succ m ih =>
      intro hm
      obtain ⟨i1, i2, i3⟩ := ih (by omega)
      rw [fo_s]
      generalize fo (pm_ta1 k y l) m s = t at i1 i2 i3 ⊢
      unfold pm_ta1
      rw [pm_has_bt y (by omega : l + 1 + m < 32)]
      by_cases c : bt y (l + 1 + m) = true
      · rw [if_pos c]
        obtain ⟨t1, t2⟩ := tell_ok (k := k) hlk (show l + 1 + m < k by omega) 0 t
        refine ⟨later_trans i1 t1, fun hc f hf hb hne => ?_, fun lam hL hlam => ?_⟩
        · by_cases q : f = l + 1 + m
          · rw [q]; exact t2 hc
          · exact (t1 hc).2 l f 0 hlk (hyk f hb) (i2 (t1 hc).1 f (by omega) hb hne)
        · have e0 : (0 : Int32) = bI (lam l ^^ lam (l + 1 + m)) := by rw [hlam l _ hlb c, Bool.xor_self]; rfl
          rw [e0]
          exact tell_CL hlk (by omega) (i3 lam hL hlam)
      · rw [if_neg c]
        refine ⟨i1, fun hc f hf hb hne => ?_, i3⟩
        have : f ≠ l + 1 + m := fun q => c (by rw [← q]; exact hb)
        exact i2 hc f (by omega) hb hne
  obtain ⟨m1, m2, m3⟩ := main (k - (l + 1)) (by omega)
  refine ⟨m1, fun hc f g hf hg => ?_, m3⟩
  have td : ∀ f, bt y f = true → TD (fo (pm_ta1 k y l) (k - (l + 1)) s) l f 0 := fun f hf => by
    by_cases q : f = l
    · rw [q]; exact ⟨rfl, by apply b_ext; intro i _; rw [b_xor, b_0, Bool.xor_self]⟩
    · exact m2 hc f (by have := hyk f hf; omega) hf q
  exact TD_tr (TD_symm (td f hf)) (td g hg)
