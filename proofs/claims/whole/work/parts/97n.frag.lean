/-! fragments beside a drawn circle -/
def Con (k : Nat) (F S : Nat → Nat) (y dV : Int32) (e v : Nat) : Prop := bt dV v = true ∧ ∃ f, Frg k F S y dV e f ∧ at' F S f v
section FG
variable {n k : Nat} {F S : Nat → Nat} {y dE dV : Int32}
theorem frg_refl {e : Nat} (he : e < k) (hy : bt y e = true) : Frg k F S y dV e e := ⟨he, hy, fun _ z _ => z⟩
theorem joins_at {e u v p : Nat} (h : pg_joins F S e u v) (hp : at' F S e p) : p = u ∨ p = v := by
  rcases h with ⟨z1, z2⟩ | ⟨z1, z2⟩ <;> rcases hp with q | q <;> omega
theorem at_joins {e u v : Nat} (h : pg_joins F S e u v) : at' F S e u ∧ at' F S e v := by
  rcases h with ⟨z1, z2⟩ | ⟨z1, z2⟩
  · exact ⟨Or.inl z1, Or.inr z2⟩
  · exact ⟨Or.inr z2, Or.inl z1⟩
abbrev frE (k : Nat) (F S : Nat → Nat) (y dV : Int32) (e g : Nat) : Prop := Frg k F S y dV e g
abbrev frU (k : Nat) (F S : Nat → Nat) (y dV : Int32) (e v : Nat) : Prop := bt dV v = false ∧ ∃ g, Frg k F S y dV e g ∧ at' F S g v
theorem frag_walk {e f : Nat} (he : e < k) (hy : bt y e = true) (h : Frg k F S y dV e f) : ∃ l u hh, hh 0 = e ∧ hh (l - 1) = f ∧ Wk F S (frE k F S y dV e) (frU k F S y dV e) l u hh := by
  refine h.2.2 (fun f => ∃ l u hh, hh 0 = e ∧ hh (l - 1) = f ∧ Wk F S (frE k F S y dV e) (frU k F S y dV e) l u hh) ⟨1, fun t => if t = 0 then F e else S e, fun _ => e, rfl, rfl, Wk_one (frg_refl he hy) (Or.inl ⟨rfl, rfl⟩)⟩ ?_
  rintro f g v hf hg yf yg hv af ag ⟨l, u, hh, e1, e2, W⟩
  have hl := W.1
  obtain ⟨x, hx⟩ : ∃ x, pg_joins F S g v x := by
    rcases ag with z | z
    · exact ⟨S g, Or.inl ⟨z, rfl⟩⟩
    · exact ⟨F g, Or.inr ⟨rfl, z⟩⟩
  have w1 := W.2.1 (l - 1) (by omega)
  rw [e2, show l - 1 + 1 = l from by omega] at w1
  have hfr : Frg k F S y dV e g := Frg_step w1.1 hg yg hv af ag
  have app : ∀ l' u' hh', hh' 0 = e → u' l' = v → Wk F S (frE k F S y dV e) (frU k F S y dV e) l' u' hh' → ∃ l u hh, hh 0 = e ∧ hh (l - 1) = g ∧ Wk F S (frE k F S y dV e) (frU k F S y dV e) l u hh := fun l' u' hh' q1 q2 W' =>
    ⟨l' + 1, cU l' u' (fun t => if t = 0 then v else x), cH l' hh' (fun _ => g), by rw [cH_0 _ _ W'.1]; exact q1, cH_e (l := l') hh' (fun _ => g) (Nat.le_refl 1), Wk_cat W' (Wk_one (e := g) (x := v) (y := x) hfr hx) q2 (by rw [q2]; exact ⟨hv, g, hfr, ag⟩)⟩
  rcases joins_at w1.2 af with z | z
  · by_cases c : l = 1
    · refine app l (fun t => u (l - t)) (fun t => hh (l - 1 - t)) ?_ ?_ (Wk_rev W)
      · show hh (l - 1 - 0) = e
        rw [show l - 1 - 0 = 0 from by omega]; exact e1
      · show u (l - l) = v
        rw [z]; congr 1; omega
    · exact app (l - 1) u hh e1 z.symm ⟨by omega, fun t ht => W.2.1 t (by omega), fun t t1 t2 => W.2.2 t t1 (by omega)⟩
  · exact app l u hh e1 z.symm W
theorem frag_ends {e f p q : Nat} (he : e < k) (hy : bt y e = true) (h : Frg k F S y dV e f) (hp : at' F S e p) (hq : at' F S f q) (dp : bt dV p = true) (dq : bt dV q = true) : (e = f ∧ p = q) ∨ ∃ l u hh, hh 0 = e ∧ hh (l - 1) = f ∧ u 0 = p ∧ u l = q ∧ Wk F S (frE k F S y dV e) (frU k F S y dV e) l u hh := by
  obtain ⟨l, u, hh, e1, e2, W⟩ := frag_walk he hy h
  have hl := W.1
  have w0 := W.2.1 0 (by omega)
  have w1 := W.2.1 (l - 1) (by omega)
  rw [e1] at w0
  rw [e2, show l - 1 + 1 = l from by omega] at w1
  have cp := joins_at w0.2 hp
  have cq := joins_at w1.2 hq
  by_cases c : l = 1
  · subst c
    have hef : e = f := by rw [← e1, ← e2]
    rcases cp with z | z <;> rcases cq with z' | z'
    · exact Or.inl ⟨hef, by rw [z, z']⟩
    · exact Or.inr ⟨1, u, hh, e1, e2, z.symm, z'.symm, W⟩
    · exact Or.inr ⟨1, fun t => u (1 - t), fun t => hh (1 - 1 - t), by show hh (1 - 1 - 0) = e; rw [show (1 : Nat) - 1 - 0 = 0 from by decide]; exact e1, by show hh (1 - 1 - (1 - 1)) = f; rw [show (1 : Nat) - 1 - (1 - 1) = 1 - 1 from by decide]; exact e2, z.symm, z'.symm, Wk_rev W⟩
    · exact Or.inl ⟨hef, by rw [z, z']⟩
  · refine Or.inr ⟨l, u, hh, e1, e2, ?_, ?_, W⟩
    · rcases cp with z | z
      · exact z.symm
      · have := (W.2.2 1 (by omega) (by omega)).1
        rw [z] at dp
        rw [dp] at this; cases this
    · rcases cq with z | z
      · have := (W.2.2 (l - 1) (by omega) (by omega)).1
        rw [z] at dq
        rw [dq] at this; cases this
      · exact z.symm
theorem frg_nd (hdV : ∀ v, bt dV v = true ↔ ∃ e, bt dE e = true ∧ at' F S e v) {e g : Nat} (he : bt dE e = false) (h : Frg k F S y dV e g) : bt dE g = false := by
  rcases Frg_off h with z | ⟨v, v1, v2⟩
  · rw [z]; exact he
  · cases q : bt dE g with
    | false => rfl
    | true =>
      rw [(hdV v).mpr ⟨g, q, v1⟩] at v2; cases v2
/-- a drawn circle -/
def DC (n k : Nat) (F S : Nat → Nat) (dE : Int32) (L : Nat) (w g : Nat → Nat) : Prop := CS n k F S L w g ∧ ∀ p, p < L → bt dE (g p) = true
theorem DC_v (hdV : ∀ v, bt dV v = true ↔ ∃ e, bt dE e = true ∧ at' F S e v) {L : Nat} {w g : Nat → Nat} (hc : DC n k F S dE L w g) {p : Nat} (hp : p < L) : bt dV (w p) = true := (hdV _).mpr ⟨g p, hc.2 p hp, (at_joins (hc.1.2.1 p hp).2.2).1⟩
theorem off_E (hdV : ∀ v, bt dV v = true ↔ ∃ e, bt dE e = true ∧ at' F S e v) {L : Nat} {w g : Nat → Nat} (hc : DC n k F S dE L w g) {e g' : Nat} (he : bt dE e = false) (h : frE k F S y dV e g') : offE k (fun e => bt y e) L g g' := ⟨h.1, h.2.1, fun p hp z => by
  have := frg_nd hdV he h
  rw [← z, hc.2 p hp] at this; cases this⟩
theorem off_V (hdV : ∀ v, bt dV v = true ↔ ∃ e, bt dE e = true ∧ at' F S e v) {L : Nat} {w g : Nat → Nat} (hc : DC n k F S dE L w g) {v : Nat} (h : bt dV v = false) : offV L w v := fun p hp z => by
  have := DC_v hdV hc hp
  rw [z, h] at this; cases this
theorem frag_side (hFS : ∀ e, e < k → F e < n ∧ S e < n ∧ F e ≠ S e) (hdV : ∀ v, bt dV v = true ↔ ∃ e, bt dE e = true ∧ at' F S e v) (hsub : ∀ e, bt dE e = true → bt y e = true) {o : Nat → Nat → Nat → Bool} (hI : Flt n k F S o (fun e => bt y e)) {L : Nat} {w g : Nat → Nat} (hc : DC n k F S dE L w g) {e f A B : Nat} (he : Td k y dE e) (h : Frg k F S y dV e f) (hA : A < L) (hB : B < L) (aA : at' F S e (w A)) (aB : at' F S f (w B)) :
    pg_tau o (w A) (g (prv L A)) (g A) e = pg_tau o (w B) (g (prv L B)) (g B) f := by
  rcases frag_ends he.1 he.2.1 h aA aB (DC_v hdV hc hA) (DC_v hdV hc hB) with ⟨z1, z2⟩ | ⟨l, u, hh, e1, e2, q1, q2, W⟩
  · rw [hc.1.2.2.1 A B hA hB z2, z1]
  · have := side_walk hFS hI hc.1 (fun p hp => hsub _ (hc.2 p hp)) (Wk_mono W (fun g' hg' => off_E hdV hc he.2.2 hg') (fun v hv => off_V hdV hc hv.1)) hA hB q1 q2
    rw [e1, e2] at this
    exact this
theorem td_frg (hdV : ∀ v, bt dV v = true ↔ ∃ e, bt dE e = true ∧ at' F S e v) {e f : Nat} (he : Td k y dE e) (h : Frg k F S y dV e f) : Td k y dE f := ⟨h.1, h.2.1, frg_nd hdV he.2.2 h⟩
/-- a path through a fragment -/
theorem frag_path {e f p q : Nat} (he : e < k) (hy : bt y e = true) (h : Frg k F S y dV e f) (hp : at' F S e p) (hq : at' F S f q) (dp : bt dV p = true) (dq : bt dV q = true) (hpq : p ≠ q) : ∃ l u hh, hh 0 = e ∧ hh (l - 1) = f ∧ u 0 = p ∧ u l = q ∧ Wk F S (frE k F S y dV e) (frU k F S y dV e) l u hh ∧ ∀ s t, s ≤ l → t ≤ l → u s = u t → s = t := by
  rcases frag_ends he hy h hp hq dp dq with ⟨_, z⟩ | ⟨l, u, hh, e1, e2, q1, q2, W⟩
  · exact absurd z hpq
  · have n0 : ¬ frU k F S y dV e (u 0) := fun z => by
      have := z.1
      rw [q1, dp] at this; cases this
    have n1 : ¬ frU k F S y dV e (u l) := fun z => by
      have := z.1
      rw [q2, dq] at this; cases this
    obtain ⟨l', u', h', w1, w2, w3, w4, w5, w6⟩ := Wk_short l l u hh (Nat.le_refl l) W n0 n1 (by rw [q1, q2]; exact hpq)
    exact ⟨l', u', h', w4.trans e1, w5.trans e2, w2.trans q1, w3.trans q2, w1, w6⟩
/-- no edge, no vertex in common -/
theorem frg_apart {e f g : Nat} (he : e < k) (ye : bt y e = true) (hf : f < k) (yf : bt y f = true) (hno : ¬ Frg k F S y dV e f) (h1 : Frg k F S y dV e g) (h2 : Frg k F S y dV f g) : False := hno (Frg_trans h1 (Frg_symm hf yf h2))
theorem frg_apartv {e f v : Nat} (he : e < k) (ye : bt y e = true) (hf : f < k) (yf : bt y f = true) (hno : ¬ Frg k F S y dV e f) (h1 : frU k F S y dV e v) (h2 : frU k F S y dV f v) : False := by
  obtain ⟨v1, g1, a1, b1⟩ := h1
  obtain ⟨_, g2, a2, b2⟩ := h2
  exact frg_apart he ye hf yf hno (Frg_step a1 a2.1 a2.2.1 v1 b1 b2) a2
/-- conflict: different sides -/
theorem cfl_sides (hFS : ∀ e, e < k → F e < n ∧ S e < n ∧ F e ≠ S e) (hdV : ∀ v, bt dV v = true ↔ ∃ e, bt dE e = true ∧ at' F S e v) (hsub : ∀ e, bt dE e = true → bt y e = true) {o : Nat → Nat → Nat → Bool} (hI : Flt n k F S o (fun e => bt y e)) {L : Nat} {w g : Nat → Nat} (hc : DC n k F S dE L w g) {e f : Nat} (he : Td k y dE e) (hf : Td k y dE f) (hno : ¬ Frg k F S y dV e f) (hC : Cfl L w (Con k F S y dV e) (Con k F S y dV f)) :
    ∃ A B e' f', A < L ∧ B < L ∧ Frg k F S y dV e e' ∧ at' F S e' (w A) ∧ Frg k F S y dV f f' ∧ at' F S f' (w B) ∧ pg_tau o (w B) (g (prv L B)) (g B) f' = !pg_tau o (w A) (g (prv L A)) (g A) e' := by
  have hX : ∀ p, p < L → bt y (g p) = true := fun p hp => hsub _ (hc.2 p hp)
  have pathE : ∀ e' f' p q, Frg k F S y dV e e' → Frg k F S y dV e f' → at' F S e' p → at' F S f' q → bt dV p = true → bt dV q = true → p ≠ q → ∃ l u hh, hh 0 = e' ∧ u 0 = p ∧ u l = q ∧ Wk F S (offE k (fun e => bt y e) L g) (offV L w) l u hh ∧ (∀ s t, s ≤ l → t ≤ l → u s = u t → s = t) ∧ (∀ t, t < l → Frg k F S y dV e (hh t)) ∧ ∀ t, t ≤ l → bt dV (u t) = true ∨ frU k F S y dV e (u t) := fun e' f' p q h1 h2 a1 a2 b1 b2 hpq => by
    have te := td_frg hdV he h1
    obtain ⟨l, u, hh, q1, q2, q3, q4, W, inj⟩ := frag_path te.1 te.2.1 (Frg_trans (Frg_symm he.1 he.2.1 h1) h2) a1 a2 b1 b2 hpq
    refine ⟨l, u, hh, q1, q3, q4, Wk_mono W (fun g' hg' => off_E hdV hc te.2.2 hg') (fun v hv => off_V hdV hc hv.1), inj, fun t ht => Frg_trans h1 (W.2.1 t ht).1, fun t ht => ?_⟩
    by_cases c0 : t = 0
    · rw [c0, q3]; exact Or.inl b1
    · by_cases c1 : t = l
      · rw [c1, q4]; exact Or.inl b2
      · obtain ⟨z1, g', z2, z3⟩ := W.2.2 t (by omega) (by omega)
        exact Or.inr ⟨z1, g', Frg_trans h1 z2, z3⟩
  have walkF : ∀ e' f' p q, Frg k F S y dV f e' → Frg k F S y dV f f' → at' F S e' p → at' F S f' q → bt dV p = true → bt dV q = true → p ≠ q → ∃ l u hh, hh 0 = e' ∧ u 0 = p ∧ u l = q ∧ Wk F S (fun g' => offE k (fun e => bt y e) L g g' ∧ Frg k F S y dV f g') (fun v => offV L w v ∧ frU k F S y dV f v) l u hh := fun e' f' p q h1 h2 a1 a2 b1 b2 hpq => by
    have te := td_frg hdV hf h1
    obtain ⟨l, u, hh, q1, q2, q3, q4, W, _⟩ := frag_path te.1 te.2.1 (Frg_trans (Frg_symm hf.1 hf.2.1 h1) h2) a1 a2 b1 b2 hpq
    refine ⟨l, u, hh, q1, q3, q4, Wk_mono W (fun g' hg' => ⟨off_E hdV hc te.2.2 hg', Frg_trans h1 hg'⟩) (fun v hv => ⟨off_V hdV hc hv.1, ?_⟩)⟩
    obtain ⟨z1, g', z2, z3⟩ := hv
    exact ⟨z1, g', Frg_trans h1 z2, z3⟩
  have sepE : ∀ {l : Nat} {hh : Nat → Nat} {g' : Nat}, (∀ t, t < l → Frg k F S y dV e (hh t)) → Frg k F S y dV f g' → ∀ t, t < l → hh t ≠ g' := fun h1 h2 t ht z => frg_apart he.1 he.2.1 hf.1 hf.2.1 hno (h1 t ht) (by rw [z]; exact h2)
  have sepV : ∀ {l : Nat} {u : Nat → Nat} {v : Nat}, (∀ t, t ≤ l → bt dV (u t) = true ∨ frU k F S y dV e (u t)) → frU k F S y dV f v → ∀ t, t ≤ l → u t ≠ v := fun h1 h2 t ht z => by
    rcases h1 t ht with q | q
    · rw [z, h2.1] at q; cases q
    · rw [z] at q
      exact frg_apartv he.1 he.2.1 hf.1 hf.2.1 hno q h2
  have winj := hc.1.2.2.1
  rcases hC with ⟨A1, A2, B1, B2, a1, a2, a3, a4, c1, c2, ⟨v1, e1, x1, y1⟩, ⟨v2, e2, x2, y2⟩, ⟨v3, f1, x3, y3⟩, ⟨v4, f2, x4, y4⟩⟩ | ⟨p, q, r, a1, a2, a3, c, ⟨⟨v1, e1, x1, y1⟩, ⟨v2, e2, x2, y2⟩, ⟨v3, e3, x3, y3⟩⟩, ⟨_, f1, x4, y4⟩, ⟨_, f2, x5, y5⟩, ⟨_, f3, x6, y6⟩⟩
  · obtain ⟨l, u, hh, q1, q2, q3, W1, i1, q4, q5⟩ := pathE e1 e2 _ _ x1 x2 y1 y2 v1 v2 (fun z => by have := winj _ _ a1 a3 z; unfold cyc3 at c1; omega)
    obtain ⟨l', u', hh', r1, r2, r3, W2⟩ := walkF f1 f2 _ _ x3 x4 y3 y4 v3 v4 (fun z => by have := winj _ _ a2 a4 z; unfold cyc3 at c1 c2; omega)
    have := itl_side hFS hI hc.1 hX a1 a3 a2 a4 c1 c2 W1 i1 q2 q3 (Wk_mono W2 (fun g' hg' => ⟨hg'.1, sepE q4 hg'.2⟩) (fun v hv => ⟨hv.1, sepV q5 hv.2⟩)) r2 r3
    rw [q1, r1] at this
    exact ⟨A1, A2, e1, f1, a1, a2, x1, y1, x3, y3, this⟩
  · have npq : w p ≠ w q := fun z => by have := winj _ _ a1 a2 z; unfold cyc3 at c; omega
    have npr : w p ≠ w r := fun z => by have := winj _ _ a1 a3 z; unfold cyc3 at c; omega
    obtain ⟨l1, u1, h1, q1, q2, q3, W1, i1, q4, q5⟩ := pathE e1 e2 _ _ x1 x2 y1 y2 v1 v2 npq
    obtain ⟨l2, u2, h2, r1, r2, r3, W2, i2, r4, r5⟩ := pathE e1 e3 _ _ x1 x3 y1 y3 v1 v3 npr
    obtain ⟨l3, u3, h3, s1, s2, s3, W3⟩ := walkF f1 f2 _ _ x4 x5 y4 y5 v1 v2 npq
    obtain ⟨l4, u4, h4, t1, t2, t3, W4⟩ := walkF f1 f3 _ _ x4 x6 y4 y6 v1 v3 npr
    have := thr_side hFS hI hc.1 hX a1 a2 a3 c W1 i1 q2 q3 q1 W2 i2 r2 r3 r1 (Wk_mono W3 (fun g' hg' => ⟨hg'.1, sepE q4 hg'.2, sepE r4 hg'.2⟩) (fun v hv => ⟨hv.1, sepV q5 hv.2, sepV r5 hv.2⟩)) s2 s3 s1 (Wk_mono W4 (fun g' hg' => ⟨hg'.1, sepE q4 hg'.2, sepE r4 hg'.2⟩) (fun v hv => ⟨hv.1, sepV q5 hv.2, sepV r5 hv.2⟩)) t2 t3 t1
    exact ⟨p, p, e1, f1, a1, a1, x1, y1, x4, y4, this⟩
end FG
