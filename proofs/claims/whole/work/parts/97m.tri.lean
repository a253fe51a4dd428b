/-! three vertices on two faces lie there in opposite orders -/
section TV
variable {n m : Nat} {a b : Nat → Nat}
def u3 (x t y : Nat) (i : Nat) : Nat := if i = 0 then x else if i = 1 then t else y
def h2' (x y : Nat) (i : Nat) : Nat := if i = 0 then x else y
theorem u3_0 (x t y : Nat) : u3 x t y 0 = x := by unfold u3; rw [if_pos rfl]
theorem u3_1 (x t y : Nat) : u3 x t y 1 = t := by unfold u3; rw [if_neg (by omega), if_pos rfl]
theorem u3_2 (x t y : Nat) : u3 x t y 2 = y := by unfold u3; rw [if_neg (by omega), if_neg (by omega)]
theorem h2_0 (x y : Nat) : h2' x y 0 = x := by unfold h2'; rw [if_pos rfl]
theorem h2_1 (x y : Nat) : h2' x y 1 = y := by unfold h2'; rw [if_neg (by omega)]
theorem u3_inj {x t y : Nat} (h1 : x ≠ t) (h2 : t ≠ y) (h3 : x ≠ y) : ∀ i j, i ≤ 2 → j ≤ 2 → u3 x t y i = u3 x t y j → i = j := fun i j hi hj z => by
  have ci : i = 0 ∨ i = 1 ∨ i = 2 := by omega
  have cj : j = 0 ∨ j = 1 ∨ j = 2 := by omega
  rcases ci with c | c | c <;> rcases cj with d | d | d <;> subst c d <;> simp only [u3_0, u3_1, u3_2] at z
  · rfl
  · exact absurd z h1
  · exact absurd z h3
  · exact absurd z.symm h1
  · rfl
  · exact absurd z h2
  · exact absurd z.symm h3
  · exact absurd z.symm h2
  · rfl
theorem Wk_two {E U : Nat → Prop} {e e' x t y : Nat} (hE : E e) (hE' : E e') (hU : U t) (hj : pg_joins a b e x t) (hj' : pg_joins a b e' t y) : Wk a b E U 2 (u3 x t y) (h2' e e') := by
  refine ⟨by omega, fun i hi => ?_, fun i i1 i2 => ?_⟩
  · have ci : i = 0 ∨ i = 1 := by omega
    rcases ci with c | c <;> subst c
    · rw [h2_0, u3_0, u3_1]; exact ⟨hE, hj⟩
    · rw [h2_1, u3_1, u3_2]; exact ⟨hE', hj'⟩
  · have : i = 1 := by omega
    subst this
    rw [u3_1]; exact hU
theorem arc_t {L A d x t y e e' : Nat} {w g : Nat → Nat} : arcW L A d 2 w (u3 x t y) (d + 1) = t ∧ arcG L A d 2 g (h2' e e') (d + 1) = e ∧ arcG L A d 2 g (h2' e e') (prv (d + 2) (d + 1)) = e' := by
  refine ⟨?_, ?_, ?_⟩
  · unfold arcW; rw [if_neg (by omega), show 2 - (d + 1 - d) = 1 from by omega, u3_1]
  · unfold arcG; rw [if_neg (by omega), show 2 - 1 - (d + 1 - d) = 0 from by omega, h2_0]
  · rw [show prv (d + 2) (d + 1) = d from by unfold prv; rw [if_neg (by omega)]; rfl]
    unfold arcG; rw [if_neg (by omega), show 2 - 1 - (d - d) = 1 from by omega, h2_1]
theorem tri_virt {o : Nat → Nat → Nat → Bool} {D : Nat → Bool} {r : Nat} {L : Nat → Nat} {w g : Nat → Nat → Nat} (hab : ∀ e, e < m → a e < n ∧ b e < n ∧ a e ≠ b e) (hDm : ∀ e, D e = true → e < m) (h : DS n m a b o D r L w g) {f g1 : Nat} (hf : f < r) (h1 : g1 < r) (n1 : f ≠ g1)
    {P Q R : Nat} (hP : P < L f) (hQ : Q < L f) (hR : R < L f) (c1 : cyc3 P Q R) {P' Q' R' : Nat} (hP' : P' < L g1) (hQ' : Q' < L g1) (hR' : R' < L g1) (c2 : cyc3 P' Q' R') (e1 : w g1 P' = w f P) (e2 : w g1 Q' = w f Q) (e3 : w g1 R' = w f R) : False := by
  have hcf := (h.2.1 f hf).1
  have gm : ∀ p, p < L f → g f p < m := fun p hp => (hcf.2.1 p hp).2.1
  have wn : ∀ p, p < L f → w f p < n := fun p hp => (hcf.2.1 p hp).1
  have xPQ : w f P ≠ w f Q := fun z => by have := hcf.2.2.1 _ _ hP hQ z; unfold cyc3 at c1; omega
  have nP' : P' ≠ Q' := by unfold cyc3 at c2; omega
  have lx := wn P hP
  have ly := wn Q hQ
  have lz := wn R hR
  have hab' : ∀ e, e < m + 3 → (fun e => if e = m then w f P else if e = m + 1 then n else if e = m + 2 then n else a e) e < n + 1 ∧ (fun e => if e = m then n else if e = m + 1 then w f Q else if e = m + 2 then w f R else b e) e < n + 1 ∧ (fun e => if e = m then w f P else if e = m + 1 then n else if e = m + 2 then n else a e) e ≠ (fun e => if e = m then n else if e = m + 1 then w f Q else if e = m + 2 then w f R else b e) e := fun e he => by
    dsimp only
    by_cases z1 : e = m
    · simp only [if_pos z1]; omega
    · by_cases z2 : e = m + 1
      · simp only [if_neg z1, if_pos z2]; omega
      · by_cases z3 : e = m + 2
        · simp only [if_neg z1, if_neg z2, if_pos z3]; omega
        · simp only [if_neg z1, if_neg z2, if_neg z3]
          obtain ⟨q1, q2, q3⟩ := hab e (by omega)
          exact ⟨by omega, by omega, q3⟩
  have hold : ∀ e, e < m → (fun e => if e = m then w f P else if e = m + 1 then n else if e = m + 2 then n else a e) e = a e ∧ (fun e => if e = m then n else if e = m + 1 then w f Q else if e = m + 2 then w f R else b e) e = b e := fun e he => by
    dsimp only
    simp only [if_neg (show ¬ e = m by omega), if_neg (show ¬ e = m + 1 by omega), if_neg (show ¬ e = m + 2 by omega)]
    exact ⟨trivial, trivial⟩
  have j1 : pg_joins (fun e => if e = m then w f P else if e = m + 1 then n else if e = m + 2 then n else a e) (fun e => if e = m then n else if e = m + 1 then w f Q else if e = m + 2 then w f R else b e) m (w f P) n := Or.inl ⟨by simp, by simp⟩
  have j2 : pg_joins (fun e => if e = m then w f P else if e = m + 1 then n else if e = m + 2 then n else a e) (fun e => if e = m then n else if e = m + 1 then w f Q else if e = m + 2 then w f R else b e) (m + 1) n (w f Q) := Or.inl ⟨by simp, by simp⟩
  have j3 : pg_joins (fun e => if e = m then w f P else if e = m + 1 then n else if e = m + 2 then n else a e) (fun e => if e = m then n else if e = m + 1 then w f Q else if e = m + 2 then w f R else b e) (m + 2) n (w f R) := Or.inl ⟨by simp, by simp⟩
  generalize (fun e => if e = m then w f P else if e = m + 1 then n else if e = m + 2 then n else a e) = a' at hab' hold j1 j2 j3
  generalize (fun e => if e = m then n else if e = m + 1 then w f Q else if e = m + 2 then w f R else b e) = b' at hab' hold j1 j2 j3
  have hx := DS_ext (n' := n + 1) (m' := m + 3) (a' := a') (b' := b') (by omega) (by omega) hold hDm h
  have Dno : ∀ e, m ≤ e → D e = false := fun e he => by
    cases q : D e with
    | false => rfl
    | true => have := hDm e q; omega
  have hPT : PT (n + 1) (m + 3) a' b' D 2 (u3 (w f P) n (w f Q)) (h2' m (m + 1)) := by
    have hw := Wk_two (E := fun e => e < m + 3 ∧ D e = false) (U := fun v => v = n) ⟨by omega, Dno m (Nat.le_refl m)⟩ ⟨by omega, Dno (m + 1) (by omega)⟩ rfl j1 j2
    refine ⟨hw.1, fun t ht => ⟨(hw.2.1 t ht).1.1, (hw.2.1 t ht).1.2, (hw.2.1 t ht).2⟩, fun t t1 t2 => ?_, u3_inj (by omega) (by omega) xPQ⟩
    rw [hw.2.2 t t1 t2]
    refine ⟨by omega, fun e he hD => ?_⟩
    have hem := hDm e hD
    obtain ⟨q1, q2, _⟩ := hab e hem
    unfold pg_inc
    rw [(hold e hem).1, (hold e hem).2, decide_eq_false (show ¬ a e = n by omega), decide_eq_false (show ¬ b e = n by omega)]
    rfl
  have d1 := DS_add hx h1 hP' hQ' nP' hPT (by rw [u3_0]; exact e1.symm) (by rw [u3_2]; exact e2.symm)
  obtain ⟨p, p0, pd, pe⟩ := cyc3_at hQ' hP' hR' (cyc3_rot c2)
  have k1 : adL L r g1 P' Q' 2 r = dst (L g1) Q' P' + 2 := by unfold adL; rw [if_neg (by omega), if_pos rfl]
  have k2 : adW L w r g1 P' Q' 2 (u3 (w f P) n (w f Q)) r = arcW (L g1) Q' (dst (L g1) Q' P') 2 (w g1) (fun t => u3 (w f P) n (w f Q) (2 - t)) := by unfold adW; rw [if_neg (by omega), if_pos rfl]
  have k3 : arcW (L g1) Q' (dst (L g1) Q' P') 2 (w g1) (fun t => u3 (w f P) n (w f Q) (2 - t)) (dst (L g1) Q' P' + 1) = n := by
    unfold arcW; rw [if_neg (by omega)]
    show u3 (w f P) n (w f Q) (2 - (2 - (dst (L g1) Q' P' + 1 - dst (L g1) Q' P'))) = n
    rw [show 2 - (2 - (dst (L g1) Q' P' + 1 - dst (L g1) Q' P')) = 1 from by omega, u3_1]
  have k4 : arcW (L g1) Q' (dst (L g1) Q' P') 2 (w g1) (fun t => u3 (w f P) n (w f Q) (2 - t)) p = w f R := by
    unfold arcW; rw [if_pos (by omega), pe]; exact e3
  have d2 := DS_add d1 (j := r) (A := dst (L g1) Q' P' + 1) (B := p) (l := 1) (u := fun t => if t = 0 then n else w f R) (hh := fun _ => m + 2) (by omega) (by rw [k1]; omega) (by rw [k1]; omega) (by omega) (PT_one (by omega) (by
    rw [Dno (m + 2) (by omega)]
    unfold isIn isIn isIn
    rw [h2_0, h2_1]
    simp) j3 (by omega)) (by show n = _; rw [k2, k3]) (by show w f R = _; rw [k2, k4])
  have hgr : g1 ≠ r := by omega
  have hfr : f ≠ r := by omega
  have gL : adL (adL L r g1 P' Q' 2) (r + 1) r (dst (L g1) Q' P' + 1) p 1 g1 = dst (L g1) P' Q' + 2 := by unfold adL; rw [if_neg hgr, if_neg (by omega), if_pos rfl]
  have gW : adW (adL L r g1 P' Q' 2) (adW L w r g1 P' Q' 2 (u3 (w f P) n (w f Q))) (r + 1) r (dst (L g1) Q' P' + 1) p 1 (fun t => if t = 0 then n else w f R) g1 = arcW (L g1) P' (dst (L g1) P' Q') 2 (w g1) (u3 (w f P) n (w f Q)) := by unfold adW; rw [if_neg hgr, if_neg (by omega), if_pos rfl]
  have gG : adG (adL L r g1 P' Q' 2) (adG L g r g1 P' Q' 2 (h2' m (m + 1))) (r + 1) r (dst (L g1) Q' P' + 1) p 1 (fun _ => m + 2) g1 = arcG (L g1) P' (dst (L g1) P' Q') 2 (g g1) (h2' m (m + 1)) := by unfold adG; rw [if_neg hgr, if_neg (by omega), if_pos rfl]
  have eL : adL (adL L r g1 P' Q' 2) (r + 1) r (dst (L g1) Q' P' + 1) p 1 f = L f := by unfold adL; rw [if_neg hfr, if_neg (by omega), if_neg n1, if_neg hfr]
  have eW : adW (adL L r g1 P' Q' 2) (adW L w r g1 P' Q' 2 (u3 (w f P) n (w f Q))) (r + 1) r (dst (L g1) Q' P' + 1) p 1 (fun t => if t = 0 then n else w f R) f = w f := by unfold adW; rw [if_neg hfr, if_neg (by omega), if_neg n1, if_neg hfr]
  have eG : adG (adL L r g1 P' Q' 2) (adG L g r g1 P' Q' 2 (h2' m (m + 1))) (r + 1) r (dst (L g1) Q' P' + 1) p 1 (fun _ => m + 2) f = g f := by unfold adG; rw [if_neg hfr, if_neg (by omega), if_neg n1, if_neg hfr]
  have hFl := DS_Flt hab' d2
  have hc := (d2.2.1 f (by omega)).1
  have hX := (d2.2.1 f (by omega)).2
  have hS := d2.2.2.1 f
  have hSg := d2.2.2.1 g1
  rw [eL, eW, eG] at hc
  rw [eL, eG] at hX
  rw [eL, eW, eG] at hS
  rw [gL, gW, gG] at hSg
  generalize hD2 : (fun e => (fun e => D e || isIn (h2' m (m + 1)) e 2) e || isIn (fun _ => m + 2) e 1) = D2 at hFl hX hS hSg
  have on : ∀ e, D2 e = ((D e || isIn (h2' m (m + 1)) e 2) || isIn (fun _ => m + 2) e 1) := fun e => by rw [← hD2]
  have o0 : D2 m = true := by rw [on]; unfold isIn isIn; rw [h2_0]; simp
  have o1 : D2 (m + 1) = true := by rw [on]; unfold isIn; rw [h2_1]; simp
  have o2 : D2 (m + 2) = true := by rw [on]; unfold isIn; simp
  have ne : ∀ i p, p < L f → g f p ≠ m + i := fun i p hp z => by have := gm p hp; omega
  -- the corner at the new vertex
  obtain ⟨t1, t2, t3⟩ := arc_t (L := L g1) (A := P') (d := dst (L g1) P' Q') (x := w f P) (t := n) (y := w f Q) (e := m) (e' := m + 1) (w := w g1) (g := g g1)
  have s1 := hSg (dst (L g1) P' Q' + 1) (m + 2) (by omega) (by omega) (by omega) o2 (by rw [t1]; exact (joins_inc j3).1) (by rw [t2]; omega) (by rw [t3]; omega)
  rw [t1, t2, t3] at s1
  -- the side on f
  have s2 := hS P m (by omega) hP (by omega) o0 (joins_inc j1).1 (fun z => ne 0 P hP z.symm) (fun z => ne 0 _ (prv_lt hP) z.symm)
  have W1 : Wk a' b' (offE (m + 3) D2 (L f) (g f)) (offV (L f) (w f)) 2 (u3 (w f P) n (w f Q)) (h2' m (m + 1)) := Wk_two ⟨by omega, o0, ne 0⟩ ⟨by omega, o1, ne 1⟩ (fun p hp z => by have := wn p hp; omega) j1 j2
  have hC1 := CS_arc hc (D := fun e => isIn (g f) e (L f)) (fun p hp => (isIn_iff (g f) _ (L f)).mpr ⟨p, hp, rfl⟩) hP hQ (by unfold cyc3 at c1; omega) (Wk_PT hab' hc W1 (u3_inj (by omega) (by omega) xPQ)) (u3_0 _ _ _) (u3_2 _ _ _)
  obtain ⟨b1, b2, _⟩ := dst_b hP hQ (by unfold cyc3 at c1; omega)
  have hX1 := arc_X (X := D2) (l := 2) (h := h2' m (m + 1)) hP b2 hX (fun t ht => (W1.2.1 t ht).1.2.1)
  obtain ⟨Wa, offB, hlast, m1, m2⟩ := arc_back hc hX hP hQ hR (cyc3_rot c1) W1
  have W0 : Wk a' b' (offE (m + 3) D2 (dst (L f) P Q + 2) (arcG (L f) P (dst (L f) P Q) 2 (g f) (h2' m (m + 1)))) (offV (dst (L f) P Q + 2) (arcW (L f) P (dst (L f) P Q) 2 (w f) (u3 (w f P) n (w f Q)))) 1 (fun t => if t = 0 then n else w f R) (fun _ => m + 2) := Wk_one ⟨by omega, o2, arc_offe (fun q hq => ne 2 _ (wrp_lt hP (by omega))) (fun t ht => by
    have ct : t = 0 ∨ t = 1 := by omega
    rcases ct with c | c <;> subst c
    · rw [h2_0]; omega
    · rw [h2_1]; omega)⟩ j3
  have hW := Wk_cat W0 Wa (by show (if 1 = 0 then n else w f R) = w f (wrp (L f) (R + 0)); rw [if_neg (by omega), wrp_0 hR]) offB
  obtain ⟨v1, v2, v3⟩ := arc_t (L := L f) (A := P) (d := dst (L f) P Q) (x := w f P) (t := n) (y := w f Q) (e := m) (e' := m + 1) (w := w f) (g := g f)
  obtain ⟨z1, z2, z3⟩ := arc_0 (l := 2) (w := w f) (g := g f) (u := u3 (w f P) n (w f Q)) (h := h2' m (m + 1)) hP b1 (by omega)
  rw [h2_0] at z3
  have hs := side_walk hab' hFl hC1 hX1 hW (A := dst (L f) P Q + 1) (B := 0) (by omega) (by omega) (by rw [v1]; rfl) (by rw [cU_e _ _ m1, m2, z1])
  rw [v1, v2, v3, z1, z2, z3, cH_0 _ _ (Nat.le_refl 1), cH_e _ _ m1, hlast, s1] at hs
  have hpl := prv_lt hP
  have q1 := hc.2.1 _ hP
  have q2 := hc.2.1 _ hpl
  have fl := tau_flip hFl.1 q1.1 q2.2.1 q1.2.1 (show m < m + 3 by omega) ((CS_at hc hP hpl).mpr (Or.inr rfl)) ((CS_at hc hP hP).mpr (Or.inl rfl)) (joins_inc j1).1 (fun z => prv_ne hP hc.1 (hc.2.2.2 _ _ hpl hP z)) (fun z => ne 0 _ hpl z.symm) (fun z => ne 0 _ hP z.symm)
  rw [s2, ← hs] at fl
  cases fl
/-- conflict of two sets of vertices on a circle -/
def Itl (L : Nat) (w : Nat → Nat) (Y1 Y2 : Nat → Prop) : Prop := ∃ A1 A2 B1 B2, A1 < L ∧ A2 < L ∧ B1 < L ∧ B2 < L ∧ cyc3 A1 A2 B1 ∧ cyc3 B1 B2 A1 ∧ Y1 (w A1) ∧ Y1 (w B1) ∧ Y2 (w A2) ∧ Y2 (w B2)
def Thr (L : Nat) (w : Nat → Nat) (Y1 Y2 : Nat → Prop) : Prop := ∃ p q r, p < L ∧ q < L ∧ r < L ∧ cyc3 p q r ∧ (Y1 (w p) ∧ Y1 (w q) ∧ Y1 (w r)) ∧ Y2 (w p) ∧ Y2 (w q) ∧ Y2 (w r)
def Cfl (L : Nat) (w : Nat → Nat) (Y1 Y2 : Nat → Prop) : Prop := Itl L w Y1 Y2 ∨ Thr L w Y1 Y2
theorem Cfl_symm {L : Nat} {w : Nat → Nat} {Y1 Y2 : Nat → Prop} (h : Cfl L w Y1 Y2) : Cfl L w Y2 Y1 := by
  rcases h with ⟨A1, A2, B1, B2, a1, a2, a3, a4, c1, c2, y1, y2, y3, y4⟩ | ⟨p, q, r, a1, a2, a3, c, y1, y2⟩
  · exact Or.inl ⟨A2, B1, B2, A1, a2, a3, a4, a1, by unfold cyc3 at c1 c2 ⊢; omega, by unfold cyc3 at c1 c2 ⊢; omega, y3, y4, y2, y1⟩
  · exact Or.inr ⟨p, q, r, a1, a2, a3, c, y2, y1⟩
theorem Cfl_mono {L : Nat} {w : Nat → Nat} {Y1 Y2 Z1 Z2 : Nat → Prop} (h : Cfl L w Y1 Y2) (h1 : ∀ v, Y1 v → Z1 v) (h2 : ∀ v, Y2 v → Z2 v) : Cfl L w Z1 Z2 := by
  rcases h with ⟨A1, A2, B1, B2, a1, a2, a3, a4, c1, c2, y1, y2, y3, y4⟩ | ⟨p, q, r, a1, a2, a3, c, ⟨y1, y2, y3⟩, y4, y5, y6⟩
  · exact Or.inl ⟨A1, A2, B1, B2, a1, a2, a3, a4, c1, c2, h1 _ y1, h1 _ y2, h2 _ y3, h2 _ y4⟩
  · exact Or.inr ⟨p, q, r, a1, a2, a3, c, ⟨h1 _ y1, h1 _ y2, h1 _ y3⟩, h2 _ y4, h2 _ y5, h2 _ y6⟩
theorem Cfl_congr {L : Nat} {w w' : Nat → Nat} {Y1 Y2 : Nat → Prop} (h : Cfl L w Y1 Y2) (he : ∀ p, p < L → w p = w' p) : Cfl L w' Y1 Y2 := by
  rcases h with ⟨A1, A2, B1, B2, a1, a2, a3, a4, c1, c2, y1, y2, y3, y4⟩ | ⟨p, q, r, a1, a2, a3, c, ⟨y1, y2, y3⟩, y4, y5, y6⟩
  · rw [he _ a1] at y1; rw [he _ a3] at y2; rw [he _ a2] at y3; rw [he _ a4] at y4
    exact Or.inl ⟨A1, A2, B1, B2, a1, a2, a3, a4, c1, c2, y1, y2, y3, y4⟩
  · rw [he _ a1] at y1 y4; rw [he _ a2] at y2 y5; rw [he _ a3] at y3 y6
    exact Or.inr ⟨p, q, r, a1, a2, a3, c, ⟨y1, y2, y3⟩, y4, y5, y6⟩
/-- the order turned -/
theorem turn {o : Nat → Nat → Nat → Bool} {D : Nat → Bool} {r : Nat} {L : Nat → Nat} {w g : Nat → Nat → Nat} (hab : ∀ e, e < m → a e < n ∧ b e < n ∧ a e ≠ b e) (hDm : ∀ e, D e = true → e < m) (h : DS n m a b o D r L w g) {f g1 : Nat} (hf : f < r) (h1 : g1 < r) (n1 : f ≠ g1)
    {P Q R : Nat} (hP : P < L f) (hQ : Q < L f) (hR : R < L f) (c1 : cyc3 P Q R) {P' Q' R' : Nat} (hP' : P' < L g1) (hQ' : Q' < L g1) (hR' : R' < L g1) (e1 : w g1 P' = w f P) (e2 : w g1 Q' = w f Q) (e3 : w g1 R' = w f R) : cyc3 R' Q' P' := by
  have inj := (h.2.1 f hf).1.2.2.1
  have x1 : P' ≠ Q' := fun z => by have := inj _ _ hP hQ (by rw [← e1, ← e2, z]); unfold cyc3 at c1; omega
  have x2 : Q' ≠ R' := fun z => by have := inj _ _ hQ hR (by rw [← e2, ← e3, z]); unfold cyc3 at c1; omega
  have x3 : P' ≠ R' := fun z => by have := inj _ _ hP hR (by rw [← e1, ← e3, z]); unfold cyc3 at c1; omega
  rcases cyc3_or x1 x2 x3 with z | z
  · exact (tri_virt hab hDm h hf h1 n1 hP hQ hR c1 hP' hQ' hR' z e1 e2 e3).elim
  · exact z
theorem cfl_two {o : Nat → Nat → Nat → Bool} {D : Nat → Bool} {r : Nat} {L : Nat → Nat} {w g : Nat → Nat → Nat} (hab : ∀ e, e < m → a e < n ∧ b e < n ∧ a e ≠ b e) (hDm : ∀ e, D e = true → e < m) (h : DS n m a b o D r L w g) {f g1 g2 : Nat} (hf : f < r) (h1 : g1 < r) (h2 : g2 < r) (n1 : f ≠ g1) (n2 : f ≠ g2) {Y1 Y2 : Nat → Prop} (y1 : ∀ v, Y1 v → ∃ p, p < L g1 ∧ w g1 p = v) (y2 : ∀ v, Y2 v → ∃ p, p < L g2 ∧ w g2 p = v) (hC : Cfl (L f) (w f) Y1 Y2) : g2 = g1 := by
  refine Classical.byContradiction fun n3 => ?_
  rcases hC with ⟨A1, A2, B1, B2, a1, a2, a3, a4, c1, c2, z1, z2, z3, z4⟩ | ⟨p, q, s, a1, a2, a3, c, ⟨z1, z2, z3⟩, z4, z5, z6⟩
  · obtain ⟨P1, b1, b2⟩ := y1 _ z1
    obtain ⟨Q1, b3, b4⟩ := y1 _ z2
    obtain ⟨P2, b5, b6⟩ := y2 _ z3
    obtain ⟨Q2, b7, b8⟩ := y2 _ z4
    exact two_virt hab hDm h hf h1 h2 n1 n2 n3 a1 a2 a3 a4 c1 c2 b1 b3 b2 b4 b5 b7 b6 b8
  · obtain ⟨p1, b1, b2⟩ := y1 _ z1
    obtain ⟨q1, b3, b4⟩ := y1 _ z2
    obtain ⟨s1, b5, b6⟩ := y1 _ z3
    obtain ⟨p2, b7, b8⟩ := y2 _ z4
    obtain ⟨q2, b9, b10⟩ := y2 _ z5
    obtain ⟨s2, b11, b12⟩ := y2 _ z6
    have t1 := turn hab hDm h hf h1 n1 a1 a2 a3 c b1 b3 b5 b2 b4 b6
    have t2 := turn hab hDm h hf h2 n2 a1 a2 a3 c b7 b9 b11 b8 b10 b12
    exact tri_virt hab hDm h h1 h2 (fun z => n3 z.symm) b5 b3 b1 t1 b11 b9 b7 t2 (by rw [b12, b6]) (by rw [b10, b4]) (by rw [b8, b2])
theorem cfl_move {o : Nat → Nat → Nat → Bool} {D : Nat → Bool} {r : Nat} {L : Nat → Nat} {w g : Nat → Nat → Nat} (hab : ∀ e, e < m → a e < n ∧ b e < n ∧ a e ≠ b e) (hDm : ∀ e, D e = true → e < m) (h : DS n m a b o D r L w g) {f g1 : Nat} (hf : f < r) (h1 : g1 < r) (n1 : f ≠ g1) {Y1 Y2 : Nat → Prop} (y1 : ∀ v, Y1 v → ∃ p, p < L g1 ∧ w g1 p = v) (y2 : ∀ v, Y2 v → ∃ p, p < L g1 ∧ w g1 p = v) (hC : Cfl (L f) (w f) Y1 Y2) : Cfl (L g1) (w g1) Y1 Y2 := by
  rcases hC with ⟨A1, A2, B1, B2, a1, a2, a3, a4, c1, c2, z1, z2, z3, z4⟩ | ⟨p, q, s, a1, a2, a3, c, ⟨z1, z2, z3⟩, z4, z5, z6⟩
  · obtain ⟨P1, b1, b2⟩ := y1 _ z1
    obtain ⟨Q1, b3, b4⟩ := y1 _ z2
    obtain ⟨P2, b5, b6⟩ := y2 _ z3
    obtain ⟨Q2, b7, b8⟩ := y2 _ z4
    have t1 := turn hab hDm h hf h1 n1 a1 a2 a3 c1 b1 b5 b3 b2 b6 b4
    have t2 := turn hab hDm h hf h1 n1 a3 a4 a1 c2 b3 b7 b1 b4 b8 b2
    exact Or.inl ⟨P1, Q2, Q1, P2, b1, b7, b3, b5, t2, t1, by rw [b2]; exact z1, by rw [b4]; exact z2, by rw [b8]; exact z4, by rw [b6]; exact z3⟩
  · obtain ⟨p1, b1, b2⟩ := y1 _ z1
    obtain ⟨q1, b3, b4⟩ := y1 _ z2
    obtain ⟨s1, b5, b6⟩ := y1 _ z3
    have t1 := turn hab hDm h hf h1 n1 a1 a2 a3 c b1 b3 b5 b2 b4 b6
    exact Or.inr ⟨s1, q1, p1, b5, b3, b1, t1, ⟨by rw [b6]; exact z3, by rw [b4]; exact z2, by rw [b2]; exact z1⟩, by rw [b6]; exact z6, by rw [b4]; exact z5, by rw [b2]; exact z4⟩
end TV
