/-! a path laid through a face: its fragment falls into pieces, each on one side -/
/-- some edge of the piece lies on side s of the circle -/
def Sx (k : Nat) (F S : Nat → Nat) (y dV : Int32) (o : Nat → Nat → Nat → Bool) (L : Nat) (w g : Nat → Nat) (s : Bool) (e : Nat) : Prop := ∃ p g', p < L ∧ Frg k F S y dV e g' ∧ at' F S g' (w p) ∧ pg_tau o (w p) (g (prv L p)) (g p) g' = s
section PL
variable {n k : Nat} {F S : Nat → Nat} {y dE dV dE' dV' : Int32}
theorem Sx_all (hFS : ∀ e, e < k → F e < n ∧ S e < n ∧ F e ≠ S e) (hdV : ∀ v, bt dV v = true ↔ ∃ e, bt dE e = true ∧ at' F S e v) (hsub : ∀ e, bt dE e = true → bt y e = true) {o : Nat → Nat → Nat → Bool} (hI : Flt n k F S o (fun e => bt y e)) {L : Nat} {w g : Nat → Nat} (hc : DC n k F S dE L w g) {s : Bool} {e : Nat} (he : Td k y dE e) (h : Sx k F S y dV o L w g s e) {p g' : Nat} (hp : p < L) (hg : Frg k F S y dV e g') (ha : at' F S g' (w p)) : pg_tau o (w p) (g (prv L p)) (g p) g' = s := by
  obtain ⟨p0, g0, q1, q2, q3, q4⟩ := h
  rw [← q4]
  exact frag_side hFS hdV hsub hI hc (td_frg hdV he hg) (Frg_trans (Frg_symm he.1 he.2.1 hg) q2) hp q1 ha q3
/-- a piece on the other side has no contact beyond -/
theorem piece_on (hFS : ∀ e, e < k → F e < n ∧ S e < n ∧ F e ≠ S e) (hdV' : ∀ v, bt dV' v = true ↔ ∃ e, bt dE' e = true ∧ at' F S e v) (hsub : ∀ e, bt dE e = true → bt y e = true) (hsub' : ∀ e, bt dE' e = true → bt y e = true) {o : Nat → Nat → Nat → Bool} (hI : Flt n k F S o (fun e => bt y e)) {L : Nat} {w g : Nat → Nat} (hc : DC n k F S dE L w g) {A B l : Nat} {u hh : Nat → Nat} (hA : A < L) (hB : B < L) (hAB : A ≠ B) (W : Wk F S (offE k (fun e => bt y e) L g) (offV L w) l u hh)
    (hC : DC n k F S dE' (dst L A B + l) (arcW L A (dst L A B) l w u) (arcG L A (dst L A B) l g hh)) {s : Bool} (hs : s = pg_tau o (w A) (hh 0) (g A) (g (prv L A))) {e : Nat} (he : Td k y dE' e) (hS : Sx k F S y dV' o (dst L A B + l) (arcW L A (dst L A B) l w u) (arcG L A (dst L A B) l g hh) (!s) e) {q : Nat} (hq : q < L) (hcon : Con k F S y dV' e (w q)) : ¬ cyc3 B q A := fun c2 => by
  obtain ⟨p0, g1, p1, p2, p3, p4⟩ := hS
  obtain ⟨v1, f2, v2, v3⟩ := hcon
  obtain ⟨d1, d2, d3⟩ := dst_b hA hB hAB
  have t1 := td_frg hdV' he p2
  obtain ⟨Wa, offB, hlast, m1, m2⟩ := arc_back hc.1 (fun p hp => hsub _ (hc.2 p hp)) hA hB hq c2 W
  rcases frag_ends t1.1 t1.2.1 (Frg_trans (Frg_symm he.1 he.2.1 p2) v2) p3 v3 (DC_v hdV' hC p1) v1 with ⟨_, z⟩ | ⟨l', u', h', e1, e2, q1, q2, W'⟩
  · exact offB p0 p1 z
  · have hW := Wk_cat (Wk_mono W' (fun g' hg' => off_E hdV' hC t1.2.2 hg') (fun v hv => off_V hdV' hC hv.1)) Wa (by show u' l' = w (wrp L (q + 0)); rw [q2, wrp_0 hq]) (by rw [q2]; exact offB)
    obtain ⟨z1, z2, z3⟩ := arc_0 (l := l) (w := w) (g := g) (u := u) (h := hh) hA d1 W.1
    have := side_walk hFS hI hC.1 (fun p hp => hsub' _ (hC.2 p hp)) hW p1 (B := 0) (by omega) (by rw [cU_0]; exact q1) (by rw [cU_e _ _ m1, m2, z1])
    rw [cH_0 _ _ W'.1, e1, p4, cH_e _ _ m1, hlast, z1, z2, z3, ← hs] at this
    cases s <;> cases this
/-- the side of a piece inside the path -/
theorem arc_in_t {L A d l t : Nat} {w g u h : Nat → Nat} (t0 : 0 < t) (tl : t < l) : ∃ p, p < d + l ∧ arcW L A d l w u p = u t ∧ arcG L A d l g h p = h (t - 1) ∧ arcG L A d l g h (prv (d + l) p) = h t := by
  refine ⟨d + (l - t), by omega, ?_, ?_, ?_⟩
  · unfold arcW; rw [if_neg (by omega)]; congr 1; omega
  · unfold arcG; rw [if_neg (by omega)]; congr 1; omega
  · rw [show prv (d + l) (d + (l - t)) = d + (l - t) - 1 from by unfold prv; rw [if_neg (by omega)]]
    unfold arcG; rw [if_neg (by omega)]; congr 1; omega
theorem side_ok (hFS : ∀ e, e < k → F e < n ∧ S e < n ∧ F e ≠ S e) (hdV' : ∀ v, bt dV' v = true ↔ ∃ e, bt dE' e = true ∧ at' F S e v) (hsub : ∀ e, bt dE e = true → bt y e = true) (hsub' : ∀ e, bt dE' e = true → bt y e = true) {o : Nat → Nat → Nat → Bool} (hI : Flt n k F S o (fun e => bt y e)) {L : Nat} {w g : Nat → Nat} (hDC : DC n k F S dE L w g ∨ L = 2) {A B l : Nat} {u hh : Nat → Nat} (hA : A < L) (hB : B < L) (hAB : A ≠ B) (W : Wk F S (offE k (fun e => bt y e) L g) (offV L w) l u hh)
    (hC : DC n k F S dE' (dst L A B + l) (arcW L A (dst L A B) l w u) (arcG L A (dst L A B) l g hh)) {s : Bool} (hs : DC n k F S dE L w g → s = pg_tau o (w A) (hh 0) (g A) (g (prv L A)))
    {Bq Q : Nat → Prop} {Y : Nat → Nat → Prop} {Y0 : Nat → Prop} (hY0 : ∀ v, Y0 v → ∃ q, q < L ∧ w q = v) (yA : Y0 (w A)) (yB : Y0 (w B))
    (hpc : ∀ e v, Td k y dE' e → Bq e → Con k F S y dV' e v → Y0 v ∨ ∃ t, 0 < t ∧ t < l ∧ v = u t) (hoc : ∀ e v, Td k y dE' e → ¬ Bq e → Con k F S y dV' e v → Y e v) (hof : ∀ e v, Td k y dE' e → ¬ Bq e → Q e → Y e v → ∃ q, q < L ∧ w q = v) (hn0 : ∀ e, Td k y dE' e → ¬ Bq e → Q e → ¬ Cfl L w (Y e) Y0)
    (hnn : ∀ e e2, Td k y dE' e → Td k y dE' e2 → ¬ Bq e → ¬ Bq e2 → Q e → Q e2 → ¬ Frg k F S y dV' e e2 → ¬ Cfl L w (Y e) (Y e2)) {T : Nat → Prop} (hT : ∀ e, T e → (Bq e ∧ Sx k F S y dV' o (dst L A B + l) (arcW L A (dst L A B) l w u) (arcG L A (dst L A B) l g hh) (!s) e) ∨ (¬ Bq e ∧ Q e ∧ Gd L w A B (Y e) Y0)) :
    (∀ e, Td k y dE' e → T e → ∀ v, Con k F S y dV' e v → ∃ p, p < dst L A B + l ∧ arcW L A (dst L A B) l w u p = v) ∧ ∀ e e2, Td k y dE' e → Td k y dE' e2 → T e → T e2 → ¬ Frg k F S y dV' e e2 → ¬ Cfl (dst L A B + l) (arcW L A (dst L A B) l w u) (Con k F S y dV' e) (Con k F S y dV' e2) := by
  have hl := W.1
  have uoff : ∀ t, 0 < t → t < l → ∀ q, q < L → w q ≠ u t := fun t t1 t2 q hq => W.2.2 t t1 t2 q hq
  have on : ∀ p, p ≤ dst L A B → ∃ p', p' < dst L A B + l ∧ arcW L A (dst L A B) l w u p' = w (wrp L (A + p)) := fun p hp => ⟨p, by omega, by unfold arcW; rw [if_pos hp]⟩
  have mixed : ∀ e e2, Td k y dE' e → Td k y dE' e2 → Bq e → ¬ Bq e2 → Q e2 → Gd L w A B (Y e2) Y0 → ¬ Cfl (dst L A B + l) (arcW L A (dst L A B) l w u) (Con k F S y dV' e2) (Con k F S y dV' e) := fun e e2 t1 t2 b1 b2 q2 G2 hc => hn0 e2 t2 b2 q2 (mix_cfl hA hB hAB uoff G2 hY0 yA yB (fun v hv => hpc e v t1 b1 hv) (Cfl_mono hc (fun v hv => hoc e2 v t2 b2 hv) (fun v hv => hv)))
  refine ⟨fun e te hTe v hv => ?_, fun e e2 t1 t2 T1 T2 hno hc => ?_⟩
  · rcases hT e hTe with ⟨b, hS⟩ | ⟨b, hq, hG⟩
    · rcases hpc e v te b hv with z | ⟨t, z1, z2, z3⟩
      · obtain ⟨q, q1, q2⟩ := hY0 v z
        have hop : ¬ cyc3 B q A := by
          rcases hDC with hc | hL
          · exact piece_on hFS hdV' hsub hsub' hI hc hA hB hAB W hC (hs hc) te hS q1 (by rw [q2]; exact hv)
          · unfold cyc3; omega
        rcases arc_or hA hB hAB q1 with z' | ⟨p, p1, p2⟩
        · exact absurd z' hop
        · obtain ⟨p', r1, r2⟩ := on p p1
          exact ⟨p', r1, by rw [r2, p2, q2]⟩
      · obtain ⟨p, p1, p2, _⟩ := arc_in_t (L := L) (A := A) (d := dst L A B) (w := w) (g := g) (u := u) (h := hh) z1 z2
        exact ⟨p, p1, by rw [p2, z3]⟩
    · obtain ⟨p, p1, p2⟩ := hG.1 v (hoc e v te b hv)
      obtain ⟨p', r1, r2⟩ := on p p1
      exact ⟨p', r1, by rw [r2, p2]⟩
  · rcases hT e T1 with ⟨b1, S1⟩ | ⟨b1, q1, G1⟩ <;> rcases hT e2 T2 with ⟨b2, S2⟩ | ⟨b2, q2, G2⟩
    · obtain ⟨A', B', e', f', a1, a2, a3, a4, a5, a6, a7⟩ := cfl_sides hFS hdV' hsub' hI hC t1 t2 hno hc
      rw [Sx_all hFS hdV' hsub' hI hC t1 S1 a1 a3 a4, Sx_all hFS hdV' hsub' hI hC t2 S2 a2 a5 a6] at a7
      cases s <;> cases a7
    · exact mixed e e2 t1 t2 b1 b2 q2 G2 (Cfl_symm hc)
    · exact mixed e2 e t2 t1 b2 b1 q1 G1 hc
    · exact hnn e e2 t1 t2 b1 b2 q1 q2 hno (lift_cfl hA hB hAB uoff (fun v hv => hof e v t1 b1 q1 hv) (fun v hv => hof e2 v t2 b2 q2 hv) (Cfl_mono hc (fun v hv => hoc e v t1 b1 hv) (fun v hv => hoc e2 v t2 b2 hv)))
/-- both ends of the path tell the same side -/
theorem side_same (hFS : ∀ e, e < k → F e < n ∧ S e < n ∧ F e ≠ S e) (hsub : ∀ e, bt dE e = true → bt y e = true) (hsub' : ∀ e, bt dE' e = true → bt y e = true) {o : Nat → Nat → Nat → Bool} (hI : Flt n k F S o (fun e => bt y e)) {L : Nat} {w g : Nat → Nat} (hc : DC n k F S dE L w g) {A B l : Nat} {u hh : Nat → Nat} (hA : A < L) (hB : B < L) (hAB : A ≠ B) (W : Wk F S (offE k (fun e => bt y e) L g) (offV L w) l u hh)
    (hC : DC n k F S dE' (dst L A B + l) (arcW L A (dst L A B) l w u) (arcG L A (dst L A B) l g hh)) : pg_tau o (w B) (hh (l - 1)) (g B) (g (prv L B)) = pg_tau o (w A) (hh 0) (g A) (g (prv L A)) := by
  obtain ⟨d1, d2, d3⟩ := dst_b hA hB hAB
  obtain ⟨k1, k2, k3⟩ := dst_b hB hA (Ne.symm hAB)
  have winj := hc.1.2.2.1
  have ginj := hc.1.2.2.2
  have hl := W.1
  have Wa : Wk F S (offE k (fun e => bt y e) (dst L A B + l) (arcG L A (dst L A B) l g hh)) (offV (dst L A B + l) (arcW L A (dst L A B) l w u)) (dst L B A) (fun t => w (wrp L (B + t))) (fun t => g (wrp L (B + t))) := by
    refine Wk_arc hc.1 hB k1 k2 (fun t ht => ?_) (fun t t0 ht => ?_)
    · have hq := wrp_lt hB (show t < L by omega)
      refine ⟨(hc.1.2.1 _ hq).2.1, hsub _ (hc.2 _ hq), arc_offe (fun q hq' z => ?_) (fun t' ht' z => ?_)⟩
      · have := ginj _ _ (wrp_lt hA (by omega)) hq z
        unfold dst at ht hq'
        unfold wrp at this
        split at ht <;> split at hq' <;> split at this <;> split at this <;> omega
      · exact (W.2.1 t' ht').1.2.2 _ hq z.symm
    · have hq := wrp_lt hB (show t < L by omega)
      refine arc_offv (fun q hq' z => ?_) (fun t' t1' t2' z => ?_)
      · have := winj _ _ (wrp_lt hA (by omega)) hq z
        unfold dst at ht hq'
        unfold wrp at this
        split at ht <;> split at hq' <;> split at this <;> split at this <;> omega
      · exact W.2.2 t' t1' t2' _ hq z.symm
  obtain ⟨z1, z2, z3⟩ := arc_0 (l := l) (w := w) (g := g) (u := u) (h := hh) hA d1 hl
  obtain ⟨x1, x2, x3⟩ := arc_end (l := l) (w := w) (g := g) (u := u) (h := hh) hA d1 d2 hl
  have hs : pg_tau o (arcW L A (dst L A B) l w u (dst L A B)) (arcG L A (dst L A B) l g hh (prv (dst L A B + l) (dst L A B))) (arcG L A (dst L A B) l g hh (dst L A B)) (g (wrp L (B + 0))) = pg_tau o (arcW L A (dst L A B) l w u 0) (arcG L A (dst L A B) l g hh (prv (dst L A B + l) 0)) (arcG L A (dst L A B) l g hh 0) (g (wrp L (B + (dst L B A - 1)))) := side_walk hFS hI hC.1 (fun p hp => hsub' _ (hC.2 p hp)) Wa (A := dst L A B) (B := 0) (by omega) (by omega) (by show w (wrp L (B + 0)) = _; rw [wrp_0 hB, x1, d3]) (by show w (wrp L (B + dst L B A)) = _; rw [k3, z1])
  have hlast : wrp L (B + (dst L B A - 1)) = prv L A := by
    have := wrp_prv (L := L) (A := B) (p := dst L B A - 1) hB (by omega)
    rw [show dst L B A - 1 + 1 = dst L B A from by omega, k3] at this
    exact this.symm
  rw [x1, x2, x3, d3, z1, z2, z3, hlast, wrp_0 hB] at hs
  rw [← hs]
  unfold pg_tau
  generalize o (w B) (hh (l - 1)) (g B) = p
  generalize o (w B) (g B) (g (prv L B)) = q
  generalize o (w B) (g (prv L B)) (hh (l - 1)) = r
  cases p <;> cases q <;> cases r <;> rfl
end PL
