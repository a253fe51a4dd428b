/-! one step of the drawing keeps the fragments told off to faces -/
section PS
variable {n k : Nat} {F S : Nat → Nat} {y dE dV dE' dV' : Int32}
theorem tau_sw {o : Nat → Nat → Nat → Bool} {v x z d : Nat} (ht : pg_tour n k F S o) (hv : v < n) (hx : x < k) (hz : z < k) (hd : d < k) (ix : pg_inc F S v x = true) (iz : pg_inc F S v z = true) (id' : pg_inc F S v d = true) (n1 : x ≠ z) (n2 : d ≠ x) (n3 : d ≠ z) : pg_tau o v z x d = !pg_tau o v x z d := by
  unfold pg_tau
  have t1 := ht v x z hv hx hz n1 ix iz
  have t2 := ht v x d hv hx hd (Ne.symm n2) ix id'
  have t3 := ht v z d hv hz hd (Ne.symm n3) iz id'
  revert t1 t2 t3
  cases o v x z <;> cases o v z x <;> cases o v x d <;> cases o v d x <;> cases o v z d <;> cases o v d z <;> decide
theorem PH_step (hFS : ∀ e, e < k → F e < n ∧ S e < n ∧ F e ≠ S e) (hdV : ∀ v, bt dV v = true ↔ ∃ e, bt dE e = true ∧ at' F S e v) (hsub : ∀ e, bt dE e = true → bt y e = true) (hDm : ∀ e, bt dE e = true → e < k) (hdV' : ∀ v, bt dV' v = true ↔ ∃ e, bt dE' e = true ∧ at' F S e v) (hsub' : ∀ e, bt dE' e = true → bt y e = true) {l : Nat} {u hh : Nat → Nat} (hE : ∀ e, bt dE' e = true ↔ bt dE e = true ∨ ∃ a, a < l ∧ hh a = e) (hV : ∀ v, bt dV' v = true ↔ bt dV v = true ∨ ∃ a, a < l ∧ u (a + 1) = v) {o : Nat → Nat → Nat → Bool} (hI : Flt n k F S o (fun e => bt y e))
    {r : Nat} {L : Nat → Nat} {w g : Nat → Nat → Nat} {f A B : Nat} (hf : f < r) (hDC : DC n k F S dE (L f) (w f) (g f) ∨ L f = 2) (hgd : ∀ p, p < L f → bt dE (g f p) = true) (hwd : ∀ p, p < L f → bt dV (w f p) = true) (hA : A < L f) (hB : B < L f) (hAB : A ≠ B) (hp : PT n k F S (fun e => bt dE e) l u hh) (hu0 : u 0 = w f A) (hul : u l = w f B)
    (hC1 : DC n k F S dE' (dst (L f) A B + l) (arcW (L f) A (dst (L f) A B) l (w f) u) (arcG (L f) A (dst (L f) A B) l (g f) hh))
    (hC2 : DC n k F S dE' (dst (L f) B A + l) (arcW (L f) B (dst (L f) B A) l (w f) (fun t => u (l - t))) (arcG (L f) B (dst (L f) B A) l (g f) (fun t => hh (l - 1 - t))))
    {e0 : Nat} (he0 : Td k y dE e0) (hfr : ∀ t, t < l → Frg k F S y dV e0 (hh t)) {phi : Nat → Nat} (hP : PH k F S y dE dV r L w phi) (hphi : phi e0 = f) : ∃ phi', PH k F S y dE' dV' (r + 1) (adL L r f A B l) (adW L w r f A B l u) phi' := by
  obtain ⟨P1, P2, P3⟩ := hP
  have hl := hp.1
  have unew : ∀ t, 0 < t → t < l → bt dV (u t) = false := fun t t1 t2 => by
    cases q : bt dV (u t) with
    | false => rfl
    | true =>
      obtain ⟨e, e1, e2⟩ := (hdV _).mp q
      have := (hp.2.2.1 t t1 t2).2 e (hDm e e1) e1
      rw [inc_at.mpr e2] at this; cases this
  have W : Wk F S (offE k (fun e => bt y e) (L f) (g f)) (offV (L f) (w f)) l u hh := by
    refine ⟨hl, fun t ht => ⟨⟨(hp.2.1 t ht).1, (hfr t ht).2.1, fun p hp' z => ?_⟩, (hp.2.1 t ht).2.2⟩, fun t t1 t2 p hp' z => ?_⟩
    · have h1 : bt dE (hh t) = false := (hp.2.1 t ht).2.1
      rw [← z, hgd p hp'] at h1; cases h1
    · have h1 := unew t t1 t2
      rw [← z, hwd p hp'] at h1; cases h1
  have tdo : ∀ e, Td k y dE' e → Td k y dE e := fun e he => ⟨he.1, he.2.1, by
    cases q : bt dE e with
    | false => rfl
    | true => have := he.2.2; rw [(hE e).mpr (Or.inl q)] at this; cases this⟩
  have vnew : ∀ v, bt dV' v = true → bt dV v = true ∨ ∃ t, 0 < t ∧ t < l ∧ v = u t := fun v hv => by
    rcases (hV v).mp hv with z | ⟨a, a1, a2⟩
    · exact Or.inl z
    · by_cases c : a + 1 = l
      · rw [← a2, c, hul]; exact Or.inl (hwd B hB)
      · exact Or.inr ⟨a + 1, by omega, by omega, a2.symm⟩
  have vold : ∀ v, bt dV' v = false → bt dV v = false := fun v hv => by
    cases q : bt dV v with
    | false => rfl
    | true => rw [(hV v).mpr (Or.inl q)] at hv; cases hv
  have old : ∀ e e2, Td k y dE' e → Frg k F S y dV' e e2 → Frg k F S y dV e e2 := fun e e2 te h => h.2.2 (fun g => Frg k F S y dV e g) (frg_refl te.1 te.2.1) (fun f g v hf hg yf yg hv af ag ih => Frg_step ih hg yg (vold v hv) af ag)
  -- an edge at an inner vertex of the path belongs to the fragment
  have own : ∀ t g', 0 < t → t < l → g' < k → bt y g' = true → at' F S g' (u t) → Frg k F S y dV e0 g' := fun t g' t1 t2 gk gy ga => Frg_step (hfr t t2) gk gy (unew t t1 t2) (at_joins (hp.2.1 t t2).2.2).1 ga
  have keep : ∀ e e2, Td k y dE' e → ¬ Frg k F S y dV e0 e → Frg k F S y dV e e2 → Frg k F S y dV' e e2 := fun e e2 te hno h => by
    refine (h.2.2 (fun g => Frg k F S y dV' e g) (frg_refl te.1 te.2.1) (fun f g v hf hg yf yg hv af ag ih => ?_))
    cases q : bt dV' v with
    | false => exact Frg_step ih hg yg q af ag
    | true =>
      rcases vnew v q with z | ⟨t, t1, t2, t3⟩
      · rw [hv] at z; cases z
      · rw [t3] at af
        exact absurd (Frg_trans (own t f t1 t2 hf yf af) (Frg_symm te.1 te.2.1 (old e f te ih))) hno
  have hpc : ∀ e v, Td k y dE' e → Frg k F S y dV e0 e → Con k F S y dV' e v → Con k F S y dV e0 v ∨ ∃ t, 0 < t ∧ t < l ∧ v = u t := fun e v te hb ⟨v1, g', v2, v3⟩ => by
    rcases vnew v v1 with z | z
    · exact Or.inl ⟨z, g', Frg_trans hb (old e g' te v2), v3⟩
    · exact Or.inr z
  have hoc : ∀ e v, Td k y dE' e → ¬ Frg k F S y dV e0 e → Con k F S y dV' e v → Con k F S y dV e v := fun e v te hb ⟨v1, g', v2, v3⟩ => by
    have hg := old e g' te v2
    rcases vnew v v1 with z | ⟨t, t1, t2, t3⟩
    · exact ⟨z, g', hg, v3⟩
    · rw [t3] at v3
      exact absurd (Frg_trans (own t g' t1 t2 hg.1 hg.2.1 v3) (Frg_symm te.1 te.2.1 hg)) hb
  have hY0 : ∀ v, Con k F S y dV e0 v → ∃ q, q < L f ∧ w f q = v := fun v hv => by
    have := (P1 e0 he0).2 v hv
    rw [hphi] at this; exact this
  have yA : Con k F S y dV e0 (w f A) := ⟨hwd A hA, hh 0, hfr 0 hl, by rw [← hu0]; exact (at_joins (hp.2.1 0 hl).2.2).1⟩
  have yB : Con k F S y dV e0 (w f B) := ⟨hwd B hB, hh (l - 1), hfr (l - 1) (by omega), by
    have := (at_joins (hp.2.1 (l - 1) (by omega)).2.2).2
    rw [show l - 1 + 1 = l from by omega, hul] at this; exact this⟩
  have hof : ∀ e v, Td k y dE' e → ¬ Frg k F S y dV e0 e → phi e = f → Con k F S y dV e v → ∃ q, q < L f ∧ w f q = v := fun e v te _ hq hv => by
    have := (P1 e (tdo e te)).2 v hv
    rw [hq] at this; exact this
  have hn0 : ∀ e, Td k y dE' e → ¬ Frg k F S y dV e0 e → phi e = f → ¬ Cfl (L f) (w f) (Con k F S y dV e) (Con k F S y dV e0) := fun e te hb hq => by
    have := P3 e e0 (tdo e te) he0 (fun z => hb (Frg_symm te.1 te.2.1 z)) (by rw [hq, hphi])
    rw [hq] at this; exact this
  have hnn : ∀ e e2, Td k y dE' e → Td k y dE' e2 → ¬ Frg k F S y dV e0 e → ¬ Frg k F S y dV e0 e2 → phi e = f → phi e2 = f → ¬ Frg k F S y dV' e e2 → ¬ Cfl (L f) (w f) (Con k F S y dV e) (Con k F S y dV e2) := fun e e2 t1 t2 b1 b2 q1 q2 hno => by
    have := P3 e e2 (tdo e t1) (tdo e2 t2) (fun z => hno (keep e e2 t1 b1 z)) (by rw [q1, q2])
    rw [q1] at this; exact this
  have touch : ∀ e, Td k y dE' e → Frg k F S y dV e0 e → ∃ t g', 0 < t ∧ t < l ∧ Frg k F S y dV' e g' ∧ at' F S g' (u t) := fun e te hb => by
    have h0 := hfr 0 hl
    have := (Frg_trans (Frg_symm he0.1 he0.2.1 h0) hb).2.2 (fun f => (∃ a, a < l ∧ hh a = f) ∨ ∃ t g', 0 < t ∧ t < l ∧ Frg k F S y dV' f g' ∧ at' F S g' (u t)) (Or.inl ⟨0, hl, rfl⟩) (fun f g v hf hg yf yg hv af ag ih => by
      cases q : bt dV' v with
      | true =>
        rcases vnew v q with z | ⟨t, t1, t2, t3⟩
        · rw [hv] at z; cases z
        · exact Or.inr ⟨t, g, t1, t2, frg_refl hg yg, by rw [← t3]; exact ag⟩
      | false =>
        rcases ih with ⟨a, a1, a2⟩ | ⟨t, g', t1, t2, t3, t4⟩
        · exfalso
          have hin : bt dV' v = true := (hdV' v).mpr ⟨f, (hE f).mpr (Or.inr ⟨a, a1, a2⟩), af⟩
          rw [q] at hin; cases hin
        · exact Or.inr ⟨t, g', t1, t2, Frg_trans (Frg_step (frg_refl hg yg) hf yf q ag af) t3, t4⟩)
    rcases this with ⟨a, a1, a2⟩ | z
    · have := te.2.2
      rw [(hE e).mpr (Or.inr ⟨a, a1, a2⟩)] at this; cases this
    · exact z
  obtain ⟨s, hs⟩ : ∃ s : Bool, s = pg_tau o (w f A) (hh 0) (g f A) (g f (prv (L f) A)) := ⟨_, rfl⟩
  obtain ⟨β, hβ⟩ := to_bool (fun e => Frg k F S y dV e0 e)
  obtain ⟨κ, hκ⟩ := to_bool (fun e => Sx k F S y dV' o (dst (L f) A B + l) (arcW (L f) A (dst (L f) A B) l (w f) u) (arcG (L f) A (dst (L f) A B) l (g f) hh) (!s) e)
  obtain ⟨γ, hγ⟩ := to_bool (fun e => Gd (L f) (w f) A B (Con k F S y dV e) (Con k F S y dV e0))
  obtain ⟨ph, hph⟩ : ∃ ph : Nat → Nat, ∀ e, ph e = (if β e then (if κ e then f else r) else if phi e = f then (if γ e then f else r) else phi e) := ⟨_, fun e => rfl⟩
  have hfr' : f ≠ r := by omega
  have T1 : ∀ e, (Td k y dE' e ∧ ph e = f) → (Frg k F S y dV e0 e ∧ Sx k F S y dV' o (dst (L f) A B + l) (arcW (L f) A (dst (L f) A B) l (w f) u) (arcG (L f) A (dst (L f) A B) l (g f) hh) (!s) e) ∨ (¬ Frg k F S y dV e0 e ∧ phi e = f ∧ Gd (L f) (w f) A B (Con k F S y dV e) (Con k F S y dV e0)) := fun e ⟨te, he⟩ => by
    rw [hph] at he
    by_cases b : β e = true
    · rw [if_pos b] at he
      by_cases c : κ e = true
      · exact Or.inl ⟨(hβ e).mp b, (hκ e).mp c⟩
      · rw [if_neg c] at he; exact absurd he.symm hfr'
    · rw [if_neg b] at he
      have hb : ¬ Frg k F S y dV e0 e := fun z => b ((hβ e).mpr z)
      by_cases c : phi e = f
      · rw [if_pos c] at he
        by_cases d : γ e = true
        · exact Or.inr ⟨hb, c, (hγ e).mp d⟩
        · rw [if_neg d] at he; exact absurd he.symm hfr'
      · rw [if_neg c] at he; exact absurd he c
  have T2 : ∀ e, (Td k y dE' e ∧ ph e = r) → (Frg k F S y dV e0 e ∧ Sx k F S y dV' o (dst (L f) B A + l) (arcW (L f) B (dst (L f) B A) l (w f) (fun t => u (l - t))) (arcG (L f) B (dst (L f) B A) l (g f) (fun t => hh (l - 1 - t))) (!s) e) ∨ (¬ Frg k F S y dV e0 e ∧ phi e = f ∧ Gd (L f) (w f) B A (Con k F S y dV e) (Con k F S y dV e0)) := fun e ⟨te, he⟩ => by
    rw [hph] at he
    by_cases b : β e = true
    · rw [if_pos b] at he
      by_cases c : κ e = true
      · rw [if_pos c] at he; exact absurd he hfr'
      · have hb := (hβ e).mp b
        refine Or.inl ⟨hb, ?_⟩
        obtain ⟨t, g', t1, t2, t3, t4⟩ := touch e te hb
        obtain ⟨p, q1, q2, q3, q4⟩ := arc_in_t (L := L f) (A := A) (d := dst (L f) A B) (w := w f) (g := g f) (u := u) (h := hh) t1 t2
        obtain ⟨p', r1, r2, r3, r4⟩ := arc_in_t (L := L f) (A := B) (d := dst (L f) B A) (w := w f) (g := g f) (u := fun t => u (l - t)) (h := fun t => hh (l - 1 - t)) (t := l - t) (l := l) (by omega) (by omega)
        have r2' : arcW (L f) B (dst (L f) B A) l (w f) (fun t => u (l - t)) p' = u t := by rw [r2]; show u (l - (l - t)) = u t; congr 1; omega
        have r3' : arcG (L f) B (dst (L f) B A) l (g f) (fun t => hh (l - 1 - t)) p' = hh t := by rw [r3]; show hh (l - 1 - (l - t - 1)) = hh t; congr 1; omega
        have r4' : arcG (L f) B (dst (L f) B A) l (g f) (fun t => hh (l - 1 - t)) (prv (dst (L f) B A + l) p') = hh (t - 1) := by rw [r4]; show hh (l - 1 - (l - t)) = hh (t - 1); congr 1; omega
        refine ⟨p', g', r1, t3, by rw [r2']; exact t4, ?_⟩
        rw [r2', r3', r4']
        have hne : ¬ pg_tau o (u t) (hh t) (hh (t - 1)) g' = !s := fun z => c ((hκ e).mpr ⟨p, g', q1, t3, by rw [q2]; exact t4, by rw [q2, q3, q4]; exact z⟩)
        have hg' := frg_nd hdV' te.2.2 t3
        have offp : ∀ a, a < l → g' ≠ hh a := fun a ha z => by rw [z, (hE _).mpr (Or.inr ⟨a, ha, rfl⟩)] at hg'; cases hg'
        have j1 := (hp.2.1 (t - 1) (by omega)).2.2
        rw [show t - 1 + 1 = t from by omega] at j1
        have := tau_sw hI.1 (hp.2.2.1 t t1 t2).1 (hp.2.1 t t2).1 (hp.2.1 (t - 1) (by omega)).1 t3.1 (joins_inc (hp.2.1 t t2).2.2).1 (joins_inc j1).2 (inc_at.mpr t4) (fun z => by have := PT_inj hp t2 (show t - 1 < l by omega) z; omega) (offp t t2) (offp (t - 1) (by omega))
        rw [this]
        revert hne
        generalize pg_tau o (u t) (hh t) (hh (t - 1)) g' = q
        cases q <;> cases s <;> decide
    · rw [if_neg b] at he
      have hb : ¬ Frg k F S y dV e0 e := fun z => b ((hβ e).mpr z)
      by_cases c : phi e = f
      · rw [if_pos c] at he
        by_cases d : γ e = true
        · rw [if_pos d] at he; exact absurd he hfr'
        · refine Or.inr ⟨hb, c, ?_⟩
          rcases Gd_or hA hB hAB (fun v hv => hof e v te hb c hv) yA yB (hn0 e te hb c) with z | z
          · exact absurd ((hγ e).mpr z) d
          · exact z
      · rw [if_neg c] at he
        have := (P1 e (tdo e te)).1
        omega
  have So1 := side_ok hFS hdV' hsub hsub' hI hDC hA hB hAB W hC1 (s := s) (fun _ => hs) (Bq := fun e => Frg k F S y dV e0 e) (Q := fun e => phi e = f) (Y := fun e => Con k F S y dV e) (Y0 := Con k F S y dV e0) hY0 yA yB hpc hoc hof hn0 hnn (T := fun e => Td k y dE' e ∧ ph e = f) T1
  have So2 := side_ok hFS hdV' hsub hsub' hI hDC hB hA (Ne.symm hAB) (Wk_rev W) hC2 (s := s) (fun hc => hs.trans (side_same hFS hsub hsub' hI hc hA hB hAB W hC1).symm) (Bq := fun e => Frg k F S y dV e0 e) (Q := fun e => phi e = f) (Y := fun e => Con k F S y dV e) (Y0 := Con k F S y dV e0) hY0 yB yA (fun e v te hb hv => by
      rcases hpc e v te hb hv with z | ⟨t, t1, t2, t3⟩
      · exact Or.inl z
      · refine Or.inr ⟨l - t, by omega, by omega, ?_⟩
        show v = u (l - (l - t))
        rw [t3]; congr 1; omega) hoc hof hn0 hnn (T := fun e => Td k y dE' e ∧ ph e = r) T2
  have desc : ∀ e, Td k y dE' e → ph e = f ∨ ph e = r ∨ (ph e ≠ f ∧ ph e ≠ r ∧ ph e = phi e ∧ ¬ Frg k F S y dV e0 e) := fun e te => by
    by_cases c1 : ph e = f
    · exact Or.inl c1
    · by_cases c2 : ph e = r
      · exact Or.inr (Or.inl c2)
      · refine Or.inr (Or.inr ⟨c1, c2, ?_⟩)
        rw [hph] at c1 c2 ⊢
        by_cases b : β e = true
        · rw [if_pos b] at c1 c2
          by_cases c : κ e = true
          · rw [if_pos c] at c1; exact absurd rfl c1
          · rw [if_neg c] at c2; exact absurd rfl c2
        · rw [if_neg b] at c1 c2 ⊢
          by_cases c : phi e = f
          · rw [if_pos c] at c1 c2
            by_cases d : γ e = true
            · rw [if_pos d] at c1; exact absurd rfl c1
            · rw [if_neg d] at c2; exact absurd rfl c2
          · rw [if_neg c]
            exact ⟨rfl, fun z => b ((hβ e).mpr z)⟩
  have Lf : adL L r f A B l f = dst (L f) A B + l := by unfold adL; rw [if_pos rfl]
  have Wf : adW L w r f A B l u f = arcW (L f) A (dst (L f) A B) l (w f) u := by unfold adW; rw [if_pos rfl]
  have Lr : adL L r f A B l r = dst (L f) B A + l := by unfold adL; rw [if_neg (by omega), if_pos rfl]
  have Wr : adW L w r f A B l u r = arcW (L f) B (dst (L f) B A) l (w f) (fun t => u (l - t)) := by unfold adW; rw [if_neg (by omega), if_pos rfl]
  have Lo : ∀ i, i ≠ f → i ≠ r → adL L r f A B l i = L i ∧ adW L w r f A B l u i = w i := fun i h1 h2 => ⟨by unfold adL; rw [if_neg h1, if_neg h2], by unfold adW; rw [if_neg h1, if_neg h2]⟩
  refine ⟨ph, fun e te => ?_, fun e e2 te hr => ?_, fun e e2 t1 t2 hno heq hc => ?_⟩
  · rcases desc e te with z | z | ⟨z1, z2, z3, z4⟩
    · refine ⟨by omega, fun v hv => ?_⟩
      rw [z, Lf, Wf]
      exact So1.1 e te ⟨te, z⟩ v hv
    · refine ⟨by omega, fun v hv => ?_⟩
      rw [z, Lr, Wr]
      exact So2.1 e te ⟨te, z⟩ v hv
    · have := P1 e (tdo e te)
      rw [← z3] at this
      refine ⟨by omega, fun v hv => ?_⟩
      rw [(Lo _ z1 z2).1, (Lo _ z1 z2).2]
      exact this.2 v (hoc e v te z4 hv)
  · have ho := old e e2 te hr
    have t2 : Td k y dE' e2 := td_frg hdV' te hr
    have b : β e2 = β e := by
      rw [Bool.eq_iff_iff, hβ, hβ]
      exact ⟨fun z => Frg_trans z (Frg_symm te.1 te.2.1 ho), fun z => Frg_trans z ho⟩
    have c : κ e2 = κ e := by
      rw [Bool.eq_iff_iff, hκ, hκ]
      exact ⟨fun ⟨p, g', a1, a2, a3⟩ => ⟨p, g', a1, Frg_trans hr a2, a3⟩, fun ⟨p, g', a1, a2, a3⟩ => ⟨p, g', a1, Frg_trans (Frg_symm te.1 te.2.1 hr) a2, a3⟩⟩
    have d : γ e2 = γ e := by
      rw [Bool.eq_iff_iff, hγ, hγ, Con_same te.1 te.2.1 ho]
    rw [hph, hph, b, c, d, P2 e e2 (tdo e te) ho]
  · rcases desc e t1 with z | z | ⟨z1, z2, z3, z4⟩
    · rw [z, Lf, Wf] at hc
      exact So1.2 e e2 t1 t2 ⟨t1, z⟩ ⟨t2, by rw [← heq, z]⟩ hno hc
    · rw [z, Lr, Wr] at hc
      exact So2.2 e e2 t1 t2 ⟨t1, z⟩ ⟨t2, by rw [← heq, z]⟩ hno hc
    · rw [(Lo _ z1 z2).1, (Lo _ z1 z2).2] at hc
      rcases desc e2 t2 with y1 | y1 | ⟨y1, y2, y3, y4⟩
      · exact z1 (by rw [heq, y1])
      · exact z2 (by rw [heq, y1])
      · have := P3 e e2 (tdo e t1) (tdo e2 t2) (fun z => hno (keep e e2 t1 z4 z)) (by rw [← z3, ← y3, heq])
        rw [← z3] at this
        exact this (Cfl_mono hc (fun v hv => hoc e v t1 z4 hv) (fun v hv => hoc e2 v t2 y4 hv))
end PS
