/-! the drawing keeps what is drawn -/
abbrev DdS : Type := Nat × Int32 × Int32 × Nat × Int32 × Int32 × Int32 × Int32 × Nat × (Nat → Nat) × (Nat → Int32) × (Nat → Nat) × (Nat → Nat) × (Nat → Nat) × (Nat → Nat → Nat) × Bool
/-- the rows hold the faces -/
def FRw (WL : Nat → Nat) (WS : Nat → Int32) (M : Nat → Nat → Nat) (fc : Nat) (L : Nat → Nat) (w : Nat → Nat → Nat) : Prop := ∀ i, i < fc → WL i = L i ∧ (∀ p, p < L i → M i p = w i p) ∧ ∀ v, bt (WS i) v = true ↔ ∃ p, p < L i ∧ w i p = v
section DX
variable {n k : Nat} {F S : Nat → Nat} {y : Int32}
/-- what is drawn, as the class keeps it: number of paths, drawn edges and vertices, number of faces, lengths, sets, came-by, walks -/
def dJ (n k : Nat) (F S : Nat → Nat) (y : Int32) (pa : Nat) (dE dV : Int32) (fc : Nat) (WL : Nat → Nat) (WS : Nat → Int32) (cb : Nat → Nat) (M : Nat → Nat → Nat) : Prop :=
  1 ≤ pa ∧ fc = pa ∧ (∀ j, cb j < 18) ∧ (∀ j, WL j ≤ 10) ∧ (∀ e, bt dE e = true → bt y e = true) ∧ (∃ d, bt dE d = true) ∧ (∀ v, bt dV v = true ↔ ∃ e, bt dE e = true ∧ at' F S e v) ∧
  ((fc = 1 ∧ ∃ e1, e1 < k ∧ (∀ e, bt dE e = true ↔ e = e1) ∧ WL 0 = 2 ∧ M 0 0 = F e1 ∧ M 0 1 = S e1 ∧ ∀ v, bt (WS 0) v = true ↔ at' F S e1 v) ∨
   (2 ≤ fc ∧ ∃ o L w g, DS n k F S o (fun e => bt dE e) fc L w g ∧ FRw WL WS M fc L w))
theorem dJ_face (hFS : ∀ e, e < k → F e < n ∧ S e < n ∧ F e ≠ S e) {pa : Nat} {dE dV : Int32} {fc : Nat} {WL : Nat → Nat} {WS : Nat → Int32} {cb : Nat → Nat} {M : Nat → Nat → Nat} (h : dJ n k F S y pa dE dV fc WL WS cb M) {f l : Nat} {u hh : Nat → Nat} (hf : f < fc) (hp : PT n k F S (fun e => bt dE e) l u hh) (h0 : bt (WS f) (u 0) = true) (h1 : bt (WS f) (u l) = true) :
    ∃ L w g A B, A < L f ∧ B < L f ∧ A ≠ B ∧ w f A = u 0 ∧ w f B = u l ∧ FRw WL WS M fc L w ∧ (∀ p q, p < L f → q < L f → w f p = w f q → p = q) ∧ (∀ p, p < L f → w f p < n) ∧ 2 ≤ L f ∧ ∃ o', DS n k F S o' (fun e => bt dE e || isIn hh e l) (fc + 1) (adL L fc f A B l) (adW L w fc f A B l u) (adG L g fc f A B l hh) := by
  obtain ⟨_, _, _, _, _, _, _, h8⟩ := h
  have hl := hp.1
  have hul : u 0 ≠ u l := fun z => by
    have := hp.2.2.2 0 l (by omega) (by omega) z
    omega
  rcases h8 with ⟨c1, e1, he1, hE, w1, w2, w3, w4⟩ | ⟨c1, o, L, w, g, hDS, hR⟩
  · subst c1
    have hf0 : f = 0 := by omega
    subst hf0
    obtain ⟨q1, q2, q3⟩ := hFS e1 he1
    have hD : (fun e => bt dE e) = fun e => decide (e = e1) := by
      funext e
      rw [Bool.eq_iff_iff, hE, decide_eq_true_iff]
    rw [hD] at hp
    have pl : ∀ v, bt (WS 0) v = true → ∃ A, A < 2 ∧ M 0 A = v := fun v hv => by
      rcases (w4 v).mp hv with z | z
      · exact ⟨0, by omega, by rw [w2]; exact z⟩
      · exact ⟨1, by omega, by rw [w3]; exact z⟩
    obtain ⟨A, A1, A2⟩ := pl _ h0
    obtain ⟨B, B1, B2⟩ := pl _ h1
    have hAB : A ≠ B := fun z => hul (by rw [← A2, ← B2, z])
    have inj : ∀ p q, p < 2 → q < 2 → M 0 p = M 0 q → p = q := fun p q hp' hq' e => by
      have : ∀ p, p < 2 → p = 0 ∨ p = 1 := fun p hp => by omega
      rcases this p hp' with z | z <;> rcases this q hq' with z' | z' <;> subst z z'
      · rfl
      · rw [w2, w3] at e; exact absurd e q3
      · rw [w2, w3] at e; exact absurd e.symm q3
      · rfl
    have lt : ∀ p, p < 2 → M 0 p < n := fun p hp' => by
      have : p = 0 ∨ p = 1 := by omega
      rcases this with z | z <;> subst z
      · rw [w2]; exact q1
      · rw [w3]; exact q2
    have jn' : pg_joins F S e1 (M 0 A) (M 0 B) := by
      have hA' : A = 0 ∨ A = 1 := by omega
      have hB' : B = 0 ∨ B = 1 := by omega
      rcases hA' with z | z <;> rcases hB' with z' | z' <;> subst z z'
      · exact absurd rfl hAB
      · rw [w2, w3]; exact Or.inl ⟨rfl, rfl⟩
      · rw [w2, w3]; exact Or.inr ⟨rfl, rfl⟩
      · exact absurd rfl hAB
    obtain ⟨o', ho'⟩ := DS_start (w := M 0) he1 A1 B1 hAB jn' (fun z => hAB (inj A B A1 B1 z)) ⟨lt A A1, lt B B1⟩ hp A2.symm B2.symm
    refine ⟨fun _ => 2, fun _ => M 0, fun _ _ => e1, A, B, A1, B1, hAB, A2, B2, fun i hi => ?_, inj, lt, Nat.le_refl 2, o', ?_⟩
    · have : i = 0 := by omega
      subst this
      refine ⟨w1, fun p _ => rfl, fun v => ⟨pl v, fun ⟨p, p1, p2⟩ => (w4 v).mpr ?_⟩⟩
      have p1' : p < 2 := p1
      have p2' : M 0 p = v := p2
      clear p1 p2
      have : p = 0 ∨ p = 1 := by omega
      rcases this with z | z <;> subst z
      · exact Or.inl (by rw [← w2]; exact p2')
      · exact Or.inr (by rw [← w3]; exact p2')
    · have hD2 : (fun e => bt dE e || isIn hh e l) = fun e => decide (e = e1) || isIn hh e l := by
        funext e
        have := congrFun hD e
        have this' : bt dE e = decide (e = e1) := this
        rw [this']
      rw [hD2]
      exact ho'
  · have hc := (hDS.2.1 f hf).1
    obtain ⟨r1, r2, r3⟩ := hR f hf
    obtain ⟨A, A1, A2⟩ := (r3 _).mp h0
    obtain ⟨B, B1, B2⟩ := (r3 _).mp h1
    have hAB : A ≠ B := fun z => hul (by rw [← A2, ← B2, z])
    exact ⟨L, w, g, A, B, A1, B1, hAB, A2, B2, hR, hc.2.2.1, fun p hp' => (hc.2.1 p hp').1, hc.1, _, DS_add hDS hf A1 B1 hAB hp A2.symm B2.symm⟩
/-- a step that draws -/
theorem dJ_step (hn : n ≤ 10) (hk : k ≤ 18) (hFS : ∀ e, e < k → F e < n ∧ S e < n ∧ F e ≠ S e) {pa : Nat} {dE dV : Int32} {fc : Nat} {WL : Nat → Nat} {WS : Nat → Int32} {cb : Nat → Nat} {M : Nat → Nat → Nat} (h : dJ n k F S y pa dE dV fc WL WS cb M) {f l : Nat} {u hh cb' ow : Nat → Nat} {dE' dV' : Int32} (hf : f < fc) (hp : PT n k F S (fun e => bt dE e) l u hh) (h0 : bt (WS f) (u 0) = true) (h1 : bt (WS f) (u l) = true) (hun : ∀ t, t ≤ l → u t < n) (hy : ∀ t, t < l → bt y (hh t) = true) (hcb : ∀ j, cb' j < 18)
    (hE : ∀ e, bt dE' e = true ↔ bt dE e = true ∨ ∃ a, a < l ∧ hh a = e) (hV : ∀ v, bt dV' v = true ↔ bt dV v = true ∨ ∃ a, a < l ∧ u (a + 1) = v) (hu0 : bt dV (u 0) = true) :
    dJ n k F S y (pa + 1) dE' dV' (fc + 1) (dr_div u ow f fc (l + 1) (M, WL, WS)).2.1 (dr_div u ow f fc (l + 1) (M, WL, WS)).2.2 cb' (dr_div u ow f fc (l + 1) (M, WL, WS)).1 ∧ 1 ≤ WL f := by
  obtain ⟨L, w, g, A, B, A1, B1, hAB, A2, B2, hR, inj, lt, L2, o', hDS⟩ := dJ_face hFS h hf hp h0 h1
  obtain ⟨j1, j2, j3, j4, j5, j6, j7, j8⟩ := h
  obtain ⟨r1, r2, r3⟩ := hR f hf
  have hl := hp.1
  have hff : f ≠ fc := by omega
  have lenf : dst (L f) A B + l ≤ 10 := by
    have := CS_len (hDS.2.1 f (by omega)).1
    rw [show adL L fc f A B l f = dst (L f) A B + l from by unfold adL; rw [if_pos rfl]] at this
    omega
  have lenc : dst (L f) B A + l ≤ 10 := by
    have := CS_len (hDS.2.1 fc (by omega)).1
    rw [show adL L fc f A B l fc = dst (L f) B A + l from by unfold adL; rw [if_neg (by omega), if_pos rfl]] at this
    omega
  obtain ⟨s', hs', d1, d2, d3, d4, d5, d6, d7⟩ := div_ok (pt := u) (ow := ow) (f := f) (fc := fc) (l := l) (A := A) (B := B) (s := (M, WL, WS)) hl hff (j4 f) (by show A < WL f; rw [r1]; exact A1) (by show B < WL f; rw [r1]; exact B1) (by show M f A = u 0; rw [r2 A A1]; exact A2) (by show M f B = u l; rw [r2 B B1]; exact B2) (fun p q hp' hq' e => by
    have hp2 : p < WL f := hp'
    have hq2 : q < WL f := hq'
    have e2 : M f p = M f q := e
    rw [r1] at hp2 hq2
    rw [r2 p hp2, r2 q hq2] at e2
    exact inj p q hp2 hq2 e2) (fun p hp' => by
    have hp2 : p < WL f := hp'
    rw [r1] at hp2
    show M f p < 32
    rw [r2 p hp2]
    have := lt p hp2
    omega) (fun t ht => by have := hun t ht; omega) (by show dst (WL f) A B + l ≤ 10; rw [r1]; exact lenf) (by show dst (WL f) B A + l ≤ 10; rw [r1]; exact lenc)
  rw [hs']
  have w1 : WL f = L f := r1
  dsimp only at d1 d2 d3 d4 d5 d6 d7
  rw [w1] at d1 d2 d3 d4 d5 d6
  have dl1 : dst (L f) A B < L f := (dst_b A1 B1 hAB).2.1
  have dl2 : dst (L f) B A < L f := (dst_b B1 A1 (fun z => hAB z.symm)).2.1
  have hDe : (fun e => bt dE e || isIn hh e l) = fun e => bt dE' e := by
    funext e
    rw [Bool.eq_iff_iff, hE, Bool.or_eq_true, isIn_iff]
  rw [hDe] at hDS
  refine ⟨⟨by omega, by omega, hcb, fun j => ?_, fun e he => ?_, ?_, fun v => ?_, Or.inr ⟨by omega, o', _, _, _, hDS, fun i hi => ?_⟩⟩, by omega⟩
  · by_cases z1 : j = f
    · rw [z1, d1]; exact lenf
    · by_cases z2 : j = fc
      · rw [z2, d4]; exact lenc
      · rw [(d7 j z1 z2).2.1]; exact j4 j
  · rcases (hE e).mp he with z | ⟨a, a1, a2⟩
    · exact j5 e z
    · rw [← a2]; exact hy a a1
  · obtain ⟨d, hd⟩ := j6
    exact ⟨d, (hE d).mpr (Or.inl hd)⟩
  · rw [hV]
    have jnt : ∀ a, a < l → at' F S (hh a) (u a) ∧ at' F S (hh a) (u (a + 1)) := fun a ha => by
      rcases (hp.2.1 a ha).2.2 with z | z
      · exact ⟨Or.inl z.1, Or.inr z.2⟩
      · exact ⟨Or.inr z.2, Or.inl z.1⟩
    constructor
    · rintro (z | ⟨a, a1, a2⟩)
      · obtain ⟨e, e1, e2⟩ := (j7 v).mp z
        exact ⟨e, (hE e).mpr (Or.inl e1), e2⟩
      · exact ⟨hh a, (hE _).mpr (Or.inr ⟨a, a1, rfl⟩), by rw [← a2]; exact (jnt a a1).2⟩
    · rintro ⟨e, e1, e2⟩
      rcases (hE e).mp e1 with z | ⟨a, a1, a2⟩
      · exact Or.inl ((j7 v).mpr ⟨e, z, e2⟩)
      · subst a2
        have hv : v = u a ∨ v = u (a + 1) := by
          rcases (hp.2.1 a a1).2.2 with z | z <;> rcases e2 with q | q
          · exact Or.inl (by rw [← q]; exact z.1)
          · exact Or.inr (by rw [← q]; exact z.2)
          · exact Or.inr (by rw [← q]; exact z.1)
          · exact Or.inl (by rw [← q]; exact z.2)
        rcases hv with q | q
        · by_cases z : a = 0
          · rw [q, z]; exact Or.inl hu0
          · exact Or.inr ⟨a - 1, by omega, by rw [q, show a - 1 + 1 = a from by omega]⟩
        · exact Or.inr ⟨a, a1, q.symm⟩
  · by_cases z1 : i = f
    · subst z1
      rw [show adL L fc i A B l i = dst (L i) A B + l from by unfold adL; rw [if_pos rfl], show adW L w fc i A B l u i = arcW (L i) A (dst (L i) A B) l (w i) u from by unfold adW; rw [if_pos rfl]]
      refine ⟨d1, fun p hp' => ?_, fun v => ?_⟩
      · rw [d2 p hp']; exact arcW_congr A1 dl1 r2
      · rw [d3]
        exact ⟨fun ⟨p, p1, p2⟩ => ⟨p, p1, by rw [← p2]; exact (arcW_congr A1 dl1 r2).symm⟩, fun ⟨p, p1, p2⟩ => ⟨p, p1, by rw [← p2]; exact arcW_congr A1 dl1 r2⟩⟩
    · by_cases z2 : i = fc
      · subst z2
        rw [show adL L i f A B l i = dst (L f) B A + l from by unfold adL; rw [if_neg z1, if_pos rfl], show adW L w i f A B l u i = arcW (L f) B (dst (L f) B A) l (w f) (fun t => u (l - t)) from by unfold adW; rw [if_neg z1, if_pos rfl]]
        refine ⟨d4, fun p hp' => ?_, fun v => ?_⟩
        · rw [d5 p hp']; exact arcW_congr B1 dl2 r2
        · rw [d6]
          exact ⟨fun ⟨p, p1, p2⟩ => ⟨p, p1, by rw [← p2]; exact (arcW_congr B1 dl2 r2).symm⟩, fun ⟨p, p1, p2⟩ => ⟨p, p1, by rw [← p2]; exact arcW_congr B1 dl2 r2⟩⟩
      · rw [show adL L fc f A B l i = L i from by unfold adL; rw [if_neg z1, if_neg z2], show adW L w fc f A B l u i = w i from by unfold adW; rw [if_neg z1, if_neg z2]]
        obtain ⟨e1, e2, e3⟩ := d7 i z1 z2
        rw [e1, e2, e3]
        exact hR i (by omega)
end DX
