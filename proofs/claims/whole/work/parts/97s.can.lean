/-! the drawing draws whatever can be laid -/
section JX
variable {n k : Nat} {F S : Nat → Nat} {y : Int32}
theorem dJ_face2 (hFS : ∀ e, e < k → F e < n ∧ S e < n ∧ F e ≠ S e) {pa : Nat} {dE dV : Int32} {fc : Nat} {WL : Nat → Nat} {WS : Nat → Int32} {cb : Nat → Nat} {M : Nat → Nat → Nat} (h : dJ n k F S y pa dE dV fc WL WS cb M) {f l : Nat} {u hh : Nat → Nat} (hf : f < fc) (hp : PT n k F S (fun e => bt dE e) l u hh) (h0 : bt (WS f) (u 0) = true) (h1 : bt (WS f) (u l) = true) :
    ∃ L w g A B, A < L f ∧ B < L f ∧ A ≠ B ∧ w f A = u 0 ∧ w f B = u l ∧ FRw WL WS M fc L w ∧ (∀ p q, p < L f → q < L f → w f p = w f q → p = q) ∧ (∀ p, p < L f → w f p < n) ∧ 2 ≤ L f ∧ ((fc = 1 ∧ L f = 2 ∧ ∀ p, bt dE (g f p) = true) ∨ ∃ o, DS n k F S o (fun e => bt dE e) fc L w g) ∧ ∃ o', DS n k F S o' (fun e => bt dE e || isIn hh e l) (fc + 1) (adL L fc f A B l) (adW L w fc f A B l u) (adG L g fc f A B l hh) := by
  obtain ⟨_, _, _, _, _, _, _, h8⟩ := h
  have hl := hp.1
  have hul : u 0 ≠ u l := fun z => by
    have := hp.2.2.2 0 l (by omega) (by omega) z
    omega
  rcases h8 with ⟨c1, e1, he1, hE, w1, w2, w3, w4⟩ | ⟨c1, o, L, w, g, hDS, hR⟩
  · subst c1
    have hf0 : f = 0 := by omega
    subst hf0
    obtain ⟨q1, q2, q3⟩ := hFS e1 he1
    have hD : (fun e => bt dE e) = fun e => decide (e = e1) := by
      funext e
      rw [Bool.eq_iff_iff, hE, decide_eq_true_iff]
    rw [hD] at hp
    have pl : ∀ v, bt (WS 0) v = true → ∃ A, A < 2 ∧ M 0 A = v := fun v hv => by
      rcases (w4 v).mp hv with z | z
      · exact ⟨0, by omega, by rw [w2]; exact z⟩
      · exact ⟨1, by omega, by rw [w3]; exact z⟩
    obtain ⟨A, A1, A2⟩ := pl _ h0
    obtain ⟨B, B1, B2⟩ := pl _ h1
    have hAB : A ≠ B := fun z => hul (by rw [← A2, ← B2, z])
    have inj : ∀ p q, p < 2 → q < 2 → M 0 p = M 0 q → p = q := fun p q hp' hq' e => by
      have : ∀ p, p < 2 → p = 0 ∨ p = 1 := fun p hp => by omega
      rcases this p hp' with z | z <;> rcases this q hq' with z' | z' <;> subst z z'
      · rfl
      · rw [w2, w3] at e; exact absurd e q3
      · rw [w2, w3] at e; exact absurd e.symm q3
      · rfl
    have lt : ∀ p, p < 2 → M 0 p < n := fun p hp' => by
      have : p = 0 ∨ p = 1 := by omega
      rcases this with z | z <;> subst z
      · rw [w2]; exact q1
      · rw [w3]; exact q2
    have jn' : pg_joins F S e1 (M 0 A) (M 0 B) := by
      have hA' : A = 0 ∨ A = 1 := by omega
      have hB' : B = 0 ∨ B = 1 := by omega
      rcases hA' with z | z <;> rcases hB' with z' | z' <;> subst z z'
      · exact absurd rfl hAB
      · rw [w2, w3]; exact Or.inl ⟨rfl, rfl⟩
      · rw [w2, w3]; exact Or.inr ⟨rfl, rfl⟩
      · exact absurd rfl hAB
    obtain ⟨o', ho'⟩ := DS_start (w := M 0) he1 A1 B1 hAB jn' (fun z => hAB (inj A B A1 B1 z)) ⟨lt A A1, lt B B1⟩ hp A2.symm B2.symm
    refine ⟨fun _ => 2, fun _ => M 0, fun _ _ => e1, A, B, A1, B1, hAB, A2, B2, fun i hi => ?_, inj, lt, Nat.le_refl 2, Or.inl ⟨rfl, rfl, fun _ => (hE e1).mpr rfl⟩, o', ?_⟩
    · have : i = 0 := by omega
      subst this
      refine ⟨w1, fun p _ => rfl, fun v => ⟨pl v, fun ⟨p, p1, p2⟩ => (w4 v).mpr ?_⟩⟩
      have p1' : p < 2 := p1
      have p2' : M 0 p = v := p2
      clear p1 p2
      have : p = 0 ∨ p = 1 := by omega
      rcases this with z | z <;> subst z
      · exact Or.inl (by rw [← w2]; exact p2')
      · exact Or.inr (by rw [← w3]; exact p2')
    · have hD2 : (fun e => bt dE e || isIn hh e l) = fun e => decide (e = e1) || isIn hh e l := by
        funext e
        have := congrFun hD e
        have this' : bt dE e = decide (e = e1) := this
        rw [this']
      rw [hD2]
      exact ho'
  · have hc := (hDS.2.1 f hf).1
    obtain ⟨r1, r2, r3⟩ := hR f hf
    obtain ⟨A, A1, A2⟩ := (r3 _).mp h0
    obtain ⟨B, B1, B2⟩ := (r3 _).mp h1
    have hAB : A ≠ B := fun z => hul (by rw [← A2, ← B2, z])
    exact ⟨L, w, g, A, B, A1, B1, hAB, A2, B2, hR, hc.2.2.1, fun p hp' => (hc.2.1 p hp').1, hc.1, Or.inr ⟨o, hDS⟩, _, DS_add hDS hf A1 B1 hAB hp A2.symm B2.symm⟩
theorem dJ_rows (hn : n ≤ 10) (hk : k ≤ 18) (hFS : ∀ e, e < k → F e < n ∧ S e < n ∧ F e ≠ S e) {pa : Nat} {dE dV : Int32} {fc : Nat} {WL : Nat → Nat} {WS : Nat → Int32} {cb : Nat → Nat} {M : Nat → Nat → Nat} (h : dJ n k F S y pa dE dV fc WL WS cb M) {f l : Nat} {u hh ow : Nat → Nat} (hf : f < fc) (hp : PT n k F S (fun e => bt dE e) l u hh) (h0 : bt (WS f) (u 0) = true) (h1 : bt (WS f) (u l) = true) (hun : ∀ t, t ≤ l → u t < n) :
    ∃ L w g A B o', A < L f ∧ B < L f ∧ A ≠ B ∧ w f A = u 0 ∧ w f B = u l ∧ FRw WL WS M fc L w ∧ ((fc = 1 ∧ L f = 2 ∧ ∀ p, bt dE (g f p) = true) ∨ ∃ o, DS n k F S o (fun e => bt dE e) fc L w g) ∧ DS n k F S o' (fun e => bt dE e || isIn hh e l) (fc + 1) (adL L fc f A B l) (adW L w fc f A B l u) (adG L g fc f A B l hh) ∧
      ∀ i, i < fc + 1 → (dr_div u ow f fc (l + 1) (M, WL, WS)).2.1 i = adL L fc f A B l i ∧ ∀ p, p < adL L fc f A B l i → (dr_div u ow f fc (l + 1) (M, WL, WS)).1 i p = adW L w fc f A B l u i p := by
  obtain ⟨L, w, g, A, B, A1, B1, hAB, A2, B2, hR, inj, lt, L2, hold, o', hDS⟩ := dJ_face2 hFS h hf hp h0 h1
  obtain ⟨j1, j2, j3, j4, j5, j6, j7, j8⟩ := h
  obtain ⟨r1, r2, r3⟩ := hR f hf
  have hl := hp.1
  have hff : f ≠ fc := by omega
  have lenf : dst (L f) A B + l ≤ 10 := by
    have := CS_len (hDS.2.1 f (by omega)).1
    rw [show adL L fc f A B l f = dst (L f) A B + l from by unfold adL; rw [if_pos rfl]] at this
    omega
  have lenc : dst (L f) B A + l ≤ 10 := by
    have := CS_len (hDS.2.1 fc (by omega)).1
    rw [show adL L fc f A B l fc = dst (L f) B A + l from by unfold adL; rw [if_neg (by omega), if_pos rfl]] at this
    omega
  obtain ⟨s', hs', d1, d2, d3, d4, d5, d6, d7⟩ := div_ok (pt := u) (ow := ow) (f := f) (fc := fc) (l := l) (A := A) (B := B) (s := (M, WL, WS)) hl hff (j4 f) (by show A < WL f; rw [r1]; exact A1) (by show B < WL f; rw [r1]; exact B1) (by show M f A = u 0; rw [r2 A A1]; exact A2) (by show M f B = u l; rw [r2 B B1]; exact B2) (fun p q hp' hq' e => by
    have hp2 : p < WL f := hp'
    have hq2 : q < WL f := hq'
    have e2 : M f p = M f q := e
    rw [r1] at hp2 hq2
    rw [r2 p hp2, r2 q hq2] at e2
    exact inj p q hp2 hq2 e2) (fun p hp' => by
    have hp2 : p < WL f := hp'
    rw [r1] at hp2
    show M f p < 32
    rw [r2 p hp2]
    have := lt p hp2
    omega) (fun t ht => by have := hun t ht; omega) (by show dst (WL f) A B + l ≤ 10; rw [r1]; exact lenf) (by show dst (WL f) B A + l ≤ 10; rw [r1]; exact lenc)
  rw [hs']
  have w1 : WL f = L f := r1
  dsimp only at d1 d2 d3 d4 d5 d6 d7
  rw [w1] at d1 d2 d3 d4 d5 d6
  have dl1 : dst (L f) A B < L f := (dst_b A1 B1 hAB).2.1
  have dl2 : dst (L f) B A < L f := (dst_b B1 A1 (fun z => hAB z.symm)).2.1
  refine ⟨L, w, g, A, B, o', A1, B1, hAB, A2, B2, hR, hold, hDS, fun i hi => ?_⟩
  by_cases z1 : i = f
  · subst z1
    rw [show adL L fc i A B l i = dst (L i) A B + l from by unfold adL; rw [if_pos rfl], show adW L w fc i A B l u i = arcW (L i) A (dst (L i) A B) l (w i) u from by unfold adW; rw [if_pos rfl]]
    exact ⟨d1, fun p hp' => by rw [d2 p hp']; exact arcW_congr A1 dl1 r2⟩
  · by_cases z2 : i = fc
    · subst z2
      rw [show adL L i f A B l i = dst (L f) B A + l from by unfold adL; rw [if_neg z1, if_pos rfl], show adW L w i f A B l u i = arcW (L f) B (dst (L f) B A) l (w f) (fun t => u (l - t)) from by unfold adW; rw [if_neg z1, if_pos rfl]]
      exact ⟨d4, fun p hp' => by rw [d5 p hp']; exact arcW_congr B1 dl2 r2⟩
    · rw [show adL L fc f A B l i = L i from by unfold adL; rw [if_neg z1, if_neg z2], show adW L w fc f A B l u i = w i from by unfold adW; rw [if_neg z1, if_neg z2]]
      obtain ⟨e1, e2, _⟩ := d7 i z1 z2
      rw [e1, e2]
      exact ⟨(hR i (by omega)).1, (hR i (by omega)).2.1⟩
theorem PH_congr {dE dV : Int32} {r : Nat} {L L' : Nat → Nat} {w w' : Nat → Nat → Nat} {phi : Nat → Nat} (hR : ∀ i, i < r → L' i = L i ∧ ∀ p, p < L i → w' i p = w i p) (h : PH k F S y dE dV r L w phi) : PH k F S y dE dV r L' w' phi := by
  obtain ⟨a, b, c⟩ := h
  refine ⟨fun e te => ⟨(a e te).1, fun v hv => ?_⟩, b, fun e f te tf hno heq hc => ?_⟩
  · obtain ⟨p, p1, p2⟩ := (a e te).2 v hv
    have := hR _ (a e te).1
    exact ⟨p, by rw [this.1]; exact p1, by rw [this.2 p p1]; exact p2⟩
  · have := hR _ (a e te).1
    rw [this.1] at hc
    exact c e f te tf hno heq (Cfl_congr hc (fun p hp => this.2 p hp))
theorem fit_iff {c s : Int32} : c &&& (s ^^^ (-1)) = 0 ↔ ∀ v, bt c v = true → bt s v = true := by
  constructor
  · intro h v hv
    have := b_zero.mp h v (bt_lt hv)
    cases q : bt s v with
    | true => rfl
    | false => rw [(not_bt _ _ _).mpr ⟨hv, q⟩] at this; cases this
  · intro h
    refine b_zero.mpr fun i _ => ?_
    cases q : bt (c &&& (s ^^^ (-1))) i with
    | false => rfl
    | true =>
      obtain ⟨q1, q2⟩ := (not_bt _ _ _).mp q
      rw [h i q1] at q2; cases q2
theorem cn_ge2 {m i j : Nat} {P : Nat → Bool} (hi : i < m) (hj : j < m) (hij : i ≠ j) (p1 : P i = true) (p2 : P j = true) : 2 ≤ cn m P := by
  have h1 := cn_drop hi p1
  rcases Nat.eq_zero_or_pos (cn m (fun f => P f && !decide (f = i))) with z | z
  · have := cn_none z j hj
    rw [p2, decide_eq_false (Ne.symm hij)] at this; cases this
  · omega
theorem cn_other {m : Nat} {P : Nat → Bool} (h : 2 ≤ cn m P) (i : Nat) : ∃ j, j < m ∧ j ≠ i ∧ P j = true := by
  by_cases c : i < m ∧ P i = true
  · have h1 := cn_drop c.1 c.2
    obtain ⟨j, j1, j2⟩ := cn_some (show 1 ≤ cn m (fun f => P f && !decide (f = i)) by omega)
    rw [Bool.and_eq_true, Bool.not_eq_true', decide_eq_false_iff_not] at j2
    exact ⟨j, j1, j2.2, j2.1⟩
  · obtain ⟨j, j1, j2⟩ := cn_some (show 1 ≤ cn m P by omega)
    exact ⟨j, j1, fun z => c ⟨by rw [← z]; exact j1, by rw [← z]; exact j2⟩, j2⟩
def Jd (k : Nat) (F S : Nat → Nat) (y : Int32) (s : DdS) : Prop := ∃ phi, PH k F S y s.2.1 s.2.2.1 s.2.2.2.1 s.2.2.2.2.2.2.2.2.2.1 s.2.2.2.2.2.2.2.2.2.2.2.2.2.2.1 phi
theorem Jd_step (hn : n ≤ 10) (hk : k ≤ 18) (hFS : ∀ e, e < k → F e < n ∧ S e < n ∧ F e ≠ S e) (hB : Bl n k F S y) {o : Nat → Nat → Nat → Bool} (hI : Flt n k F S o (fun e => bt y e)) (eA nb : Nat → Int32) (hla : laOK n k F S y eA nb) (s : DdS) (hJ : dJs n k F S y s) (hPh : Jd k F S y s) (hd : dr_dD y s = false) (hok : dok (dr_dS n k F S eA nb y s) = true) : Jd k F S y (dr_dS n k F S eA nb y s) := by
  obtain ⟨pa, dE, dV, fc, fE, fV, cE, cC, pn, WL, WS, cb, pt, ow, M, ok⟩ := s
  have hJ' : dJ n k F S y pa dE dV fc WL WS cb M := hJ
  obtain ⟨phi, hPh⟩ := hPh
  have hPh : PH k F S y dE dV fc WL M phi := hPh
  obtain ⟨j1, j2, j3, j4, j5, j6, j7, j8⟩ := hJ'
  unfold dr_dD at hd
  rw [Bool.or_eq_false_iff, Bool.or_eq_false_iff] at hd
  have c1 : ¬ 18 ≤ pa := of_decide_eq_false hd.1
  have c2 : ¬ dE = y := of_decide_eq_false hd.2.1
  have hsome : ∃ e, Td k y dE e := by
    refine Classical.byContradiction fun z => c2 (b_ext fun i _ => ?_)
    rw [Bool.eq_iff_iff]
    refine ⟨j5 i, fun hi => ?_⟩
    cases q : bt dE i with
    | true => rfl
    | false => exact absurd ⟨i, hB.1 i hi, hi, q⟩ z
  obtain ⟨a1, a2⟩ := ch_ok (dV := dV) (dE := dE) (fE := fE) (fV := fV) (cE := cE) (cC := cC) (WS := WS) (fc := fc) hn hk hFS hla (by omega) hB.1 hsome
  have hc : dr_dc k F S eA nb y (pa, dE, dV, fc, fE, fV, cE, cC, pn, WL, WS, cb, pt, ow, M, ok) = dr_ch k F S eA nb WS dE dV fc y fE fV cE cC := rfl
  unfold dr_dS at hok ⊢
  rw [hc] at hok ⊢
  generalize dr_ch k F S eA nb WS dE dV fc y fE fV cE cC = c at a1 a2 hok ⊢
  cases hco : c.2.2.2.2.2.2 with
  | false =>
    exfalso
    unfold dr_dG at hok
    rw [hco] at hok
    have hok' : false = true := hok
    cases hok'
  | true =>
    obtain ⟨e0, t0, g1, g2, g3⟩ := a2 hco
    obtain ⟨f1, f2⟩ := fw_ok (WS := WS) (c := Yc F S eA nb dV e0) (fc := fc) (by omega) (by omega) (g3 e0 t0).1
    obtain ⟨l, p1, p2, p3, p4, p5, p6, p7, p8, p9, p10⟩ := path_ok hn hk hFS hB hla j7 j5 j6 t0 (cb := cb) (pt := pt) j3 rfl rfl
    have hYc : ∀ e, Td k y dE e → ∀ v, bt (Yc F S eA nb dV e) v = true ↔ Con k F S y dV e v := fun e te v => Yc_bt (dV := dV) hn hk hFS hla te.1 te.2.1 v
    have hst := (dJ_step (ow := ow) hn hk hFS hJ f1 p3 (f2 _ p6) (f2 _ p7) p4 (fun t ht => (p5 t ht).2.1) p10 p8 p9 ((hYc e0 t0 _).mp p6).1).1
    obtain ⟨L, w, g, A, B, o', A1, B1, hAB, A2, B2, hR, hold, hDS, hrow⟩ := dJ_rows (ow := ow) hn hk hFS hJ f1 p3 (f2 _ p6) (f2 _ p7) p4
    have hq : dr_dp1 k F S cb c = dr_p1 k F S (dr_gf F S eA nb dV e0).2.2.2.1 (Yc F S eA nb dV e0) cb := by unfold dr_dp1; rw [g1, g2]
    have hp : dr_dp2 n F S pt dE dV c (dr_dp1 k F S cb c) = dr_p2 n F S (dr_p1 k F S (dr_gf F S eA nb dV e0).2.2.2.1 (Yc F S eA nb dV e0) cb).2.2 (ps_least (Yc F S eA nb dV e0)) (ps_least ((dr_p1 k F S (dr_gf F S eA nb dV e0).2.2.2.1 (Yc F S eA nb dV e0) cb).2.1 &&& dr_go (Yc F S eA nb dV e0))) dE dV pt := by
      unfold dr_dp2
      rw [hq, g2]
      rfl
    unfold dr_dG
    rw [hco]
    show Jd k F S y (dr_dO (pa, dE, dV, fc, fE, fV, cE, cC, pn, WL, WS, cb, pt, ow, M, ok) c (dr_dp1 k F S cb c) (dr_dp2 n F S pt dE dV c (dr_dp1 k F S cb c)) (dr_fw WS c.2.2.2.2.2.1 fc))
    rw [hp, hq, g2]
    unfold dr_dO dr_dT Jd
    dsimp only
    rw [p1]
    obtain ⟨_, _, _, _, k5, _, k7, _⟩ := hst
    generalize dr_p2 n F S (dr_p1 k F S (dr_gf F S eA nb dV e0).2.2.2.1 (Yc F S eA nb dV e0) cb).2.2 (ps_least (Yc F S eA nb dV e0)) (ps_least ((dr_p1 k F S (dr_gf F S eA nb dV e0).2.2.2.1 (Yc F S eA nb dV e0) cb).2.1 &&& dr_go (Yc F S eA nb dV e0))) dE dV pt = P at p1 p3 p4 p5 p6 p7 p8 p9 hrow hDS A2 B2 k5 k7 ⊢
    generalize hfdef : dr_fw WS (Yc F S eA nb dV e0) fc = f at f1 f2 hrow hDS A1 B1 A2 B2 hold ⊢
    have hDm : ∀ e, bt dE e = true → e < k := fun e he => hB.1 e (j5 e he)
    have hPL : PH k F S y dE dV fc L w phi := PH_congr (fun i hi => ⟨(hR i hi).1.symm, fun p hp' => ((hR i hi).2.1 p (by rw [← (hR i hi).1]; exact hp')).symm⟩) hPh
    have fitW : ∀ e i, Td k y dE e → i < fc → (Fit k F S y dV L w e i ↔ Yc F S eA nb dV e &&& (WS i ^^^ (-1)) = 0) := fun e i te hi => by
      rw [fit_iff]
      exact ⟨fun h v hv => ((hR i hi).2.2 v).mpr (h v ((hYc e te v).mp hv)), fun h v hv => ((hR i hi).2.2 v).mp (h v ((hYc e te v).mpr hv))⟩
    have hfit : Fit k F S y dV L w e0 f := (fitW e0 f t0 f1).mpr (fit_iff.mpr f2)
    obtain ⟨phi2, hP2, hphi2⟩ : ∃ phi2, PH k F S y dE dV fc L w phi2 ∧ phi2 e0 = f := by
      rcases hold with ⟨z, _⟩ | ⟨o1, hDS1⟩
      · exact ⟨phi, hPL, by have := (hPL.1 e0 t0).1; omega⟩
      · refine swap_ok hFS j7 hDm hDS1 hPL t0 f1 hfit (fun hne e te i => ?_)
        have two : 2 ≤ fitN WS (Yc F S eA nb dV e0) fc := cn_ge2 f1 (hPL.1 e0 t0).1 (Ne.symm hne) (decide_eq_true ((fitW e0 f t0 f1).mp hfit)) (decide_eq_true ((fitW e0 _ t0 (hPL.1 e0 t0).1).mp (hPL.1 e0 t0).2))
        have := (g3 e te).2
        obtain ⟨j, q1, q2, q3⟩ := cn_other (show 2 ≤ fitN WS (Yc F S eA nb dV e) fc by omega) i
        exact ⟨j, q1, q2, (fitW e j te q1).mpr (of_decide_eq_true q3)⟩
    have hwd : ∀ p, p < L f → bt dV (w f p) = true := fun p hp' => by
      rcases hold with ⟨z1, z2, z3⟩ | ⟨o1, hDS1⟩
      · obtain ⟨r1, r2, r3⟩ := hR f f1
        rcases j8 with ⟨_, e1, he1, hE, _, _, _, w4⟩ | ⟨q, _⟩
        · have hf0 : f = 0 := by omega
          subst hf0
          exact (j7 _).mpr ⟨e1, (hE e1).mpr rfl, (w4 _).mp ((r3 _).mpr ⟨p, hp', rfl⟩)⟩
        · omega
      · exact DC_v j7 ⟨(hDS1.2.1 f f1).1, (hDS1.2.1 f f1).2⟩ hp'
    have hgd : ∀ p, p < L f → bt dE (g f p) = true := fun p hp' => by
      rcases hold with ⟨z1, z2, z3⟩ | ⟨o1, hDS1⟩
      · exact z3 p
      · exact (hDS1.2.1 f f1).2 p hp'
    have hDC : DC n k F S dE (L f) (w f) (g f) ∨ L f = 2 := by
      rcases hold with ⟨z1, z2, z3⟩ | ⟨o1, hDS1⟩
      · exact Or.inr z2
      · exact Or.inl ⟨(hDS1.2.1 f f1).1, (hDS1.2.1 f f1).2⟩
    have Lf : adL L fc f A B l f = dst (L f) A B + l := by unfold adL; rw [if_pos rfl]
    have Wf : adW L w fc f A B l P.2.2.2.1 f = arcW (L f) A (dst (L f) A B) l (w f) P.2.2.2.1 := by unfold adW; rw [if_pos rfl]
    have Gf : adG L g fc f A B l (fun a => (dr_p1 k F S (dr_gf F S eA nb dV e0).2.2.2.1 (Yc F S eA nb dV e0) cb).2.2 (P.2.2.2.1 a)) f = arcG (L f) A (dst (L f) A B) l (g f) (fun a => (dr_p1 k F S (dr_gf F S eA nb dV e0).2.2.2.1 (Yc F S eA nb dV e0) cb).2.2 (P.2.2.2.1 a)) := by unfold adG; rw [if_pos rfl]
    have Lr : adL L fc f A B l fc = dst (L f) B A + l := by unfold adL; rw [if_neg (by omega), if_pos rfl]
    have Wr : adW L w fc f A B l P.2.2.2.1 fc = arcW (L f) B (dst (L f) B A) l (w f) (fun t => P.2.2.2.1 (l - t)) := by unfold adW; rw [if_neg (by omega), if_pos rfl]
    have Gr : adG L g fc f A B l (fun a => (dr_p1 k F S (dr_gf F S eA nb dV e0).2.2.2.1 (Yc F S eA nb dV e0) cb).2.2 (P.2.2.2.1 a)) fc = arcG (L f) B (dst (L f) B A) l (g f) (fun t => (fun a => (dr_p1 k F S (dr_gf F S eA nb dV e0).2.2.2.1 (Yc F S eA nb dV e0) cb).2.2 (P.2.2.2.1 a)) (l - 1 - t)) := by unfold adG; rw [if_neg (by omega), if_pos rfl]
    have inD : ∀ e, (bt dE e || isIn (fun a => (dr_p1 k F S (dr_gf F S eA nb dV e0).2.2.2.1 (Yc F S eA nb dV e0) cb).2.2 (P.2.2.2.1 a)) e l) = true → bt P.2.1 e = true := fun e he => by
      rw [Bool.or_eq_true, isIn_iff] at he
      exact (p8 e).mpr he
    have C1 := hDS.2.1 f (by omega)
    have C2 := hDS.2.1 fc (by omega)
    rw [Lf, Wf, Gf] at C1
    rw [Lr, Wr, Gr] at C2
    obtain ⟨phi3, hP3⟩ := PH_step hFS j7 j5 hDm k7 k5 p8 p9 hI f1 hDC hgd hwd A1 B1 hAB p3 A2.symm B2.symm ⟨C1.1, fun p hp' => inD _ (C1.2 p hp')⟩ ⟨C2.1, fun p hp' => inD _ (C2.2 p hp')⟩ t0 p5 hP2 hphi2
    exact ⟨phi3, PH_congr hrow hP3⟩
theorem Jd_start (hn : n ≤ 10) (hk : k ≤ 18) (hFS : ∀ e, e < k → F e < n ∧ S e < n ∧ F e ≠ S e) (hB : Bl n k F S y) (hy : ¬ y = 0) (fE fV cE cC : Int32) (pn : Nat) (WL : Nat → Nat) (WS : Nat → Int32) (cb pt ow : Nat → Nat) (M : Nat → Nat → Nat) : Jd k F S y (dr_d0 F S y fE fV cE cC pn WL WS cb pt ow M) := by
  have hJ := d0_J (fE := fE) (fV := fV) (cE := cE) (cC := cC) (pn := pn) (WS := WS) (pt := pt) (ow := ow) (M := M) (cb := fun _ => 0) (WL := fun _ => 0) hn hk hFS hB hy (fun _ => by decide) (fun _ => by decide)
  obtain ⟨_, _, _, _, _, _, j7, j8⟩ := hJ
  rcases j8 with ⟨_, e1, he1, hE, _, m0, m1, _⟩ | ⟨q, _⟩
  · refine ⟨fun _ => 0, fun e te => ⟨by show 0 < 1; omega, fun v hv => ?_⟩, fun _ _ _ _ => rfl, fun e f te tf hno _ hc => ?_⟩
    · obtain ⟨e2, q1, q2⟩ := (j7 v).mp hv.1
      rw [(hE e2).mp q1] at q2
      rcases q2 with z | z
      · exact ⟨0, by show 0 < va_up WL 0 2 0; unfold va_up; rw [if_pos rfl]; omega, m0.trans z⟩
      · exact ⟨1, by show 1 < va_up WL 0 2 0; unfold va_up; rw [if_pos rfl]; omega, m1.trans z⟩
    · have hc2 : Cfl (va_up WL 0 2 0) (dr_e M (F (ps_least y)) (S (ps_least y)) 0) (Con k F S y (dr_d0 F S y fE fV cE cC pn WL WS cb pt ow M).2.2.1 e) (Con k F S y (dr_d0 F S y fE fV cE cC pn WL WS cb pt ow M).2.2.1 f) := hc
      have e2 : va_up WL 0 2 0 = 2 := by unfold va_up; rw [if_pos rfl]
      rw [e2] at hc2
      rcases hc2 with ⟨A1, A2, B1, B2, a1, a2, a3, a4, c1, _⟩ | ⟨p, q, r, a1, a2, a3, c1, _⟩ <;> unfold cyc3 at c1 <;> omega
  · have q' : 2 ≤ 1 := q
    omega
/-- the class draws a block exactly where it can be laid -/
theorem can_iff (hn : n ≤ 10) (hk : k ≤ 18) (hFS : ∀ e, e < k → F e < n ∧ S e < n ∧ F e ≠ S e) (hB : Bl n k F S y) (hy : ¬ y = 0) {s : DrS} (hs : DRok s) : (dr_can n k F S y s).1 = true ↔ pg_PP n k F S (fun e => bt y e) := by
  constructor
  · intro h
    rcases (can_ok (J := fun _ => True) hn hk hFS hB hy (fun _ _ _ _ _ _ _ _ => trivial) (fun _ _ _ _ _ _ _ _ _ _ _ => trivial) hs).2.2.1 h with z | z
    · exact PP_eight 8 (Nat.le_refl 8) n k F S _ hFS (by
        rw [jbN_cn] at z
        have ht : cn 32 (bt y) = cn k (bt y) := cn_top (n := k) (m := 32) (f := bt y) (by omega) (fun i h1 _ => by
          cases q : bt y i with
          | false => rfl
          | true => have := hB.1 i q; omega)
        show cn k (bt y) ≤ 8
        omega)
    · exact z
  · intro h
    obtain ⟨o, ht, hI⟩ := h
    cases q : (dr_can n k F S y s).1 with
    | true => rfl
    | false =>
      exfalso
      obtain ⟨_, eA, nb, s0, hla, hJ, ⟨phi, hP⟩, hd, e, te, he⟩ := (can_ok (J := Jd k F S y) hn hk hFS hB hy (fun eA nb hla s => Jd_step hn hk hFS hB ⟨ht, hI⟩ eA nb hla s) (fun fE fV cE cC pn WL WS cb pt ow M => Jd_start hn hk hFS hB hy fE fV cE cC pn WL WS cb pt ow M) hs).2.2.2 q
      obtain ⟨j1, j2, j3, j4, j5, j6, j7, j8⟩ := hJ
      obtain ⟨a1, a2⟩ := hP.1 e te
      have := cn_none he (phi e) a1
      rw [decide_eq_false_iff_not] at this
      refine this (fit_iff.mpr fun v hv => ?_)
      obtain ⟨p, p1, p2⟩ := a2 v ((Yc_bt hn hk hFS hla te.1 te.2.1 v).mp hv)
      rcases j8 with ⟨c1, e1, he1, hE, w1, w2, w3, w4⟩ | ⟨c1, o1, L, w, g, hDS, hR⟩
      · have hf0 : phi e = 0 := by omega
        rw [hf0] at p1 p2 ⊢
        rw [w1] at p1
        have hp01 : p = 0 ∨ p = 1 := by omega
        rcases hp01 with z | z <;> subst z
        · rw [w2] at p2; exact (w4 v).mpr (Or.inl p2)
        · rw [w3] at p2; exact (w4 v).mpr (Or.inr p2)
      · obtain ⟨r1, r2, r3⟩ := hR _ a1
        rw [r1] at p1
        rw [r2 p p1] at p2
        exact (r3 v).mpr ⟨p, p1, p2⟩
end JX
