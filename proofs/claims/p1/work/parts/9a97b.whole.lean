/-! the drawing of a block as a whole: it stays inside its rows; where all is drawn the block can be laid -/
section DZ
variable {n k : Nat} {F S : Nat → Nat} {y : Int32}
abbrev dJs (n k : Nat) (F S : Nat → Nat) (y : Int32) (s : DdS) : Prop := dJ n k F S y s.1 s.2.1 s.2.2.1 s.2.2.2.1 s.2.2.2.2.2.2.2.2.2.1 s.2.2.2.2.2.2.2.2.2.2.1 s.2.2.2.2.2.2.2.2.2.2.2.1 s.2.2.2.2.2.2.2.2.2.2.2.2.2.2.1
abbrev dok (s : DdS) : Bool := s.2.2.2.2.2.2.2.2.2.2.2.2.2.2.2
/-- no face fits some fragment -/
def dFail (k : Nat) (F S : Nat → Nat) (eA nb : Nat → Int32) (y : Int32) (s : DdS) : Prop := ∃ e, Td k y s.2.1 e ∧ fitN s.2.2.2.2.2.2.2.2.2.2.1 (Yc F S eA nb s.2.2.1 e) s.2.2.2.1 = 0
def dCond (n k : Nat) (F S : Nat → Nat) (eA nb : Nat → Int32) (y : Int32) (s : DdS) : Prop :=
  1 ≤ s.2.2.2.1 ∧ s.2.2.2.1 ≤ 17 ∧ (∀ e, e < k → dr_gfOK F S eA nb s.2.2.1 e) ∧ (∀ j, s.2.2.2.2.2.2.2.2.2.2.2.1 j < 18) ∧ (∀ j, s.2.2.2.2.2.2.2.2.2.1 j ≤ 10) ∧ ((dr_dc k F S eA nb y s).2.2.2.2.2.2 = true → dr_fw s.2.2.2.2.2.2.2.2.2.2.1 (dr_dc k F S eA nb y s).2.2.2.2.2.1 s.2.2.2.1 < s.2.2.2.1 ∧ 1 ≤ s.2.2.2.2.2.2.2.2.2.1 (dr_fw s.2.2.2.2.2.2.2.2.2.2.1 (dr_dc k F S eA nb y s).2.2.2.2.2.1 s.2.2.2.1) ∧ 2 ≤ (dr_dp2 n F S s.2.2.2.2.2.2.2.2.2.2.2.2.1 s.2.1 s.2.2.1 (dr_dc k F S eA nb y s) (dr_dp1 k F S s.2.2.2.2.2.2.2.2.2.2.2.1 (dr_dc k F S eA nb y s))).2.2.2.2 ∧ (dr_dp2 n F S s.2.2.2.2.2.2.2.2.2.2.2.2.1 s.2.1 s.2.2.1 (dr_dc k F S eA nb y s) (dr_dp1 k F S s.2.2.2.2.2.2.2.2.2.2.2.1 (dr_dc k F S eA nb y s))).2.2.2.2 ≤ 10)
theorem draw_step (hn : n ≤ 10) (hk : k ≤ 18) (hFS : ∀ e, e < k → F e < n ∧ S e < n ∧ F e ≠ S e) (hB : Bl n k F S y) {eA nb : Nat → Int32} (hla : laOK n k F S y eA nb) {s : DdS} (hJ : dJs n k F S y s) (hd : dr_dD y s = false) : dCond n k F S eA nb y s ∧ ((dok (dr_dS n k F S eA nb y s) = false ∧ dFail k F S eA nb y s) ∨ (dok (dr_dS n k F S eA nb y s) = true ∧ dJs n k F S y (dr_dS n k F S eA nb y s) ∧ (∃ h, h < k ∧ bt s.2.1 h = false ∧ bt (dr_dS n k F S eA nb y s).2.1 h = true) ∧ (∀ e, bt s.2.1 e = true → bt (dr_dS n k F S eA nb y s).2.1 e = true) ∧ (dr_dS n k F S eA nb y s).1 = s.1 + 1)) := by
  obtain ⟨pa, dE, dV, fc, fE, fV, cE, cC, pn, WL, WS, cb, pt, ow, M, ok⟩ := s
  have hJ' : dJ n k F S y pa dE dV fc WL WS cb M := hJ
  obtain ⟨j1, j2, j3, j4, j5, j6, j7, j8⟩ := hJ'
  unfold dr_dD at hd
  rw [Bool.or_eq_false_iff, Bool.or_eq_false_iff] at hd
  have c1 : ¬ 18 ≤ pa := of_decide_eq_false hd.1
  have c2 : ¬ dE = y := of_decide_eq_false hd.2.1
  have hsome : ∃ e, Td k y dE e := by
    refine Classical.byContradiction fun z => c2 (b_ext fun i _ => ?_)
    rw [Bool.eq_iff_iff]
    refine ⟨j5 i, fun hi => ?_⟩
    cases q : bt dE i with
    | true => rfl
    | false => exact absurd ⟨i, hB.1 i hi, hi, q⟩ z
  obtain ⟨a1, a2⟩ := ch_ok (dV := dV) (dE := dE) (fE := fE) (fV := fV) (cE := cE) (cC := cC) (WS := WS) (fc := fc) hn hk hFS hla (by omega) hB.1 hsome
  have hgfOK : ∀ e, e < k → dr_gfOK F S eA nb dV e := fun e he => gfOK_ok hn hFS hla dV he
  have hc : dr_dc k F S eA nb y (pa, dE, dV, fc, fE, fV, cE, cC, pn, WL, WS, cb, pt, ow, M, ok) = dr_ch k F S eA nb WS dE dV fc y fE fV cE cC := rfl
  unfold dCond dr_dS
  rw [hc]
  dsimp only
  generalize dr_ch k F S eA nb WS dE dV fc y fE fV cE cC = c at a1 a2 ⊢
  cases hco : c.2.2.2.2.2.2 with
  | false =>
    refine ⟨⟨by omega, by omega, hgfOK, j3, j4, fun z => (by cases z)⟩, Or.inl ⟨?_, a1 hco⟩⟩
    unfold dr_dG
    rw [hco]
    rfl
  | true =>
    obtain ⟨e0, t0, g1, g2, g3⟩ := a2 hco
    obtain ⟨f1, f2⟩ := fw_ok (WS := WS) (c := Yc F S eA nb dV e0) (fc := fc) (by omega) (by omega) (g3 e0 t0).1
    obtain ⟨l, p1, p2, p3, p4, p5, p6, p7, p8, p9, p10⟩ := path_ok hn hk hFS hB hla j7 j5 j6 t0 (cb := cb) (pt := pt) j3 rfl rfl
    have hst := dJ_step (ow := ow) hn hk hFS hJ f1 p3 (f2 _ p6) (f2 _ p7) p4 (fun t ht => (p5 t ht).2.1) p10 p8 p9 (by
      have := (Yc_bt (dV := dV) hn hk hFS hla t0.1 t0.2.1 _).mp p6
      exact this.1)
    have hq : dr_dp1 k F S cb c = dr_p1 k F S (dr_gf F S eA nb dV e0).2.2.2.1 (Yc F S eA nb dV e0) cb := by unfold dr_dp1; rw [g1, g2]
    have hp : dr_dp2 n F S pt dE dV c (dr_dp1 k F S cb c) = dr_p2 n F S (dr_p1 k F S (dr_gf F S eA nb dV e0).2.2.2.1 (Yc F S eA nb dV e0) cb).2.2 (ps_least (Yc F S eA nb dV e0)) (ps_least ((dr_p1 k F S (dr_gf F S eA nb dV e0).2.2.2.1 (Yc F S eA nb dV e0) cb).2.1 &&& dr_go (Yc F S eA nb dV e0))) dE dV pt := by
      unfold dr_dp2
      rw [hq, g2]
      rfl
    refine ⟨⟨by omega, by omega, hgfOK, j3, j4, fun _ => ?_⟩, Or.inr ⟨?_, ?_, ?_, ?_, ?_⟩⟩
    · rw [hp, g2]
      refine ⟨f1, hst.2, ?_, ?_⟩
      · rw [p1]; have := p3.1; omega
      · rw [p1]; omega
    · unfold dr_dG
      rw [hco]
      rfl
    · unfold dr_dG
      rw [hco]
      show dJs n k F S y (dr_dO (pa, dE, dV, fc, fE, fV, cE, cC, pn, WL, WS, cb, pt, ow, M, ok) c (dr_dp1 k F S cb c) (dr_dp2 n F S pt dE dV c (dr_dp1 k F S cb c)) (dr_fw WS c.2.2.2.2.2.1 fc))
      rw [hp, hq, g2]
      unfold dr_dO dr_dT
      dsimp only
      rw [p1]
      exact hst.1
    · unfold dr_dG
      rw [hco]
      show ∃ h, h < k ∧ bt dE h = false ∧ bt (dr_dp2 n F S pt dE dV c (dr_dp1 k F S cb c)).2.1 h = true
      rw [hp]
      exact ⟨_, (p3.2.1 0 p3.1).1, (p3.2.1 0 p3.1).2.1, (p8 _).mpr (Or.inr ⟨0, p3.1, rfl⟩)⟩
    · unfold dr_dG
      rw [hco]
      show ∀ e, bt dE e = true → bt (dr_dp2 n F S pt dE dV c (dr_dp1 k F S cb c)).2.1 e = true
      rw [hp]
      exact fun e he => (p8 e).mpr (Or.inl he)
    · unfold dr_dG
      rw [hco]
      rfl
/-- what holds in the midst of the drawing; J is carried along -/
def dL (n k : Nat) (F S : Nat → Nat) (eA nb : Nat → Int32) (y : Int32) (J : DdS → Prop) (s : DdS) : Prop :=
  (∀ j, s.2.2.2.2.2.2.2.2.2.2.2.1 j < 18) ∧ (∀ j, s.2.2.2.2.2.2.2.2.2.1 j ≤ 10) ∧ s.1 ≤ 18 ∧ (dok s = true → dJs n k F S y s ∧ J s ∧ s.1 ≤ cn k (bt s.2.1)) ∧ (dok s = false → ∃ s0, dJs n k F S y s0 ∧ J s0 ∧ dr_dD y s0 = false ∧ dFail k F S eA nb y s0)
theorem dS_keep {eA nb : Nat → Int32} {s : DdS} (h : dok (dr_dS n k F S eA nb y s) = false) : (dr_dS n k F S eA nb y s).2.2.2.2.2.2.2.2.2.2.2.1 = s.2.2.2.2.2.2.2.2.2.2.2.1 ∧ (dr_dS n k F S eA nb y s).2.2.2.2.2.2.2.2.2.1 = s.2.2.2.2.2.2.2.2.2.1 ∧ (dr_dS n k F S eA nb y s).1 = s.1 + 1 := by
  unfold dr_dS at h ⊢
  generalize dr_dc k F S eA nb y s = c at h ⊢
  unfold dr_dG at h ⊢
  cases hc : c.2.2.2.2.2.2 with
  | false => exact ⟨rfl, rfl, rfl⟩
  | true =>
    rw [hc] at h
    have h' : true = false := h
    cases h'
theorem dL_step (hn : n ≤ 10) (hk : k ≤ 18) (hFS : ∀ e, e < k → F e < n ∧ S e < n ∧ F e ≠ S e) (hB : Bl n k F S y) {eA nb : Nat → Int32} (hla : laOK n k F S y eA nb) {J : DdS → Prop} (hJ : ∀ s, dJs n k F S y s → J s → dr_dD y s = false → dok (dr_dS n k F S eA nb y s) = true → J (dr_dS n k F S eA nb y s)) {s : DdS} (h : dL n k F S eA nb y J s) (hd : dr_dD y s = false) : dCond n k F S eA nb y s ∧ dL n k F S eA nb y J (dr_dS n k F S eA nb y s) ∧ 18 - (dr_dS n k F S eA nb y s).1 < 18 - s.1 := by
  obtain ⟨h1, h2, h3, h4, h5⟩ := h
  have hd' := hd
  unfold dr_dD at hd'
  rw [Bool.or_eq_false_iff, Bool.or_eq_false_iff, Bool.not_eq_false'] at hd'
  have c1 : ¬ 18 ≤ s.1 := of_decide_eq_false hd'.1
  obtain ⟨k1, k2, k3⟩ := h4 hd'.2.2
  obtain ⟨a1, a2⟩ := draw_step hn hk hFS hB hla k1 hd
  refine ⟨a1, ?_⟩
  rcases a2 with ⟨b1, b2⟩ | ⟨b1, b2, ⟨e, e1, e2, e3⟩, b4, b5⟩
  · obtain ⟨q1, q2, q3⟩ := dS_keep b1
    refine ⟨⟨by rw [q1]; exact h1, by rw [q2]; exact h2, by rw [q3]; omega, fun z => ?_, fun _ => ⟨s, k1, k2, hd, b2⟩⟩, by rw [q3]; omega⟩
    rw [b1] at z; cases z
  · refine ⟨⟨b2.2.2.1, b2.2.2.2.1, by rw [b5]; omega, fun _ => ⟨b2, hJ s k1 k2 hd b1, ?_⟩, fun z => ?_⟩, by rw [b5]; omega⟩
    · rw [b5]
      have g1 := cn_more (P := bt s.2.1) e1 e2
      have g2 : cn k (fun v => bt s.2.1 v || decide (v = e)) ≤ cn k (bt (dr_dS n k F S eA nb y s).2.1) := cn_mono k (fun i _ hi => by
        rw [Bool.or_eq_true, decide_eq_true_iff] at hi
        rcases hi with z | z
        · exact b4 i z
        · rw [z]; exact e3)
      omega
    · rw [b1] at z; cases z
theorem d0_J (hn : n ≤ 10) (hk : k ≤ 18) (hFS : ∀ e, e < k → F e < n ∧ S e < n ∧ F e ≠ S e) (hB : Bl n k F S y) (hy : ¬ y = 0) {fE fV cE cC : Int32} {pn : Nat} {WL : Nat → Nat} {WS : Nat → Int32} {cb pt ow : Nat → Nat} {M : Nat → Nat → Nat} (hcb : ∀ j, cb j < 18) (hWL : ∀ j, WL j ≤ 10) : dJs n k F S y (dr_d0 F S y fE fV cE cC pn WL WS cb pt ow M) := by
  obtain ⟨l1, l2, _⟩ := ps_least_ok hy
  have hk1 := hB.1 _ l2
  obtain ⟨f1, f2, f3⟩ := hFS _ hk1
  unfold dr_d0
  generalize ps_least y = e1 at l1 l2 hk1 f1 f2 f3 ⊢
  have one : ∀ e, bt ((1 : Int32) <<< (nI e1 &&& 31)) e = true ↔ e = e1 := fun f => by
    rcases Nat.lt_or_ge f 32 with hi | hi
    · rw [b_one e1 l1 f hi, decide_eq_true_iff]
    · rw [b_big hi]; exact ⟨fun z => (by cases z), fun z => by omega⟩
  have eb := ends_bt (F := F) (S := S) (e := e1) (by omega) (by omega)
  refine ⟨Nat.le_refl 1, rfl, hcb, fun j => ?_, fun e he => ?_, ⟨e1, (one e1).mpr rfl⟩, fun v => ?_, Or.inl ⟨rfl, e1, hk1, one, ?_, ?_, ?_, fun v => ?_⟩⟩
  · show va_up WL 0 2 j ≤ 10
    unfold va_up
    by_cases z : j = 0
    · rw [if_pos z]; omega
    · rw [if_neg z]; exact hWL j
  · rw [(one e).mp he]; exact l2
  · show bt (ps_ends F S e1) v = true ↔ ∃ e, bt ((1 : Int32) <<< (nI e1 &&& 31)) e = true ∧ at' F S e v
    rw [eb]
    exact ⟨fun z => ⟨e1, (one e1).mpr rfl, z⟩, fun ⟨e, z1, z2⟩ => by rw [(one e).mp z1] at z2; exact z2⟩
  · show va_up WL 0 2 0 = 2
    unfold va_up; rw [if_pos rfl]
  · show dr_e M (F e1) (S e1) 0 0 = F e1
    unfold dr_e va_up
    rw [if_pos rfl, if_neg (by decide), if_pos rfl, if_pos rfl]
  · show dr_e M (F e1) (S e1) 0 1 = S e1
    unfold dr_e va_up
    rw [if_pos rfl, if_pos rfl]
  · show bt (upd WS 0 (ps_ends F S e1) 0) v = true ↔ _
    unfold upd
    rw [if_pos rfl, eb]
/-- the drawing of a block -/
theorem dw_ok (hn : n ≤ 10) (hk : k ≤ 18) (hFS : ∀ e, e < k → F e < n ∧ S e < n ∧ F e ≠ S e) (hB : Bl n k F S y) {eA nb : Nat → Int32} (hla : laOK n k F S y eA nb) (hy : ¬ y = 0) {J : DdS → Prop} (hJ : ∀ s, dJs n k F S y s → J s → dr_dD y s = false → dok (dr_dS n k F S eA nb y s) = true → J (dr_dS n k F S eA nb y s)) {fE fV cE cC : Int32} {pn : Nat} {WL : Nat → Nat} {WS : Nat → Int32} {cb pt ow : Nat → Nat} {M : Nat → Nat → Nat} (hcb : ∀ j, cb j < 18) (hWL : ∀ j, WL j ≤ 10) (hJ0 : J (dr_d0 F S y fE fV cE cC pn WL WS cb pt ow M)) :
    dr_dOK n k F S eA nb y fE fV cE cC pn WL WS cb pt ow M ∧ dL n k F S eA nb y J (dr_dw n k F S eA nb y fE fV cE cC pn WL WS cb pt ow M) ∧ (dok (dr_dw n k F S eA nb y fE fV cE cC pn WL WS cb pt ow M) = true → (dr_dw n k F S eA nb y fE fV cE cC pn WL WS cb pt ow M).2.1 = y) := by
  have h0J := d0_J (fE := fE) (fV := fV) (cE := cE) (cC := cC) (pn := pn) (WS := WS) (pt := pt) (ow := ow) (M := M) hn hk hFS hB hy hcb hWL
  have h0 : dL n k F S eA nb y J (dr_d0 F S y fE fV cE cC pn WL WS cb pt ow M) := by
    refine ⟨h0J.2.2.1, h0J.2.2.2.1, by show 1 ≤ 18; omega, fun _ => ⟨h0J, hJ0, ?_⟩, fun z => ?_⟩
    · obtain ⟨d, hd⟩ := h0J.2.2.2.2.2.1
      have g1 := cn_more (n := k) (a := d) (P := fun _ => false) (hB.1 d (h0J.2.2.2.2.1 d hd)) rfl
      rw [cn_false] at g1
      have g2 : cn k (fun v => false || decide (v = d)) ≤ cn k (bt (dr_d0 F S y fE fV cE cC pn WL WS cb pt ow M).2.1) := cn_mono k (fun i _ hi => by
        rw [Bool.false_or, decide_eq_true_iff] at hi
        rw [hi]; exact hd)
      show 1 ≤ _
      omega
    · have z' : true = false := z
      cases z'
  have hw := wl_meas (dn := dr_dD y) (st := dr_dS n k F S eA nb y) (dL n k F S eA nb y J) (fun s => 18 - s.1) (fun s hs hd => (dL_step hn hk hFS hB hla hJ hs hd).2) 18 (dr_d0 F S y fE fV cE cC pn WL WS cb pt ow M) h0 (by show 18 - 1 ≤ 18; omega)
  have e0 : dr_dw n k F S eA nb y fE fV cE cC pn WL WS cb pt ow M = wl (dr_dD y) (dr_dS n k F S eA nb y) 18 (dr_d0 F S y fE fV cE cC pn WL WS cb pt ow M) := rfl
  rw [← e0] at hw
  refine ⟨⟨dL n k F S eA nb y J, h0, fun s hs hd => ⟨(dL_step hn hk hFS hB hla hJ hs hd).1, (dL_step hn hk hFS hB hla hJ hs hd).2.1⟩⟩, hw.2, fun hok => ?_⟩
  generalize dr_dw n k F S eA nb y fE fV cE cC pn WL WS cb pt ow M = s at hw hok ⊢
  obtain ⟨hd, h1, h2, h3, h4, h5⟩ := hw
  obtain ⟨k1, _, k3⟩ := h4 hok
  unfold dr_dD at hd
  rw [Bool.or_eq_true, Bool.or_eq_true, decide_eq_true_iff, decide_eq_true_iff, Bool.not_eq_true'] at hd
  rcases hd with z | z | z
  · -- eighteen paths draw eighteen edges
    have hsub := k1.2.2.2.2.1
    refine b_ext (fun i _ => ?_)
    rw [Bool.eq_iff_iff]
    refine ⟨hsub i, fun hi => ?_⟩
    cases q : bt s.2.1 i with
    | true => rfl
    | false =>
      exfalso
      have g1 := cn_more (P := bt s.2.1) (hB.1 i hi) q
      have g2 := cn_le k (fun v => bt s.2.1 v || decide (v = i))
      omega
  · exact z
  · have hok' : s.2.2.2.2.2.2.2.2.2.2.2.2.2.2.2 = true := hok
    rw [hok'] at z; cases z
end DZ
