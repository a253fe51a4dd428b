/-! the drawing of a block as a whole: it stays inside its rows; where all is drawn the block can be laid -/
section DZ
variable {n k : Nat} {F S : Nat → Nat} {y : Int32}
abbrev dJs (n k : Nat) (F S : Nat → Nat) (y : Int32) (s : DdS) : Prop := dJ n k F S y s.1 s.2.1 s.2.2.1 s.2.2.2.1 s.2.2.2.2.2.2.2.2.2.1 s.2.2.2.2.2.2.2.2.2.2.1 s.2.2.2.2.2.2.2.2.2.2.2.1 s.2.2.2.2.2.2.2.2.2.2.2.2.2.2.1
abbrev dok (s : DdS) : Bool := s.2.2.2.2.2.2.2.2.2.2.2.2.2.2.2
/-- no face fits some fragment -/
def dFail (k : Nat) (F S : Nat → Nat) (eA nb : Nat → Int32) (y : Int32) (s : DdS) : Prop := ∃ e, Td k y s.2.1 e ∧ fitN s.2.2.2.2.2.2.2.2.2.2.1 (Yc F S eA nb s.2.2.1 e) s.2.2.2.1 = 0
def dCond (n k : Nat) (F S : Nat → Nat) (eA nb : Nat → Int32) (y : Int32) (s : DdS) : Prop :=
  1 ≤ s.2.2.2.1 ∧ s.2.2.2.1 ≤ 17 ∧ (∀ e, e < k → dr_gfOK F S eA nb s.2.2.1 e) ∧ (∀ j, s.2.2.2.2.2.2.2.2.2.2.2.1 j < 18) ∧ (∀ j, s.2.2.2.2.2.2.2.2.2.1 j ≤ 10) ∧ ((dr_dc k F S eA nb y s).2.2.2.2.2.2 = true → dr_fw s.2.2.2.2.2.2.2.2.2.2.1 (dr_dc k F S eA nb y s).2.2.2.2.2.1 s.2.2.2.1 < s.2.2.2.1 ∧ 1 ≤ s.2.2.2.2.2.2.2.2.2.1 (dr_fw s.2.2.2.2.2.2.2.2.2.2.1 (dr_dc k F S eA nb y s).2.2.2.2.2.1 s.2.2.2.1) ∧ 2 ≤ (dr_dp2 n F S s.2.2.2.2.2.2.2.2.2.2.2.2.1 s.2.1 s.2.2.1 (dr_dc k F S eA nb y s) (dr_dp1 k F S s.2.2.2.2.2.2.2.2.2.2.2.1 (dr_dc k F S eA nb y s))).2.2.2.2 ∧ (dr_dp2 n F S s.2.2.2.2.2.2.2.2.2.2.2.2.1 s.2.1 s.2.2.1 (dr_dc k F S eA nb y s) (dr_dp1 k F S s.2.2.2.2.2.2.2.2.2.2.2.1 (dr_dc k F S eA nb y s))).2.2.2.2 ≤ 10)
theorem draw_step (hn : n ≤ 10) (hk : k ≤ 18) (hFS : ∀ e, e < k → F e < n ∧ S e < n ∧ F e ≠ S e) (hB : Bl n k F S y) {eA nb : Nat → Int32} (hla : laOK n k F S y eA nb) {s : DdS} (hJ : dJs n k F S y s) (hd : dr_dD y s = false) : dCond n k F S eA nb y s ∧ ((dok (dr_dS n k F S eA nb y s) = false ∧ dFail k F S eA nb y s) ∨ (dok (dr_dS n k F S eA nb y s) = true ∧ dJs n k F S y (dr_dS n k F S eA nb y s))) := by
  obtain ⟨pa, dE, dV, fc, fE, fV, cE, cC, pn, WL, WS, cb, pt, ow, M, ok⟩ := s
  have hJ' : dJ n k F S y pa dE dV fc WL WS cb M := hJ
  obtain ⟨j1, j2, j3, j4, j5, j6, j7, j8⟩ := hJ'
  unfold dr_dD at hd
  rw [Bool.or_eq_false_iff, Bool.or_eq_false_iff] at hd
  have c1 : ¬ 18 ≤ pa := of_decide_eq_false hd.1
  have c2 : ¬ dE = y := of_decide_eq_false hd.2.1
  have hsome : ∃ e, Td k y dE e := by
    refine Classical.byContradiction fun z => c2 (b_ext fun i _ => ?_)
    rw [Bool.eq_iff_iff]
    refine ⟨j5 i, fun hi => ?_⟩
    cases q : bt dE i with
    | true => rfl
    | false => exact absurd ⟨i, hB.1 i hi, hi, q⟩ z
  obtain ⟨a1, a2⟩ := ch_ok (dV := dV) (dE := dE) (fE := fE) (fV := fV) (cE := cE) (cC := cC) (WS := WS) (fc := fc) hn hk hFS hla (by omega) hB.1 hsome
  have hgfOK : ∀ e, e < k → dr_gfOK F S eA nb dV e := fun e he => gfOK_ok hn hFS hla dV he
  have hc : dr_dc k F S eA nb y (pa, dE, dV, fc, fE, fV, cE, cC, pn, WL, WS, cb, pt, ow, M, ok) = dr_ch k F S eA nb WS dE dV fc y fE fV cE cC := rfl
  unfold dCond dr_dS
  rw [hc]
  dsimp only
  generalize dr_ch k F S eA nb WS dE dV fc y fE fV cE cC = c at a1 a2 ⊢
  cases hco : c.2.2.2.2.2.2 with
  | false =>
    refine ⟨⟨by omega, by omega, hgfOK, j3, j4, fun z => (by cases z)⟩, Or.inl ⟨?_, a1 hco⟩⟩
    unfold dr_dG
    rw [hco]
    rfl
  | true =>
    obtain ⟨e0, t0, g1, g2, g3⟩ := a2 hco
    obtain ⟨f1, f2⟩ := fw_ok (WS := WS) (c := Yc F S eA nb dV e0) (fc := fc) (by omega) (by omega) (g3 e0 t0).1
    obtain ⟨l, p1, p2, p3, p4, p5, p6, p7, p8, p9, p10⟩ := path_ok hn hk hFS hB hla j7 j5 j6 t0 (cb := cb) (pt := pt) j3 rfl rfl
    have hst := dJ_step (ow := ow) hn hk hFS hJ f1 p3 (f2 _ p6) (f2 _ p7) p4 (fun t ht => (p5 t ht).2.1) p10 p8 p9 (by
      have := (Yc_bt (dV := dV) hn hk hFS hla t0.1 t0.2.1 _).mp p6
      exact this.1)
    have hq : dr_dp1 k F S cb c = dr_p1 k F S (dr_gf F S eA nb dV e0).2.2.2.1 (Yc F S eA nb dV e0) cb := by unfold dr_dp1; rw [g1, g2]
    have hp : dr_dp2 n F S pt dE dV c (dr_dp1 k F S cb c) = dr_p2 n F S (dr_p1 k F S (dr_gf F S eA nb dV e0).2.2.2.1 (Yc F S eA nb dV e0) cb).2.2 (ps_least (Yc F S eA nb dV e0)) (ps_least ((dr_p1 k F S (dr_gf F S eA nb dV e0).2.2.2.1 (Yc F S eA nb dV e0) cb).2.1 &&& dr_go (Yc F S eA nb dV e0))) dE dV pt := by
      unfold dr_dp2
      rw [hq, g2]
      rfl
    refine ⟨⟨by omega, by omega, hgfOK, j3, j4, fun _ => ?_⟩, Or.inr ⟨?_, ?_⟩⟩
    · rw [hp, g2]
      refine ⟨f1, hst.2, ?_, ?_⟩
      · rw [p1]; have := p3.1; omega
      · rw [p1]; omega
    · unfold dr_dG
      rw [hco]
      rfl
    · unfold dr_dG
      rw [hco]
      show dJs n k F S y (dr_dO (pa, dE, dV, fc, fE, fV, cE, cC, pn, WL, WS, cb, pt, ow, M, ok) c (dr_dp1 k F S cb c) (dr_dp2 n F S pt dE dV c (dr_dp1 k F S cb c)) (dr_fw WS c.2.2.2.2.2.1 fc))
      rw [hp, hq, g2]
      unfold dr_dO dr_dT
      dsimp only
      rw [p1]
      exact hst.1
end DZ
