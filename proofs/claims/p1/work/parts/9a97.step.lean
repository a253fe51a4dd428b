/-! a step of the drawing -/
section SX
variable {n k : Nat} {F S : Nat → Nat} {y dE dV : Int32}
theorem path_ok (hn : n ≤ 10) (hk : k ≤ 18) (hFS : ∀ e, e < k → F e < n ∧ S e < n ∧ F e ≠ S e) (hB : Bl n k F S y) {eA nb : Nat → Int32} (hla : laOK n k F S y eA nb) (hdV : ∀ v, bt dV v = true ↔ ∃ e, bt dE e = true ∧ at' F S e v) (hsub : ∀ e, bt dE e = true → bt y e = true) (hne : ∃ d, bt dE d = true) {e0 : Nat} (he0 : Td k y dE e0) {cb pt : Nat → Nat} (hcb : ∀ j, cb j < 18)
    {q : Nat × Int32 × (Nat → Nat)} (hq : q = dr_p1 k F S (dr_gf F S eA nb dV e0).2.2.2.1 (Yc F S eA nb dV e0) cb) {p : Nat × Int32 × Int32 × (Nat → Nat) × Nat} (hp : p = dr_p2 n F S q.2.2 (ps_least (Yc F S eA nb dV e0)) (ps_least (q.2.1 &&& dr_go (Yc F S eA nb dV e0))) dE dV pt) :
    ∃ l, p.2.2.2.2 = l + 1 ∧ l ≤ 9 ∧ PT n k F S (fun e => bt dE e) l p.2.2.2.1 (fun a => q.2.2 (p.2.2.2.1 a)) ∧ (∀ t, t ≤ l → p.2.2.2.1 t < n) ∧ (∀ t, t < l → Frg k F S y dV e0 (q.2.2 (p.2.2.2.1 t))) ∧ bt (Yc F S eA nb dV e0) (p.2.2.2.1 0) = true ∧ bt (Yc F S eA nb dV e0) (p.2.2.2.1 l) = true ∧
      (∀ e, bt p.2.1 e = true ↔ bt dE e = true ∨ ∃ a, a < l ∧ q.2.2 (p.2.2.2.1 a) = e) ∧ (∀ v, bt p.2.2.1 v = true ↔ bt dV v = true ∨ ∃ a, a < l ∧ p.2.2.2.1 (a + 1) = v) ∧ ∀ j, q.2.2 j < 18 := by
  obtain ⟨t1, t2, t3⟩ := he0
  obtain ⟨d, hd⟩ := hne
  have hde : d ≠ e0 := fun z => by rw [z, t3] at hd; cases hd
  have htwo := two_contacts hn hk hFS hB hla t2 (hsub d hd) hde (fun v hv => (hdV v).mpr ⟨d, hd, hv⟩)
  have hgf := gf_ok hn hk hFS hla dV t1 t2
  have hY := Yc_bt (dV := dV) hn hk hFS hla t1 t2
  generalize hC : Yc F S eA nb dV e0 = cC at htwo hY hq hp ⊢
  have hC0 : ¬ cC = 0 := fun z => htwo ⟨0, fun v hv => by rw [z, b_0] at hv; cases hv⟩
  have hgo := go_bt hC0
  have hgoal : ∃ v, bt (dr_go cC) v = true := by
    refine Classical.byContradiction fun z => htwo ⟨ps_least cC, fun v hv => ?_⟩
    exact Classical.byContradiction fun w => z ⟨v, (hgo v).mpr ⟨hv, w⟩⟩
  have hCn : ∀ v, bt cC v = true → v < n := fun v hv => by
    obtain ⟨_, f, hf, af⟩ := (hY v).mp hv
    have := hFS f hf.1
    rcases af with z | z <;> omega
  have hgr := grow_ok (dV := dV) hn hk hFS hla t1 t2 (by rw [hC]; exact hC0) (by rw [hC]; exact hgoal)
  rw [hC] at hgr
  obtain ⟨hpI, v, hv1, hv2⟩ := p1_ok hn hk hFS (cE := (dr_gf F S eA nb dV e0).2.2.2.1) hcb (fun e he => ((hgf.1 e).mp he).1) hC0 hCn hgoal (fun R hR hno => by
    obtain ⟨f, w, h1, h2⟩ := hgr R hR hno
    exact ⟨f, w, h1, h2⟩)
  rw [← hq] at hpI hv1
  obtain ⟨i1, i2, i3, i4, i5, rk, r1, r2, r3⟩ := hpI
  have hz : ¬ q.2.1 &&& dr_go cC = 0 := fun z => by
    have := b_zero.mp z v (bt_lt hv1)
    rw [b_and, hv1, hv2] at this; cases this
  obtain ⟨_, m2, _⟩ := ps_least_ok hz
  generalize ps_least (q.2.1 &&& dr_go cC) = v0 at m2 hp
  rw [b_and, Bool.and_eq_true] at m2
  obtain ⟨l1, l2, _⟩ := ps_least_ok hC0
  obtain ⟨j, hj, hjt⟩ := p2_ok (dE := dE) (dV := dV) (pt := pt) hn hk i2 (hCn _ l2) r2 m2.1
  rw [← hp] at hj hjt
  obtain ⟨b1, b2, b3, b4, b5, b6, b7, b8⟩ := hj
  have hv0t : v0 ≠ ps_least cC := ((hgo v0).mp m2.2).2
  have hj1 : 1 ≤ j := by
    refine Classical.byContradiction fun z => hv0t ?_
    have : j = 0 := by omega
    rw [this, b3] at b2
    rw [← b2, hjt]
  have hr0 := r3 v0 m2.1 m2.2
  have dec : ∀ t s, s < t → t ≤ j → rk (p.2.2.2.1 t) < rk (p.2.2.2.1 s) := by
    intro t
    induction t with
    | zero => intro s hs; exact absurd hs (Nat.not_lt_zero s)
    | succ t ih =>
      intro s hs ht
      have h1 := (b6 t (by omega)).2.2.2.2
      by_cases z : s = t
      · rw [z]; exact h1
      · have := ih s (by omega) (by omega); omega
  have hfr : ∀ t, t < j → Frg k F S y dV e0 (q.2.2 (p.2.2.2.1 t)) := fun t ht => (hgf.1 _).mp (b6 t ht).2.1
  have hlt : ∀ t, t ≤ j → p.2.2.2.1 t < n := fun t ht => (r2 _ (b5 t ht)).1
  have hnD : ∀ f, Frg k F S y dV e0 f → bt dE f = false := fun f hf => by
    cases z : bt dE f with
    | false => rfl
    | true =>
      rcases Frg_off hf with w | ⟨u, u1, u2⟩
      · rw [w, t3] at z; cases z
      · rw [(hdV u).mpr ⟨f, z, u1⟩] at u2; cases u2
  have hatj : ∀ t, t < j → at' F S (q.2.2 (p.2.2.2.1 t)) (p.2.2.2.1 t) := fun t ht => by
    rcases (b6 t ht).2.2.1 with z | z
    · exact Or.inl z.1
    · exact Or.inr z.2
  refine ⟨j, b1, by have := (r2 v0 m2.1).2.1; omega, ⟨hj1, fun t ht => ⟨(b6 t ht).1, hnD _ (hfr t ht), (b6 t ht).2.2.1⟩, fun t q1 q2 => ⟨hlt t (by omega), fun e he hD => ?_⟩, fun s t hs ht e => ?_⟩, hlt, hfr, ?_, ?_, b7, b8, i5⟩
  · cases z : pg_inc F S (p.2.2.2.1 t) e with
    | false => rfl
    | true =>
      exfalso
      have hV : bt dV (p.2.2.2.1 t) = true := (hdV _).mpr ⟨e, hD, inc_at.mp z⟩
      have hcc : bt cC (p.2.2.2.1 t) = true := (hY _).mpr ⟨hV, _, hfr t q2, hatj t q2⟩
      have hg := (hgo _).mpr ⟨hcc, (b6 t q2).2.2.2.1⟩
      have h1 := r3 _ (b5 t (by omega)) hg
      have h2 := dec t 0 q1 (by omega)
      rw [b3] at h2
      omega
  · rcases Nat.lt_or_ge s t with z | z
    · have := dec t s z ht; rw [e] at this; omega
    · by_cases w : s = t
      · exact w
      · have := dec s t (by omega) hs; rw [e] at this; omega
  · rw [b3]; exact ((hgo v0).mp m2.2).1
  · rw [← b2, hjt]; exact l2
/-- the first face that fits -/
theorem fw_ok {WS : Nat → Int32} {c : Int32} {fc : Nat} (h1 : 1 ≤ fc) (h2 : fc ≤ 18) (hf : 1 ≤ fitN WS c fc) : dr_fw WS c fc < fc ∧ ∀ v, bt c v = true → bt (WS (dr_fw WS c fc)) v = true := by
  have hw := wl_meas (dn := dr_fwD WS c fc) (st := pm_leS) (fun j => j < fc ∧ ∀ i, i < j → ¬ c &&& (WS i ^^^ (-1)) = 0) (fun j => 18 - j) (fun j hj hd => by
    unfold dr_fwD at hd
    rw [Bool.or_eq_false_iff, decide_eq_false_iff_not, decide_eq_false_iff_not] at hd
    refine ⟨⟨by show j + 1 < fc; omega, fun i hi => ?_⟩, by show 18 - (j + 1) < 18 - j; omega⟩
    have hi' : i < j + 1 := hi
    by_cases z : i = j
    · rw [z]; exact hd.2
    · exact hj.2 i (by omega)) 18 0 ⟨by omega, fun i hi => absurd hi (Nat.not_lt_zero i)⟩ (by omega)
  have e0 : dr_fw WS c fc = wl (dr_fwD WS c fc) pm_leS 18 0 := rfl
  rw [← e0] at hw
  generalize dr_fw WS c fc = j at hw ⊢
  obtain ⟨hd, hj, hno⟩ := hw
  refine ⟨hj, ?_⟩
  have hfit : c &&& (WS j ^^^ (-1)) = 0 := by
    unfold dr_fwD at hd
    rw [Bool.or_eq_true, decide_eq_true_iff, decide_eq_true_iff] at hd
    rcases hd with z | z
    · refine Classical.byContradiction fun q => ?_
      have : fitN WS c fc = 0 := by
        unfold fitN
        rw [cn_congr (g := fun _ => false) (fun i hi => decide_eq_false (by
          by_cases w : i = j
          · rw [w]; exact q
          · exact hno i (by omega)))]
        exact cn_false fc
      omega
    · exact z
  intro v hv
  have := b_zero.mp hfit v (bt_lt hv)
  cases q : bt (WS j) v with
  | true => rfl
  | false => rw [(not_bt _ _ _).mpr ⟨hv, q⟩] at this; cases this
theorem CS_len {m : Nat} {a b : Nat → Nat} {L : Nat} {w g : Nat → Nat} (h : CS n m a b L w g) : L ≤ n := inj_le (fun i hi => (h.2.1 i hi).1) h.2.2.1
theorem arcW_congr {L A d l p : Nat} {w w' u : Nat → Nat} (hA : A < L) (hd : d < L) (h : ∀ q, q < L → w q = w' q) : arcW L A d l w u p = arcW L A d l w' u p := by
  unfold arcW
  by_cases c : p ≤ d
  · rw [if_pos c, if_pos c]; exact h _ (wrp_lt hA (by omega))
  · rw [if_neg c, if_neg c]
end SX
