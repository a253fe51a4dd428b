/-! in a block every fragment has two contacts, and hangs together -/
section BL
variable {n k : Nat} {F S : Nat → Nat} {x y dV : Int32}
/-- a block: nothing in it separates -/
def Bl (n k : Nat) (F S : Nat → Nat) (y : Int32) : Prop := (∀ e, bt y e = true → e < k) ∧ ∀ K, Sep n k F S (fun e => bt y e) K → ∀ e f, bt y e = true → bt y f = true → K e = K f
theorem Bl_of {C B Y : Nat → Int32} (h : pcI n k F S x k C B Y) {e : Nat} (he : e < k) (hx : bt x e = true) : Bl n k F S (B e) := by
  have hb := pc_blk h he hx
  obtain ⟨_, _, _, _, _, _, _, _, h9, h10, h11⟩ := h
  refine ⟨fun f hf => ((hb f).mp hf).1, fun K hK f g hf hg => ?_⟩
  have hK' : Sep n k F S (Xi x k) (fun f => K f && bt (B e) f) := fun Z hZ hX => by
    have h1 := h10 e he hx Z hZ hX
    have h2 := hK _ h1 (fun f hf => by
      have hf' : (Z f && bt (B e) f) = true := hf
      rw [Bool.and_eq_true] at hf'; exact hf'.2)
    refine even_congr (fun f => ?_) h2
    show ((Z f && bt (B e) f) && K f) = (Z f && (K f && bt (B e) f))
    cases Z f <;> cases bt (B e) f <;> cases K f <;> rfl
  have k1 := h11 _ hK' e f he hx hf
  have k2 := h11 _ hK' e g he hx hg
  have k3 : (K f && bt (B e) f) = (K g && bt (B e) g) := k1.symm.trans k2
  rw [hf, hg, Bool.and_true, Bool.and_true] at k3
  exact k3
theorem Frg_off {e f : Nat} (h : Frg k F S y dV e f) : f = e ∨ ∃ v, at' F S f v ∧ bt dV v = false := h.2.2 (fun f => f = e ∨ ∃ v, at' F S f v ∧ bt dV v = false) (Or.inl rfl) (fun _ g v _ _ _ _ hv _ ag _ => Or.inr ⟨v, ag, hv⟩)
theorem inc_at {e v : Nat} : pg_inc F S v e = true ↔ at' F S e v := by
  unfold pg_inc at'
  rw [Bool.or_eq_true, decide_eq_true_iff, decide_eq_true_iff]
theorem Frg_step {e f g v : Nat} (h : Frg k F S y dV e f) (hg : g < k) (yg : bt y g = true) (hv : bt dV v = false) (af : at' F S f v) (ag : at' F S g v) : Frg k F S y dV e g := ⟨hg, yg, fun K hK hc => hc f g v h.1 hg h.2.1 yg hv af ag (h.2.2 K hK hc)⟩
theorem two_contacts (hn : n ≤ 10) (hk : k ≤ 18) (hFS : ∀ e, e < k → F e < n ∧ S e < n ∧ F e ≠ S e) (hB : Bl n k F S y) {eA nb : Nat → Int32} (hla : laOK n k F S y eA nb) {e d : Nat} (he : bt y e = true) (hd : bt y d = true) (hde : d ≠ e) (hdV : ∀ v, at' F S d v → bt dV v = true) : ¬ ∃ v0, ∀ v, bt (Yc F S eA nb dV e) v = true → v = v0 := by
  rintro ⟨v0, h0⟩
  have hek := hB.1 e he
  have hgf := gf_ok hn hk hFS hla dV hek he
  have hY := Yc_bt (dV := dV) hn hk hFS hla hek he
  have hsep : Sep n k F S (fun e => bt y e) (fun f => bt (dr_gf F S eA nb dV e).2.2.2.1 f) := by
    intro Z hZ hX
    have off : ∀ w, w < n → w ≠ v0 → dgp k F S (fun f => Z f && bt (dr_gf F S eA nb dV e).2.2.2.1 f) w = false := fun w hw hne => by
      unfold dgp
      by_cases c : ∃ f, Frg k F S y dV e f ∧ at' F S f w
      · obtain ⟨f, c1, c2⟩ := c
        have hwV : bt dV w = false := by
          cases q : bt dV w with
          | false => rfl
          | true => exact absurd (h0 w ((hY w).mpr ⟨q, f, c1, c2⟩)) hne
        rw [xr_congr (g := fun g => Z g && pg_inc F S w g) (fun g hg => ?_)]
        · exact hZ.2 w hw
        · show ((Z g && bt (dr_gf F S eA nb dV e).2.2.2.1 g) && pg_inc F S w g) = (Z g && pg_inc F S w g)
          cases hz : Z g with
          | false => rfl
          | true =>
            cases hi : pg_inc F S w g with
            | false => rw [Bool.and_false, Bool.and_false]
            | true => rw [(hgf.1 g).mpr (Frg_step c1 hg (hX g hz) hwV c2 (inc_at.mp hi))]; rfl
      · refine xr_zero (fun g hg => ?_)
        show ((Z g && bt (dr_gf F S eA nb dV e).2.2.2.1 g) && pg_inc F S w g) = false
        cases hb : bt (dr_gf F S eA nb dV e).2.2.2.1 g with
        | false => rw [Bool.and_false, Bool.false_and]
        | true =>
          cases hi : pg_inc F S w g with
          | false => rw [Bool.and_false]
          | true => exact absurd ⟨g, (hgf.1 g).mp hb, inc_at.mp hi⟩ c
    refine even_of (fun g hg => by show (Z g && _) = false; rw [hZ.1 g hg]; rfl) (fun w hw => ?_)
    by_cases c : w = v0
    · have hs := shake (fun e he => ⟨(hFS e he).1, (hFS e he).2.1⟩) (fun e he => (hFS e he).2.2) (fun _ => true) (fun f => Z f && bt (dr_gf F S eA nb dV e).2.2.2.1 f)
      rw [xr_one (k := w) hw (fun i hi hne => by rw [off i hi (fun z => hne (z.trans c.symm)), Bool.and_false])] at hs
      rw [Bool.true_and] at hs
      rw [hs]
      exact xr_zero (fun e _ => by rw [Bool.xor_self, Bool.and_false])
    · exact off w hw c
  have h1 := hB.2 _ hsep e d he hd
  have h2 : bt (dr_gf F S eA nb dV e).2.2.2.1 e = true := (hgf.1 e).mpr ⟨hek, he, fun K hK _ => hK⟩
  have h3 : bt (dr_gf F S eA nb dV e).2.2.2.1 d = true := by
    have h1' : bt (dr_gf F S eA nb dV e).2.2.2.1 e = bt (dr_gf F S eA nb dV e).2.2.2.1 d := h1
    rw [← h1']; exact h2
  rcases Frg_off ((hgf.1 d).mp h3) with z | ⟨v, z1, z2⟩
  · exact hde z
  · rw [hdV v z1] at z2; cases z2
/-- the goals: contacts but for the least -/
theorem go_bt {cC : Int32} (hC : ¬ cC = 0) (v : Nat) : bt (dr_go cC) v = true ↔ bt cC v = true ∧ v ≠ ps_least cC := by
  obtain ⟨l1, _, _⟩ := ps_least_ok hC
  unfold dr_go
  rw [not_bt]
  refine and_congr_right fun hv => ?_
  rw [b_one _ l1 v (bt_lt hv), decide_eq_false_iff_not]
theorem grow_ok (hn : n ≤ 10) (hk : k ≤ 18) (hFS : ∀ e, e < k → F e < n ∧ S e < n ∧ F e ≠ S e) {eA nb : Nat → Int32} (hla : laOK n k F S y eA nb) {e : Nat} (hek : e < k) (he : bt y e = true) (hC : ¬ Yc F S eA nb dV e = 0) (hgoal : ∃ v, bt (dr_go (Yc F S eA nb dV e)) v = true) (R : Int32) (hR : bt R (ps_least (Yc F S eA nb dV e)) = true) (hno : ∀ v, bt R v = true → bt (dr_go (Yc F S eA nb dV e)) v = false) : ∃ f w, f < k ∧ outR F S (dr_gf F S eA nb dV e).2.2.2.1 R f w := by
  have hgf := gf_ok hn hk hFS hla dV hek he
  have hY := Yc_bt (dV := dV) hn hk hFS hla hek he
  obtain ⟨l1, l2, _⟩ := ps_least_ok hC
  refine Classical.byContradiction fun hout => ?_
  -- an edge of the fragment with one end in R has both there
  have both : ∀ f v, Frg k F S y dV e f → at' F S f v → bt R v = true → ∀ w, at' F S f w → bt R w = true := fun f v hf hv hRv w hw => by
    cases q : bt R w with
    | true => rfl
    | false =>
      exfalso
      refine hout ⟨f, w, hf.1, (hgf.1 f).mpr hf, ?_, q⟩
      rcases hv with z | z <;> rcases hw with z' | z'
      · rw [← z, z'] at hRv; rw [hRv] at q; cases q
      · exact Or.inr ⟨z', by rw [z]; exact hRv⟩
      · exact Or.inl ⟨z', by rw [z]; exact hRv⟩
      · rw [← z, z'] at hRv; rw [hRv] at q; cases q
  obtain ⟨_, f1, hf1, a1⟩ := (hY _).mp l2
  have all : ∀ f, Frg k F S y dV e f → ∀ v, at' F S f v → bt R v = true := fun f hf => by
    have h1f : Frg k F S y dV f1 f := Frg_trans (Frg_symm hek he hf1) hf
    have := h1f.2.2 (fun f => Frg k F S y dV e f ∧ ∀ v, at' F S f v → bt R v = true) ⟨hf1, both f1 _ hf1 a1 hR⟩ (fun f g v hf' hg' yf yg hv af ag ih => ⟨Frg_step ih.1 hg' yg hv af ag, both g v (Frg_step ih.1 hg' yg hv af ag) ag (ih.2 v af)⟩)
    exact this.2
  obtain ⟨g, hg⟩ := hgoal
  obtain ⟨_, f, hf, af⟩ := (hY g).mp ((go_bt hC g).mp hg).1
  have := hno g (all f hf g af)
  rw [hg] at this; cases this
end BL
