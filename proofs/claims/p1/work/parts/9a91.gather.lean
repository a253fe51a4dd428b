/-! gathering a fragment -/
section GA
variable {n k : Nat} {F S : Nat → Nat} {x : Int32}
def at' (F S : Nat → Nat) (e v : Nat) : Prop := F e = v ∨ S e = v
theorem l1_at (p q : Nat → Int32) : ∀ m v, (fo dr_l1 m (p, q)).1 v = (if v < m then 0 else p v) ∧ (fo dr_l1 m (p, q)).2 v = (if v < m then 0 else q v)
  | 0, v => by rw [if_neg (Nat.not_lt_zero v), if_neg (Nat.not_lt_zero v)]; exact ⟨rfl, rfl⟩
  | m + 1, v => by
    have ih := l1_at p q m v
    rw [fo_s]
    generalize fo dr_l1 m (p, q) = s at ih ⊢
    show (if v = m then 0 else s.1 v) = _ ∧ (if v = m then 0 else s.2 v) = _
    by_cases e : v = m
    · rw [if_pos e, if_pos e, if_pos (by omega), if_pos (by omega)]; exact ⟨rfl, rfl⟩
    · rw [if_neg e, if_neg e, ih.1, ih.2]
      by_cases c : v < m
      · rw [if_pos c, if_pos c, if_pos (by omega), if_pos (by omega)]; exact ⟨rfl, rfl⟩
      · rw [if_neg c, if_neg c, if_neg (by omega), if_neg (by omega)]; exact ⟨rfl, rfl⟩
theorem la_ok (hn : n ≤ 10) (hk : k ≤ 18) (hFS : ∀ e, e < k → F e < n ∧ S e < n ∧ F e ≠ S e) (p q : Nat → Int32) : ∀ m, m ≤ k → ∀ v, v < n →
    (∀ e, bt ((fo (dr_l2 F S x) m (fo dr_l1 n (p, q))).1 v) e = true ↔ e < m ∧ bt x e = true ∧ at' F S e v) ∧
    (∀ u, bt ((fo (dr_l2 F S x) m (fo dr_l1 n (p, q))).2 v) u = true ↔ ∃ e, e < m ∧ bt x e = true ∧ ((F e = v ∧ S e = u) ∨ (S e = v ∧ F e = u)))
  | 0, _, v, hv => by
    have h := l1_at p q n v
    rw [if_pos hv, if_pos hv] at h
    rw [show fo (dr_l2 F S x) 0 (fo dr_l1 n (p, q)) = fo dr_l1 n (p, q) from rfl, h.1, h.2]
    exact ⟨fun e => ⟨fun z => (by rw [b_0] at z; cases z), fun z => absurd z.1 (Nat.not_lt_zero e)⟩, fun u => ⟨fun z => (by rw [b_0] at z; cases z), fun ⟨e, z, _⟩ => absurd z (Nat.not_lt_zero e)⟩⟩
  | m + 1, hm, v, hv => by
    obtain ⟨i1, i2⟩ := la_ok hn hk hFS p q m (by omega) v hv
    obtain ⟨f1, f2, f3⟩ := hFS m (by omega)
    rw [fo_s]
    generalize fo (dr_l2 F S x) m (fo dr_l1 n (p, q)) = s at i1 i2 ⊢
    unfold dr_l2
    rw [ps_has_bt x (by omega)]
    by_cases c : bt x m = true
    · rw [if_pos c]
      have u1 : ∀ (f : Nat → Int32) (c1 c2 : Int32) , upd (upd f (F m) (f (F m) ||| c1)) (S m) (upd f (F m) (f (F m) ||| c1) (S m) ||| c2) v = (if v = F m then f v ||| c1 else if v = S m then f v ||| c2 else f v) := fun f c1 c2 => by
        unfold upd
        by_cases q1 : v = S m
        · rw [if_pos q1, if_neg (fun z => f3 (by rw [← z]))]
          rw [if_neg (fun z => f3 (by rw [← z, q1])), if_pos q1, q1]
        · rw [if_neg q1]
          by_cases q2 : v = F m
          · rw [if_pos q2, if_pos q2, q2]
          · rw [if_neg q2, if_neg q2, if_neg q1]
      dsimp only
      rw [u1, u1]
      have hor : ∀ (y : Int32) j, j < 32 → ∀ i, bt (y ||| (1 <<< (nI j &&& 31))) i = true ↔ bt y i = true ∨ i = j := fun y j hj i => by
        rw [b_or, Bool.or_eq_true]
        rcases Nat.lt_or_ge i 32 with hi | hi
        · rw [b_one j hj i hi, decide_eq_true_iff]
        · rw [b_big hi, b_big hi]
          exact ⟨fun z => z.elim Or.inl (fun w => (by cases w)), fun z => z.elim Or.inl (fun w => by omega)⟩
      constructor
      · intro e
        by_cases q1 : v = F m
        · rw [if_pos q1, hor _ m (by omega), i1]
          constructor
          · rintro (⟨z1, z2⟩ | z)
            · exact ⟨by omega, z2⟩
            · rw [z]; exact ⟨by omega, c, Or.inl q1.symm⟩
          · rintro ⟨z1, z2⟩
            by_cases z : e = m
            · exact Or.inr z
            · exact Or.inl ⟨by omega, z2⟩
        · rw [if_neg q1]
          by_cases q2 : v = S m
          · rw [if_pos q2, hor _ m (by omega), i1]
            constructor
            · rintro (⟨z1, z2⟩ | z)
              · exact ⟨by omega, z2⟩
              · rw [z]; exact ⟨by omega, c, Or.inr q2.symm⟩
            · rintro ⟨z1, z2⟩
              by_cases z : e = m
              · exact Or.inr z
              · exact Or.inl ⟨by omega, z2⟩
          · rw [if_neg q2, i1]
            constructor
            · rintro ⟨z1, z2⟩; exact ⟨by omega, z2⟩
            · rintro ⟨z1, z2, z3⟩
              by_cases z : e = m
              · rw [z] at z3
                exact z3.elim (fun w => absurd w.symm q1) (fun w => absurd w.symm q2)
              · exact ⟨by omega, z2, z3⟩
      · intro u
        by_cases q1 : v = F m
        · rw [if_pos q1, hor _ (S m) (by omega), i2]
          constructor
          · rintro (⟨e, z1, z2⟩ | z)
            · exact ⟨e, by omega, z2⟩
            · exact ⟨m, by omega, c, Or.inl ⟨q1.symm, z.symm⟩⟩
          · rintro ⟨e, z1, z2, z3⟩
            by_cases z : e = m
            · rw [z] at z3
              rcases z3 with w | w
              · exact Or.inr w.2.symm
              · exact absurd (w.1.trans q1) (fun y => f3 y.symm)
            · exact Or.inl ⟨e, by omega, z2, z3⟩
        · rw [if_neg q1]
          by_cases q2 : v = S m
          · rw [if_pos q2, hor _ (F m) (by omega), i2]
            constructor
            · rintro (⟨e, z1, z2⟩ | z)
              · exact ⟨e, by omega, z2⟩
              · exact ⟨m, by omega, c, Or.inr ⟨q2.symm, z.symm⟩⟩
            · rintro ⟨e, z1, z2, z3⟩
              by_cases z : e = m
              · rw [z] at z3
                rcases z3 with w | w
                · exact absurd w.1.symm q1
                · exact Or.inr w.2.symm
              · exact Or.inl ⟨e, by omega, z2, z3⟩
          · rw [if_neg q2, i2]
            constructor
            · rintro ⟨e, z1, z2⟩; exact ⟨e, by omega, z2⟩
            · rintro ⟨e, z1, z2, z3⟩
              by_cases z : e = m
              · rw [z] at z3
                exact z3.elim (fun w => absurd w.1.symm q1) (fun w => absurd w.1.symm q2)
              · exact ⟨e, by omega, z2, z3⟩
    · rw [if_neg c]
      refine ⟨fun e => ?_, fun u => ?_⟩
      · rw [i1]
        constructor
        · rintro ⟨z1, z2⟩; exact ⟨by omega, z2⟩
        · rintro ⟨z1, z2, z3⟩
          by_cases z : e = m
          · rw [z] at z2; exact absurd z2 c
          · exact ⟨by omega, z2, z3⟩
      · rw [i2]
        constructor
        · rintro ⟨e, z1, z2⟩; exact ⟨e, by omega, z2⟩
        · rintro ⟨e, z1, z2, z3⟩
          by_cases z : e = m
          · rw [z] at z2; exact absurd z2 c
          · exact ⟨e, by omega, z2, z3⟩
/-- the fragment of e: what hangs together with it outside of the vertices dV -/
def Frg (k : Nat) (F S : Nat → Nat) (x dV : Int32) (e f : Nat) : Prop := f < k ∧ bt x f = true ∧ ∀ K : Nat → Prop, K e → (∀ f g v, f < k → g < k → bt x f = true → bt x g = true → bt dV v = false → at' F S f v → at' F S g v → K f → K g) → K f
/-- edges and neighbours as the class keeps them -/
def laOK (n k : Nat) (F S : Nat → Nat) (x : Int32) (eA nb : Nat → Int32) : Prop := ∀ v, v < n → (∀ e, bt (eA v) e = true ↔ e < k ∧ bt x e = true ∧ at' F S e v) ∧ (∀ u, bt (nb v) u = true ↔ ∃ e, e < k ∧ bt x e = true ∧ ((F e = v ∧ S e = u) ∨ (S e = v ∧ F e = u)))
theorem or_bt (y : Int32) {j : Nat} (hj : j < 32) (i : Nat) : bt (y ||| (1 <<< (nI j &&& 31))) i = true ↔ bt y i = true ∨ i = j := by
  rw [b_or, Bool.or_eq_true]
  rcases Nat.lt_or_ge i 32 with hi | hi
  · rw [b_one j hj i hi, decide_eq_true_iff]
  · rw [b_big hi, b_big hi]
    exact ⟨fun z => z.elim Or.inl (fun w => (by cases w)), fun z => z.elim Or.inl (fun w => by omega)⟩
theorem not_bt (y z : Int32) (i : Nat) : bt (y &&& (z ^^^ (-1))) i = true ↔ bt y i = true ∧ bt z i = false := by
  rw [b_and, Bool.and_eq_true]
  rcases Nat.lt_or_ge i 32 with hi | hi
  · rw [b_not z hi, Bool.not_eq_true']
  · rw [b_big hi, b_big hi]
    exact ⟨fun q => (by cases q.1), fun q => (by cases q.1)⟩
theorem ends_bt {e : Nat} (h1 : F e < 32) (h2 : S e < 32) (v : Nat) : bt (ps_ends F S e) v = true ↔ at' F S e v := by
  unfold ps_ends at'
  rw [or_bt _ h2]
  rcases Nat.lt_or_ge v 32 with hi | hi
  · rw [b_one _ h1 v hi, decide_eq_true_iff]
    exact ⟨fun z => z.elim (fun w => Or.inl w.symm) (fun w => Or.inr w.symm), fun z => z.elim (fun w => Or.inl w.symm) (fun w => Or.inr w.symm)⟩
  · rw [b_big hi]
    exact ⟨fun z => z.elim (fun w => (by cases w)) (fun w => by omega), fun z => z.elim (fun w => by omega) (fun w => by omega)⟩
/-- in the midst of gathering -/
def gI (n k : Nat) (F S : Nat → Nat) (x : Int32) (eA nb : Nat → Int32) (dV : Int32) (e : Nat) (s : Nat × Int32 × Int32 × Int32 × Int32) : Prop :=
  (∀ v, bt s.2.1 v = true ↔ bt s.2.2.2.2 v = true ∧ bt dV v = false ∧ bt s.2.2.1 v = false) ∧ (∀ v, bt s.2.2.1 v = true → bt s.2.2.2.2 v = true ∧ bt dV v = false) ∧ (∀ v, bt s.2.2.2.2 v = true → v < n) ∧ cn n (bt s.2.2.1) = s.1 ∧
  (∀ v, bt s.2.2.1 v = true → (∀ f, bt (eA v) f = true → bt s.2.2.2.1 f = true) ∧ ∀ u, bt (nb v) u = true → bt s.2.2.2.2 u = true) ∧
  (∀ f, bt s.2.2.2.1 f = true → Frg k F S x dV e f ∧ ∀ v, at' F S f v → bt s.2.2.2.2 v = true) ∧ (∀ v, bt s.2.2.2.2 v = true → ∃ f, bt s.2.2.2.1 f = true ∧ at' F S f v) ∧ bt s.2.2.2.1 e = true
theorem gf_ok (hn : n ≤ 10) (hk : k ≤ 18) (hFS : ∀ e, e < k → F e < n ∧ S e < n ∧ F e ≠ S e) {eA nb : Nat → Int32} (hla : laOK n k F S x eA nb) (dV : Int32) {e : Nat} (he : e < k) (hx : bt x e = true) :
    (∀ f, bt (dr_gf F S eA nb dV e).2.2.2.1 f = true ↔ Frg k F S x dV e f) ∧ (∀ v, bt (dr_gf F S eA nb dV e).2.2.2.2 v = true ↔ ∃ f, Frg k F S x dV e f ∧ at' F S f v) := by
  obtain ⟨f1, f2, _⟩ := hFS e he
  have eb := ends_bt (F := F) (S := S) (e := e) (by omega) (by omega)
  have one : ∀ f, bt ((1 : Int32) <<< (nI e &&& 31)) f = true ↔ f = e := fun f => by
    rcases Nat.lt_or_ge f 32 with hi | hi
    · rw [b_one e (by omega) f hi, decide_eq_true_iff]
    · rw [b_big hi]; exact ⟨fun z => (by cases z), fun z => by omega⟩
  have hself : Frg k F S x dV e e := ⟨he, hx, fun K hK _ => hK⟩
  have h0 : gI n k F S x eA nb dV e (dr_g0 F S dV e) := by
    refine ⟨fun v => ?_, fun v hv => ?_, fun v hv => ?_, ?_, fun v hv => ?_, fun f hf => ?_, fun v hv => ?_, (one e).mpr rfl⟩
    · show bt (ps_ends F S e &&& (dV ^^^ (-1))) v = true ↔ bt (ps_ends F S e) v = true ∧ bt dV v = false ∧ bt 0 v = false
      rw [not_bt, b_0]
      exact ⟨fun z => ⟨z.1, z.2, rfl⟩, fun z => ⟨z.1, z.2.1⟩⟩
    · have : bt 0 v = true := hv
      rw [b_0] at this; cases this
    · rcases (eb v).mp hv with z | z <;> omega
    · show cn n (bt 0) = 0
      rw [cn_congr (g := fun _ => false) (fun i _ => b_0 i)]
      exact cn_false n
    · have : bt 0 v = true := hv
      rw [b_0] at this; cases this
    · have hf' := (one f).mp hf
      subst hf'
      exact ⟨hself, fun v hv => (eb v).mpr hv⟩
    · exact ⟨e, (one e).mpr rfl, (eb v).mp hv⟩
  have hw := wl_meas (dn := dr_gD) (st := dr_gS eA nb dV) (gI n k F S x eA nb dV e) (fun s => 10 - s.1) (fun s hs hd => by
    obtain ⟨i1, i2, i3, i4, i5, i6, i7, i8⟩ := hs
    unfold dr_gD at hd
    rw [Bool.or_eq_false_iff] at hd
    have c1 := of_decide_eq_false hd.1
    obtain ⟨l1, l2, _⟩ := ps_least_ok (of_decide_eq_false hd.2)
    unfold dr_gS
    generalize ps_least s.2.1 = v0 at l1 l2 ⊢
    obtain ⟨g1, g2, g3⟩ := (i1 v0).mp l2
    have hv0 := i3 v0 g1
    have vis : ∀ v, bt (s.2.2.1 ||| (1 <<< (nI v0 &&& 31))) v = true ↔ bt s.2.2.1 v = true ∨ v = v0 := or_bt _ (by omega)
    have visf : ∀ v, bt (s.2.2.1 ||| (1 <<< (nI v0 &&& 31))) v = false ↔ bt s.2.2.1 v = false ∧ v ≠ v0 := fun v => by
      rw [← Bool.not_eq_true, vis, not_or, Bool.not_eq_true]
    have fV : ∀ v, bt (s.2.2.2.2 ||| nb v0) v = true ↔ bt s.2.2.2.2 v = true ∨ bt (nb v0) v = true := fun v => by rw [b_or, Bool.or_eq_true]
    have fE : ∀ v, bt (s.2.2.2.1 ||| eA v0) v = true ↔ bt s.2.2.2.1 v = true ∨ bt (eA v0) v = true := fun v => by rw [b_or, Bool.or_eq_true]
    obtain ⟨f0, q1, q2⟩ := i7 v0 g1
    have hf0 := (i6 f0 q1).1
    -- an edge at v0 belongs to the fragment
    have new : ∀ f, bt (eA v0) f = true → Frg k F S x dV e f := fun f hf => by
      obtain ⟨a1, a2, a3⟩ := ((hla v0 hv0).1 f).mp hf
      exact ⟨a1, a2, fun K hK hc => hc f0 f v0 hf0.1 a1 hf0.2.1 a2 g2 q2 a3 (hf0.2.2 K hK hc)⟩
    refine ⟨⟨fun v => ?_, fun v hv => ?_, fun v hv => ?_, ?_, fun v hv => ?_, fun f hf => ?_, fun v hv => ?_, (fE e).mpr (Or.inl i8)⟩, by show 10 - (s.1 + 1) < 10 - s.1; omega⟩
    · show bt (((s.2.2.2.2 ||| nb v0) &&& (dV ^^^ (-1 : Int32))) &&& ((s.2.2.1 ||| ((1 : Int32) <<< (nI v0 &&& 31))) ^^^ (-1 : Int32))) v = true ↔ _
      rw [not_bt, not_bt, and_assoc]
    · rcases (vis v).mp hv with z | z
      · exact ⟨(fV v).mpr (Or.inl (i2 v z).1), (i2 v z).2⟩
      · rw [z]; exact ⟨(fV v0).mpr (Or.inl g1), g2⟩
    · rcases (fV v).mp hv with z | z
      · exact i3 v z
      · obtain ⟨f, a1, a2, a3⟩ := ((hla v0 hv0).2 v).mp z
        have := hFS f a1
        rcases a3 with w | w <;> omega
    · show cn n (bt (s.2.2.1 ||| (1 <<< (nI v0 &&& 31)))) = s.1 + 1
      rw [← i4, ← cn_more hv0 g3]
      refine cn_congr (fun v _ => ?_)
      rw [Bool.eq_iff_iff, vis, Bool.or_eq_true, decide_eq_true_iff]
    · rcases (vis v).mp hv with z | z
      · exact ⟨fun f hf => (fE f).mpr (Or.inl ((i5 v z).1 f hf)), fun u hu => (fV u).mpr (Or.inl ((i5 v z).2 u hu))⟩
      · rw [z]; exact ⟨fun f hf => (fE f).mpr (Or.inr hf), fun u hu => (fV u).mpr (Or.inr hu)⟩
    · rcases (fE f).mp hf with z | z
      · exact ⟨(i6 f z).1, fun v hv => (fV v).mpr (Or.inl ((i6 f z).2 v hv))⟩
      · refine ⟨new f z, fun v hv => ?_⟩
        obtain ⟨a1, a2, a3⟩ := ((hla v0 hv0).1 f).mp z
        by_cases c : v = v0
        · rw [c]; exact (fV v0).mpr (Or.inl g1)
        · refine (fV v).mpr (Or.inr (((hla v0 hv0).2 v).mpr ⟨f, a1, a2, ?_⟩))
          rcases a3 with w | w <;> rcases hv with y | y
          · exact absurd (y.symm.trans w) c
          · exact Or.inl ⟨w, y⟩
          · exact Or.inr ⟨w, y⟩
          · exact absurd (y.symm.trans w) c
    · rcases (fV v).mp hv with z | z
      · obtain ⟨f, a1, a2⟩ := i7 v z
        exact ⟨f, (fE f).mpr (Or.inl a1), a2⟩
      · obtain ⟨f, a1, a2, a3⟩ := ((hla v0 hv0).2 v).mp z
        refine ⟨f, (fE f).mpr (Or.inr (((hla v0 hv0).1 f).mpr ⟨a1, a2, ?_⟩)), ?_⟩
        · rcases a3 with w | w
          · exact Or.inl w.1
          · exact Or.inr w.1
        · rcases a3 with w | w
          · exact Or.inr w.2
          · exact Or.inl w.2) 10 (dr_g0 F S dV e) h0 (by show 10 - 0 ≤ 10; omega)
  obtain ⟨hd, i1, i2, i3, i4, i5, i6, i7, i8⟩ := hw
  have e0 : dr_gf F S eA nb dV e = wl dr_gD (dr_gS eA nb dV) 10 (dr_g0 F S dV e) := rfl
  rw [← e0] at hd i1 i2 i3 i4 i5 i6 i7 i8
  generalize dr_gf F S eA nb dV e = s at hd i1 i2 i3 i4 i5 i6 i7 i8 ⊢
  -- nothing is left to visit
  have none : ∀ v, bt s.2.1 v = false := fun v => by
    unfold dr_gD at hd
    rw [Bool.or_eq_true, decide_eq_true_iff, decide_eq_true_iff] at hd
    rcases hd with z | z
    · cases hv : bt s.2.1 v with
      | false => rfl
      | true =>
        exfalso
        obtain ⟨g1, g2, g3⟩ := (i1 v).mp hv
        have hvn := i3 v g1
        have h1 := cn_more (P := bt s.2.2.1) hvn g3
        have h2 := cn_le n (fun u => bt s.2.2.1 u || decide (u = v))
        omega
    · rw [z]; exact b_0 v
  have clos : ∀ v, bt s.2.2.2.2 v = true → bt dV v = false → bt s.2.2.1 v = true := fun v h1 h2 => by
    cases hv : bt s.2.2.1 v with
    | true => rfl
    | false =>
      have := (i1 v).mpr ⟨h1, h2, hv⟩
      rw [none v] at this; cases this
  have hE : ∀ f, bt s.2.2.2.1 f = true ↔ Frg k F S x dV e f := fun f => by
    refine ⟨fun h => (i6 f h).1, fun h => ?_⟩
    refine h.2.2 (fun f => bt s.2.2.2.1 f = true) i8 (fun f g v hf hg xf xg hv af ag hK => ?_)
    have h1 := clos v ((i6 f hK).2 v af) hv
    exact (i5 v h1).1 g (((hla v (i3 v ((i6 f hK).2 v af))).1 g).mpr ⟨hg, xg, ag⟩)
  refine ⟨hE, fun v => ⟨fun h => ?_, fun ⟨f, h1, h2⟩ => (i6 f ((hE f).mpr h1)).2 v h2⟩⟩
  obtain ⟨f, h1, h2⟩ := i7 v h
  exact ⟨f, (hE f).mp h1, h2⟩
theorem gfOK_ok (hn : n ≤ 10) (hFS : ∀ e, e < k → F e < n ∧ S e < n ∧ F e ≠ S e) {eA nb : Nat → Int32} (hla : laOK n k F S x eA nb) (dV : Int32) {e : Nat} (he : e < k) : dr_gfOK F S eA nb dV e := by
  obtain ⟨f1, f2, _⟩ := hFS e he
  have eb := ends_bt (F := F) (S := S) (e := e) (by omega) (by omega)
  refine ⟨fun s => (∀ v, bt s.2.2.2.2 v = true → v < n) ∧ ∀ v, bt s.2.1 v = true → v < n, ⟨fun v hv => ?_, fun v hv => ?_⟩, fun s hs hd => ?_⟩
  · rcases (eb v).mp hv with z | z <;> omega
  · have := (not_bt _ _ _).mp hv
    rcases (eb v).mp this.1 with z | z <;> omega
  · unfold dr_gD at hd
    rw [Bool.or_eq_false_iff] at hd
    have h0 := of_decide_eq_false hd.2
    obtain ⟨l1, l2, _⟩ := ps_least_ok h0
    have hl := hs.2 _ l2
    have hnb : ∀ v, bt (s.2.2.2.2 ||| nb (ps_least s.2.1)) v = true → v < n := fun v hv => by
      rw [b_or, Bool.or_eq_true] at hv
      rcases hv with z | z
      · exact hs.1 v z
      · obtain ⟨f, q1, q2, q3⟩ := ((hla _ hl).2 v).mp z
        have := hFS f q1
        rcases q3 with w | w <;> omega
    refine ⟨by omega, hnb, fun v hv => ?_⟩
    have := (not_bt _ _ _).mp hv
    exact hnb v ((not_bt _ _ _).mp this.1).1
end GA
