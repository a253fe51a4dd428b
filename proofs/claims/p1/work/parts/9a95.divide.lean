/-! dividing a face: the rows hold the new faces -/
abbrev DW : Type := (Nat → Nat → Nat) × (Nat → Nat) × (Nat → Int32)
/-- row f holds the first c of the vertices q, the other rows are as in s0 -/
def rowI (f c : Nat) (q : Nat → Nat) (s0 s : DW) : Prop := s.2.1 f = c ∧ (∀ p, p < c → s.1 f p = q p) ∧ (∀ v, bt (s.2.2 f) v = true ↔ ∃ p, p < c ∧ q p = v) ∧ ∀ i, i ≠ f → s.1 i = s0.1 i ∧ s.2.1 i = s0.2.1 i ∧ s.2.2 i = s0.2.2 i
theorem row_0 (f : Nat) (q : Nat → Nat) (s : DW) : rowI f 0 q s (s.1, va_up s.2.1 f 0, upd s.2.2 f 0) := by
  refine ⟨?_, fun p hp => absurd hp (Nat.not_lt_zero p), fun v => ?_, fun i hi => ⟨rfl, ?_, ?_⟩⟩
  · show va_up s.2.1 f 0 f = 0
    unfold va_up; rw [if_pos rfl]
  · show bt (upd s.2.2 f 0 f) v = true ↔ _
    unfold upd
    rw [if_pos rfl, b_0]
    exact ⟨fun z => (by cases z), fun ⟨p, hp, _⟩ => absurd hp (Nat.not_lt_zero p)⟩
  · show va_up s.2.1 f 0 i = _
    unfold va_up; rw [if_neg hi]
  · show upd s.2.2 f 0 i = _
    unfold upd; rw [if_neg hi]
theorem row_s {f c : Nat} {q : Nat → Nat} {s0 s : DW} (h : rowI f c q s0 s) (hc : c < 10) (hq : q c < 32) : rowI f (c + 1) q s0 (dr_to f (q c) s) := by
  obtain ⟨h1, h2, h3, h4⟩ := h
  unfold dr_to
  rw [if_pos (by rw [h1]; exact hc), h1]
  refine ⟨?_, fun p hp => ?_, fun v => ?_, fun i hi => ⟨?_, ?_, ?_⟩⟩
  · show va_up s.2.1 f (c + 1) f = c + 1
    unfold va_up; rw [if_pos rfl]
  · show va_up s.1 f (va_up (s.1 f) c (q c)) f p = q p
    unfold va_up
    rw [if_pos rfl]
    by_cases z : p = c
    · rw [if_pos z, z]
    · rw [if_neg z]; exact h2 p (by omega)
  · show bt (upd s.2.2 f (s.2.2 f ||| (1 <<< (nI (q c) &&& 31))) f) v = true ↔ _
    unfold upd
    rw [if_pos rfl, or_bt _ hq, h3]
    constructor
    · rintro (⟨p, p1, p2⟩ | z)
      · exact ⟨p, by omega, p2⟩
      · exact ⟨c, by omega, z.symm⟩
    · rintro ⟨p, p1, p2⟩
      by_cases z : p = c
      · rw [z] at p2; exact Or.inr p2.symm
      · exact Or.inl ⟨p, by omega, p2⟩
  · show va_up s.1 f _ i = s0.1 i
    unfold va_up; rw [if_neg hi]; exact (h4 i hi).1
  · show va_up s.2.1 f _ i = s0.2.1 i
    unfold va_up; rw [if_neg hi]; exact (h4 i hi).2.1
  · show upd s.2.2 f _ i = s0.2.2 i
    unfold upd; rw [if_neg hi]; exact (h4 i hi).2.2
theorem row_fo {f c : Nat} {q : Nat → Nat} {s0 s : DW} {st : Nat → DW → DW} (h : rowI f c q s0 s) : ∀ m, (∀ i s', i < m → st i s' = dr_to f (q (c + i)) s') → c + m ≤ 10 → (∀ p, p < c + m → q p < 32) → rowI f (c + m) q s0 (fo st m s)
  | 0, _, _, _ => h
  | m + 1, hs, hm, hq => by
    rw [fo_s, hs m _ (by omega)]
    exact row_s (c := c + m) (row_fo h m (fun i s' hi => hs i s' (by omega)) (by omega) (fun p hp => hq p (by omega))) (show c + m < 10 by omega) (hq (c + m) (show c + m < c + (m + 1) by omega))
theorem pl_ok {ow : Nat → Nat} {v len A : Nat} (hl : len ≤ 10) (hA : A < len) (hv : ow A = v) (hi : ∀ p, p < len → ow p = ow A → p = A) (ho : ∀ p, p < len → ow p < 32) : dr_pl ow v len = A := by
  have hw := wl_meas (dn := dr_plD ow v len) (st := pm_leS) (fun j => j ≤ A) (fun j => 10 - j) (fun j hj hd => by
    unfold dr_plD at hd
    rw [Bool.or_eq_false_iff, decide_eq_false_iff_not, decide_eq_false_iff_not] at hd
    have : j ≠ A := fun z => hd.2 (by rw [z, hv])
    exact ⟨by show j + 1 ≤ A; omega, by show 10 - (j + 1) < 10 - j; omega⟩) 10 0 (Nat.zero_le A) (by omega)
  have e0 : dr_pl ow v len = wl (dr_plD ow v len) pm_leS 10 0 := rfl
  rw [← e0] at hw
  generalize dr_pl ow v len = j at hw ⊢
  obtain ⟨hd, hj⟩ := hw
  unfold dr_plD at hd
  rw [Bool.or_eq_true, decide_eq_true_iff, decide_eq_true_iff] at hd
  rcases hd with z | z
  · have hj' : j ≤ A := hj
    omega
  · have hj' : j ≤ A := hj
    have h1 := ho j (by omega)
    have h2 := ho A hA
    exact hi j (by omega) (by rw [hv]; exact (nI_eq (by omega) (by rw [← hv]; omega)).mp z)
theorem last_dst {A B L : Nat} (hA : A < L) (hB : B < L) : dr_last A B L + 1 - A = dst L A B + 1 := by
  unfold dr_last dst
  (repeat' split) <;> omega
/-- one new face -/
theorem arc_row {ow u : Nat → Nat} {L A B l f : Nat} {s : DW} {q' : Nat → Nat} (hA : A < L) (hB : B < L) (hl : 1 ≤ l) (hlen : dst L A B + l ≤ 10) (hq : ∀ p, p < dst L A B + l → arcW L A (dst L A B) l ow u p < 32) (hq' : ∀ c, c < l - 1 → q' c = u (l - 1 - c)) :
    rowI f (dst L A B + l) (arcW L A (dst L A B) l ow u) s (fo (dr_d f q') (l - 1) (dr_arc ow f A B L (s.1, va_up s.2.1 f 0, upd s.2.2 f 0))) := by
  have h0 := row_0 f (arcW L A (dst L A B) l ow u) s
  have h1 : rowI f (dst L A B + 1) (arcW L A (dst L A B) l ow u) s (dr_arc ow f A B L (s.1, va_up s.2.1 f 0, upd s.2.2 f 0)) := by
    unfold dr_arc
    rw [last_dst hA hB]
    have := row_fo (st := dr_arc1 ow f A L) h0 (dst L A B + 1) (fun i s' hi => by
      unfold dr_arc1 arcW
      rw [Nat.zero_add, if_pos (by omega)]
      rfl) (by omega) (fun p hp => hq p (by omega))
    rw [Nat.zero_add] at this
    exact this
  have := row_fo (st := dr_d f q') h1 (l - 1) (fun i s' hi => by
    show dr_to f (q' i) s' = _
    rw [hq' i hi]
    unfold arcW
    rw [if_neg (by omega)]
    congr 2; omega) (by omega) (fun p hp => hq p (by omega))
  rw [show dst L A B + 1 + (l - 1) = dst L A B + l from by omega] at this
  exact this
/-- dividing face f along a path -/
theorem div_ok {pt ow : Nat → Nat} {f fc l A B : Nat} {s : DW} (hl : 1 ≤ l) (hff : f ≠ fc) (hL : s.2.1 f ≤ 10) (hA : A < s.2.1 f) (hB : B < s.2.1 f) (hA1 : s.1 f A = pt 0) (hB1 : s.1 f B = pt l) (hi : ∀ p q, p < s.2.1 f → q < s.2.1 f → s.1 f p = s.1 f q → p = q) (ho : ∀ p, p < s.2.1 f → s.1 f p < 32) (hu : ∀ t, t ≤ l → pt t < 32) (h1 : dst (s.2.1 f) A B + l ≤ 10) (h2 : dst (s.2.1 f) B A + l ≤ 10) :
    ∃ s', dr_div pt ow f fc (l + 1) s = s' ∧ s'.2.1 f = dst (s.2.1 f) A B + l ∧ (∀ p, p < dst (s.2.1 f) A B + l → s'.1 f p = arcW (s.2.1 f) A (dst (s.2.1 f) A B) l (s.1 f) pt p) ∧ (∀ v, bt (s'.2.2 f) v = true ↔ ∃ p, p < dst (s.2.1 f) A B + l ∧ arcW (s.2.1 f) A (dst (s.2.1 f) A B) l (s.1 f) pt p = v) ∧
      s'.2.1 fc = dst (s.2.1 f) B A + l ∧ (∀ p, p < dst (s.2.1 f) B A + l → s'.1 fc p = arcW (s.2.1 f) B (dst (s.2.1 f) B A) l (s.1 f) (fun t => pt (l - t)) p) ∧ (∀ v, bt (s'.2.2 fc) v = true ↔ ∃ p, p < dst (s.2.1 f) B A + l ∧ arcW (s.2.1 f) B (dst (s.2.1 f) B A) l (s.1 f) (fun t => pt (l - t)) p = v) ∧
      ∀ i, i ≠ f → i ≠ fc → s'.1 i = s.1 i ∧ s'.2.1 i = s.2.1 i ∧ s'.2.2 i = s.2.2 i := by
  have how : ∀ p, p < s.2.1 f → dr_ow s.1 s.2.1 ow f p = s.1 f p := fun p hp => by
    unfold dr_ow va_cpy
    rw [if_pos ⟨Nat.zero_le p, by omega⟩, Nat.sub_zero, Nat.zero_add]
  unfold dr_div
  generalize dr_ow s.1 s.2.1 ow f = ow' at how ⊢
  have hpA : dr_pl ow' (pt 0) (s.2.1 f) = A := pl_ok hL hA (by rw [how A hA]; exact hA1) (fun p hp e => hi p A hp hA (by rw [← how p hp, ← how A hA]; exact e)) (fun p hp => by rw [how p hp]; exact ho p hp)
  have hpB : dr_pl ow' (pt (l + 1 - 1)) (s.2.1 f) = B := pl_ok hL hB (by rw [how B hB, Nat.add_sub_cancel]; exact hB1) (fun p hp e => hi p B hp hB (by rw [← how p hp, ← how B hB]; exact e)) (fun p hp => by rw [how p hp]; exact ho p hp)
  rw [hpA, hpB]
  have e2 : l + 1 - 2 = l - 1 := by omega
  have eW : ∀ A' d u p, A' < s.2.1 f → d < s.2.1 f → arcW (s.2.1 f) A' d l ow' u p = arcW (s.2.1 f) A' d l (s.1 f) u p := fun A' d u p hA' hd => by
    unfold arcW
    by_cases c : p ≤ d
    · rw [if_pos c, if_pos c]
      exact how _ (wrp_lt hA' (by omega))
    · rw [if_neg c, if_neg c]
  have hdb : dst (s.2.1 f) A B < s.2.1 f := by unfold dst; split <;> omega
  have hdb' : dst (s.2.1 f) B A < s.2.1 f := by unfold dst; split <;> omega
  have q1 : ∀ p, p < dst (s.2.1 f) A B + l → arcW (s.2.1 f) A (dst (s.2.1 f) A B) l ow' pt p < 32 := fun p hp => by
    rw [eW A _ pt p hA hdb]
    unfold arcW
    by_cases c : p ≤ dst (s.2.1 f) A B
    · rw [if_pos c]; exact ho _ (wrp_lt hA (by omega))
    · rw [if_neg c]; exact hu _ (by omega)
  have q2 : ∀ p, p < dst (s.2.1 f) B A + l → arcW (s.2.1 f) B (dst (s.2.1 f) B A) l ow' (fun t => pt (l - t)) p < 32 := fun p hp => by
    rw [eW B _ _ p hB hdb']
    unfold arcW
    by_cases c : p ≤ dst (s.2.1 f) B A
    · rw [if_pos c]; exact ho _ (wrp_lt hB (by omega))
    · rw [if_neg c]; exact hu _ (by omega)
  have r1 : rowI f (dst (s.2.1 f) A B + l) (arcW (s.2.1 f) A (dst (s.2.1 f) A B) l ow' pt) s (dr_v1 pt ow' f A B (s.2.1 f) (l + 1) s) := by
    unfold dr_v1
    rw [e2]
    exact arc_row hA hB hl h1 q1 (fun c hc => by show pt (l + 1 - 2 - c) = pt (l - 1 - c); rw [e2])
  generalize dr_v1 pt ow' f A B (s.2.1 f) (l + 1) s = s1 at r1 ⊢
  have r2 : rowI fc (dst (s.2.1 f) B A + l) (arcW (s.2.1 f) B (dst (s.2.1 f) B A) l ow' (fun t => pt (l - t))) s1 (dr_v2 pt ow' fc A B (s.2.1 f) (l + 1) s1) := by
    unfold dr_v2
    rw [e2]
    exact arc_row hB hA hl h2 q2 (fun c hc => by show pt (1 + c) = pt (l - (l - 1 - c)); congr 1; omega)
  generalize dr_v2 pt ow' fc A B (s.2.1 f) (l + 1) s1 = s2 at r2 ⊢
  obtain ⟨a1, a2, a3, a4⟩ := r1
  obtain ⟨b1, b2, b3, b4⟩ := r2
  obtain ⟨c1, c2, c3⟩ := b4 f hff
  refine ⟨s2, rfl, by rw [c2]; exact a1, fun p hp => ?_, fun v => ?_, b1, fun p hp => ?_, fun v => ?_, fun i i1 i2 => ?_⟩
  · rw [c1, a2 p hp]; exact eW A _ pt p hA hdb
  · rw [c3, a3]
    exact ⟨fun ⟨p, p1, p2⟩ => ⟨p, p1, by rw [← eW A _ pt p hA hdb]; exact p2⟩, fun ⟨p, p1, p2⟩ => ⟨p, p1, by rw [eW A _ pt p hA hdb]; exact p2⟩⟩
  · rw [b2 p hp]; exact eW B _ _ p hB hdb'
  · rw [b3]
    exact ⟨fun ⟨p, p1, p2⟩ => ⟨p, p1, by rw [← eW B _ _ p hB hdb']; exact p2⟩, fun ⟨p, p1, p2⟩ => ⟨p, p1, by rw [eW B _ _ p hB hdb']; exact p2⟩⟩
  · obtain ⟨d1, d2, d3⟩ := b4 i i2
    obtain ⟨e1, e2, e3⟩ := a4 i i1
    exact ⟨d1.trans e1, d2.trans e2, d3.trans e3⟩
