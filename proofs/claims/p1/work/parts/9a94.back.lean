/-! back along the path -/
section BK
variable {n k : Nat} {F S : Nat → Nat}
theorem in_lt {v n : Nat} (hv : v < n) (hn : n ≤ 10) : ps_in (nI v) (nI n) = true := by
  unfold ps_in
  rw [Bool.and_eq_true, Bool.not_eq_true', Bool.not_eq_true', decide_eq_false_iff_not, decide_eq_false_iff_not, nI_leI (by omega) (by omega)]
  exact ⟨Int32.not_lt.mpr (nI_pos' (by omega)), by omega⟩
theorem oth_j {e u v : Nat} (hu : u < 10) (hv : v < 10) (h : jFS F S e v u) (hne : u ≠ v) : dr_oth F S e v = u := by
  unfold dr_oth
  rcases h with ⟨h1, h2⟩ | ⟨h1, h2⟩
  · rw [if_pos (by rw [h1]), h2]
  · rw [if_neg (fun z => hne (by rw [← h1]; exact (nI_eq (by rw [h1]; omega) (by omega)).mp z)), h1]
def bI' (n k : Nat) (F S cb : Nat → Nat) (cE R dE dV : Int32) (rk : Nat → Nat) (t0 v0 j : Nat) (s : Nat × Int32 × Int32 × (Nat → Nat) × Nat) : Prop :=
  s.2.2.2.2 = j + 1 ∧ s.1 = s.2.2.2.1 j ∧ s.2.2.2.1 0 = v0 ∧ rk (s.2.2.2.1 j) + j ≤ rk v0 ∧ (∀ a, a ≤ j → bt R (s.2.2.2.1 a) = true) ∧
  (∀ a, a < j → cb (s.2.2.2.1 a) < k ∧ bt cE (cb (s.2.2.2.1 a)) = true ∧ jFS F S (cb (s.2.2.2.1 a)) (s.2.2.2.1 a) (s.2.2.2.1 (a + 1)) ∧ s.2.2.2.1 a ≠ t0 ∧ rk (s.2.2.2.1 (a + 1)) < rk (s.2.2.2.1 a)) ∧
  (∀ e, bt s.2.1 e = true ↔ bt dE e = true ∨ ∃ a, a < j ∧ cb (s.2.2.2.1 a) = e) ∧ ∀ v, bt s.2.2.1 v = true ↔ bt dV v = true ∨ ∃ a, a < j ∧ s.2.2.2.1 (a + 1) = v
theorem p2_ok (hn : n ≤ 10) (hk : k ≤ 18) {cE R dE dV : Int32} {cb pt rk : Nat → Nat} {i t0 v0 : Nat} (hi : i ≤ 10) (ht0 : t0 < n)
    (r2 : ∀ v, bt R v = true → v < n ∧ rk v < i ∧ (v ≠ t0 → cb v < k ∧ bt cE (cb v) = true ∧ ∃ u, bt R u = true ∧ rk u < rk v ∧ jFS F S (cb v) v u)) (hv0 : bt R v0 = true) :
    ∃ j, bI' n k F S cb cE R dE dV rk t0 v0 j (dr_p2 n F S cb t0 v0 dE dV pt) ∧ (dr_p2 n F S cb t0 v0 dE dV pt).1 = t0 := by
  have hw := wl_meas (dn := dr_p2D n t0) (st := dr_p2S F S cb) (fun s => ∃ j, bI' n k F S cb cE R dE dV rk t0 v0 j s) (fun s => 10 - s.2.2.2.2) (fun s hs hd => by
    obtain ⟨j, h1, h2, h3, h4, h5, h6, h7, h8⟩ := hs
    unfold dr_p2D at hd
    rw [Bool.or_eq_false_iff, Bool.or_eq_false_iff] at hd
    have c1 : s.1 ≠ t0 := fun z => of_decide_eq_false hd.1 (by rw [z])
    have c3 := of_decide_eq_false hd.2.2
    have hR := h5 j (Nat.le_refl j)
    rw [← h2] at hR
    obtain ⟨b1, b2, b3⟩ := r2 s.1 hR
    obtain ⟨d1, d2, u, d3, d4, d5⟩ := b3 c1
    have hu := (r2 u d3).1
    have hne : u ≠ s.1 := fun z => by rw [z] at d4; omega
    have ho : dr_oth F S (cb s.1) s.1 = u := oth_j (by omega) (by omega) d5 hne
    unfold dr_p2S
    rw [ho]
    -- the row with one more place
    have p0 : ∀ a, a ≤ j → va_up s.2.2.2.1 s.2.2.2.2 u a = s.2.2.2.1 a := fun a ha => by unfold va_up; rw [if_neg (by omega)]
    have p1 : va_up s.2.2.2.1 s.2.2.2.2 u (j + 1) = u := by unfold va_up; rw [if_pos h1.symm]
    have g0 : ∀ e, (∃ a, a < j + 1 ∧ cb (va_up s.2.2.2.1 s.2.2.2.2 u a) = e) ↔ (∃ a, a < j ∧ cb (s.2.2.2.1 a) = e) ∨ e = cb s.1 := fun e => by
      constructor
      · rintro ⟨a, a1, a2⟩
        rw [p0 a (by omega)] at a2
        by_cases z : a = j
        · rw [z, ← h2] at a2; exact Or.inr a2.symm
        · exact Or.inl ⟨a, by omega, a2⟩
      · rintro (⟨a, a1, a2⟩ | z)
        · exact ⟨a, by omega, by rw [p0 a (by omega)]; exact a2⟩
        · exact ⟨j, by omega, by rw [p0 j (Nat.le_refl j), ← h2]; exact z.symm⟩
    refine ⟨⟨j + 1, by show s.2.2.2.2 + 1 = _; omega, p1.symm, by show va_up s.2.2.2.1 s.2.2.2.2 u 0 = v0; rw [p0 0 (by omega)]; exact h3, ?_, fun a ha => ?_, fun a ha => ?_, fun e => ?_, fun v => ?_⟩, by show 10 - (s.2.2.2.2 + 1) < 10 - s.2.2.2.2; omega⟩
    · show rk (va_up s.2.2.2.1 s.2.2.2.2 u (j + 1)) + (j + 1) ≤ rk v0
      rw [p1]
      rw [← h2] at h4
      omega
    · show bt R (va_up s.2.2.2.1 s.2.2.2.2 u a) = true
      by_cases z : a = j + 1
      · rw [z, p1]; exact d3
      · rw [p0 a (by omega)]; exact h5 a (by omega)
    · show cb (va_up s.2.2.2.1 s.2.2.2.2 u a) < k ∧ bt cE (cb (va_up s.2.2.2.1 s.2.2.2.2 u a)) = true ∧ jFS F S (cb (va_up s.2.2.2.1 s.2.2.2.2 u a)) (va_up s.2.2.2.1 s.2.2.2.2 u a) (va_up s.2.2.2.1 s.2.2.2.2 u (a + 1)) ∧ va_up s.2.2.2.1 s.2.2.2.2 u a ≠ t0 ∧ rk (va_up s.2.2.2.1 s.2.2.2.2 u (a + 1)) < rk (va_up s.2.2.2.1 s.2.2.2.2 u a)
      rw [p0 a (by omega)]
      by_cases z : a = j
      · rw [z, p1, ← h2]; exact ⟨d1, d2, d5, c1, d4⟩
      · rw [p0 (a + 1) (by omega)]; exact h6 a (by omega)
    · show bt (s.2.1 ||| (1 <<< (nI (cb s.1) &&& 31))) e = true ↔ bt dE e = true ∨ ∃ a, a < j + 1 ∧ cb (va_up s.2.2.2.1 s.2.2.2.2 u a) = e
      rw [or_bt _ (by omega), h7, g0, or_assoc]
    · show bt (s.2.2.1 ||| (1 <<< (nI u &&& 31))) v = true ↔ bt dV v = true ∨ ∃ a, a < j + 1 ∧ va_up s.2.2.2.1 s.2.2.2.2 u (a + 1) = v
      rw [or_bt _ (by omega), h8, or_assoc]
      refine or_congr_right ⟨?_, ?_⟩
      · rintro (⟨a, a1, a2⟩ | z)
        · exact ⟨a, by omega, by rw [p0 (a + 1) (by omega)]; exact a2⟩
        · exact ⟨j, by omega, by rw [p1]; exact z.symm⟩
      · rintro ⟨a, a1, a2⟩
        by_cases z : a = j
        · rw [z, p1] at a2; exact Or.inr a2.symm
        · rw [p0 (a + 1) (by omega)] at a2; exact Or.inl ⟨a, by omega, a2⟩) 10 (v0, dE, dV, va_up pt 0 v0, 1) ⟨0, rfl, by show v0 = va_up pt 0 v0 0; unfold va_up; rw [if_pos rfl], by show va_up pt 0 v0 0 = v0; unfold va_up; rw [if_pos rfl], by show rk (va_up pt 0 v0 0) + 0 ≤ rk v0; unfold va_up; rw [if_pos rfl]; omega, fun a ha => by
      have : a = 0 := by omega
      rw [this]
      show bt R (va_up pt 0 v0 0) = true
      unfold va_up; rw [if_pos rfl]; exact hv0, fun a ha => absurd ha (Nat.not_lt_zero a), fun e => ⟨Or.inl, fun z => z.elim id (fun ⟨a, q, _⟩ => absurd q (Nat.not_lt_zero a))⟩, fun e => ⟨Or.inl, fun z => z.elim id (fun ⟨a, q, _⟩ => absurd q (Nat.not_lt_zero a))⟩⟩ (by show 10 - 1 ≤ 10; omega)
  have e0 : dr_p2 n F S cb t0 v0 dE dV pt = wl (dr_p2D n t0) (dr_p2S F S cb) 10 (v0, dE, dV, va_up pt 0 v0, 1) := rfl
  rw [← e0] at hw
  generalize dr_p2 n F S cb t0 v0 dE dV pt = s at hw ⊢
  obtain ⟨hd, j, hj⟩ := hw
  refine ⟨j, hj, ?_⟩
  obtain ⟨h1, h2, h3, h4, h5, h6, h7, h8⟩ := hj
  have hR := h5 j (Nat.le_refl j)
  rw [← h2] at hR h4
  obtain ⟨b1, b2, b3⟩ := r2 s.1 hR
  have b0 := (r2 v0 hv0).2.1
  unfold dr_p2D at hd
  rw [Bool.or_eq_true, Bool.or_eq_true, decide_eq_true_iff, Bool.not_eq_true', decide_eq_true_iff, in_lt b1 hn] at hd
  rcases hd with z | z | z
  · exact (nI_eq (by omega) (by omega)).mp z
  · cases z
  · refine Classical.byContradiction fun q => ?_
    obtain ⟨_, _, u, _, d4, _⟩ := b3 q
    omega
end BK
