/-! the first call on fresh objects: all is computation -/
theorem ps_in_0 (v : Int32) : ps_in v (nI 0) = false := by
  unfold ps_in
  by_cases h : v < 0
  · simp [h]
  · have : nI 0 ≤ v := Int32.not_lt.mp h
    simp [this]
theorem no_in {v : Int32} (h : ps_in v (nI 0) = true) : False := by rw [ps_in_0] at h; cases h
theorem lz0_E : ∀ j, lz0.E j < 10 := fun _ => (by decide : (0 : Nat) < 10)
theorem lz0_P : ∀ j, lz0.Pr j ≤ 10 := fun _ => (by decide : (1 : Nat) ≤ 10)
theorem lz0_q : ∀ j, lz0.dq j < 10 := fun _ => (by decide : (0 : Nat) < 10)
theorem lz0_s : ∀ j, lz0.sh j < 10 := fun _ => (by decide : (0 : Nat) < 10)
theorem lz0_GOK : pm_GOK lz0.n lz0.k lz0.E := GOK_ok (n := 0) (k := 0) (E := fun _ => 0) (by decide) (by decide) (fun j => (by decide : (0 : Nat) < 10)) (fun e h => absurd h (Nat.not_lt_zero e)) (fun e h => absurd h (Nat.not_lt_zero e))
theorem lq0_tOK : lq0.tk = false → dr_tOK lq0.n lq0.k lq0.F lq0.S (xP lq0).2.1 (xP lq0).2.2.2.2 lq0.dr := fun _ i hi => absurd hi (Nat.not_lt_zero i)
abbrev fI (j : Nat) (q : LX) (z : LM) : Prop := j = 0 → q = lq0 ∧ z = lz0
theorem fI_s (j : Nat) (q : LX) (z : LM) : fI (j + 1) q z := fun h => absurd h (Nat.succ_ne_zero j)
theorem lq0_FS : ∀ e, e < lq0.k → lq0.F e < lq0.n ∧ lq0.S e < lq0.n := fun e h => absurd h (Nat.not_lt_zero e)
theorem lq0_10 : ∀ j, lq0.F j < 10 := fun _ => (by decide : (0 : Nat) < 10)
theorem lq0_s10 : ∀ j, lq0.S j < 10 := fun _ => (by decide : (0 : Nat) < 10)
theorem lq0_tp : lq0.tk = true → lq0.pk = true := fun h => (by cases h)
theorem first_math : LawOK 4 fI := by
  intro j q z hj hI
  have hj0 : j = 0 := by omega
  subst hj0
  obtain ⟨rfl, rfl⟩ := hI rfl
  have e1 : (mW lz0).2.1 = true := by decide +kernel
  refine ⟨fun n9 => ?_, fun u9 v9 w9 => ?_, ?_, fun v9 w9 => ?_, ?_, ?_, fun v9 => ?_, ?_, fun v9 => ?_, ?_, ?_, ?_, fun v9 => ?_, fun v9 => ?_, fun v9 => ?_, ?_⟩
  · by_cases h : n9 < 0 ∨ ¬ n9 ≤ 10
    · exact ⟨_, _, _, Or.inr ⟨h, rfl, rfl⟩, Or.inr ⟨h, rfl, rfl⟩, fI_s _ _ _⟩
    · obtain ⟨m, hm, rfl⟩ := nI_of2 (M := 10) (n := 10) (by decide) (fun z => h (Or.inl z)) (Classical.byContradiction fun z => h (Or.inr z))
      exact ⟨_, _, _, Or.inl ⟨m, rfl, hm, rfl, rfl⟩, Or.inl ⟨m, rfl, hm, rfl, rfl⟩, fI_s _ _ _⟩
  · exact ⟨_, _, _, Or.inr ⟨fun h => (no_in h.1).elim, rfl, rfl⟩, Or.inr ⟨fun h => (no_in h.1).elim, rfl, rfl⟩, fI_s _ _ _⟩
  · exact ⟨_, _, _, Or.inr ⟨rfl, rfl, rfl⟩, Or.inr ⟨rfl, rfl, rfl⟩, fI_s _ _ _⟩
  · exact ⟨_, _, _, Or.inr ⟨fun h => (no_in h.1).elim, rfl, rfl⟩, Or.inr ⟨fun h => (no_in h.1).elim, rfl, rfl⟩, fI_s _ _ _⟩
  · exact ⟨_, _, _, ⟨rfl, rfl⟩, ⟨rfl, rfl⟩, fI_s _ _ _⟩
  · exact ⟨0, _, _, ⟨by decide, by decide, lq0_FS, by decide +kernel, rfl⟩, ⟨by decide, by decide, lz0_E, lz0_P, lz0_q, lz0_s, lz0_GOK, by decide +kernel, rfl⟩, fI_s _ _ _⟩
  · exact ⟨-1, _, _, Or.inr ⟨ps_in_0 v9, rfl, rfl⟩, Or.inr ⟨by decide, by decide, lz0_E, lz0_P, lz0_q, lz0_s, lz0_GOK, ps_in_0 v9, rfl, rfl⟩, fI_s _ _ _⟩
  · exact ⟨0, _, _, ⟨by decide, by decide, lq0_FS, by decide +kernel, rfl⟩, ⟨by decide, by decide, lz0_E, lz0_P, lz0_q, lz0_s, lz0_GOK, by decide +kernel, rfl⟩, fI_s _ _ _⟩
  · exact ⟨-1, _, _, Or.inr ⟨ps_in_0 v9, rfl, rfl⟩, Or.inr ⟨by decide, by decide, lz0_E, lz0_P, lz0_q, lz0_s, lz0_GOK, ps_in_0 v9, rfl, rfl⟩, fI_s _ _ _⟩
  · exact ⟨1, _, _, ⟨by decide, by decide, lq0_FS, lq0_10, lq0_s10, lq0_tp, lq0_tOK, by decide +kernel, rfl⟩, ⟨by decide, by decide, lz0_E, lz0_P, lz0_q, lz0_s, lz0_GOK, by decide +kernel, rfl⟩, fI_s _ _ _⟩
  · exact ⟨0, _, _, ⟨by decide, by decide, lq0_FS, lq0_10, lq0_s10, lq0_tp, lq0_tOK, by decide +kernel, rfl⟩, ⟨by decide, by decide, lz0_E, lz0_P, lz0_q, lz0_s, lz0_GOK, fun W0 h => by rw [h]; decide +kernel, by decide +kernel, rfl⟩, fI_s _ _ _⟩
  · exact ⟨0, _, _, Or.inl ⟨by decide, by decide, lq0_FS, lq0_10, lq0_s10, lq0_tp, lq0_tOK, by decide +kernel, by decide +kernel, rfl⟩, ⟨by decide, by decide, lz0_E, lz0_P, lz0_q, lz0_s, lz0_GOK, by decide +kernel, rfl⟩, fI_s _ _ _⟩
  · exact ⟨-1, _, _, Or.inr ⟨by decide, by decide, lq0_FS, lq0_10, lq0_s10, lq0_tp, lq0_tOK, fun h => (no_in h.1).elim, rfl, rfl⟩, ⟨by decide, by decide, lz0_E, lz0_P, lz0_q, lz0_s, lz0_GOK, (if_neg (fun h => (no_in h.2).elim)).symm, rfl⟩, fI_s _ _ _⟩
  · exact ⟨0, _, _, Or.inr ⟨by decide, by decide, lq0_FS, lq0_10, lq0_s10, lq0_tp, lq0_tOK, fun h => (no_in h.1).elim, rfl, rfl⟩, ⟨by decide, by decide, lz0_E, lz0_P, lz0_q, lz0_s, lz0_GOK, (by rw [e1, show ps_in v9 (nI lz0.k) = false from ps_in_0 v9]; rfl), rfl⟩, fI_s _ _ _⟩
  · exact ⟨0, _, _, Or.inr ⟨by decide, by decide, lq0_FS, lq0_10, lq0_s10, lq0_tp, lq0_tOK, fun h => (no_in h.1).elim, rfl, rfl⟩, ⟨by decide, by decide, lz0_E, lz0_P, lz0_q, lz0_s, lz0_GOK, (by rw [show ps_in v9 (nI lz0.k) = false from ps_in_0 v9]; rfl), rfl⟩, fI_s _ _ _⟩
  · exact ⟨0, _, _, Or.inr ⟨by decide, by decide, lq0_FS, lq0_10, lq0_s10, lq0_tp, lq0_tOK, by decide +kernel, rfl, rfl⟩, ⟨by decide, by decide, lz0_E, lz0_P, lz0_q, lz0_s, lz0_GOK, by decide +kernel, rfl⟩, fI_s _ _ _⟩
