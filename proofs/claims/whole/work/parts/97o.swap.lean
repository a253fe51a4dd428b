/-! fragments told off to faces without conflict; another face for one of them -/
def Fit (k : Nat) (F S : Nat → Nat) (y dV : Int32) (L : Nat → Nat) (w : Nat → Nat → Nat) (e i : Nat) : Prop := ∀ v, Con k F S y dV e v → ∃ p, p < L i ∧ w i p = v
def PH (k : Nat) (F S : Nat → Nat) (y dE dV : Int32) (r : Nat) (L : Nat → Nat) (w : Nat → Nat → Nat) (phi : Nat → Nat) : Prop :=
  (∀ e, Td k y dE e → phi e < r ∧ Fit k F S y dV L w e (phi e)) ∧ (∀ e f, Td k y dE e → Frg k F S y dV e f → phi f = phi e) ∧
  ∀ e f, Td k y dE e → Td k y dE f → ¬ Frg k F S y dV e f → phi e = phi f → ¬ Cfl (L (phi e)) (w (phi e)) (Con k F S y dV e) (Con k F S y dV f)
theorem to_bool (K : Nat → Prop) : ∃ c : Nat → Bool, ∀ e, c e = true ↔ K e := ⟨fun e => @decide (K e) (Classical.propDecidable _), fun e => @decide_eq_true_iff (K e) (Classical.propDecidable _)⟩
section SW
variable {n k : Nat} {F S : Nat → Nat} {y dE dV : Int32}
theorem Con_same {e f : Nat} (he : e < k) (hy : bt y e = true) (h : Frg k F S y dV e f) : Con k F S y dV f = Con k F S y dV e := by
  funext v
  refine propext ⟨fun ⟨h1, g, h2, h3⟩ => ⟨h1, g, Frg_trans h h2, h3⟩, fun ⟨h1, g, h2, h3⟩ => ⟨h1, g, Frg_trans (Frg_symm he hy h) h2, h3⟩⟩
theorem swap_ok (hFS : ∀ e, e < k → F e < n ∧ S e < n ∧ F e ≠ S e) (hdV : ∀ v, bt dV v = true ↔ ∃ e, bt dE e = true ∧ at' F S e v) (hDm : ∀ e, bt dE e = true → e < k) {o : Nat → Nat → Nat → Bool} {r : Nat} {L : Nat → Nat} {w g : Nat → Nat → Nat} (h : DS n k F S o (fun e => bt dE e) r L w g) {phi : Nat → Nat} (hP : PH k F S y dE dV r L w phi) {e0 f : Nat} (he0 : Td k y dE e0) (hf : f < r) (hfit : Fit k F S y dV L w e0 f) (htwo : phi e0 ≠ f → ∀ e, Td k y dE e → ∀ i, ∃ j, j < r ∧ j ≠ i ∧ Fit k F S y dV L w e j) : ∃ phi', PH k F S y dE dV r L w phi' ∧ phi' e0 = f := by
  by_cases c : phi e0 = f
  · exact ⟨phi, hP, c⟩
  · have htwo := htwo c
    obtain ⟨h1, h2, h3⟩ := hP
    have hf' := (h1 e0 he0).1
    have fit' := (h1 e0 he0).2
    generalize hg1 : phi e0 = g1 at c hf' fit'
    -- what conflict on one of both faces carries along
    have step : ∀ i j, i < r → j < r → i ≠ j → ∀ e1 e2, Td k y dE e1 → Td k y dE e2 → Fit k F S y dV L w e1 j → Fit k F S y dV L w e2 i → Cfl (L i) (w i) (Con k F S y dV e1) (Con k F S y dV e2) → Fit k F S y dV L w e2 j ∧ (phi e2 = i ∨ phi e2 = j) := fun i j hi hj hij e1 e2 t1 t2 f1 f2 hc => by
      have two : ∀ j', j' < r → j' ≠ i → Fit k F S y dV L w e2 j' → j' = j := fun j' q1 q2 q3 => cfl_two hFS hDm h hi hj q1 hij (Ne.symm q2) f1 q3 hc
      obtain ⟨j', q1, q2, q3⟩ := htwo e2 t2 i
      refine ⟨by rw [← two j' q1 q2 q3]; exact q3, ?_⟩
      by_cases z : phi e2 = i
      · exact Or.inl z
      · exact Or.inr (two _ (h1 e2 t2).1 z (h1 e2 t2).2)
    obtain ⟨K, hK⟩ : ∃ K : Nat → Prop, (∀ e, K e ↔ ∀ Q : Nat → Prop, Q e0 → (∀ e1 e2, Td k y dE e1 → Td k y dE e2 → Q e1 → (Frg k F S y dV e1 e2 ∨ (Fit k F S y dV L w e1 f ∧ Fit k F S y dV L w e2 f ∧ Cfl (L f) (w f) (Con k F S y dV e1) (Con k F S y dV e2)) ∨ (Fit k F S y dV L w e1 g1 ∧ Fit k F S y dV L w e2 g1 ∧ Cfl (L g1) (w g1) (Con k F S y dV e1) (Con k F S y dV e2))) → Q e2) → Q e) := ⟨_, fun e => Iff.rfl⟩
    have K0 : K e0 := (hK e0).mpr fun Q q0 _ => q0
    have Ks : ∀ e1 e2, Td k y dE e1 → Td k y dE e2 → K e1 → (Frg k F S y dV e1 e2 ∨ (Fit k F S y dV L w e1 f ∧ Fit k F S y dV L w e2 f ∧ Cfl (L f) (w f) (Con k F S y dV e1) (Con k F S y dV e2)) ∨ (Fit k F S y dV L w e1 g1 ∧ Fit k F S y dV L w e2 g1 ∧ Cfl (L g1) (w g1) (Con k F S y dV e1) (Con k F S y dV e2))) → K e2 := fun e1 e2 t1 t2 k1 hr => (hK e2).mpr fun Q q0 qs => qs e1 e2 t1 t2 ((hK e1).mp k1 Q q0 qs) hr
    have KQ : ∀ e, K e → Fit k F S y dV L w e f ∧ Fit k F S y dV L w e g1 ∧ (phi e = f ∨ phi e = g1) := fun e ke => (hK e).mp ke (fun e => Fit k F S y dV L w e f ∧ Fit k F S y dV L w e g1 ∧ (phi e = f ∨ phi e = g1)) ⟨hfit, fit', Or.inr hg1⟩ (fun e1 e2 t1 t2 q hr => by
      obtain ⟨q1, q2, q3⟩ := q
      rcases hr with z | ⟨z1, z2, z3⟩ | ⟨z1, z2, z3⟩
      · have e' := Con_same t1.1 t1.2.1 z
        refine ⟨fun v hv => q1 v (by rw [← e']; exact hv), fun v hv => q2 v (by rw [← e']; exact hv), ?_⟩
        rw [h2 e1 e2 t1 z]; exact q3
      · obtain ⟨a1, a2⟩ := step f g1 hf hf' (fun z => c z.symm) e1 e2 t1 t2 q2 z2 z3
        exact ⟨z2, a1, a2⟩
      · obtain ⟨a1, a2⟩ := step g1 f hf' hf c e1 e2 t1 t2 q1 z2 z3
        exact ⟨a1, z2, a2.symm⟩)
    obtain ⟨κ, hκ⟩ := to_bool K
    have sw : ∀ e, K e → (phi e = f ∧ (if κ e then (if phi e = f then g1 else f) else phi e) = g1) ∨ (phi e = g1 ∧ (if κ e then (if phi e = f then g1 else f) else phi e) = f) := fun e ke => by
      rw [if_pos ((hκ e).mpr ke)]
      rcases (KQ e ke).2.2 with z | z
      · rw [if_pos z]; exact Or.inl ⟨z, rfl⟩
      · rw [if_neg (fun q => c (by rw [← z, q]))]; exact Or.inr ⟨z, rfl⟩
    have ns : ∀ e, ¬ K e → (if κ e then (if phi e = f then g1 else f) else phi e) = phi e := fun e ke => if_neg (fun z => ke ((hκ e).mp z))
    -- between one that changes and one that stays
    have mix : ∀ e e2, Td k y dE e → Td k y dE e2 → K e → ¬ K e2 → ∀ i, (i = f ∨ i = g1) → phi e2 = i → ¬ Cfl (L i) (w i) (Con k F S y dV e) (Con k F S y dV e2) := fun e e2 t1 t2 k1 k2 i hi p2 hc => by
      have fe := (h1 e2 t2).2
      rw [p2] at fe
      rcases hi with z | z <;> subst z
      · exact k2 (Ks e e2 t1 t2 k1 (Or.inr (Or.inl ⟨(KQ e k1).1, fe, hc⟩)))
      · exact k2 (Ks e e2 t1 t2 k1 (Or.inr (Or.inr ⟨(KQ e k1).2.1, fe, hc⟩)))
    refine ⟨fun e => if κ e then (if phi e = f then g1 else f) else phi e, ⟨fun e te => ?_, fun e e2 te hr => ?_, fun e e2 t1 t2 hno heq hc => ?_⟩, ?_⟩
    · by_cases ke : K e
      · rcases sw e ke with ⟨_, z⟩ | ⟨_, z⟩
        · dsimp only; rw [z]; exact ⟨hf', (KQ e ke).2.1⟩
        · dsimp only; rw [z]; exact ⟨hf, (KQ e ke).1⟩
      · dsimp only; rw [ns e ke]; exact h1 e te
    · have t2 : Td k y dE e2 := td_frg hdV te hr
      have hp := h2 e e2 te hr
      have : κ e2 = κ e := by
        rw [Bool.eq_iff_iff, hκ, hκ]
        exact ⟨fun z => Ks e2 e t2 te z (Or.inl (Frg_symm te.1 te.2.1 hr)), fun z => Ks e e2 te t2 z (Or.inl hr)⟩
      dsimp only
      rw [this, hp]
    · dsimp only at heq hc
      by_cases k1 : K e <;> by_cases k2 : K e2
      · rcases sw e k1 with ⟨a1, a2⟩ | ⟨a1, a2⟩ <;> rcases sw e2 k2 with ⟨b1, b2⟩ | ⟨b1, b2⟩
        · rw [a2] at hc
          have := cfl_move hFS hDm h hf' hf c (KQ e k1).1 (KQ e2 k2).1 hc
          exact h3 e e2 t1 t2 hno (by rw [a1, b1]) (by rw [a1]; exact this)
        · rw [a2, b2] at heq; exact c heq
        · rw [a2, b2] at heq; exact c heq.symm
        · rw [a2] at hc
          have := cfl_move hFS hDm h hf hf' (fun z => c z.symm) (KQ e k1).2.1 (KQ e2 k2).2.1 hc
          exact h3 e e2 t1 t2 hno (by rw [a1, b1]) (by rw [a1]; exact this)
      · rw [ns e2 k2] at heq
        refine mix e e2 t1 t2 k1 k2 _ ?_ heq.symm hc
        rcases sw e k1 with ⟨_, z⟩ | ⟨_, z⟩
        · exact Or.inr z
        · exact Or.inl z
      · rw [ns e k1] at heq hc
        refine mix e2 e t2 t1 k2 k1 (phi e) ?_ rfl (Cfl_symm hc)
        rw [heq]
        rcases sw e2 k2 with ⟨_, z⟩ | ⟨_, z⟩
        · exact Or.inr z
        · exact Or.inl z
      · rw [ns e k1, ns e2 k2] at heq
        rw [ns e k1] at hc
        exact h3 e e2 t1 t2 hno heq hc
    · rcases sw e0 K0 with ⟨z, _⟩ | ⟨_, z⟩
      · rw [hg1] at z; exact absurd z c
      · exact z
end SW
