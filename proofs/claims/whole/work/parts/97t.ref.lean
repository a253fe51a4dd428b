/-! what the reference works out -/
/-- what is left when edges are taken out one by one, as long as the rest cannot be laid -/
noncomputable def coreN (n k : Nat) (F S : Nat → Nat) : Nat → Int32
  | 0 => ps_all k
  | e + 1 => @ite Int32 (pg_PP n k F S (Xi (coreN n k F S e &&& ((1 <<< (nI e &&& 31)) ^^^ (-1))) k)) (Classical.propDecidable _) (coreN n k F S e) (coreN n k F S e &&& ((1 <<< (nI e &&& 31)) ^^^ (-1)))
theorem core_keep {n k : Nat} {F S : Nat → Nat} {e : Nat} (h : pg_PP n k F S (Xi (coreN n k F S e &&& ((1 <<< (nI e &&& 31)) ^^^ (-1))) k)) : coreN n k F S (e + 1) = coreN n k F S e := by
  show @ite Int32 _ (Classical.propDecidable _) _ _ = _
  rw [if_pos h]
theorem core_drop {n k : Nat} {F S : Nat → Nat} {e : Nat} (h : ¬ pg_PP n k F S (Xi (coreN n k F S e &&& ((1 <<< (nI e &&& 31)) ^^^ (-1))) k)) : coreN n k F S (e + 1) = coreN n k F S e &&& ((1 <<< (nI e &&& 31)) ^^^ (-1)) := by
  show @ite Int32 _ (Classical.propDecidable _) _ _ = _
  rw [if_neg h]
abbrev IFS : Type := (Nat → Int32) × (Nat → Nat) × (Nat → Nat) × (Nat → Nat) × (Nat → Nat) × (Nat → Nat) × (Nat → Nat) × (Nat → Int32) × (Nat → Int32) × (Nat → Int32) × Bool
abbrev WKS : Type := Bool × Bool × Nat × Int32 × Int32 × Int64 × Int32 × Bool × (Nat → Int32) × (Nat → Int32) × (Nat → Int32) × (Nat → Nat) × (Nat → Nat) × (Nat → Nat) × (Nat → Nat) × (Nat → Nat) × (Nat → Nat) × (Nat → Int32) × (Nat → Int32) × (Nat → Int32)
def RefOK (n k : Nat) (E : Nat → Nat) (w : Nat → Int32) (fl : Bool) (cm : Nat) (bl sd : Int32) (sm : Int64) (co : Int32) (Cp Bk : Nat → Int32) : Prop :=
  (fl = true ↔ pg_PP n k (eF E) (eS E) (Xi (ps_all k) k)) ∧
  (∃ Dp Pr Yb, Forest n k E (ps_all k) Dp Pr Yb ∧ cm = cn n (fun w => decide (pm_rt Pr w = w)) ∧ ∀ v, v < n → Cp v = nI (cn (pm_rt Pr v) (fun w => decide (pm_rt Pr w = w)))) ∧
  (∃ B0 : Nat → Int32, (∀ e f, e < k → f < k → (B0 e = B0 f ↔ Blk n k (eF E) (eS E) (ps_all k) e f)) ∧ bl = nI (cn k (isF B0)) ∧ ∀ j f, j < k → fstOf B0 f j → Bk j = nI (cn f (isF B0))) ∧
  (fl = true → sd = (pm_sp n k E w Cp).2.1 ∧ sm = (pm_sp n k E w Cp).2.2 ∧ co = 0) ∧ (fl = false → co = coreN n k (eF E) (eS E) k)
abbrev RefS (n k : Nat) (E : Nat → Nat) (w : Nat → Int32) (R : WKS) : Prop := RefOK n k E w R.2.1 R.2.2.1 R.2.2.2.1 R.2.2.2.2.1 R.2.2.2.2.2.1 R.2.2.2.2.2.2.1 R.2.2.2.2.2.2.2.2.1 R.2.2.2.2.2.2.2.2.2.1
section RF
variable {n k : Nat} {E : Nat → Nat} {w : Nat → Int32}
theorem plS_forest (hn : n ≤ 10) (hk : k ≤ 18) (hE : ∀ j, E j < 10) (hEn : ∀ e, e < k → E (2 * e) < n ∧ E (2 * e + 1) < n) (hne : ∀ e, e < k → E (2 * e) ≠ E (2 * e + 1)) (x : Int32) {s : IFS} (hPr : ∀ j, s.2.1 j ≤ 10) : Forest n k E x (pm_plS n k E x s).1 (pm_plS n k E x s).2.1 (pm_plS n k E x s).2.2.1 ∧ ∀ j, (pm_plS n k E x s).2.1 j ≤ 10 :=
  ⟨fR_forest hn hE hEn hne (pl_R (x := x) hn hk hE hEn hne s.1 s.2.1 s.2.2.1 s.2.2.2.1 s.2.2.2.2.1 hPr), ((GOK_ok hn hk hE hEn hne).1 x s.1 s.2.1 s.2.2.1 s.2.2.2.1 s.2.2.2.2.1 hPr).2.1⟩
theorem end_ok (hn : n ≤ 10) (hk : k ≤ 18) (hE : ∀ j, E j < 10) (hEn : ∀ e, e < k → E (2 * e) < n ∧ E (2 * e + 1) < n) (hne : ∀ e, e < k → E (2 * e) ≠ E (2 * e + 1)) (fl : Bool) (co : Int32) (sm : Int64) (Cp Bk : Nat → Int32) (cf : Bool) {s : IFS} (hPr : ∀ j, s.2.1 j ≤ 10) :
    (∃ Dp Pr Yb, Forest n k E (ps_all k) Dp Pr Yb ∧ (pm_end n k E w fl co sm Cp Bk cf s).2.2.1 = cn n (fun w => decide (pm_rt Pr w = w)) ∧ ∀ v, v < n → (pm_end n k E w fl co sm Cp Bk cf s).2.2.2.2.2.2.2.2.1 v = nI (cn (pm_rt Pr v) (fun w => decide (pm_rt Pr w = w)))) ∧
    ∃ B0 : Nat → Int32, (∀ e f, e < k → f < k → (B0 e = B0 f ↔ Blk n k (eF E) (eS E) (ps_all k) e f)) ∧ (pm_end n k E w fl co sm Cp Bk cf s).2.2.2.1 = nI (cn k (isF B0)) ∧ ∀ j f, j < k → fstOf B0 f j → (pm_end n k E w fl co sm Cp Bk cf s).2.2.2.2.2.2.2.2.2.1 j = nI (cn f (isF B0)) := by
  obtain ⟨F1, P1⟩ := plS_forest hn hk hE hEn hne (ps_all k) hPr
  obtain ⟨F2, _⟩ := plS_forest hn hk hE hEn hne (ps_all k) P1
  refine ⟨⟨_, _, _, F1, (fc_at hn F1 Cp n (Nat.le_refl n)).1, (fc_at hn F1 Cp n (Nat.le_refl n)).2⟩, ?_⟩
  obtain ⟨r1, r2⟩ := f2_ok hn hk hEn hne F2 (pm_plS n k E (ps_all k) s).2.2.2.2.2.1 (pm_plS n k E (ps_all k) s).2.2.2.2.2.2.1 Bk k (Nat.le_refl k)
  obtain ⟨u1, u2⟩ := nu_at hk r1.1
  exact ⟨_, fun e f he hf => rb_blk hn hk hEn hne F2 r1 r2 he hf, congrArg nI u1, u2⟩
theorem core_at (hn : n ≤ 10) (hk : k ≤ 18) (hE : ∀ j, E j < 10) (hEn : ∀ e, e < k → E (2 * e) < n ∧ E (2 * e + 1) < n) (hne : ∀ e, e < k → E (2 * e) ≠ E (2 * e + 1)) {s : IFS} (h : pm_rng s) : ∀ m, (fo (pm_wk1 n k E) m (ps_all k, s)).1 = coreN n k (eF E) (eS E) m
  | 0 => rfl
  | m + 1 => by
    have ih := core_at hn hk hE hEn hne h m
    have hr := pm_wk_rng (GOK_ok hn hk hE hEn hne).1 hE (ps_all k) h m
    rw [fo_s]
    generalize fo (pm_wk1 n k E) m (ps_all k, s) = c at ih hr ⊢
    show (if pm_cfl (pm_isf n k E (c.1 &&& ((1 <<< (nI m &&& 31)) ^^^ (-1))) c.2) = true then c.1 &&& ((1 <<< (nI m &&& 31)) ^^^ (-1)) else c.1) = coreN n k (eF E) (eS E) (m + 1)
    rw [ih]
    have hp := isf_pp hn hk hE hEn hne (coreN n k (eF E) (eS E) m &&& ((1 <<< (nI m &&& 31)) ^^^ (-1))) c.2 hr.1
    by_cases q : pg_PP n k (eF E) (eS E) (Xi (coreN n k (eF E) (eS E) m &&& ((1 <<< (nI m &&& 31)) ^^^ (-1))) k)
    · rw [core_keep q, if_neg (by rw [hp.mpr q]; decide)]
    · rw [core_drop q, if_pos (by
        cases z : pm_cfl (pm_isf n k E (coreN n k (eF E) (eS E) m &&& ((1 <<< (nI m &&& 31)) ^^^ (-1))) c.2) with
        | true => rfl
        | false => exact absurd (hp.mp z) q)]
theorem work_ok (hn : n ≤ 10) (hk : k ≤ 18) (hE : ∀ j, E j < 10) (hEn : ∀ e, e < k → E (2 * e) < n ∧ E (2 * e + 1) < n) (hne : ∀ e, e < k → E (2 * e) ≠ E (2 * e + 1)) {s : WKS} (hwk : s.1 = false) (hr : pm_rng (pm_ms s)) : RefS n k E w (pm_work n k E w s) := by
  have hG := (GOK_ok hn hk hE hEn hne).1
  have hp := isf_pp hn hk hE hEn hne (ps_all k) (pm_ms s) hr.1
  have r1 := pm_isf_rng hG hE (ps_all k) hr
  have e : pm_work n k E w s = pm_workB s.1 (pm_cfl (pm_isf n k E (ps_all k) (pm_ms s))) s (pm_end n k E w false (pm_core n k E (pm_ms s)).1 s.2.2.2.2.2.1 s.2.2.2.2.2.2.2.2.1 s.2.2.2.2.2.2.2.2.2.1 (pm_cfl (pm_core n k E (pm_ms s)).2) (pm_core n k E (pm_ms s)).2) (pm_end n k E w true 0 s.2.2.2.2.2.1 s.2.2.2.2.2.2.2.2.1 s.2.2.2.2.2.2.2.2.2.1 false (pm_isf n k E (ps_all k) (pm_ms s))) := rfl
  rw [e, hwk]
  cases hc : pm_cfl (pm_isf n k E (ps_all k) (pm_ms s)) with
  | true =>
    show RefS n k E w (pm_end n k E w false (pm_core n k E (pm_ms s)).1 s.2.2.2.2.2.1 s.2.2.2.2.2.2.2.2.1 s.2.2.2.2.2.2.2.2.2.1 (pm_cfl (pm_core n k E (pm_ms s)).2) (pm_core n k E (pm_ms s)).2)
    have r2 : pm_rng (pm_core n k E (pm_ms s)).2 := pm_wk_rng hG hE (ps_all k) r1 k
    obtain ⟨q1, q2⟩ := end_ok (w := w) hn hk hE hEn hne false (pm_core n k E (pm_ms s)).1 s.2.2.2.2.2.1 s.2.2.2.2.2.2.2.2.1 s.2.2.2.2.2.2.2.2.2.1 (pm_cfl (pm_core n k E (pm_ms s)).2) r2.1
    refine ⟨⟨fun z => ?_, fun z => ?_⟩, q1, q2, fun z => ?_, fun _ => core_at hn hk hE hEn hne r1 k⟩
    · have z' : false = true := z
      cases z'
    · rw [hp.mpr z] at hc; cases hc
    · have z' : false = true := z
      cases z'
  | false =>
    show RefS n k E w (pm_end n k E w true 0 s.2.2.2.2.2.1 s.2.2.2.2.2.2.2.2.1 s.2.2.2.2.2.2.2.2.2.1 false (pm_isf n k E (ps_all k) (pm_ms s)))
    obtain ⟨q1, q2⟩ := end_ok (w := w) hn hk hE hEn hne true 0 s.2.2.2.2.2.1 s.2.2.2.2.2.2.2.2.1 s.2.2.2.2.2.2.2.2.2.1 false r1.1
    refine ⟨⟨fun _ => hp.mp hc, fun _ => rfl⟩, q1, q2, fun _ => ⟨rfl, rfl, rfl⟩, fun z => ?_⟩
    have z' : true = false := z
    cases z'
end RF
