/-! numbering the blocks: both sides count first edges -/
section NU
variable {k : Nat} {B0 : Nat → Int32}
/-- f is the first with the label of j -/
def fstOf (B0 : Nat → Int32) (f j : Nat) : Prop := f ≤ j ∧ B0 f = B0 j ∧ ∀ i, i < f → ¬ B0 i = B0 j
theorem fst_ex (B0 : Nat → Int32) (j : Nat) : ∃ f, fstOf B0 f j := by
  obtain ⟨f, h1, h2, h3⟩ := least_of (n := j + 1) (P := fun i => decide (B0 i = B0 j)) ⟨j, by omega, decide_eq_true rfl⟩
  exact ⟨f, by omega, of_decide_eq_true h2, fun i hi => of_decide_eq_false (h3 i hi)⟩
theorem fst_one {f f' j : Nat} (h : fstOf B0 f j) (h' : fstOf B0 f' j) : f = f' := by
  rcases Nat.lt_trichotomy f f' with g | g | g
  · exact absurd h.2.1 (h'.2.2 f g)
  · exact g
  · exact absurd h'.2.1 (h.2.2 f' g)
theorem fst_self {f j : Nat} (h : fstOf B0 f j) : fstOf B0 f f := ⟨Nat.le_refl f, rfl, fun i hi => by rw [h.2.1]; exact h.2.2 i hi⟩
def isF (B0 : Nat → Int32) (j : Nat) : Bool := decide (∀ i, i < j → ¬ B0 i = B0 j)
theorem isF_iff {j : Nat} : isF B0 j = true ↔ fstOf B0 j j := by
  unfold isF
  rw [decide_eq_true_iff]
  exact ⟨fun h => ⟨Nat.le_refl j, rfl, h⟩, fun h => h.2.2⟩
theorem nu1_at (e : Nat) (old z : Int32) (hz : z ≠ old) (B : Nat → Int32) : ∀ m j, fo (pm_nu1 e old z) m B j = if (e ≤ j ∧ j < e + m) ∧ B j = old then z else B j
  | 0, j => by rw [if_neg (fun h => by omega)]; rfl
  | m + 1, j => by
    have ih := nu1_at e old z hz B m
    rw [fo_s]
    generalize fo (pm_nu1 e old z) m B = s at ih ⊢
    unfold pm_nu1
    have em : s (e + m) = B (e + m) := by rw [ih, if_neg (fun h => by omega)]
    rw [em]
    by_cases q : j = e + m
    · subst q
      by_cases c : B (e + m) = old
      · rw [if_pos c, if_pos ⟨by omega, c⟩]; simp [upd]
      · rw [if_neg c, if_neg (fun h => c h.2)]; simp [upd]
    · have e1 : (if (e ≤ j ∧ j < e + m) ∧ B j = old then z else B j) = (if (e ≤ j ∧ j < e + (m + 1)) ∧ B j = old then z else B j) := by
        by_cases g : (e ≤ j ∧ j < e + m) ∧ B j = old
        · rw [if_pos g, if_pos ⟨by omega, g.2⟩]
        · rw [if_neg g, if_neg (fun h => g ⟨by omega, h.2⟩)]
      by_cases c : B (e + m) = old
      · rw [if_pos c]; simp only [upd, if_neg q]; rw [ih]; exact e1
      · rw [if_neg c]; simp only [upd, if_neg q]; rw [ih]; exact e1
theorem nu2_at (hk : k ≤ 18) (hB : ∀ j, j < k → ∃ c, c < k ∧ B0 j = nI c) : ∀ m, m ≤ k → (fo (pm_nu2 k) m (0, B0)).1 = cn m (isF B0) ∧ ∀ j f, j < k → fstOf B0 f j → (f < m → (fo (pm_nu2 k) m (0, B0)).2 j = nI (100 + cn f (isF B0))) ∧ (m ≤ f → (fo (pm_nu2 k) m (0, B0)).2 j = B0 j)
  | 0, _ => ⟨rfl, fun j f _ _ => ⟨fun h => by omega, fun _ => rfl⟩⟩
  | m + 1, hm => by
    obtain ⟨i1, i2⟩ := nu2_at hk hB m (by omega)
    rw [fo_s]
    generalize fo (pm_nu2 k) m (0, B0) = s at i1 i2 ⊢
    unfold pm_nu2
    rw [cn_s]
    have hlab : ∀ c, c < k → ∀ d, d ≤ 18 → ¬ nI c = nI (100 + d) := fun c hc d hd q => by
      have := (nI_eq (by omega) (by omega)).mp q
      omega
    obtain ⟨f0, hf0⟩ := fst_ex B0 m
    have hcf : ∀ f, f ≤ 18 → cn f (isF B0) ≤ 18 := fun f hf => by have := cn_le f (isF B0); omega
    by_cases q : f0 = m
    · subst q
      have hs := (i2 f0 f0 (by omega) hf0).2 (Nat.le_refl f0)
      obtain ⟨c, hc, hBc⟩ := hB f0 (by omega)
      have hlt : ¬ (100 : Int32) ≤ s.2 f0 := by
        rw [hs, hBc, show (100 : Int32) = nI 100 from rfl, nI_leI (by omega) (by omega)]
        omega
      rw [if_neg hlt, isF_iff.mpr hf0]
      have hz : (100 : Int32) + nI s.1 = nI (100 + s.1) := by rw [show (100 : Int32) = nI 100 from rfl, nI_add]
      have hc1 := hcf f0 (by omega)
      refine ⟨by rw [i1]; rfl, fun j f hj hf => ?_⟩
      have hzo : (100 : Int32) + nI s.1 ≠ s.2 f0 := by
        rw [hz, hs, hBc, i1]
        exact fun z => hlab c hc _ hc1 z.symm
      show (_ → fo (pm_nu1 f0 (s.2 f0) (100 + nI s.1)) (k - f0) s.2 j = _) ∧ (_ → fo (pm_nu1 f0 (s.2 f0) (100 + nI s.1)) (k - f0) s.2 j = _)
      rw [nu1_at _ _ _ hzo]
      refine ⟨fun hfm => ?_, fun hfm => ?_⟩
      · by_cases g : f = f0
        · subst g
          rw [if_pos ⟨⟨hf.1, by omega⟩, by rw [(i2 j f hj hf).2 (Nat.le_refl f), hs]; exact hf.2.1.symm⟩, hz, i1]
        · have hj2 := (i2 j f hj hf).1 (by omega)
          rw [if_neg (fun z => ?_)]
          · exact hj2
          · rw [hj2, hs, hBc] at z
            exact hlab c hc _ (hcf f (by omega)) z.2.symm
      · have hj2 := (i2 j f hj hf).2 (by omega)
        rw [if_neg (fun z => ?_)]
        · exact hj2
        · rw [hj2, hs] at z
          exact hf.2.2 f0 (by omega) z.2.symm
    · have hlt : f0 < m := by have := hf0.1; omega
      have hs := (i2 m f0 (by omega) hf0).1 hlt
      have hge : (100 : Int32) ≤ s.2 m := by
        have := hcf f0 (by omega)
        rw [hs, show (100 : Int32) = nI 100 from rfl, nI_leI (by omega) (by omega)]
        omega
      have hnF : isF B0 m = false := by
        cases z : isF B0 m with
        | false => rfl
        | true => exact absurd (fst_one hf0 (isF_iff.mp z)) q
      rw [if_pos hge, hnF]
      refine ⟨i1, fun j f hj hf => ⟨fun hfm => ?_, fun hfm => (i2 j f hj hf).2 (by omega)⟩⟩
      have : f ≠ m := fun z => by
        rw [z] at hf
        have := isF_iff.mpr (fst_self hf)
        rw [hnF] at this; cases this
      exact (i2 j f hj hf).1 (by omega)
theorem nu3_at (B : Nat → Int32) : ∀ m j, fo pm_nu3 m B j = if j < m then B j - 100 else B j
  | 0, j => by rw [if_neg (by omega)]; rfl
  | m + 1, j => by
    have ih := nu3_at B m
    rw [fo_s]
    generalize fo pm_nu3 m B = s at ih ⊢
    unfold pm_nu3
    have em : s m = B m := by rw [ih, if_neg (by omega)]
    rw [em]
    by_cases q : j = m
    · subst q; rw [if_pos (by omega)]; simp [upd]
    · simp only [upd, if_neg q]
      rw [ih]
      by_cases g : j < m
      · rw [if_pos g, if_pos (by omega)]
      · rw [if_neg g, if_neg (by omega)]
/-- the reference's numbers -/
theorem nu_at (hk : k ≤ 18) (hB : ∀ j, j < k → ∃ c, c < k ∧ B0 j = nI c) : (fo (pm_nu2 k) k (0, B0)).1 = cn k (isF B0) ∧ ∀ j f, j < k → fstOf B0 f j → fo pm_nu3 k (fo (pm_nu2 k) k (0, B0)).2 j = nI (cn f (isF B0)) := by
  obtain ⟨h1, h2⟩ := nu2_at hk hB k (Nat.le_refl k)
  refine ⟨h1, fun j f hj hf => ?_⟩
  have hfj := hf.1
  rw [nu3_at, if_pos hj, (h2 j f hj hf).1 (by omega), show (100 : Int32) = nI 100 from rfl, pk_sub (by omega), Nat.add_sub_cancel_left]
end NU
section BE
variable {n k : Nat} {F S : Nat → Nat} {x : Int32} {C B Y : Nat → Int32} {B0 : Nat → Int32}
theorem b_least (hk : k ≤ 18) (hp : pcI n k F S x k C B Y) (hx : ∀ e, e < k → bt x e = true) (hB0 : ∀ e f, e < k → f < k → (B0 e = B0 f ↔ Blk n k F S x e f)) {e f : Nat} (he : e < k) (hf : fstOf B0 f e) : ¬ B e = 0 ∧ ps_least (B e) = f := by
  have hfe := hf.1
  have hb := pc_blk hp he (hx e he)
  refine ⟨fun z => ?_, ps_least_of (by omega) ?_ (fun j hj => ?_)⟩
  · have := (hb e).mpr ⟨he, hx e he, fun _ _ => rfl⟩
    rw [z, b_0] at this; cases this
  · exact (hb f).mpr ⟨by omega, hx f (by omega), (hB0 e f he (by omega)).mp hf.2.1.symm⟩
  · cases q : bt (B e) j with
    | false => rfl
    | true =>
      obtain ⟨a, _, c⟩ := (hb j).mp q
      exact absurd ((hB0 e j he a).mpr c).symm (hf.2.2 j hj)
theorem b_heads (hk : k ≤ 18) (hp : pcI n k F S x k C B Y) (hx : ∀ e, e < k → bt x e = true) (hB0 : ∀ e f, e < k → f < k → (B0 e = B0 f ↔ Blk n k F S x e f)) {w : Nat} (hw : w < 32) : bt (fo (pp_hd B) k 0) w = true ↔ w < k ∧ isF B0 w = true := by
  rw [hd_bt B k w hw]
  constructor
  · rintro ⟨e, h1, _, h3⟩
    obtain ⟨f, hf⟩ := fst_ex B0 e
    have hl := (b_least hk hp hx hB0 h1 hf).2
    rw [hl] at h3
    subst h3
    exact ⟨by have := hf.1; omega, isF_iff.mpr (fst_self hf)⟩
  · rintro ⟨h1, h2⟩
    have hf := isF_iff.mp h2
    have hl := b_least hk hp hx hB0 h1 hf
    exact ⟨w, h1, hl.1, hl.2⟩
theorem b_count (hk : k ≤ 18) (hp : pcI n k F S x k C B Y) (hx : ∀ e, e < k → bt x e = true) (hB0 : ∀ e f, e < k → f < k → (B0 e = B0 f ↔ Blk n k F S x e f)) : jbN (fo (pp_hd B) k 0) = cn k (isF B0) := by
  rw [jbN_cn, cn_top (n := k) (by omega) (fun i h1 h2 => ?_)]
  · refine cn_congr (fun i hi => ?_)
    rw [Bool.eq_iff_iff, b_heads hk hp hx hB0 (by omega)]
    exact ⟨fun h => h.2, fun h => ⟨hi, h⟩⟩
  · cases q : bt (fo (pp_hd B) k 0) i with
    | false => rfl
    | true => have := ((b_heads hk hp hx hB0 h2).mp q).1; omega
theorem b_number (hk : k ≤ 18) (hp : pcI n k F S x k C B Y) (hx : ∀ e, e < k → bt x e = true) (hB0 : ∀ e f, e < k → f < k → (B0 e = B0 f ↔ Blk n k F S x e f)) {e f : Nat} (he : e < k) (hf : fstOf B0 f e) : ps_below (fo (pp_hd B) k 0) (B e) = cn f (isF B0) := by
  have hl := b_least hk hp hx hB0 he hf
  have hfe := hf.1
  rw [ps_below_ok hl.1, hl.2]
  refine cn_congr (fun i hi => ?_)
  rw [Bool.eq_iff_iff, b_heads hk hp hx hB0 (by omega)]
  exact ⟨fun h => h.2, fun h => ⟨by omega, h⟩⟩
end BE
