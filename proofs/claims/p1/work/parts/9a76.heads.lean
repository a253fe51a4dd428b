/-! heads of sets, and the components' numbers of both sides -/
theorem hd_bt (f : Nat → Int32) : ∀ m w, w < 32 → (bt (fo (pp_hd f) m 0) w = true ↔ ∃ i, i < m ∧ ¬ f i = 0 ∧ ps_least (f i) = w)
  | 0, w, _ => by
    rw [show fo (pp_hd f) 0 0 = 0 from rfl, b_0]
    constructor
    · intro h; cases h
    · rintro ⟨i, h, _⟩; omega
  | m + 1, w, hw => by
    have ih := hd_bt f m w hw
    rw [fo_s]
    unfold pp_hd
    rw [b_or, Bool.or_eq_true]
    by_cases z : f m = 0
    · have e0 : bt (f m &&& -(f m)) w = false := by rw [z, b_and, b_0]; rfl
      rw [e0]
      constructor
      · rintro (h | h)
        · obtain ⟨i, h1, h2⟩ := ih.mp h
          exact ⟨i, by omega, h2⟩
        · cases h
      · rintro ⟨i, h1, h2, h3⟩
        by_cases g : i = m
        · subst g; exact absurd z h2
        · exact Or.inl (ih.mpr ⟨i, by omega, h2, h3⟩)
    · obtain ⟨l1, l2, l3⟩ := ps_least_ok z
      have e0 : bt (f m &&& -(f m)) w = decide (w = ps_least (f m)) := by rw [b_low l1 l2 l3, b_one _ l1 w hw]
      rw [e0]
      constructor
      · rintro (h | h)
        · obtain ⟨i, h1, h2⟩ := ih.mp h
          exact ⟨i, by omega, h2⟩
        · exact ⟨m, by omega, z, (of_decide_eq_true h).symm⟩
      · rintro ⟨i, h1, h2, h3⟩
        by_cases g : i = m
        · subst g; exact Or.inr (decide_eq_true h3.symm)
        · exact Or.inl (ih.mpr ⟨i, by omega, h2, h3⟩)
theorem cn_top {n m : Nat} {f : Nat → Bool} (h : n ≤ m) (hz : ∀ i, n ≤ i → i < m → f i = false) : cn m f = cn n f := by
  obtain ⟨d, rfl⟩ : ∃ d, m = n + d := ⟨m - n, by omega⟩
  rw [cn_add, cn_congr (n := d) (g := fun _ => false) (fun i hi => hz (n + i) (by omega) (by omega)), cn_false, Nat.add_zero]
section CE
variable {n k : Nat} {E F S : Nat → Nat} {x : Int32} {C B Y : Nat → Int32} {Dp : Nat → Int32} {Pr Yb : Nat → Nat}
theorem c_least (hn : n ≤ 10) (hk : k ≤ 18) (hE : ∀ e, e < k → E (2 * e) = F e ∧ E (2 * e + 1) = S e) (hFS : ∀ e, e < k → F e < n ∧ S e < n) (hp : pcI n k F S x k C B Y) (hf : Forest n k E x Dp Pr Yb) {v : Nat} (hv : v < n) : ¬ C v = 0 ∧ ps_least (C v) = pm_rt Pr v := by
  have hEn : ∀ e, e < k → E (2 * e) < n ∧ E (2 * e + 1) < n := fun e he => by rw [(hE e he).1, (hE e he).2]; exact hFS e he
  have hC : ∀ u, u < n → (bt (C v) u = true ↔ pm_rt Pr u = pm_rt Pr v) := fun u hu => by
    rw [pc_conn hFS hp hu hv, ← rt_conn hn hk hEn hf hu hv]
    constructor
    · intro h W hW
      exact h W (fun e he hb => by have := hW e he hb; simp only [(hE e he).1, (hE e he).2] at this; exact this)
    · intro h W hW
      exact h W (fun e he hb => by have := hW e he hb; simp only [(hE e he).1, (hE e he).2]; exact this)
  have hr := rt_spec hn hf hv
  refine ⟨fun z => ?_, ?_⟩
  · have := (hC v hv).mpr rfl
    rw [z, b_0] at this; cases this
  · refine ps_least_of (by omega) ((hC _ hr.1).mpr (rt_root hn hf hv)) (fun j hj => ?_)
    cases q : bt (C v) j with
    | false => rfl
    | true =>
      have hj' : j < n := by omega
      have := (hC j hj').mp q
      have := rt_le hn hf hj'
      omega
theorem c_heads (hn : n ≤ 10) (hk : k ≤ 18) (hE : ∀ e, e < k → E (2 * e) = F e ∧ E (2 * e + 1) = S e) (hFS : ∀ e, e < k → F e < n ∧ S e < n) (hp : pcI n k F S x k C B Y) (hf : Forest n k E x Dp Pr Yb) {w : Nat} (hw : w < 32) : bt (fo (pp_hd C) n 0) w = true ↔ w < n ∧ pm_rt Pr w = w := by
  rw [hd_bt C n w hw]
  constructor
  · rintro ⟨v, h1, _, h3⟩
    have hl := (c_least hn hk hE hFS hp hf h1).2
    rw [hl] at h3
    have hr := rt_spec hn hf h1
    rw [← h3]
    exact ⟨hr.1, rt_root hn hf h1⟩
  · rintro ⟨h1, h2⟩
    have hl := c_least hn hk hE hFS hp hf h1
    exact ⟨w, h1, hl.1, by rw [hl.2, h2]⟩
theorem c_count (hn : n ≤ 10) (hk : k ≤ 18) (hE : ∀ e, e < k → E (2 * e) = F e ∧ E (2 * e + 1) = S e) (hFS : ∀ e, e < k → F e < n ∧ S e < n) (hp : pcI n k F S x k C B Y) (hf : Forest n k E x Dp Pr Yb) : jbN (fo (pp_hd C) n 0) = cn n (fun w => decide (pm_rt Pr w = w)) := by
  rw [jbN_cn, cn_top (n := n) (by omega) (fun i h1 h2 => ?_)]
  · refine cn_congr (fun i hi => ?_)
    rw [Bool.eq_iff_iff, c_heads hn hk hE hFS hp hf (by omega), decide_eq_true_iff]
    constructor
    · intro h; exact h.2
    · intro h; exact ⟨hi, h⟩
  · cases q : bt (fo (pp_hd C) n 0) i with
    | false => rfl
    | true => have := ((c_heads hn hk hE hFS hp hf h2).mp q).1; omega
theorem c_number (hn : n ≤ 10) (hk : k ≤ 18) (hE : ∀ e, e < k → E (2 * e) = F e ∧ E (2 * e + 1) = S e) (hFS : ∀ e, e < k → F e < n ∧ S e < n) (hp : pcI n k F S x k C B Y) (hf : Forest n k E x Dp Pr Yb) {v : Nat} (hv : v < n) : ps_below (fo (pp_hd C) n 0) (C v) = cn (pm_rt Pr v) (fun w => decide (pm_rt Pr w = w)) := by
  have hl := c_least hn hk hE hFS hp hf hv
  have hr := rt_spec hn hf hv
  rw [ps_below_ok hl.1, hl.2]
  refine cn_congr (fun i hi => ?_)
  rw [Bool.eq_iff_iff, c_heads hn hk hE hFS hp hf (by omega), decide_eq_true_iff]
  constructor
  · intro h; exact h.2
  · intro h; exact ⟨by omega, h⟩
end CE
