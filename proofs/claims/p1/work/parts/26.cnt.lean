theorem wl_cntN {dn : Nat → Bool} {st : Nat → Nat} {e : Nat} (h1 : ∀ s, e ≤ s → dn s = true) (h2 : ∀ s, st s = s + 1) : ∀ (f s : Nat), e ≤ s + f → dn (wl dn st f s) = true
  | 0, s, h => h1 s h
  | f + 1, s, h => by
    cases hd : dn s with
    | true => rw [wl_dn hd]; exact hd
    | false => rw [wl_st hd]; exact wl_cntN h1 h2 f (st s) (by rw [h2]; omega)
theorem dec_nI {x : Nat} (h : 1 ≤ x) : nI x + Int32.ofInt (-1) = nI (x - 1) := by
  cases x with
  | zero => omega
  | succ y => exact pk_m1 y
theorem nz_le {a : Nat} (ha : a < 2 ^ 31) (h : nI a ≤ 0) : a ≤ 0 := nq_le ha (by decide) (show nI a ≤ nI 0 from h)
theorem nz_nle {a : Nat} (ha : a < 2 ^ 31) (h : ¬ nI a ≤ 0) : 0 < a := nq_nle ha (by decide) (show ¬ nI a ≤ nI 0 from h)
