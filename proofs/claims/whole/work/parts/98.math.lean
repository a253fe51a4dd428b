/-! the law's invariant, kept by every call; class and reference give every answer alike -/
def rIv (n k : Nat) (F S : Nat → Nat) (w : Nat → Int32) (z : LM) : Prop := z.n = n ∧ z.k = k ∧ z.w = w ∧ (∀ e, z.E (2 * e) = F e ∧ z.E (2 * e + 1) = S e) ∧ pm_rng ((z.Dp, z.Pr, z.Yb, z.nx, z.sk, z.dq, z.sh, z.gp, z.hd, z.fg, z.cf) : IFS) ∧ (z.wk = true → RefOK z.n z.k z.E z.w z.fl z.cm z.bl z.sd z.sm z.co z.Cp z.Bk)
def lwI (_ : Nat) (q : LX) (z : LM) : Prop := cIv q ∧ rIv q.n q.k q.F q.S q.w z
theorem ps_in_ex {v9 : Int32} {n : Nat} (h : ps_in v9 (nI n) = true) : ∃ v, v < n ∧ v9 = nI v := by
  unfold ps_in at h
  rw [Bool.and_eq_true, Bool.not_eq_true', Bool.not_eq_true', decide_eq_false_iff_not, decide_eq_false_iff_not] at h
  obtain ⟨j, j1, rfl⟩ := nI_of h.1
  refine ⟨j, ?_, rfl⟩
  rcases Nat.lt_or_ge j n with c | c
  · exact c
  · exact absurd (nI_le c j1) h.2
theorem pm_work_t {n k : Nat} {E : Nat → Nat} {w : Nat → Int32} {s : WKS} (h : s.1 = true) : pm_work n k E w s = s := by
  unfold pm_work
  rw [h]
  rfl
theorem z_E {q : LX} {z : LM} (hc : cIv q) (hr : rIv q.n q.k q.F q.S q.w z) : ∀ j, z.E j < 10 := fun j => by
  have h := hr.2.2.2.1 (j / 2)
  rcases Nat.mod_two_eq_zero_or_one j with c | c
  · rw [show j = 2 * (j / 2) from by omega, h.1]; exact hc.2.2.2.1 _
  · rw [show j = 2 * (j / 2) + 1 from by omega, h.2]; exact hc.2.2.2.2.1 _
theorem z_En {q : LX} {z : LM} (hc : cIv q) (hr : rIv q.n q.k q.F q.S q.w z) : (z.n ≤ 10 ∧ z.k ≤ 18) ∧ (∀ e, e < z.k → z.E (2 * e) < z.n ∧ z.E (2 * e + 1) < z.n) ∧ ∀ e, e < z.k → z.E (2 * e) ≠ z.E (2 * e + 1) := by
  obtain ⟨h1, h2, h3, _⟩ := hc
  obtain ⟨e1, e2, _, e4, _⟩ := hr
  rw [e1, e2]
  refine ⟨⟨h1, h2⟩, fun e he => ?_, fun e he => ?_⟩
  · rw [(e4 e).1, (e4 e).2]; exact ⟨(h3 e he).1, (h3 e he).2.1⟩
  · rw [(e4 e).1, (e4 e).2]; exact (h3 e he).2.2
theorem z_G {q : LX} {z : LM} (hc : cIv q) (hr : rIv q.n q.k q.F q.S q.w z) : pm_GOK z.n z.k z.E := GOK_ok (z_En hc hr).1.1 (z_En hc hr).1.2 (z_E hc hr) (z_En hc hr).2.1 (z_En hc hr).2.2
theorem z_rng {q : LX} {z : LM} (hc : cIv q) (hr : rIv q.n q.k q.F q.S q.w z) : pm_rng (pm_ms (mW z)) := pm_work_rng (z_G hc hr).1 (z_E hc hr) hr.2.2.2.2.1
theorem z_ref {q : LX} {z : LM} (hc : cIv q) (hr : rIv q.n q.k q.F q.S q.w z) : RefS z.n z.k z.E z.w (mW z) := by
  cases hw : z.wk with
  | true =>
    have e : mW z = (z.wk, z.fl, z.cm, z.bl, z.sd, z.sm, z.co, z.cf, z.Cp, z.Bk, z.Dp, z.Pr, z.Yb, z.nx, z.sk, z.dq, z.sh, z.gp, z.hd, z.fg) := pm_work_t hw
    rw [e]
    exact hr.2.2.2.2.2 hw
  | false => exact work_ok (z_En hc hr).1.1 (z_En hc hr).1.2 (z_E hc hr) (z_En hc hr).2.1 (z_En hc hr).2.2 hw hr.2.2.2.2.1
theorem z_refq {q : LX} {z : LM} (hc : cIv q) (hr : rIv q.n q.k q.F q.S q.w z) : RefS q.n q.k z.E q.w (mW z) := by
  have h := z_ref hc hr
  obtain ⟨e1, e2, e3, _⟩ := hr
  generalize mW z = R at h ⊢
  rw [e1, e2, e3] at h
  exact h
theorem zW_ok {q : LX} {z : LM} (hc : cIv q) (hr : rIv q.n q.k q.F q.S q.w z) : rIv q.n q.k q.F q.S q.w ((z.n, z.k, z.E, z.w, mW z) : LM) := ⟨hr.1, hr.2.1, hr.2.2.1, hr.2.2.2.1, z_rng hc hr, fun _ => z_ref hc hr⟩
theorem cP_ok {q : LX} (h : cIv q) : cIv ((q.n, q.k, q.F, q.S, q.w, true, q.tk, q.sk, q.wk, q.tg, q.ws, (xP q).1, (xP q).2.1, (xP q).2.2.1, (xP q).2.2.2.1, (xP q).2.2.2.2, q.C9, q.B9, q.Y9, q.ch9, q.bh9, q.dr, q.V, q.so, q.gr) : LX) := by
  have hP := xP_ok h
  obtain ⟨h1, h2, h3, h4, h5, h6, h7, h8, h9, h10, h11⟩ := h
  refine ⟨h1, h2, h3, h4, h5, h6, h7, fun _ => hP, fun ht => ⟨rfl, ?_⟩, h10, h11⟩
  obtain ⟨a1, a2⟩ := h9 ht
  have ep : (xP q).2.1 = q.B := by unfold xP xs_ps; rw [a1]; rfl
  show Tgl q.n q.k q.F q.S (ps_all q.k) (xP q).2.1 q.tg
  rw [ep]
  exact a2
theorem cT_ok {q : LX} (h : cIv q) : cIv ((q.n, q.k, q.F, q.S, q.w, true, true, q.sk, q.wk, (xT q).2.1, q.ws, (xT q).1.1, (xT q).1.2.1, (xT q).1.2.2.1, (xT q).1.2.2.2.1, (xT q).1.2.2.2.2, q.C9, q.B9, q.Y9, q.ch9, q.bh9, (xT q).2.2, q.V, q.so, q.gr) : LX) := by
  have hP := xP_ok h
  obtain ⟨t1, t2, t3, t4, t5⟩ := xT_ok h
  obtain ⟨h1, h2, h3, h4, h5, h6, h7, h8, h9, h10, h11⟩ := h
  rw [← t1] at hP t2
  exact ⟨h1, h2, h3, h4, h5, h6, t3, fun _ => hP, fun _ => ⟨rfl, t2⟩, h10, h11⟩
theorem cK_ok {q : LX} (h : cIv q) : cIv ((q.n, q.k, q.F, q.S, q.w, true, true, true, q.wk, (xT q).2.1, q.ws, (xT q).1.1, (xT q).1.2.1, (xT q).1.2.2.1, (xT q).1.2.2.2.1, (xT q).1.2.2.2.2, q.C9, q.B9, q.Y9, q.ch9, q.bh9, (xT q).2.2, (xK q).2.2, (xK q).1, (xK q).2.1) : LX) := by
  have hP := xP_ok h
  have hK := xK_ok h
  obtain ⟨t1, t2, t3, t4, t5⟩ := xT_ok h
  obtain ⟨h1, h2, h3, h4, h5, h6, h7, h8, h9, h10, h11⟩ := h
  rw [← t1] at hP t2
  exact ⟨h1, h2, h3, h4, h5, h6, t3, fun _ => hP, fun _ => ⟨rfl, t2⟩, fun _ => hK, h11⟩
theorem cU_ok {q : LX} (h : cIv q) : cIv ((q.n, q.k, q.F, q.S, q.w, true, true, q.sk, true, (xT q).2.1, (xU q).1, (xT q).1.1, (xT q).1.2.1, (xT q).1.2.2.1, (xT q).1.2.2.2.1, (xT q).1.2.2.2.2, (xU q).2.1, (xU q).2.2.1, (xU q).2.2.2.1, (xU q).2.2.2.2.1, (xU q).2.2.2.2.2.1, (xU q).2.2.2.2.2.2, q.V, q.so, q.gr) : LX) := by
  have hP := xP_ok h
  obtain ⟨u1, u2, _⟩ := xU_ok h
  obtain ⟨t1, t2, t3, t4, t5⟩ := xT_ok h
  obtain ⟨h1, h2, h3, h4, h5, h6, h7, h8, h9, h10, h11⟩ := h
  rw [← t1] at hP t2
  exact ⟨h1, h2, h3, h4, h5, h6, u2, fun _ => hP, fun _ => ⟨rfl, t2⟩, h10, fun _ => u1⟩
theorem lw_0 : lwI 0 lq0 lz0 := by
  refine ⟨⟨by decide, by decide, fun e h => absurd h (Nat.not_lt_zero e), fun _ => (by decide : (0 : Nat) < 10), fun _ => (by decide : (0 : Nat) < 10), fun e h => absurd h (Nat.not_lt_zero e), ⟨fun _ => (by decide : (0 : Nat) ≤ 10), fun _ => (by decide : (0 : Nat) < 18)⟩, fun z => ?_, fun z => ?_, fun z => ?_, fun z => ?_⟩, rfl, rfl, rfl, fun e => ⟨rfl, rfl⟩, ⟨fun _ => (by decide : (1 : Nat) ≤ 10), fun _ => (by decide : (0 : Nat) < 10), fun _ => (by decide : (0 : Nat) < 10)⟩, fun z => ?_⟩ <;> (have z' : false = true := z; cases z')
theorem lm_begin {q : LX} {z : LM} (hc : cIv q) (hr : rIv q.n q.k q.F q.S q.w z) (j : Nat) (n9 : Int32) : ∃ r9 q9 z9, XS_begin q n9 r9 q9 ∧ MS_begin z n9 r9 z9 ∧ lwI (j + 1) q9 z9 := by
  by_cases h : n9 < 0 ∨ ¬ n9 ≤ 10
  · exact ⟨_, _, _, Or.inr ⟨h, rfl, rfl⟩, Or.inr ⟨h, rfl, rfl⟩, hc, hr⟩
  · obtain ⟨m, hm, rfl⟩ := nI_of2 (M := 10) (n := 10) (by decide) (fun z => h (Or.inl z)) (Classical.byContradiction fun z => h (Or.inr z))
    obtain ⟨h1, h2, h3, h4, h5, h6, h7, h8, h9, h10, h11⟩ := hc
    obtain ⟨e1, e2, e3, e4, e5, e6⟩ := hr
    refine ⟨_, _, _, Or.inl ⟨m, rfl, hm, rfl, rfl⟩, Or.inl ⟨m, rfl, hm, rfl, rfl⟩, ⟨hm, Nat.zero_le _, fun e h => absurd h (Nat.not_lt_zero e), h4, h5, fun e h => absurd h (Nat.not_lt_zero e), h7, fun z => ?_, fun z => ?_, fun z => ?_, fun z => ?_⟩, rfl, rfl, e3, e4, e5, fun z => ?_⟩ <;> (have z' : false = true := z; cases z')
theorem lm_add {q : LX} {z : LM} (hc : cIv q) (hr : rIv q.n q.k q.F q.S q.w z) (j : Nat) (u9 v9 w9 : Int32) : ∃ r9 q9 z9, XS_add q u9 v9 w9 r9 q9 ∧ MS_add z u9 v9 w9 r9 z9 ∧ lwI (j + 1) q9 z9 := by
  have hc0 := hc
  have hr0 := hr
  obtain ⟨h1, h2, h3, h4, h5, h6, h7, h8, h9, h10, h11⟩ := hc
  obtain ⟨e1, e2, e3, e4, e5, e6⟩ := hr
  have k18 : nI q.k < 18 ↔ q.k < 18 := nI_ltI (b := 18) (by omega) (by omega)
  have k18' : nI q.k = 18 ↔ q.k = 18 := nI_eq (b := 18) (by omega) (by omega)
  by_cases h : ps_in u9 (nI q.n) = true ∧ ps_in v9 (nI q.n) = true ∧ ¬ u9 = v9 ∧ ¬ w9 < 0 ∧ nI q.k < 18
  · obtain ⟨a1, a2, a3, a4, a5⟩ := h
    obtain ⟨u, hu, rfl⟩ := ps_in_ex a1
    obtain ⟨v, hv, rfl⟩ := ps_in_ex a2
    have huv : u ≠ v := fun z => a3 (by rw [z])
    have hk := k18.mp a5
    refine ⟨nI q.k, _, _, Or.inl ⟨u, v, rfl, rfl, h1, hk, hu, hv, huv, a4, rfl, rfl⟩, Or.inl ⟨u, v, rfl, rfl, by rw [e1]; exact h1, by rw [e2]; exact hk, by rw [e1]; exact hu, by rw [e1]; exact hv, huv, a4, by rw [e2], rfl⟩, ⟨h1, by show q.k + 1 ≤ 18; omega, fun e he => ?_, fun i => ?_, fun i => ?_, fun e he => ?_, h7, fun z => ?_, fun z => ?_, fun z => ?_, fun z => ?_⟩, e1, by show z.k + 1 = q.k + 1; rw [e2], by show upd z.w z.k w9 = upd q.w q.k w9; rw [e2, e3], fun e => ?_, e5, fun z => ?_⟩
    · have he' : e < q.k + 1 := he
      show va_up q.F q.k u e < q.n ∧ va_up q.S q.k v e < q.n ∧ va_up q.F q.k u e ≠ va_up q.S q.k v e
      unfold va_up
      by_cases c : e = q.k
      · rw [if_pos c, if_pos c]; exact ⟨hu, hv, huv⟩
      · rw [if_neg c, if_neg c]; exact h3 e (by omega)
    · show va_up q.F q.k u i < 10
      unfold va_up
      by_cases c : i = q.k
      · rw [if_pos c]; omega
      · rw [if_neg c]; exact h4 i
    · show va_up q.S q.k v i < 10
      unfold va_up
      by_cases c : i = q.k
      · rw [if_pos c]; omega
      · rw [if_neg c]; exact h5 i
    · have he' : e < q.k + 1 := he
      show 0 ≤ (upd q.w q.k w9 e).toInt
      unfold upd
      by_cases c : e = q.k
      · rw [if_pos c]
        rw [Int32.lt_iff_toInt_lt] at a4
        have : (0 : Int32).toInt = 0 := by decide
        omega
      · rw [if_neg c]; exact h6 e (by omega)
    · have z' : false = true := z; cases z'
    · have z' : false = true := z; cases z'
    · have z' : false = true := z; cases z'
    · have z' : false = true := z; cases z'
    · show va_up (va_up z.E (2 * z.k) u) (2 * z.k + 1) v (2 * e) = va_up q.F q.k u e ∧ va_up (va_up z.E (2 * z.k) u) (2 * z.k + 1) v (2 * e + 1) = va_up q.S q.k v e
      unfold va_up
      rw [e2]
      by_cases c : e = q.k
      · constructor
        · rw [if_neg (by omega), if_pos (by omega), if_pos c]
        · rw [if_pos (by omega), if_pos c]
      · constructor
        · rw [if_neg (by omega), if_neg (by omega), if_neg c]; exact (e4 e).1
        · rw [if_neg (by omega), if_neg (by omega), if_neg c]; exact (e4 e).2
    · have z' : false = true := z; cases z'
  · refine ⟨_, _, _, Or.inr ⟨h, rfl, rfl⟩, Or.inr ⟨fun g => h ?_, rfl, rfl⟩, hc0, hr0⟩
    rw [e1, e2] at g
    refine ⟨g.1, g.2.1, g.2.2.1, g.2.2.2.1, k18.mpr ?_⟩
    have h18 : ¬ q.k = 18 := fun y => g.2.2.2.2 (k18'.mpr y)
    omega
theorem lm_undo {q : LX} {z : LM} (hc : cIv q) (hr : rIv q.n q.k q.F q.S q.w z) (j : Nat) : ∃ r9 q9 z9, XS_undo q r9 q9 ∧ MS_undo z r9 z9 ∧ lwI (j + 1) q9 z9 := by
  have hc0 := hc
  have hr0 := hr
  obtain ⟨h1, h2, h3, h4, h5, h6, h7, h8, h9, h10, h11⟩ := hc
  obtain ⟨e1, e2, e3, e4, e5, e6⟩ := hr
  by_cases h : q.k = 0
  · exact ⟨_, _, _, Or.inr ⟨h, rfl, rfl⟩, Or.inr ⟨by rw [e2]; exact h, rfl, rfl⟩, hc0, hr0⟩
  · refine ⟨_, _, _, Or.inl ⟨h2, by omega, rfl, rfl⟩, Or.inl ⟨by rw [e2]; exact h2, by rw [e2]; omega, by rw [e2], rfl⟩, ⟨h1, by show q.k - 1 ≤ 18; omega, fun e he => h3 e ?_, h4, h5, fun e he => h6 e ?_, h7, fun z => ?_, fun z => ?_, fun z => ?_, fun z => ?_⟩, e1, by show z.k - 1 = q.k - 1; rw [e2], e3, e4, e5, fun z => ?_⟩
    · have : e < q.k - 1 := he
      omega
    · have : e < q.k - 1 := he
      omega
    all_goals (have z' : false = true := z; cases z')
theorem lm_weigh {q : LX} {z : LM} (hc : cIv q) (hr : rIv q.n q.k q.F q.S q.w z) (j : Nat) (v9 w9 : Int32) : ∃ r9 q9 z9, XS_weigh q v9 w9 r9 q9 ∧ MS_weigh z v9 w9 r9 z9 ∧ lwI (j + 1) q9 z9 := by
  have hc0 := hc
  have hr0 := hr
  obtain ⟨h1, h2, h3, h4, h5, h6, h7, h8, h9, h10, h11⟩ := hc
  obtain ⟨e1, e2, e3, e4, e5, e6⟩ := hr
  by_cases h : ps_in v9 (nI q.k) = true ∧ 0 ≤ w9
  · obtain ⟨v, hv, rfl⟩ := ps_in_ex h.1
    have a4 : ¬ w9 < 0 := Int32.not_lt.mpr h.2
    refine ⟨_, _, _, Or.inl ⟨v, rfl, h2, hv, a4, rfl, rfl⟩, Or.inl ⟨v, rfl, by rw [e2]; exact h2, by rw [e2]; exact hv, a4, rfl, rfl⟩, ⟨h1, h2, h3, h4, h5, fun e he => ?_, h7, h8, h9, fun z => ?_, h11⟩, e1, e2, by show upd z.w v w9 = upd q.w v w9; rw [e3], e4, e5, fun z => ?_⟩
    · show 0 ≤ (upd q.w v w9 e).toInt
      unfold upd
      by_cases c : e = v
      · rw [if_pos c]
        rw [Int32.lt_iff_toInt_lt] at a4
        have : (0 : Int32).toInt = 0 := by decide
        omega
      · rw [if_neg c]; exact h6 e he
    all_goals (have z' : false = true := z; cases z')
  · exact ⟨_, _, _, Or.inr ⟨h, rfl, rfl⟩, Or.inr ⟨by rw [e2]; exact h, rfl, rfl⟩, hc0, hr0⟩
theorem lm_asks {q : LX} {z : LM} (hc : cIv q) (hr : rIv q.n q.k q.F q.S q.w z) (j : Nat) :
    (∃ r9 q9 z9, XS_components q r9 q9 ∧ MS_components z r9 z9 ∧ lwI (j + 1) q9 z9) ∧ (∀ v9 : Int32, ∃ r9 q9 z9, XS_component q v9 r9 q9 ∧ MS_component z v9 r9 z9 ∧ lwI (j + 1) q9 z9) ∧
    (∃ r9 q9 z9, XS_blocks q r9 q9 ∧ MS_blocks z r9 z9 ∧ lwI (j + 1) q9 z9) ∧ ∀ v9 : Int32, ∃ r9 q9 z9, XS_block q v9 r9 q9 ∧ MS_block z v9 r9 z9 ∧ lwI (j + 1) q9 z9 := by
  obtain ⟨h1, h2, h3, h4, h5, h6, h7, h8, h9, h10, h11⟩ := id hc
  obtain ⟨e1, e2, e3, e4, e5, e6⟩ := id hr
  have hP := xP_ok hc
  have hR := z_refq hc hr
  have h3' : ∀ e, e < q.k → q.F e < q.n ∧ q.S e < q.n := fun e he => ⟨(h3 e he).1, (h3 e he).2.1⟩
  obtain ⟨⟨zn, zk⟩, _, _⟩ := z_En hc hr
  have zE := z_E hc hr
  have zG := z_G hc hr
  obtain ⟨c1, c2⟩ := a_comps (C := (xP q).1) (B := (xP q).2.1) (Y := (xP q).2.2.1) (ch := (xP q).2.2.2.1) (bh := (xP q).2.2.2.2) h1 h2 h3 e4 hR hP
  obtain ⟨b1, b2⟩ := a_blocks (C := (xP q).1) (B := (xP q).2.1) (Y := (xP q).2.2.1) (ch := (xP q).2.2.2.1) (bh := (xP q).2.2.2.2) h2 e4 hR hP
  refine ⟨?_, fun v9 => ?_, ?_, fun v9 => ?_⟩
  · exact ⟨_, _, _, ⟨h1, h2, h3', rfl, rfl⟩, ⟨zn, zk, zE, e5.1, e5.2.1, e5.2.2, zG, congrArg nI c1, rfl⟩, cP_ok hc, zW_ok (q := q) hc hr⟩
  · by_cases c : ps_in v9 (nI q.n) = true
    · obtain ⟨v, hv, rfl⟩ := ps_in_ex c
      exact ⟨_, _, _, Or.inl ⟨v, rfl, h1, h2, h3', hv, rfl, rfl⟩, Or.inl ⟨v, rfl, zn, zk, zE, e5.1, e5.2.1, e5.2.2, zG, by rw [e1]; exact hv, c2 v hv, rfl⟩, cP_ok hc, zW_ok (q := q) hc hr⟩
    · rw [Bool.not_eq_true] at c
      exact ⟨_, _, _, Or.inr ⟨c, rfl, rfl⟩, Or.inr ⟨zn, zk, zE, e5.1, e5.2.1, e5.2.2, zG, by rw [e1]; exact c, rfl, rfl⟩, hc, zW_ok (q := q) hc hr⟩
  · exact ⟨_, _, _, ⟨h1, h2, h3', rfl, rfl⟩, ⟨zn, zk, zE, e5.1, e5.2.1, e5.2.2, zG, b1, rfl⟩, cP_ok hc, zW_ok (q := q) hc hr⟩
  · by_cases c : ps_in v9 (nI q.k) = true
    · obtain ⟨v, hv, rfl⟩ := ps_in_ex c
      exact ⟨_, _, _, Or.inl ⟨v, rfl, h1, h2, h3', hv, rfl, rfl⟩, Or.inl ⟨v, rfl, zn, zk, zE, e5.1, e5.2.1, e5.2.2, zG, by rw [e2]; exact hv, b2 v hv, rfl⟩, cP_ok hc, zW_ok (q := q) hc hr⟩
    · rw [Bool.not_eq_true] at c
      exact ⟨_, _, _, Or.inr ⟨c, rfl, rfl⟩, Or.inr ⟨zn, zk, zE, e5.1, e5.2.1, e5.2.2, zG, by rw [e2]; exact c, rfl, rfl⟩, hc, zW_ok (q := q) hc hr⟩
theorem lm_planar {q : LX} {z : LM} (hc : cIv q) (hr : rIv q.n q.k q.F q.S q.w z) (j : Nat) :
    (∃ r9 q9 z9, XS_planar q r9 q9 ∧ MS_planar z r9 z9 ∧ lwI (j + 1) q9 z9) ∧ ∃ r9 q9 z9, XS_faces q r9 q9 ∧ MS_faces z r9 z9 ∧ lwI (j + 1) q9 z9 := by
  obtain ⟨h1, h2, h3, h4, h5, h6, h7, h8, h9, h10, h11⟩ := id hc
  obtain ⟨e1, e2, e3, e4, e5, e6⟩ := id hr
  have hP := xP_ok hc
  obtain ⟨t1, t2, t3, t4, t5⟩ := xT_ok hc
  have hR := z_refq hc hr
  have h3' : ∀ e, e < q.k → q.F e < q.n ∧ q.S e < q.n := fun e he => ⟨(h3 e he).1, (h3 e he).2.1⟩
  obtain ⟨⟨zn, zk⟩, _, _⟩ := z_En hc hr
  have zE := z_E hc hr
  have zG := z_G hc hr
  have hfl := a_flat h2 e4 hR hP.1 t2
  refine ⟨?_, ?_⟩
  · refine ⟨_, _, _, ⟨h1, h2, h3', h4, h5, t4, t5, rfl, rfl⟩, ⟨zn, zk, zE, e5.1, e5.2.1, e5.2.2, zG, ?_, rfl⟩, cT_ok hc, zW_ok (q := q) hc hr⟩
    congr 1
    rw [Bool.eq_iff_iff, decide_eq_true_iff]
    exact hfl
  · have hP' := hP
    have t2' := t2
    rw [← t1] at hP' t2'
    have hf := a_faces (C := (xT q).1.1) (B := (xT q).1.2.1) (Y := (xT q).1.2.2.1) (ch := (xT q).1.2.2.2.1) (bh := (xT q).1.2.2.2.2) h1 h2 h3 h4 zE e4 hR hP' t2' (z_rng hc hr)
    have hrg := pm_fa_rng (z_G hc hr).1 zE (mW z).2.2.2.2.2.2.2.2.1 0 (z_rng hc hr) (mW z).2.2.1
    refine ⟨_, _, _, ⟨h1, h2, h3', h4, h5, t4, t5, rfl, rfl⟩, ⟨zn, zk, zE, e5.1, e5.2.1, e5.2.2, zG, fun W0 hW => ?_, ?_, rfl⟩, cT_ok hc, e1, e2, e3, e4, hrg, fun _ => z_ref hc hr⟩
    · rw [hW]
      obtain ⟨_, ⟨_, Pr, _, _, q1, _⟩, _⟩ := hR
      have := cn_le q.n (fun w => decide (pm_rt Pr w = w))
      rw [q1]; omega
    · rw [hf, e1, e2]
theorem lm_cut {q : LX} {z : LM} (hc : cIv q) (hr : rIv q.n q.k q.F q.S q.w z) (j : Nat) :
    (∃ r9 q9 z9, XS_cut q r9 q9 ∧ MS_cut z r9 z9 ∧ lwI (j + 1) q9 z9) ∧ (∀ v9 : Int32, ∃ r9 q9 z9, XS_side q v9 r9 q9 ∧ MS_side z v9 r9 z9 ∧ lwI (j + 1) q9 z9) ∧ ∀ v9 : Int32, ∃ r9 q9 z9, XS_crosses q v9 r9 q9 ∧ MS_crosses z v9 r9 z9 ∧ lwI (j + 1) q9 z9 := by
  obtain ⟨h1, h2, h3, h4, h5, h6, h7, h8, h9, h10, h11⟩ := id hc
  obtain ⟨e1, e2, e3, e4, e5, e6⟩ := id hr
  have hP := xP_ok hc
  obtain ⟨t1, t2, t3, t4, t5⟩ := xT_ok hc
  have hK := xK_ok hc
  have hR := z_refq hc hr
  have h3' : ∀ e, e < q.k → q.F e < q.n ∧ q.S e < q.n := fun e he => ⟨(h3 e he).1, (h3 e he).2.1⟩
  obtain ⟨⟨zn, zk⟩, _, _⟩ := z_En hc hr
  have zE := z_E hc hr
  have zG := z_G hc hr
  have hfl := a_flat h2 e4 hR hP.1 t2
  refine ⟨?_, fun v9 => ?_, fun v9 => ?_⟩
  · by_cases c : (xT q).2.1 = 0
    · have hf := hfl.mp c
      obtain ⟨s1, s2⟩ := a_cut h1 h2 h3 h6 e4 hR hf hK
      exact ⟨_, _, _, Or.inl ⟨h1, h2, h3', h4, h5, t4, t5, c, rfl, rfl⟩, ⟨zn, zk, zE, e5.1, e5.2.1, e5.2.2, zG, by rw [if_pos hf]; exact s2, rfl⟩, cK_ok hc, zW_ok (q := q) hc hr⟩
    · have hf := fun q => c (hfl.mpr q)
      exact ⟨_, _, _, Or.inr ⟨h1, h2, h3', h4, h5, t4, t5, c, rfl, rfl⟩, ⟨zn, zk, zE, e5.1, e5.2.1, e5.2.2, zG, by rw [if_neg hf], rfl⟩, cT_ok hc, zW_ok (q := q) hc hr⟩
  · by_cases c : ps_in v9 (nI q.n) = true ∧ (xT q).2.1 = 0
    · have hf := hfl.mp c.2
      obtain ⟨s1, s2⟩ := a_cut h1 h2 h3 h6 e4 hR hf hK
      refine ⟨_, _, _, Or.inl ⟨h1, h2, h3', h4, h5, t4, t5, c.1, c.2, rfl, rfl⟩, ⟨zn, zk, zE, e5.1, e5.2.1, e5.2.2, zG, ?_, rfl⟩, cK_ok hc, zW_ok (q := q) hc hr⟩
      rw [if_pos ⟨hf, by rw [e1]; exact c.1⟩, ← s1]
      exact a_side _ v9
    · refine ⟨_, _, _, Or.inr ⟨h1, h2, h3', h4, h5, t4, t5, c, rfl, rfl⟩, ⟨zn, zk, zE, e5.1, e5.2.1, e5.2.2, zG, ?_, rfl⟩, cT_ok hc, zW_ok (q := q) hc hr⟩
      rw [if_neg (fun y => c ⟨by rw [← e1]; exact y.2, hfl.mpr y.1⟩)]
  · by_cases c : ps_in v9 (nI q.k) = true ∧ (xT q).2.1 = 0
    · have hf := hfl.mp c.2
      obtain ⟨s1, s2⟩ := a_cut h1 h2 h3 h6 e4 hR hf hK
      obtain ⟨v, hv, rfl⟩ := ps_in_ex c.1
      refine ⟨_, _, _, Or.inl ⟨v, rfl, h1, h2, h3', h4, h5, t4, t5, hv, c.2, rfl, rfl⟩, ⟨zn, zk, zE, e5.1, e5.2.1, e5.2.2, zG, ?_, rfl⟩, cK_ok hc, zW_ok (q := q) hc hr⟩
      congr 1
      have hx := a_crosses h2 h4 h5 e4 (xK q).1 hv
      rw [hf, e2, c.1, ← s1]
      exact hx
    · refine ⟨_, _, _, Or.inr ⟨h1, h2, h3', h4, h5, t4, t5, c, rfl, rfl⟩, ⟨zn, zk, zE, e5.1, e5.2.1, e5.2.2, zG, ?_, rfl⟩, cT_ok hc, zW_ok (q := q) hc hr⟩
      congr 1
      cases y1 : (mW z).2.1 with
      | false => rfl
      | true =>
        cases y2 : ps_in v9 (nI q.k) with
        | false => rw [e2, y2]; try rfl
        | true => exact absurd ⟨y2, hfl.mpr y1⟩ c
theorem lm_wit {q : LX} {z : LM} (hc : cIv q) (hr : rIv q.n q.k q.F q.S q.w z) (j : Nat) :
    (∀ v9 : Int32, ∃ r9 q9 z9, XS_witness q v9 r9 q9 ∧ MS_witness z v9 r9 z9 ∧ lwI (j + 1) q9 z9) ∧ ∃ r9 q9 z9, XS_kind q r9 q9 ∧ MS_kind z r9 z9 ∧ lwI (j + 1) q9 z9 := by
  obtain ⟨h1, h2, h3, h4, h5, h6, h7, h8, h9, h10, h11⟩ := id hc
  obtain ⟨e1, e2, e3, e4, e5, e6⟩ := id hr
  have hP := xP_ok hc
  obtain ⟨t1, t2, t3, t4, t5⟩ := xT_ok hc
  obtain ⟨u1, u2, u3⟩ := xU_ok hc
  have hR := z_refq hc hr
  have h3' : ∀ e, e < q.k → q.F e < q.n ∧ q.S e < q.n := fun e he => ⟨(h3 e he).1, (h3 e he).2.1⟩
  obtain ⟨⟨zn, zk⟩, _, _⟩ := z_En hc hr
  have zE := z_E hc hr
  have zG := z_G hc hr
  have hfl := a_flat h2 e4 hR hP.1 t2
  have hco : ¬ (xT q).2.1 = 0 → (mW z).2.1 = false ∧ (mW z).2.2.2.2.2.2.1 = (xU q).1 := fun c => by
    have hf : (mW z).2.1 = false := by
      cases y : (mW z).2.1 with
      | false => rfl
      | true => exact absurd (hfl.mpr y) c
    refine ⟨hf, ?_⟩
    have := hR.2.2.2.2 hf
    rw [(eFS e4).1, (eFS e4).2] at this
    rw [this, u1]
  have hc0 : (xT q).2.1 = 0 → (mW z).2.2.2.2.2.2.1 = 0 := fun c => (hR.2.2.2.1 (hfl.mp c)).2.2
  refine ⟨fun v9 => ?_, ?_⟩
  · by_cases c : ps_in v9 (nI q.k) = true ∧ ¬ (xT q).2.1 = 0
    · obtain ⟨f1, f2⟩ := hco c.2
      obtain ⟨v, hv, rfl⟩ := ps_in_ex c.1
      refine ⟨_, _, _, Or.inl ⟨h1, h2, h3', h4, h5, t4, t5, c.1, c.2, u3, rfl, rfl⟩, ⟨zn, zk, zE, e5.1, e5.2.1, e5.2.2, zG, ?_, rfl⟩, cU_ok hc, zW_ok (q := q) hc hr⟩
      congr 1
      rw [e2, c.1, f2, pm_has_bt _ (by omega), ps_has_bt _ (by omega)]
      try rfl
    · refine ⟨_, _, _, Or.inr ⟨h1, h2, h3', h4, h5, t4, t5, c, rfl, rfl⟩, ⟨zn, zk, zE, e5.1, e5.2.1, e5.2.2, zG, ?_, rfl⟩, cT_ok hc, zW_ok (q := q) hc hr⟩
      congr 1
      cases y2 : ps_in v9 (nI q.k) with
      | false => rw [e2, y2]; try rfl
      | true =>
        obtain ⟨v, hv, rfl⟩ := ps_in_ex y2
        have : (xT q).2.1 = 0 := Classical.byContradiction fun y => c ⟨y2, y⟩
        rw [hc0 this, pm_has_bt _ (by omega), b_0, Bool.and_false]
  · by_cases c : (xT q).2.1 = 0
    · have hf := hfl.mp c
      refine ⟨_, _, _, Or.inr ⟨h1, h2, h3', h4, h5, t4, t5, c, rfl, rfl⟩, ⟨zn, zk, zE, e5.1, e5.2.1, e5.2.2, zG, ?_, rfl⟩, cT_ok hc, zW_ok (q := q) hc hr⟩
      rw [hf]; try rfl
    · obtain ⟨f1, f2⟩ := hco c
      refine ⟨_, _, _, Or.inl ⟨h1, h2, h3', h4, h5, t4, t5, c, u3, rfl, rfl⟩, ⟨zn, zk, zE, e5.1, e5.2.1, e5.2.2, zG, ?_, rfl⟩, cU_ok hc, zW_ok (q := q) hc hr⟩
      rw [f1, f2, e1, e2, a_kind h2 e4]
      cases fo (pm_kd2 q.k z.E (xU q).1) q.n false <;> rfl
theorem lw_math : lwI 0 lq0 lz0 ∧ LawOK 2048 lwI := by
  refine ⟨lw_0, fun j q z _ hI => ?_⟩
  obtain ⟨hc, hr⟩ := hI
  obtain ⟨k1, k2, k3, k4⟩ := lm_asks hc hr j
  obtain ⟨p1, p2⟩ := lm_planar hc hr j
  obtain ⟨c1, c2, c3⟩ := lm_cut hc hr j
  obtain ⟨w1, w2⟩ := lm_wit hc hr j
  exact ⟨lm_begin hc hr j, lm_add hc hr j, lm_undo hc hr j, lm_weigh hc hr j, ⟨_, _, _, ⟨rfl, rfl⟩, ⟨by rw [hr.2.1], rfl⟩, hc, hr⟩, k1, k2, k3, k4, p1, p2, c1, c2, c3, w1, w2⟩
