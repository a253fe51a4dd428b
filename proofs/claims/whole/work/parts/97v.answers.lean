/-! class and reference answer alike -/
section AN
variable {n k : Nat} {F S E : Nat → Nat} {w : Nat → Int32} {fl : Bool} {cm : Nat} {bl sd : Int32} {sm : Int64} {co : Int32} {Cp Bk C B Y : Nat → Int32} {ch bh tg : Int32}
theorem eFS (hE : ∀ e, E (2 * e) = F e ∧ E (2 * e + 1) = S e) : eF E = F ∧ eS E = S := ⟨funext fun e => (hE e).1, funext fun e => (hE e).2⟩
theorem Cp_conn (hn : n ≤ 10) (hk : k ≤ 18) (hFS : ∀ e, e < k → F e < n ∧ S e < n) (hE : ∀ e, E (2 * e) = F e ∧ E (2 * e + 1) = S e) {Dp : Nat → Int32} {Pr Yb : Nat → Nat} (hf : Forest n k E (ps_all k) Dp Pr Yb) (hC : ∀ v, v < n → Cp v = nI (cn (pm_rt Pr v) (fun w => decide (pm_rt Pr w = w)))) {u v : Nat} (hu : u < n) (hv : v < n) : Cp u = Cp v ↔ Conn k F S (ps_all k) u v := by
  have hr := rt_conn hn hk (fun e he => by rw [(hE e).1, (hE e).2]; exact hFS e he) hf hu hv
  have e1 : (fun e => E (2 * e)) = F := (eFS hE).1
  have e2 : (fun e => E (2 * e + 1)) = S := (eFS hE).2
  rw [e1, e2] at hr
  rw [hr, hC u hu, hC v hv]
  have l1 := (rt_spec hn hf hu).1
  have l2 := (rt_spec hn hf hv).1
  have c1 := cn_le (pm_rt Pr u) (fun w => decide (pm_rt Pr w = w))
  have c2 := cn_le (pm_rt Pr v) (fun w => decide (pm_rt Pr w = w))
  rw [nI_eq (by omega) (by omega)]
  refine ⟨fun z => cn_inj (P := fun w => decide (pm_rt Pr w = w)) (decide_eq_true (rt_root hn hf hu)) (decide_eq_true (rt_root hn hf hv)) z, fun z => by rw [z]⟩
theorem all_bt (hk : k ≤ 18) {e : Nat} (he : e < k) : bt (ps_all k) e = true := by rw [b_all k (by omega) e (by omega)]; exact decide_eq_true he
theorem a_comps (hn : n ≤ 10) (hk : k ≤ 18) (hFS : ∀ e, e < k → F e < n ∧ S e < n ∧ F e ≠ S e) (hE : ∀ e, E (2 * e) = F e ∧ E (2 * e + 1) = S e) (hR : RefOK n k E w fl cm bl sd sm co Cp Bk) (hP : PCs n k F S (C, B, Y, ch, bh)) : jbN ch = cm ∧ ∀ v, v < n → nI (ps_below ch (C v)) = Cp v := by
  obtain ⟨_, ⟨Dp, Pr, Yb, hf, h1, h2⟩, _⟩ := hR
  obtain ⟨p1, p2, p3⟩ := hP
  dsimp only at p1 p2 p3
  rw [p2]
  have hFS' : ∀ e, e < k → F e < n ∧ S e < n := fun e he => ⟨(hFS e he).1, (hFS e he).2.1⟩
  exact ⟨(c_count hn hk (fun e _ => hE e) hFS' p1 hf).trans h1.symm, fun v hv => by rw [h2 v hv, c_number hn hk (fun e _ => hE e) hFS' p1 hf hv]⟩
theorem a_blocks (hk : k ≤ 18) (hE : ∀ e, E (2 * e) = F e ∧ E (2 * e + 1) = S e) (hR : RefOK n k E w fl cm bl sd sm co Cp Bk) (hP : PCs n k F S (C, B, Y, ch, bh)) : nI (jbN bh) = bl ∧ ∀ e, e < k → nI (ps_below bh (B e)) = Bk e := by
  obtain ⟨_, _, ⟨B0, h0, h1, h2⟩, _⟩ := hR
  obtain ⟨p1, p2, p3⟩ := hP
  dsimp only at p1 p2 p3
  rw [(eFS hE).1, (eFS hE).2] at h0
  rw [p3]
  refine ⟨by rw [h1, b_count hk p1 (fun e he => all_bt hk he) h0], fun e he => ?_⟩
  obtain ⟨f, hf⟩ := fst_ex B0 e
  rw [h2 e f he hf, b_number hk p1 (fun e he => all_bt hk he) h0 he hf]
theorem a_flat (hk : k ≤ 18) (hE : ∀ e, E (2 * e) = F e ∧ E (2 * e + 1) = S e) (hR : RefOK n k E w fl cm bl sd sm co Cp Bk) (hP : pcI n k F S (ps_all k) k C B Y) (hT : Tgl n k F S (ps_all k) B tg) : tg = 0 ↔ fl = true := by
  have := hR.1
  rw [(eFS hE).1, (eFS hE).2] at this
  rw [tgl_zero hk hP hT, this]
theorem a_cut (hn : n ≤ 10) (hk : k ≤ 18) (hFS : ∀ e, e < k → F e < n ∧ S e < n ∧ F e ≠ S e) (hw : ∀ e, e < k → 0 ≤ (w e).toInt) (hE : ∀ e, E (2 * e) = F e ∧ E (2 * e + 1) = S e) (hR : RefOK n k E w fl cm bl sd sm co Cp Bk) (hfl : fl = true) {so : Int32} {gr : Int64} (hS : SPr n k F S w so gr) : so = sd ∧ gr >>> ((18 : Int32).toInt64 &&& 63) = sm := by
  obtain ⟨_, ⟨Dp, Pr, Yb, hf, h1, h2⟩, _, h4, _⟩ := hR
  obtain ⟨q1, q2, _⟩ := h4 hfl
  obtain ⟨V, c, so0, hH, s1, s2⟩ := hS
  have hFS' : ∀ e, e < k → F e < n ∧ S e < n := fun e he => ⟨(hFS e he).1, (hFS e he).2.1⟩
  have := sp_same (E := E) (w := w) (Cp := Cp) (V := V) (z := c) hn hk (fun e _ => hE e) (fun e he => by have := hFS e he; omega) hw (fun v hv => by
    rw [hH v hv]
    refine ⟨fun ⟨z1, z2⟩ => ⟨z1, fun u hu z => z2 u hu ((Cp_conn hn hk hFS' hE hf h2 (by omega) z1).mp z)⟩, fun ⟨z1, z2⟩ => ⟨z1, fun u hu z => z2 u hu ((Cp_conn hn hk hFS' hE hf h2 (by omega) z1).mpr z)⟩⟩) so0
  rw [s1, s2, q1, q2]
  exact this
theorem a_side (x v : Int32) : bI (ps_has x v) = (x >>> (v &&& 31)) &&& 1 := by
  unfold ps_has
  generalize x >>> (v &&& 31) = y
  cases q : bt y 0 with
  | false =>
    rw [(b_and1 y).mpr q]; rfl
  | true =>
    rw [(b_and2 y).mpr q]; rfl
theorem a_crosses (hk : k ≤ 18) (hF10 : ∀ j, F j < 10) (hS10 : ∀ j, S j < 10) (hE : ∀ e, E (2 * e) = F e ∧ E (2 * e + 1) = S e) (x : Int32) {v : Nat} (hv : v < k) : ps_betw F S v x = pm_has (fo (pm_cb E x) k 0) (nI v) := by
  have h1 := hF10 v
  have h2 := hS10 v
  rw [pm_has_bt _ (by omega), cb_bt x hk (fun e _ => hE e) (fun e _ => by have := hF10 e; have := hS10 e; omega) k (Nat.le_refl k) v (by omega), decide_eq_true hv, betw_cr x (by omega) (by omega)]
  rfl
theorem kd_at (hk : k ≤ 18) (hE : ∀ e, E (2 * e) = F e ∧ E (2 * e + 1) = S e) (c : Int32) (v : Nat) : ∀ m, m ≤ k → fo (ps_deg1 F S (nI v) c) m 0 = fo (pm_kd1 E c v) m 0
  | 0, _ => rfl
  | m + 1, hm => by
    rw [fo_s, fo_s, kd_at hk hE c v m (by omega)]
    generalize fo (pm_kd1 E c v) m 0 = d
    unfold ps_deg1 pm_kd1 pm_tch
    rw [ps_has_bt _ (by omega), pm_has_bt _ (by omega), (hE m).1, (hE m).2]
    simp only [decide_eq_true_eq]
theorem a_kind (hk : k ≤ 18) (hE : ∀ e, E (2 * e) = F e ∧ E (2 * e + 1) = S e) (c : Int32) : ∀ m, fo (xk_1 k F S c) m true = !fo (pm_kd2 k E c) m false
  | 0 => rfl
  | m + 1 => by
    rw [fo_s, fo_s, a_kind hk hE c m]
    generalize fo (pm_kd2 k E c) m false = g
    unfold xk_1 pm_kd2
    rw [kd_at hk hE c m k (Nat.le_refl k)]
    cases g <;> cases decide (fo (pm_kd1 E c m) k 0 = 4) <;> rfl
theorem fa4_at (c : Int32) : ∀ m, fo (pm_fa4 Cp cm) m 0 = nI (cn m (fun v => decide (Cp v = nI cm)))
  | 0 => rfl
  | m + 1 => by
    rw [fo_s, fa4_at c m, cn_s]
    unfold pm_fa4
    by_cases q : Cp m = nI cm
    · rw [if_pos q, decide_eq_true q]
      show nI _ + nI 1 = _
      rw [nI_add]; rfl
    · rw [if_neg q, decide_eq_false q]; rfl
theorem fa3_at (hk : k ≤ 18) : ∀ m, m ≤ k → (fo (pm_fa3 E Cp cm) m (0, 0)).2 = nI (cn m (fun e => decide (Cp (E (2 * e)) = nI cm))) ∧ ∀ i, bt (fo (pm_fa3 E Cp cm) m (0, 0)).1 i = true ↔ i < m ∧ Cp (E (2 * i)) = nI cm
  | 0, _ => ⟨rfl, fun i => ⟨fun z => (by rw [show (fo (pm_fa3 E Cp cm) 0 (0, 0)).1 = 0 from rfl, b_0] at z; cases z), fun z => absurd z.1 (Nat.not_lt_zero i)⟩⟩
  | m + 1, hm => by
    obtain ⟨h1, h2⟩ := fa3_at hk m (by omega)
    rw [fo_s, cn_s]
    generalize fo (pm_fa3 E Cp cm) m (0, 0) = s at h1 h2 ⊢
    unfold pm_fa3
    by_cases q : Cp (E (2 * m)) = nI cm
    · rw [if_pos q, decide_eq_true q]
      refine ⟨?_, fun i => ?_⟩
      · show s.2 + nI 1 = _
        rw [h1, nI_add]; rfl
      · show bt (s.1 ||| (1 <<< (nI m &&& 31))) i = true ↔ _
        rw [or_bt _ (by omega), h2]
        constructor
        · rintro (z | z)
          · exact ⟨by omega, z.2⟩
          · rw [z]; exact ⟨by omega, q⟩
        · rintro ⟨z1, z2⟩
          by_cases c : i = m
          · exact Or.inr c
          · exact Or.inl ⟨by omega, z2⟩
    · rw [if_neg q, decide_eq_false q]
      refine ⟨h1, fun i => ?_⟩
      rw [h2]
      constructor
      · rintro ⟨z1, z2⟩; exact ⟨by omega, z2⟩
      · rintro ⟨z1, z2⟩
        by_cases c : i = m
        · rw [c] at z2; exact absurd z2 q
        · exact ⟨by omega, z2⟩
theorem xf1_at (hk : k ≤ 18) (hF10 : ∀ j, F j < 10) (x tg : Int32) : ∀ m, m ≤ k → ((fo (xf_1 F x tg) m (0, true)).2 = true ↔ ∀ i, i < m → bt x (F i) = true → bt tg i = false) ∧ ((fo (xf_1 F x tg) m (0, true)).2 = true → (fo (xf_1 F x tg) m (0, true)).1 = nI (cn m (fun i => bt x (F i))))
  | 0, _ => ⟨⟨fun _ i z => absurd z (Nat.not_lt_zero i), fun _ => rfl⟩, fun _ => rfl⟩
  | m + 1, hm => by
    obtain ⟨h1, h2⟩ := xf1_at hk hF10 x tg m (by omega)
    rw [fo_s, cn_s]
    have hFm := hF10 m
    generalize fo (xf_1 F x tg) m (0, true) = s at h1 h2 ⊢
    unfold xf_1
    rw [ps_has_bt x (by omega), ps_has_bt tg (by omega)]
    have all : (∀ i, i < m + 1 → bt x (F i) = true → bt tg i = false) ↔ (∀ i, i < m → bt x (F i) = true → bt tg i = false) ∧ (bt x (F m) = true → bt tg m = false) := by
      constructor
      · intro h; exact ⟨fun i hi => h i (by omega), h m (by omega)⟩
      · rintro ⟨a, b⟩ i hi
        by_cases c : i = m
        · rw [c]; exact b
        · exact a i (by omega)
    by_cases c : s.2 = true ∧ bt x (F m) = true
    · rw [if_pos c]
      have hall := h1.mp c.1
      by_cases t : bt tg m = true
      · rw [if_pos t]
        refine ⟨⟨fun z => (by cases z), fun z => ?_⟩, fun z => (by cases z)⟩
        rw [all.mp z |>.2 c.2] at t; cases t
      · rw [if_neg t]
        rw [Bool.not_eq_true] at t
        refine ⟨⟨fun _ => all.mpr ⟨hall, fun _ => t⟩, fun _ => rfl⟩, fun _ => ?_⟩
        show s.1 + nI 1 = _
        rw [h2 c.1, nI_add, c.2]; rfl
    · rw [if_neg c]
      refine ⟨⟨fun z => all.mpr ⟨h1.mp z, fun y => absurd ⟨z, y⟩ c⟩, fun z => h1.mpr (all.mp z).1⟩, fun z => ?_⟩
      have : bt x (F m) = false := by
        cases q : bt x (F m) with
        | false => rfl
        | true => exact absurd ⟨z, q⟩ c
      rw [h2 z, this]; rfl
/-- a component can be laid where none of its blocks is in the tangle -/
theorem comp_pp (hn : n ≤ 10) (hk : k ≤ 18) (hFS : ∀ e, e < k → F e < n ∧ S e < n ∧ F e ≠ S e) (hP : pcI n k F S (ps_all k) k C B Y) (hT : Tgl n k F S (ps_all k) B tg) {m : Nat} (hm : m < n) {x : Int32} (hx : ∀ e, bt x e = true ↔ e < k ∧ bt (C m) (F e) = true) : pg_PP n k F S (Xi x k) ↔ ∀ i, i < k → bt (C m) (F i) = true → bt tg i = false := by
  have hFS' : ∀ e, e < k → F e < n ∧ S e < n := fun e he => ⟨(hFS e he).1, (hFS e he).2.1⟩
  have hblk := fun e he => pc_blk hP (e := e) he (all_bt hk he)
  have hcon := fun u v hu hv => pc_conn hFS' hP (u := u) (v := v) hu hv
  constructor
  · intro h i hi hc
    cases q : bt tg i with
    | false => rfl
    | true =>
      exfalso
      refine ((hT i).mp q).2.2 (pg_PP_sub h (fun f hf => ?_))
      obtain ⟨f1, _, f3⟩ := (hblk i hi f).mp hf
      have hsep : Sep n k F S (Xi (ps_all k) k) (fun e => bt (C m) (F e)) := fun Z hZ hs => by
        refine ⟨fun e he => (by show (Z e && bt (C m) (F e)) = false; rw [hZ.1 e he]; rfl), fun v hv => ?_⟩
        have hz := hZ.2 v hv
        have same : ∀ e, e < k → pg_inc F S v e = true → bt (C m) (F e) = bt (C m) v := fun e he hi' => by
          rcases inc_at.mp hi' with z | z
          · rw [z]
          · have hc1 : Conn k F S (ps_all k) (F e) (S e) := fun W hW => hW e he (all_bt hk he)
            rw [Bool.eq_iff_iff, hcon _ m (hFS' e he).1 hm, hcon v m hv hm, ← z]
            exact ⟨fun y => Conn_trans (Conn_symm hc1) y, fun y => Conn_trans hc1 y⟩
        cases q2 : bt (C m) v with
        | true =>
          rw [← hz]
          refine xr_congr (fun e he => ?_)
          cases q3 : pg_inc F S v e with
          | false => rw [Bool.and_false, Bool.and_false]
          | true =>
            show ((Z e && bt (C m) (F e)) && true) = (Z e && true)
            rw [same e he q3, q2, Bool.and_true]
        | false =>
          refine xr_zero (fun e he => ?_)
          cases q3 : pg_inc F S v e with
          | false => rw [Bool.and_false]
          | true =>
            show ((Z e && bt (C m) (F e)) && true) = false
            rw [same e he q3, q2, Bool.and_false, Bool.false_and]
      have := f3 _ hsep
      exact Xi_t.mpr ⟨f1, (hx f).mpr ⟨f1, by rw [← this]; exact hc⟩⟩
  · intro h
    have hp := pc_sort (x := x) hn hk hFS' (fun e he => (hFS e he).2.2) C B Y
    refine PP_blocks hk hp (fun e he hxe => ?_)
    have hc := ((hx e).mp hxe).2
    have hPe : pg_PP n k F S (fun f => bt (B e) f) := Classical.byContradiction fun q => by
      have := (hT e).mpr ⟨he, all_bt hk he, q⟩
      rw [h e he hc] at this; cases this
    refine pg_PP_sub hPe (fun f hf => ?_)
    obtain ⟨f1, f2, f3⟩ := (pc_blk hp he hxe f).mp hf
    exact (hblk e he f).mpr ⟨f1, all_bt hk f1, fun K hK => f3 K (Sep_sub hK (fun g hg => Xi_t.mpr ⟨(Xi_t.mp hg).1, all_bt hk (Xi_t.mp hg).1⟩))⟩
theorem a_faces (hn : n ≤ 10) (hk : k ≤ 18) (hFS : ∀ e, e < k → F e < n ∧ S e < n ∧ F e ≠ S e) (hF10 : ∀ j, F j < 10) (hE10 : ∀ j, E j < 10) (hE : ∀ e, E (2 * e) = F e ∧ E (2 * e + 1) = S e) (hR : RefOK n k E w fl cm bl sd sm co Cp Bk) (hP : PCs n k F S (C, B, Y, ch, bh)) (hT : Tgl n k F S (ps_all k) B tg) {s : IFS} (hs : pm_rng s) : fo (xf_s k F C ch tg) n 0 = (fo (pm_fa2 n k E Cp) cm (0, s)).1 := by
  obtain ⟨_, ⟨Dp, Pr, Yb, hf, h1, h2⟩, _⟩ := hR
  obtain ⟨p1, p2, p3⟩ := hP
  dsimp only at p1 p2 p3
  have hFS' : ∀ e, e < k → F e < n ∧ S e < n := fun e he => ⟨(hFS e he).1, (hFS e he).2.1⟩
  have hEn : ∀ e, e < k → E (2 * e) < n ∧ E (2 * e + 1) < n := fun e he => by rw [(hE e).1, (hE e).2]; exact hFS' e he
  have hne : ∀ e, e < k → E (2 * e) ≠ E (2 * e + 1) := fun e he => by rw [(hE e).1, (hE e).2]; exact (hFS e he).2.2
  have hG := (GOK_ok hn hk hE10 hEn hne).1
  rw [h1]
  suffices hall : ∀ m, m ≤ n → fo (xf_s k F C ch tg) m 0 = (fo (pm_fa2 n k E Cp) (cn m (fun w => decide (pm_rt Pr w = w))) (0, s)).1 from hall n (Nat.le_refl n)
  intro m
  induction m with
  | zero => intro _; rfl
  | succ m ih =>
    intro hm
    have ih := ih (by omega)
    have hh := c_heads hn hk (fun e _ => hE e) hFS' p1 hf (w := m) (by omega)
    rw [← p2] at hh
    rw [fo_s, ih]
    unfold xf_s
    rw [ps_has_bt ch (by omega), cn_s]
    by_cases c : pm_rt Pr m = m
    · have hb : bt ch m = true := hh.mpr ⟨by omega, c⟩
      rw [if_pos hb, decide_eq_true c]
      show _ = (fo (pm_fa2 n k E Cp) (cn m (fun w => decide (pm_rt Pr w = w)) + 1) (0, s)).1
      rw [fo_s]
      have hr := pm_fa_rng hG hE10 Cp 0 hs (cn m (fun w => decide (pm_rt Pr w = w)))
      have hcm : Cp m = nI (cn m (fun w => decide (pm_rt Pr w = w))) := by rw [h2 m (by omega), c]
      generalize cn m (fun w => decide (pm_rt Pr w = w)) = cc at hr hcm ⊢
      generalize fo (pm_fa2 n k E Cp) cc (0, s) = t at hr ⊢
      have hin : ∀ v, v < n → (Cp v = nI cc ↔ bt (C m) v = true) := fun v hv => by
        rw [← hcm, Cp_conn hn hk hFS' hE hf h2 hv (by omega), pc_conn hFS' p1 hv (by omega)]
      obtain ⟨a1, a2⟩ := fa3_at (E := E) (Cp := Cp) (cm := cc) hk k (Nat.le_refl k)
      have hx : ∀ e, bt (fo (pm_fa3 E Cp cc) k (0, 0)).1 e = true ↔ e < k ∧ bt (C m) (F e) = true := fun e => by
        rw [a2 e, (hE e).1]
        exact ⟨fun z => ⟨z.1, (hin _ (hFS' e z.1).1).mp z.2⟩, fun z => ⟨z.1, (hin _ (hFS' e z.1).1).mpr z.2⟩⟩
      have hpp := comp_pp hn hk hFS p1 hT (m := m) (by omega) hx
      have hisf := isf_pp hn hk hE10 hEn hne (fo (pm_fa3 E Cp cc) k (0, 0)).1 t.2 hr.1
      rw [(eFS hE).1, (eFS hE).2, hpp] at hisf
      obtain ⟨b1, b2⟩ := xf1_at hk hF10 (C m) tg k (Nat.le_refl k)
      unfold pm_fa2 xf_of
      dsimp only
      by_cases z : (fo (xf_1 F (C m) tg) k (0, true)).2 = true
      · rw [if_pos z, if_neg (by rw [hisf.mpr (b1.mp z)]; decide), b2 z, a1, fa4_at 0 n]
        have e1 : jbN (C m) = cn n (fun v => decide (Cp v = nI cc)) := by
          rw [jbN_cn, cn_top (n := n) (by omega) (fun i h1 h2 => by
            cases q : bt (C m) i with
            | false => rfl
            | true => have := (p1.1 m i (by omega) h2 q).1; omega)]
          refine cn_congr (fun v hv => ?_)
          rw [Bool.eq_iff_iff, decide_eq_true_iff]
          exact (hin v hv).symm
        have e2 : cn k (fun e => decide (Cp (E (2 * e)) = nI cc)) = cn k (fun i => bt (C m) (F i)) := cn_congr (fun e he => by
          rw [Bool.eq_iff_iff, decide_eq_true_iff, (hE e).1]
          exact hin _ (hFS' e he).1)
        rw [e1, e2]
        simp only [Int32.sub_eq_add_neg, Int32.add_assoc]
      · rw [if_neg z, if_pos (by
          cases y : pm_cfl (pm_isf n k E (fo (pm_fa3 E Cp cc) k (0, 0)).1 t.2) with
          | true => rfl
          | false => exact absurd (b1.mpr (hisf.mp y)) z)]
        exact Int32.add_zero _
    · have hb : ¬ bt ch m = true := fun z => c (hh.mp z).2
      rw [if_neg hb, decide_eq_false c]
      rfl
end AN
