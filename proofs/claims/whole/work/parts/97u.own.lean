/-! what the class keeps -/
/-- the least of each component -/
def Hds (n k : Nat) (F S : Nat → Nat) (ch : Int32) : Prop := ∀ v, v < 32 → (bt ch v = true ↔ v < n ∧ ∀ u, u < v → ¬ Conn k F S (ps_all k) u v)
/-- the edges whose block cannot be laid -/
def Tgl (n k : Nat) (F S : Nat → Nat) (x : Int32) (B : Nat → Int32) (tg : Int32) : Prop := ∀ e, bt tg e = true ↔ e < k ∧ bt x e = true ∧ ¬ pg_PP n k F S (fun f => bt (B e) f)
def SPr (n k : Nat) (F S : Nat → Nat) (w : Nat → Int32) (so : Int32) (gr : Int64) : Prop := ∃ (V : Nat → Int64) (ch so0 : Int32), Hds n k F S ch ∧ so = (sp_make n k F S (fo (sp_w w) k V) ch so0).1 ∧ gr = (sp_make n k F S (fo (sp_w w) k V) ch so0).2
def PCs (n k : Nat) (F S : Nat → Nat) (P : (Nat → Int32) × (Nat → Int32) × (Nat → Int32) × Int32 × Int32) : Prop := pcI n k F S (ps_all k) k P.1 P.2.1 P.2.2.1 ∧ P.2.2.2.1 = fo (pp_hd P.1) n 0 ∧ P.2.2.2.2 = fo (pp_hd P.2.1) k 0
section OW
variable {n k : Nat} {F S : Nat → Nat} {x : Int32} {C B Y : Nat → Int32}
theorem hds_ok (hn : n ≤ 10) (hFS : ∀ e, e < k → F e < n ∧ S e < n) (h : pcI n k F S (ps_all k) k C B Y) : Hds n k F S (fo (pp_hd C) n 0) := fun v hv => by
  have hc := fun u v hu hv => pc_conn hFS h (u := u) (v := v) hu hv
  obtain ⟨h1, h2, _⟩ := h
  rw [hd_bt C n v hv]
  constructor
  · rintro ⟨i, i1, i2, i3⟩
    obtain ⟨_, l2, l3⟩ := ps_least_ok i2
    rw [i3] at l2 l3
    have hvn := (h1 i v i1 hv l2).1
    refine ⟨hvn, fun u hu hcon => ?_⟩
    have := (hc u i (by omega) i1).mpr (Conn_trans hcon ((hc v i hvn i1).mp l2))
    rw [l3 u hu] at this; cases this
  · rintro ⟨hvn, hno⟩
    have hne : ¬ C v = 0 := fun z => by
      have := h2 v hvn
      rw [z, b_0] at this; cases this
    obtain ⟨l1, l2, l3⟩ := ps_least_ok hne
    refine ⟨v, hvn, hne, ?_⟩
    rcases Nat.lt_trichotomy (ps_least (C v)) v with z | z | z
    · exact absurd ((hc _ v (by omega) hvn).mp l2) (hno _ z)
    · exact z
    · have := l3 v z
      rw [h2 v hvn] at this; cases this
theorem tgl_ok (hn : n ≤ 10) (hk : k ≤ 18) (hFS : ∀ e, e < k → F e < n ∧ S e < n ∧ F e ≠ S e) (h : pcI n k F S x k C B Y) {s : DrS} (hs : DRok s) : Tgl n k F S x B (dr_tg n k F S B (fo (pp_hd B) k 0) s).1 := fun e => by
  have ht := tg_bt hn hk hFS h hs (P := fun y => pg_PP n k F S (fun e => bt y e)) (fun y s hB hy hs => can_iff hn hk hFS hB hy hs) k (Nat.le_refl k) e
  have hblk : ∀ i, i < k → bt x i = true → bt (B i) i = true ∧ ∀ f, bt (B i) f = true → (f < k ∧ bt x f = true) ∧ B f = B i := h.2.2.2.2.2.2.2.2.1
  have hz : ∀ i, i < k → bt x i = false → B i = 0 := h.2.2.2.2.2.2.2.1
  refine ht.trans ⟨?_, ?_⟩
  · rintro ⟨i, i1, i2, i3, i4⟩
    obtain ⟨x1, _, _⟩ := head_Bl hk h i1 i2
    obtain ⟨⟨q1, q2⟩, q3⟩ := (hblk i i1 x1).2 e i4
    exact ⟨q1, q2, by rw [q3]; exact i3⟩
  · rintro ⟨e1, e2, e3⟩
    have hne : ¬ B e = 0 := fun z => by
      have := (hblk e e1 e2).1
      rw [z, b_0] at this; cases this
    obtain ⟨l1, l2, l3⟩ := ps_least_ok hne
    obtain ⟨⟨q1, q2⟩, q3⟩ := (hblk e e1 e2).2 _ l2
    refine ⟨ps_least (B e), q1, ?_, by rw [q3]; exact e3, by rw [q3]; exact (hblk e e1 e2).1⟩
    rw [ps_has_bt _ (by omega)]
    exact (hd_bt B k _ (by omega)).mpr ⟨e, e1, hne, rfl⟩
theorem tgl_zero (hk : k ≤ 18) (h : pcI n k F S x k C B Y) {tg : Int32} (ht : Tgl n k F S x B tg) : tg = 0 ↔ pg_PP n k F S (Xi x k) := by
  have hblk : ∀ i, i < k → bt x i = true → bt (B i) i = true ∧ ∀ f, bt (B i) f = true → (f < k ∧ bt x f = true) ∧ B f = B i := h.2.2.2.2.2.2.2.2.1
  constructor
  · intro hz
    refine PP_blocks hk h (fun e he hx => Classical.byContradiction fun q => ?_)
    have := (ht e).mpr ⟨he, hx, q⟩
    rw [hz, b_0] at this; cases this
  · intro hP
    refine b_zero.mpr fun e _ => ?_
    cases q : bt tg e with
    | false => rfl
    | true =>
      obtain ⟨e1, e2, e3⟩ := (ht e).mp q
      exact absurd (pg_PP_sub hP (fun f hf => Xi_t.mpr ((hblk e e1 e2).2 f hf).1)) e3
theorem drt_ok (hn : n ≤ 10) (hk : k ≤ 18) (hFS : ∀ e, e < k → F e < n ∧ S e < n ∧ F e ≠ S e) (h : pcI n k F S x k C B Y) {s : DrS} (hs : DRok s) : DRok (dr_tg n k F S B (fo (pp_hd B) k 0) s).2 := t1_DR hn hk hFS h hs k (Nat.le_refl k)
abbrev WtS : Type := Int32 × (Nat → Int32) × (Nat → Int32) × (Nat → Int32) × Int32 × Int32 × DrS
theorem wit_at (hn : n ≤ 10) (hk : k ≤ 18) (hFS : ∀ e, e < k → F e < n ∧ S e < n ∧ F e ≠ S e) (C9 B9 Y9 : Nat → Int32) (c9 b9 : Int32) {d : DrS} (hd : DRok d) : ∀ m, m ≤ k → (fo (xw_1 n k F S) m ((ps_all k, C9, B9, Y9, c9, b9, d) : WtS)).1 = coreN n k F S m ∧ DRok (fo (xw_1 n k F S) m ((ps_all k, C9, B9, Y9, c9, b9, d) : WtS)).2.2.2.2.2.2
  | 0, _ => ⟨rfl, hd⟩
  | m + 1, hm => by
    obtain ⟨i1, i2⟩ := wit_at hn hk hFS C9 B9 Y9 c9 b9 hd m (by omega)
    rw [fo_s]
    generalize fo (xw_1 n k F S) m ((ps_all k, C9, B9, Y9, c9, b9, d) : WtS) = s at i1 i2 ⊢
    have hp := pc_sort (x := xw_x m s) hn hk (fun e he => ⟨(hFS e he).1, (hFS e he).2.1⟩) (fun e he => (hFS e he).2.2) s.2.1 s.2.2.1 s.2.2.2.1
    have ht := tgl_zero hk hp (tgl_ok hn hk hFS hp i2)
    have hr := drt_ok hn hk hFS hp i2
    refine ⟨?_, hr⟩
    show (if (dr_tg n k F S (pp_sort n k F S (xw_x m s) s.2.1 s.2.2.1 s.2.2.2.1).2.1 (fo (pp_hd (pp_sort n k F S (xw_x m s) s.2.1 s.2.2.1 s.2.2.2.1).2.1) k 0) s.2.2.2.2.2.2).1 = 0 then s.1 else xw_x m s) = coreN n k F S (m + 1)
    have ex : xw_x m s = coreN n k F S m &&& ((1 <<< (nI m &&& 31)) ^^^ (-1)) := by unfold xw_x; rw [i1]
    by_cases q : pg_PP n k F S (Xi (coreN n k F S m &&& ((1 <<< (nI m &&& 31)) ^^^ (-1))) k)
    · rw [core_keep q, if_pos (ht.mpr (by rw [ex]; exact q)), i1]
    · rw [core_drop q, if_neg (fun z => q (by rw [← ex]; exact ht.mp z)), ex]
theorem wit_OK (hn : n ≤ 10) (hk : k ≤ 18) (hFS : ∀ e, e < k → F e < n ∧ S e < n ∧ F e ≠ S e) (C9 B9 Y9 : Nat → Int32) (c9 b9 : Int32) {d : DrS} (hd : DRok d) : xw_OK n k F S ((ps_all k, C9, B9, Y9, c9, b9, d) : WtS) := fun i hi => by
  obtain ⟨_, i2⟩ := wit_at hn hk hFS C9 B9 Y9 c9 b9 hd i (by omega)
  generalize fo (xw_1 n k F S) i ((ps_all k, C9, B9, Y9, c9, b9, d) : WtS) = s at i2 ⊢
  have hp := pc_sort (x := xw_x i s) hn hk (fun e he => ⟨(hFS e he).1, (hFS e he).2.1⟩) (fun e he => (hFS e he).2.2) s.2.1 s.2.2.1 s.2.2.2.1
  exact tOK_ok hn hk hFS hp i2
end OW
/-- the class's invariant -/
def cIv (q : LX) : Prop := q.n ≤ 10 ∧ q.k ≤ 18 ∧ (∀ e, e < q.k → q.F e < q.n ∧ q.S e < q.n ∧ q.F e ≠ q.S e) ∧ (∀ j, q.F j < 10) ∧ (∀ j, q.S j < 10) ∧ (∀ e, e < q.k → 0 ≤ (q.w e).toInt) ∧ DRok q.dr ∧
  (q.pk = true → PCs q.n q.k q.F q.S (q.C, q.B, q.Y, q.ch, q.bh)) ∧ (q.tk = true → q.pk = true ∧ Tgl q.n q.k q.F q.S (ps_all q.k) q.B q.tg) ∧ (q.sk = true → SPr q.n q.k q.F q.S q.w q.so q.gr) ∧ (q.wk = true → q.ws = coreN q.n q.k q.F q.S q.k)
theorem xP_ok {q : LX} (h : cIv q) : PCs q.n q.k q.F q.S (xP q) := by
  obtain ⟨h1, h2, h3, h4, h5, h6, h7, h8, h9, h10, h11⟩ := h
  unfold xP xs_ps
  cases hp : q.pk with
  | true => exact h8 hp
  | false => exact ⟨pc_sort h1 h2 (fun e he => ⟨(h3 e he).1, (h3 e he).2.1⟩) (fun e he => (h3 e he).2.2) _ _ _, rfl, rfl⟩
theorem xT_ok {q : LX} (h : cIv q) : (xT q).1 = xP q ∧ Tgl q.n q.k q.F q.S (ps_all q.k) (xP q).2.1 (xT q).2.1 ∧ DRok (xT q).2.2 ∧ (q.tk = true → q.pk = true) ∧ (q.tk = false → dr_tOK q.n q.k q.F q.S (xP q).2.1 (xP q).2.2.2.2 q.dr) := by
  have hP := xP_ok h
  obtain ⟨h1, h2, h3, h4, h5, h6, h7, h8, h9, h10, h11⟩ := h
  have e2 := hP.2.2
  cases ht : q.tk with
  | true =>
    obtain ⟨a1, a2⟩ := h9 ht
    have ep : xP q = (q.C, q.B, q.Y, q.ch, q.bh) := by unfold xP xs_ps; rw [a1]; rfl
    have et : xT q = ((q.C, q.B, q.Y, q.ch, q.bh), q.tg, q.dr) := by unfold xT xs_tg; rw [ht]; rfl
    rw [et, ep]
    exact ⟨rfl, a2, h7, fun _ => a1, fun z => (by cases z)⟩
  | false =>
    have et : xT q = (xP q, (dr_tg q.n q.k q.F q.S (xP q).2.1 (xP q).2.2.2.2 q.dr).1, (dr_tg q.n q.k q.F q.S (xP q).2.1 (xP q).2.2.2.2 q.dr).2) := by unfold xT xs_tg; rw [ht]; rfl
    rw [et, e2]
    exact ⟨rfl, tgl_ok h1 h2 h3 hP.1 h7, drt_ok h1 h2 h3 hP.1 h7, fun z => (by cases z), fun _ => tOK_ok h1 h2 h3 hP.1 h7⟩
theorem xK_ok {q : LX} (h : cIv q) : SPr q.n q.k q.F q.S q.w (xK q).1 (xK q).2.1 := by
  have hP := xP_ok h
  have hT := (xT_ok h).1
  obtain ⟨h1, h2, h3, h4, h5, h6, h7, h8, h9, h10, h11⟩ := h
  unfold xK xs_mk
  cases hs : q.sk with
  | true => exact h10 hs
  | false =>
    refine ⟨q.V, _, q.so, ?_, rfl, rfl⟩
    rw [hT, hP.2.1]
    exact hds_ok h1 (fun e he => ⟨(h3 e he).1, (h3 e he).2.1⟩) hP.1
theorem xU_ok {q : LX} (h : cIv q) : (xU q).1 = coreN q.n q.k q.F q.S q.k ∧ DRok (xU q).2.2.2.2.2.2 ∧ (q.wk = false → xw_OK q.n q.k q.F q.S (ps_all q.k, q.C9, q.B9, q.Y9, q.ch9, q.bh9, (xT q).2.2)) := by
  obtain ⟨_, _, hd, _, _⟩ := xT_ok h
  obtain ⟨h1, h2, h3, h4, h5, h6, h7, h8, h9, h10, h11⟩ := h
  cases hw : q.wk with
  | true =>
    have e : xU q = (q.ws, q.C9, q.B9, q.Y9, q.ch9, q.bh9, (xT q).2.2) := by unfold xU xw; rw [hw]; rfl
    rw [e]
    exact ⟨h11 hw, hd, fun z => (by cases z)⟩
  | false =>
    have e : xU q = fo (xw_1 q.n q.k q.F q.S) q.k ((ps_all q.k, q.C9, q.B9, q.Y9, q.ch9, q.bh9, (xT q).2.2) : WtS) := by unfold xU xw; rw [hw]; rfl
    rw [e]
    obtain ⟨a1, a2⟩ := wit_at h1 h2 h3 q.C9 q.B9 q.Y9 q.ch9 q.bh9 hd q.k (Nat.le_refl _)
    exact ⟨a1, a2, fun _ => wit_OK h1 h2 h3 q.C9 q.B9 q.Y9 q.ch9 q.bh9 hd⟩
