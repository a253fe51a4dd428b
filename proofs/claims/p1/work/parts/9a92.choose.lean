/-! choosing a fragment -/
section CH
variable {n k : Nat} {F S : Nat → Nat} {x dV : Int32}
theorem Frg_symm {e f : Nat} (he : e < k) (hx : bt x e = true) (h : Frg k F S x dV e f) : Frg k F S x dV f e := ⟨he, hx, fun K hK hc => h.2.2 (fun g => K g → K e) (fun z => z) (fun f g v hf hg xf xg hv af ag ih z => ih (hc g f v hg hf xg xf hv ag af z)) hK⟩
theorem Frg_trans {e f g : Nat} (h1 : Frg k F S x dV e f) (h2 : Frg k F S x dV f g) : Frg k F S x dV e g := ⟨h2.1, h2.2.1, fun K hK hc => h2.2.2 K (h1.2.2 K hK hc) hc⟩
def fitN (WS : Nat → Int32) (y : Int32) (fc : Nat) : Nat := cn fc (fun j => decide (y &&& (WS j ^^^ (-1)) = 0))
theorem cf_cnt (WS : Nat → Int32) (y : Int32) : ∀ m, fo (dr_cf WS y) m 0 = nI (fitN WS y m)
  | 0 => rfl
  | m + 1 => by
    rw [fo_s, cf_cnt WS y m]
    show (if y &&& (WS m ^^^ (-1)) = 0 then nI (fitN WS y m) + 1 else nI (fitN WS y m)) = nI (fitN WS y m + (decide (y &&& (WS m ^^^ (-1)) = 0)).toNat)
    by_cases c : y &&& (WS m ^^^ (-1)) = 0
    · rw [if_pos c, decide_eq_true c, nI_1]; rfl
    · rw [if_neg c, decide_eq_false c]; rfl
/-- the contacts of e's fragment -/
abbrev Yc (F S : Nat → Nat) (eA nb : Nat → Int32) (dV : Int32) (e : Nat) : Int32 := (dr_gf F S eA nb dV e).2.2.2.2 &&& dV
theorem Yc_bt (hn : n ≤ 10) (hk : k ≤ 18) (hFS : ∀ e, e < k → F e < n ∧ S e < n ∧ F e ≠ S e) {eA nb : Nat → Int32} (hla : laOK n k F S x eA nb) {e : Nat} (he : e < k) (hx : bt x e = true) (v : Nat) : bt (Yc F S eA nb dV e) v = true ↔ bt dV v = true ∧ ∃ f, Frg k F S x dV e f ∧ at' F S f v := by
  rw [b_and, Bool.and_eq_true, (gf_ok hn hk hFS hla dV he hx).2 v, and_comm]
theorem Yc_same (hn : n ≤ 10) (hk : k ≤ 18) (hFS : ∀ e, e < k → F e < n ∧ S e < n ∧ F e ≠ S e) {eA nb : Nat → Int32} (hla : laOK n k F S x eA nb) {e e' : Nat} (he : e < k) (hx : bt x e = true) (h : Frg k F S x dV e e') : Yc F S eA nb dV e' = Yc F S eA nb dV e := by
  refine b_ext (fun v _ => ?_)
  rw [Bool.eq_iff_iff, Yc_bt hn hk hFS hla he hx, Yc_bt hn hk hFS hla h.1 h.2.1]
  exact and_congr_right fun _ => ⟨fun ⟨f, q1, q2⟩ => ⟨f, Frg_trans h q1, q2⟩, fun ⟨f, q1, q2⟩ => ⟨f, Frg_trans (Frg_symm he hx h) q1, q2⟩⟩
/-- still to be drawn -/
def Td (k : Nat) (x dE : Int32) (e : Nat) : Prop := e < k ∧ bt x e = true ∧ bt dE e = false
def chI (k : Nat) (F S : Nat → Nat) (eA nb WS : Nat → Int32) (x dE dV : Int32) (fc m : Nat) (s : Int32 × Int32 × Int32 × Int32 × Int32 × Int32 × Bool) : Prop :=
  (s.2.2.2.2.2.2 = false → ∃ e, Td k x dE e ∧ fitN WS (Yc F S eA nb dV e) fc = 0) ∧
  (s.2.2.2.2.2.2 = true → (∀ e, bt s.1 e = true → Td k x dE e ∧ m ≤ e) ∧
    ((s.2.1 = 19 ∧ ∀ e, Td k x dE e → bt s.1 e = true) ∨ ∃ e0, Td k x dE e0 ∧ s.2.2.2.2.1 = (dr_gf F S eA nb dV e0).2.2.2.1 ∧ s.2.2.2.2.2.1 = Yc F S eA nb dV e0 ∧ s.2.1 = nI (fitN WS (Yc F S eA nb dV e0) fc) ∧ ∀ e, Td k x dE e → bt s.1 e = false → 1 ≤ fitN WS (Yc F S eA nb dV e) fc ∧ fitN WS (Yc F S eA nb dV e0) fc ≤ fitN WS (Yc F S eA nb dV e) fc))
theorem ch_step (hn : n ≤ 10) (hk : k ≤ 18) (hFS : ∀ e, e < k → F e < n ∧ S e < n ∧ F e ≠ S e) {eA nb WS : Nat → Int32} (hla : laOK n k F S x eA nb) {dE : Int32} {fc m : Nat} (hfc : fc ≤ 18) (hm : m < k) {s : Int32 × Int32 × Int32 × Int32 × Int32 × Int32 × Bool} (h : chI k F S eA nb WS x dE dV fc m s) : chI k F S eA nb WS x dE dV fc (m + 1) (dr_c1 F S eA nb WS dV fc m s) := by
  obtain ⟨h1, h2⟩ := h
  unfold dr_c1
  rw [ps_has_bt s.1 (show m < 32 by omega)]
  by_cases c : s.2.2.2.2.2.2 = true ∧ bt s.1 m = true
  · rw [if_pos c]
    obtain ⟨a1, a2⟩ := h2 c.1
    obtain ⟨⟨m1, m2, m3⟩, _⟩ := a1 m c.2
    have hgf := gf_ok hn hk hFS hla dV m1 m2
    have hlt : fitN WS (Yc F S eA nb dV m) fc ≤ 18 := Nat.le_trans (cn_le fc _) hfc
    have hcf : fo (dr_cf WS ((dr_gf F S eA nb dV m).2.2.2.2 &&& dV)) fc 0 = nI (fitN WS (Yc F S eA nb dV m) fc) := cf_cnt WS _ fc
    have hleft : ∀ e, bt (s.1 &&& ((dr_gf F S eA nb dV m).2.2.2.1 ^^^ (-1 : Int32))) e = true → Td k x dE e ∧ m + 1 ≤ e := fun e he => by
      obtain ⟨q1, q2⟩ := (not_bt _ _ _).mp he
      obtain ⟨b1, b2⟩ := a1 e q1
      refine ⟨b1, ?_⟩
      by_cases z : e = m
      · rw [z, (hgf.1 m).mpr ⟨m1, m2, fun K hK _ => hK⟩] at q2; cases q2
      · omega
    have gone : ∀ e, Td k x dE e → bt (s.1 &&& ((dr_gf F S eA nb dV m).2.2.2.1 ^^^ (-1 : Int32))) e = false → bt s.1 e = false ∨ Yc F S eA nb dV e = Yc F S eA nb dV m := fun e he hz => by
      cases z : bt s.1 e with
      | false => exact Or.inl rfl
      | true =>
        right
        cases y : bt (dr_gf F S eA nb dV m).2.2.2.1 e with
        | false => rw [(not_bt _ _ _).mpr ⟨z, y⟩] at hz; cases hz
        | true => exact Yc_same hn hk hFS hla m1 m2 ((hgf.1 e).mp y)
    rw [hcf]
    by_cases c0 : nI (fitN WS (Yc F S eA nb dV m) fc) = 0
    · rw [if_pos c0]
      have h00 : fitN WS (Yc F S eA nb dV m) fc = 0 := by
        refine Classical.byContradiction fun z => nI_ne0 (by omega) (by omega) c0
      exact ⟨fun _ => ⟨m, ⟨m1, m2, m3⟩, h00⟩, fun z => (by cases z)⟩
    · rw [if_neg c0]
      have hpos : 1 ≤ fitN WS (Yc F S eA nb dV m) fc := by
        refine Classical.byContradiction fun z => c0 ?_
        rw [show fitN WS (Yc F S eA nb dV m) fc = 0 from by omega]; rfl
      by_cases c1 : s.2.1 ≤ nI (fitN WS (Yc F S eA nb dV m) fc)
      · rw [if_pos c1]
        refine ⟨fun z => (by cases z), fun _ => ⟨hleft, ?_⟩⟩
        rcases a2 with ⟨b1, b2⟩ | ⟨e0, b1, b2, b3, b4, b5⟩
        · exfalso
          rw [b1, show (19 : Int32) = nI 19 from rfl, nI_leI (by omega) (by omega)] at c1
          omega
        · refine Or.inr ⟨e0, b1, b2, b3, b4, fun e he hz => ?_⟩
          rw [b4, nI_leI (by have := cn_le fc (fun j => decide (Yc F S eA nb dV e0 &&& (WS j ^^^ (-1)) = 0)); unfold fitN; omega) (by omega)] at c1
          rcases gone e he hz with w | w
          · exact b5 e he w
          · rw [w]; exact ⟨hpos, c1⟩
      · rw [if_neg c1]
        refine ⟨fun z => (by cases z), fun _ => ⟨hleft, Or.inr ⟨m, ⟨m1, m2, m3⟩, rfl, rfl, rfl, fun e he hz => ?_⟩⟩⟩
        rcases gone e he hz with w | w
        · rcases a2 with ⟨b1, b2⟩ | ⟨e0, b1, b2, b3, b4, b5⟩
          · rw [b2 e he] at w; cases w
          · rw [b4, nI_leI (by have := cn_le fc (fun j => decide (Yc F S eA nb dV e0 &&& (WS j ^^^ (-1)) = 0)); unfold fitN; omega) (by omega)] at c1
            have := b5 e he w
            omega
        · rw [w]; exact ⟨hpos, Nat.le_refl _⟩
  · rw [if_neg c]
    refine ⟨h1, fun z => ⟨fun e he => ?_, (h2 z).2⟩⟩
    obtain ⟨b1, b2⟩ := (h2 z).1 e he
    refine ⟨b1, ?_⟩
    by_cases y : e = m
    · rw [y] at he; exact absurd ⟨z, he⟩ c
    · omega
/-- what choosing gives -/
theorem ch_ok (hn : n ≤ 10) (hk : k ≤ 18) (hFS : ∀ e, e < k → F e < n ∧ S e < n ∧ F e ≠ S e) {eA nb WS : Nat → Int32} (hla : laOK n k F S x eA nb) {dE fE fV cE cC : Int32} {fc : Nat} (hfc : fc ≤ 18) (hxk : ∀ e, bt x e = true → e < k) (hsome : ∃ e, Td k x dE e) :
    ((dr_ch k F S eA nb WS dE dV fc x fE fV cE cC).2.2.2.2.2.2 = false → ∃ e, Td k x dE e ∧ fitN WS (Yc F S eA nb dV e) fc = 0) ∧
    ((dr_ch k F S eA nb WS dE dV fc x fE fV cE cC).2.2.2.2.2.2 = true → ∃ e0, Td k x dE e0 ∧ (dr_ch k F S eA nb WS dE dV fc x fE fV cE cC).2.2.2.2.1 = (dr_gf F S eA nb dV e0).2.2.2.1 ∧ (dr_ch k F S eA nb WS dE dV fc x fE fV cE cC).2.2.2.2.2.1 = Yc F S eA nb dV e0 ∧ ∀ e, Td k x dE e → 1 ≤ fitN WS (Yc F S eA nb dV e) fc ∧ fitN WS (Yc F S eA nb dV e0) fc ≤ fitN WS (Yc F S eA nb dV e) fc) := by
  have all : ∀ m, m ≤ k → chI k F S eA nb WS x dE dV fc m (fo (dr_c1 F S eA nb WS dV fc) m (x &&& (dE ^^^ (-1 : Int32)), 19, fE, fV, cE, cC, true)) := by
    intro m
    induction m with
    | zero =>
      intro _
      refine ⟨fun z => (by cases z), fun _ => ⟨fun e he => ?_, Or.inl ⟨rfl, fun e he => (not_bt _ _ _).mpr ⟨he.2.1, he.2.2⟩⟩⟩⟩
      obtain ⟨q1, q2⟩ := (not_bt _ _ _).mp he
      exact ⟨⟨hxk e q1, q1, q2⟩, Nat.zero_le e⟩
    | succ m ih =>
      intro hm
      rw [fo_s]
      exact ch_step hn hk hFS hla hfc (by omega) (ih (by omega))
  have h := all k (Nat.le_refl k)
  unfold dr_ch
  generalize fo (dr_c1 F S eA nb WS dV fc) k (x &&& (dE ^^^ (-1 : Int32)), 19, fE, fV, cE, cC, true) = s at h ⊢
  obtain ⟨h1, h2⟩ := h
  refine ⟨h1, fun hz => ?_⟩
  obtain ⟨a1, a2⟩ := h2 hz
  have gone : ∀ e, Td k x dE e → bt s.1 e = false := fun e he => by
    cases z : bt s.1 e with
    | false => rfl
    | true => have := (a1 e z).2; have := he.1; omega
  rcases a2 with ⟨b1, b2⟩ | ⟨e0, b1, b2, b3, b4, b5⟩
  · obtain ⟨e, he⟩ := hsome
    have := b2 e he
    rw [gone e he] at this; cases this
  · exact ⟨e0, b1, b2, b3, fun e he => b5 e he (gone e he)⟩
end CH
