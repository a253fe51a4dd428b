/-! an edge is placed -/
theorem Xi_skip {x : Int32} {i : Nat} (h : bt x i = false) : Xi x (i + 1) = Xi x i := by
  funext e
  unfold Xi
  by_cases q : e = i
  · subst q; rw [h, Bool.and_false, Bool.and_false]
  · by_cases g : e < i
    · rw [decide_eq_true g, decide_eq_true (by omega : e < i + 1)]
    · rw [decide_eq_false g, decide_eq_false (by omega : ¬ e < i + 1)]
theorem pc_skip {n k : Nat} {F S : Nat → Nat} {x : Int32} {i : Nat} {C B Y : Nat → Int32} (hi : i < k) (hx : bt x i = false) (h : pcI n k F S x i C B Y) : pcI n k F S x (i + 1) C B Y := by
  obtain ⟨h1, h2, h3, h4, ⟨T, t1, t2, t3⟩, h6, h7, h8, h9, h10, h11⟩ := h
  have hc : ∀ e, e < i + 1 → bt x e = true → e < i := fun e he hb => by
    by_cases q : e = i
    · subst q; rw [hx] at hb; cases hb
    · omega
  refine ⟨h1, h2, fun e he hb => h3 e (hc e he hb) hb, fun W hW => h4 W (fun e he hb => hW e (by omega) hb), ⟨T, fun e he => ⟨by have := (t1 e he).1; omega, (t1 e he).2⟩, t2, t3⟩, h6, fun e he => h7 e (by omega), fun e he hb => ?_, fun e he hb => ?_, fun e he hb => ?_, fun K hK e f he hb => ?_⟩
  · by_cases q : e = i
    · subst q
      exact b_zero.mpr (fun f hf => by rw [h7 e (Nat.le_refl e) hi f hf, hx, Bool.and_false])
    · exact h8 e (by omega) hb
  · obtain ⟨a, b⟩ := h9 e (hc e he hb) hb
    exact ⟨a, fun f hf => by
      obtain ⟨⟨c1, c2⟩, c3⟩ := b f hf
      exact ⟨⟨by omega, c2⟩, c3⟩⟩
  · rw [Xi_skip hx]; exact h10 e (hc e he hb) hb
  · rw [Xi_skip hx] at hK; exact h11 K hK e f (hc e he hb) hb
theorem pc_circle {n k : Nat} {F S : Nat → Nat} {x : Int32} {i : Nat} {C B Y : Nat → Int32} (hk : k ≤ 18) (hFS : ∀ e, e < k → F e < n ∧ S e < n) (hne : ∀ e, e < k → F e ≠ S e) (hi : i < k) (hx : bt x i = true) (hm : bt (C (F i)) (S i) = true) (h : pcI n k F S x i C B Y) : pcI n k F S x (i + 1) C (pp_unite k B (pp_st Y (F i) (S i) i)) Y := by
  obtain ⟨h1, h2, h3, h4, ⟨T, t1, t2, t3⟩, h6, h7, h8, h9, h10, h11⟩ := h
  obtain ⟨hu, hv⟩ := hFS i hi
  have hCC : C (S i) = C (F i) := (h1 _ _ hu (bt_lt hm) hm).2
  -- the circle
  obtain ⟨c, hc⟩ : ∃ c, c = bt (pp_st Y (F i) (S i) i) := ⟨_, rfl⟩
  have hcb : ∀ e, c e = ((bt (Y (F i)) e ^^ bt (Y (S i)) e) ^^ decide (e = i)) := fun e => by
    rw [hc]
    unfold pp_st
    rw [b_xor, b_xor]
    by_cases g : e < 32
    · rw [b_one i (by omega) e g]
    · rw [b_big (by omega), b_big (by omega), b_big (by omega), decide_eq_false (by omega : ¬ e = i)]
  have hYT : ∀ e, (bt (Y (F i)) e ^^ bt (Y (S i)) e) = true → T e = true := fun e he => by
    cases q : bt (Y (F i)) e with
    | true => exact t3 _ e hu q
    | false =>
      rw [q, Bool.false_xor] at he
      exact t3 _ e hv he
  have hTi : T i = false := by
    cases q : T i with
    | false => rfl
    | true => have := (t1 i q).1; omega
  have hci : c i = true := by
    rw [hcb]
    cases q : (bt (Y (F i)) i ^^ bt (Y (S i)) i) with
    | true => rw [hYT i q] at hTi; cases hTi
    | false => rw [decide_eq_true rfl]; rfl
  have hcT : ∀ e, c e = true → e ≠ i → T e = true := fun e he hn => by
    rw [hcb, decide_eq_false hn, Bool.xor_false] at he
    exact hYT e he
  have hcX : ∀ e, c e = true → Xi x (i + 1) e = true := fun e he => by
    by_cases q : e = i
    · subst q; exact Xi_t.mpr ⟨by omega, hx⟩
    · have := t1 e (hcT e he q)
      exact Xi_t.mpr ⟨by omega, this.2⟩
  have hck : ∀ e, k ≤ e → c e = false := fun e he => by
    cases q : c e with
    | false => rfl
    | true => have := (Xi_t.mp (hcX e q)).1; omega
  have hce : pg_even n k F S c := even_of hck (fun w hw => by
    rw [dgp_congr (Z := fun e => (bt (Y (F i)) e ^^ bt (Y (S i)) e) ^^ decide (e = i)) (fun e _ => hcb e), dgp_add, h6 _ _ hu hv hCC.symm w hw, dgp_one w hi, inc_xor w (hne i hi), Bool.xor_self])
  -- the union
  obtain ⟨U, hU⟩ : ∃ U, U = fo (pp_u1 B (pp_st Y (F i) (S i) i)) k 0 := ⟨_, rfl⟩
  have hUb : ∀ f, bt U f = true ↔ ∃ e, e < k ∧ c e = true ∧ bt (B e) f = true := fun f => by
    rw [hU, hc]; exact u1_bt B _ k (by omega) f
  have hB' : ∀ w, w < k → pp_unite k B (pp_st Y (F i) (S i) i) w = if bt U w = true then U else B w := fun w hw => by
    unfold pp_unite
    rw [← hU]; exact (u2_at U B k (by omega) w).1 hw
  have hBi : ∀ f, bt (B i) f = true ↔ f = i := fun f => by
    constructor
    · intro q
      rw [h7 i (Nat.le_refl i) hi f (bt_lt q), Bool.and_eq_true] at q
      exact of_decide_eq_true q.1
    · intro q
      rw [q, h7 i (Nat.le_refl i) hi i (by omega), hx, decide_eq_true rfl]; rfl
  have hUi : bt U i = true := (hUb i).mpr ⟨i, hi, hci, (hBi i).mpr rfl⟩
  have hcU : ∀ e, c e = true → bt U e = true := fun e he => by
    have hX := Xi_t.mp (hcX e he)
    by_cases q : e = i
    · rw [q]; exact hUi
    · exact (hUb e).mpr ⟨e, by omega, he, (h9 e (by omega) hX.2).1⟩
  have hUX : ∀ f, bt U f = true → f < i + 1 ∧ bt x f = true := fun f hf => by
    obtain ⟨e, _, he2, he3⟩ := (hUb f).mp hf
    have hX := Xi_t.mp (hcX e he2)
    by_cases q : e = i
    · subst q
      have := (hBi f).mp he3
      subst this
      exact ⟨by omega, hx⟩
    · have := ((h9 e (by omega) hX.2).2 f he3).1
      exact ⟨by omega, this.2⟩
  have hUB : ∀ e f, e < i → bt x e = true → bt (B e) f = true → bt U f = true → bt U e = true := fun e f he hb hf hU' => by
    obtain ⟨⟨f1, f2⟩, f3⟩ := (h9 e he hb).2 f hf
    obtain ⟨g, _, g2, g3⟩ := (hUb f).mp hU'
    by_cases q : g = i
    · rw [q] at g3
      have := (hBi f).mp g3
      omega
    · have hX := Xi_t.mp (hcX g g2)
      have := ((h9 g (by omega) hX.2).2 f g3).2
      refine (hUb e).mpr ⟨g, by omega, g2, ?_⟩
      rw [← this, f3]
      exact (h9 e he hb).1
  have hsub : ∀ Z : Nat → Bool, (∀ e, Z e = true → Xi x (i + 1) e = true) → Z i = false → ∀ e, Z e = true → Xi x i e = true := fun Z hZ hz e he => by
    have hXe := Xi_t.mp (hZ e he)
    have : e ≠ i := fun q => by rw [q, hz] at he; cases he
    exact Xi_t.mpr ⟨by omega, hXe.2⟩
  have hZc : ∀ Z : Nat → Bool, (∀ e, Z e = true → Xi x (i + 1) e = true) → Z i = true → ∀ e, pg_add Z c e = true → Xi x i e = true := fun Z hZ hz => hsub _ (fun e he => by
    dsimp only [pg_add] at he
    cases q : Z e with
    | true => exact hZ e q
    | false => rw [q, Bool.false_xor] at he; exact hcX e he) (by dsimp only [pg_add]; rw [hz, hci]; rfl)
  have hSU : Sep n k F S (Xi x i) (bt U) := by
    have : ∀ m, m ≤ k → Sep n k F S (Xi x i) (bt (fo (pp_u1 B (pp_st Y (F i) (S i) i)) m 0)) := by
      intro m
      induction m with
      | zero =>
        intro _ Z hZ hX
        exact even_zero (fun e => by rw [show fo (pp_u1 B (pp_st Y (F i) (S i) i)) 0 0 = 0 from rfl, b_0, Bool.and_false])
      | succ m ih =>
        intro hm'
        rw [fo_s]
        unfold pp_u1
        rw [ps_has_bt _ (by omega : m < 32)]
        by_cases q : bt (pp_st Y (F i) (S i) i) m = true
        · rw [if_pos q]
          have q' : c m = true := by rw [hc]; exact q
          have hBm : Sep n k F S (Xi x i) (bt (B m)) := by
            by_cases g : m = i
            · intro Z hZ hX
              refine even_zero (fun e => ?_)
              cases z : Z e with
              | false => rfl
              | true =>
                have := (Xi_t.mp (hX e z)).1
                rw [Bool.true_and]
                cases z2 : bt (B m) e with
                | false => rfl
                | true =>
                  rw [g] at z2
                  have := (hBi e).mp z2
                  omega
            · have hX := Xi_t.mp (hcX m q')
              exact h10 m (by omega) hX.2
          have := Sep_or (ih (by omega)) hBm
          intro Z hZ hX
          exact even_congr (fun e => by rw [b_or]; rfl) (this Z hZ hX)
        · rw [if_neg q]; exact ih (by omega)
    rw [hU]; exact this k (Nat.le_refl k)
  refine ⟨h1, h2, fun e he hb => ?_, fun W hW => h4 W (fun e he hb => hW e (by omega) hb), ⟨T, fun e he => ⟨by have := (t1 e he).1; omega, (t1 e he).2⟩, t2, t3⟩, h6, fun e he hek f hf => ?_, fun e he hb => ?_, fun e he hb => ?_, fun e he hb => ?_, fun K hK e f he hb hf => ?_⟩
  · by_cases q : e = i
    · subst q; exact hCC.symm
    · exact h3 e (by omega) hb
  · rw [hB' e hek, if_neg (fun q => by have := (hUX e q).1; omega)]
    exact h7 e (by omega) hek f hf
  · have : e ≠ i := fun q => by rw [q, hx] at hb; cases hb
    rw [hB' e (by omega), if_neg (fun q => by have := (hUX e q).2; rw [hb] at this; cases this)]
    exact h8 e (by omega) hb
  · rw [hB' e (by omega)]
    by_cases q : bt U e = true
    · rw [if_pos q]
      refine ⟨q, fun f hf => ⟨hUX f hf, ?_⟩⟩
      rw [hB' f (by have := (hUX f hf).1; omega), if_pos hf]
    · rw [if_neg q]
      have hei : e ≠ i := fun z => q (by rw [z]; exact hUi)
      obtain ⟨a, b⟩ := h9 e (by omega) hb
      refine ⟨a, fun f hf => ?_⟩
      obtain ⟨⟨f1, f2⟩, f3⟩ := b f hf
      refine ⟨⟨by omega, f2⟩, ?_⟩
      rw [hB' f (by omega), if_neg (fun z => q (hUB e f (by omega) hb hf z))]
      exact f3
  · rw [hB' e (by omega)]
    by_cases q : bt U e = true
    · rw [if_pos q]
      intro Z hZ hX
      cases hz : Z i with
      | false => exact hSU Z hZ (hsub Z hX hz)
      | true =>
        have := pg_even_add (hSU _ (pg_even_add hZ hce) (hZc Z hX hz)) hce
        refine even_congr (fun g => ?_) this
        dsimp only [pg_add]
        cases w : c g with
        | true => rw [hcU g w]; cases Z g <;> rfl
        | false => cases Z g <;> cases bt U g <;> rfl
    · rw [if_neg q]
      have hei : e ≠ i := fun z => q (by rw [z]; exact hUi)
      intro Z hZ hX
      cases hz : Z i with
      | false => exact h10 e (by omega) hb Z hZ (hsub Z hX hz)
      | true =>
        have := h10 e (by omega) hb _ (pg_even_add hZ hce) (hZc Z hX hz)
        refine even_congr (fun g => ?_) this
        dsimp only [pg_add]
        cases w : c g with
        | true =>
          have : bt (B e) g = false := by
            cases z : bt (B e) g with
            | false => rfl
            | true => exact absurd (hUB e g (by omega) hb z (hcU g w)) q
          rw [this, Bool.and_false, Bool.and_false]
        | false => rw [Bool.xor_false]
  · have hKold : Sep n k F S (Xi x i) K := Sep_sub hK (fun e he => by have := Xi_t.mp he; exact Xi_t.mpr ⟨by omega, this.2⟩)
    rw [hB' e (by omega)] at hf
    by_cases q : bt U e = true
    · rw [if_pos q] at hf
      have hcK := hK c hce hcX
      have hcirc : ∀ g, c g = true → K g = K i := by
        intro g hg
        cases hKi : K i with
        | false =>
          have := t2 _ hcK (fun g' hg' => by
            rw [Bool.and_eq_true] at hg'
            exact hcT g' hg'.1 (fun z => by rw [z, hKi] at hg'; cases hg'.2)) g
          rw [hg, Bool.true_and] at this
          exact this
        | true =>
          have hev := pg_even_add hce hcK
          have := t2 _ hev (fun g' hg' => by
            dsimp only [pg_add] at hg'
            have hcg : c g' = true := by
              cases z : c g' with
              | true => rfl
              | false => rw [z] at hg'; cases hg'
            refine hcT g' hcg (fun z => ?_)
            rw [z, hci, hKi] at hg'; cases hg') g
          dsimp only [pg_add] at this
          rw [hg, Bool.true_and] at this
          cases z : K g with
          | true => rfl
          | false => rw [z] at this; cases this
      have hall : ∀ g, bt U g = true → K g = K i := by
        intro g hg
        obtain ⟨e', _, he2, he3⟩ := (hUb g).mp hg
        have hX := Xi_t.mp (hcX e' he2)
        by_cases z : e' = i
        · rw [z] at he3; rw [(hBi g).mp he3]
        · rw [← h11 K hKold e' g (by omega) hX.2 he3]
          exact hcirc e' he2
      rw [hall e q, hall f hf]
    · rw [if_neg q] at hf
      have hei : e ≠ i := fun z => q (by rw [z]; exact hUi)
      exact h11 K hKold e f (by omega) hb hf
theorem pc_join {n k : Nat} {F S : Nat → Nat} {x : Int32} {i : Nat} {C B Y : Nat → Int32} (hn : n ≤ 10) (hk : k ≤ 18) (hFS : ∀ e, e < k → F e < n ∧ S e < n) (hne : ∀ e, e < k → F e ≠ S e) (hi : i < k) (hx : bt x i = true) (hm : bt (C (F i)) (S i) = false) (h : pcI n k F S x i C B Y) : pcI n k F S x (i + 1) (fo (pp_jn (C (F i)) (C (S i)) (pp_st Y (F i) (S i) i)) n (C, Y)).1 B (fo (pp_jn (C (F i)) (C (S i)) (pp_st Y (F i) (S i) i)) n (C, Y)).2 := by
  obtain ⟨h1, h2, h3, h4, ⟨T, t1, t2, t3⟩, h6, h7, h8, h9, h10, h11⟩ := h
  obtain ⟨hu, hv⟩ := hFS i hi
  have hmem : ∀ u v, u < n → v < n → (bt (C v) u = true ↔ C u = C v) := fun u v a b => pc_mem h1 h2 a b
  have hCC : C (F i) ≠ C (S i) := fun q => by rw [(hmem _ _ hv hu).mpr q.symm] at hm; cases hm
  generalize hst : pp_st Y (F i) (S i) i = st
  have hstb : ∀ e, bt st e = ((bt (Y (F i)) e ^^ bt (Y (S i)) e) ^^ decide (e = i)) := fun e => by
    rw [← hst]
    unfold pp_st
    rw [b_xor, b_xor]
    by_cases g : e < 32
    · rw [b_one i (by omega) e g]
    · rw [b_big (by omega), b_big (by omega), b_big (by omega), decide_eq_false (by omega : ¬ e = i)]
  generalize hCn : (fo (pp_jn (C (F i)) (C (S i)) st) n (C, Y)).1 = C'
  generalize hYn : (fo (pp_jn (C (F i)) (C (S i)) st) n (C, Y)).2 = Y'
  have hat : ∀ w, w < n → C' w = (if bt (C (F i) ||| C (S i)) w = true then C (F i) ||| C (S i) else C w) ∧ Y' w = (if bt (C (S i)) w = true then Y w ^^^ st else Y w) := fun w hw => by
    rw [← hCn, ← hYn]; exact (jn_at _ _ _ C Y n (by omega) w).1 hw
  have hD : ∀ w, w < n → (bt (C (F i) ||| C (S i)) w = true ↔ C w = C (F i) ∨ C w = C (S i)) := fun w hw => by
    rw [b_or, Bool.or_eq_true, hmem w _ hw hu, hmem w _ hw hv]
  have hDn : ∀ w, bt (C (F i) ||| C (S i)) w = true → w < n := fun w hw => by
    rw [b_or, Bool.or_eq_true] at hw
    rcases hw with hw | hw
    · exact (h1 _ _ hu (bt_lt hw) hw).1
    · exact (h1 _ _ hv (bt_lt hw) hw).1
  have hC'D : ∀ w, w < n → (C w = C (F i) ∨ C w = C (S i)) → C' w = C (F i) ||| C (S i) := fun w hw q => by
    rw [(hat w hw).1, if_pos ((hD w hw).mpr q)]
  have hC'N : ∀ w, w < n → ¬ (C w = C (F i) ∨ C w = C (S i)) → C' w = C w := fun w hw q => by
    rw [(hat w hw).1, if_neg (fun z => q ((hD w hw).mp z))]
  have hY'v : ∀ w, w < n → C w = C (S i) → ∀ e, bt (Y' w) e = (bt (Y w) e ^^ bt st e) := fun w hw q e => by
    rw [(hat w hw).2, if_pos ((hmem w _ hw hv).mpr q), b_xor]
  have hY'n : ∀ w, w < n → C w ≠ C (S i) → Y' w = Y w := fun w hw q => by
    rw [(hat w hw).2, if_neg (fun z => q ((hmem w _ hw hv).mp z))]
  have hold : ∀ e, e < i + 1 → bt x e = true → e ≠ i → e < i := fun e _ _ _ => by omega
  -- an even set has not this edge
  have hbr : ∀ Z : Nat → Bool, pg_even n k F S Z → (∀ e, Z e = true → e ≠ i → e < i ∧ bt x e = true) → Z i = false := fun Z hZ hX => by
    have := shake0 hFS hne (bt (C (F i))) hZ
    rw [xr_one hi (fun e he hei => ?_)] at this
    · rw [h2 _ hu, hm] at this
      cases q : Z i with
      | false => rfl
      | true => rw [q] at this; cases this
    · cases q : Z e with
      | false => rfl
      | true =>
        obtain ⟨g1, g2⟩ := hX e q hei
        have g3 := h3 e g1 g2
        obtain ⟨a, b⟩ := hFS e he
        have : bt (C (F i)) (F e) = bt (C (F i)) (S e) := by
          rw [Bool.eq_iff_iff, hmem _ _ a hu, hmem _ _ b hu, g3]
        rw [this, Bool.xor_self]; rfl
  have hsub : ∀ Z : Nat → Bool, pg_even n k F S Z → (∀ e, Z e = true → Xi x (i + 1) e = true) → Z i = false ∧ ∀ e, Z e = true → Xi x i e = true := fun Z hZ hX => by
    have hz := hbr Z hZ (fun e he hei => by have := Xi_t.mp (hX e he); exact ⟨by omega, this.2⟩)
    refine ⟨hz, fun e he => ?_⟩
    have hXe := Xi_t.mp (hX e he)
    have : e ≠ i := fun q => by rw [q, hz] at he; cases he
    exact Xi_t.mpr ⟨by omega, hXe.2⟩
  have hBi : ∀ f, bt (B i) f = true ↔ f = i := fun f => by
    constructor
    · intro q
      rw [h7 i (Nat.le_refl i) hi f (bt_lt q), Bool.and_eq_true] at q
      exact of_decide_eq_true q.1
    · intro q
      rw [q, h7 i (Nat.le_refl i) hi i (by omega), hx, decide_eq_true rfl]; rfl
  refine ⟨fun p q hp hq hb => ?_, fun p hp => ?_, fun e he hb => ?_, fun W hW p q hp hq hb => ?_, ⟨fun e => T e || decide (e = i), fun e he => ?_, fun Z hZ hT e => ?_, fun p e hp hb => ?_⟩, fun p q hp hq hpq w hw => ?_, fun e he => h7 e (by omega), fun e he hb => ?_, fun e he hb => ?_, fun e he hb => ?_, fun K hK e f he hb hf => ?_⟩
  · by_cases g : C p = C (F i) ∨ C p = C (S i)
    · rw [hC'D p hp g] at hb ⊢
      have hqn := hDn q hb
      exact ⟨hqn, hC'D q hqn ((hD q hqn).mp hb)⟩
    · rw [hC'N p hp g] at hb ⊢
      obtain ⟨a, b⟩ := h1 p q hp hq hb
      exact ⟨a, by rw [hC'N q a (by rw [b]; exact g)]; exact b⟩
  · by_cases g : C p = C (F i) ∨ C p = C (S i)
    · rw [hC'D p hp g]; exact (hD p hp).mpr g
    · rw [hC'N p hp g]; exact h2 p hp
  · obtain ⟨a, b⟩ := hFS e (by omega)
    by_cases q : e = i
    · subst q
      rw [hC'D _ a (Or.inl rfl), hC'D _ b (Or.inr rfl)]
    · have g3 := h3 e (by omega) hb
      by_cases g : C (F e) = C (F i) ∨ C (F e) = C (S i)
      · rw [hC'D _ a g, hC'D _ b (by rw [← g3]; exact g)]
      · rw [hC'N _ a g, hC'N _ b (by rw [← g3]; exact g), g3]
  · have hW' : ∀ e, e < i → bt x e = true → W (F e) = W (S e) := fun e he hb => hW e (by omega) hb
    have huv := hW i (by omega) hx
    by_cases g : C p = C (F i) ∨ C p = C (S i)
    · rw [hC'D p hp g] at hb
      have hone : ∀ w, w < n → (C w = C (F i) ∨ C w = C (S i)) → W w = W (F i) := fun w hw z => by
        rcases z with z | z
        · exact h4 W hW' (F i) w hu hw ((hmem w _ hw hu).mpr z)
        · rw [huv]; exact h4 W hW' (S i) w hv hw ((hmem w _ hw hv).mpr z)
      rw [hone p hp g, hone q hq ((hD q hq).mp hb)]
    · rw [hC'N p hp g] at hb
      exact h4 W hW' p q hp hq hb
  · rw [Bool.or_eq_true] at he
    rcases he with he | he
    · have := t1 e he; exact ⟨by omega, this.2⟩
    · have := of_decide_eq_true he
      subst this
      exact ⟨by omega, hx⟩
  · have hz := hbr Z hZ (fun e he hei => by
      have hTe : (T e || decide (e = i)) = true := hT e he
      rw [decide_eq_false hei, Bool.or_false] at hTe
      exact t1 e hTe)
    refine t2 Z hZ (fun e he => ?_) e
    have hTe : (T e || decide (e = i)) = true := hT e he
    rw [Bool.or_eq_true] at hTe
    rcases hTe with z | z
    · exact z
    · rw [of_decide_eq_true z, hz] at he; cases he
  · have hst' : bt st e = true → (T e || decide (e = i)) = true := fun q => by
      rw [hstb] at q
      by_cases z : e = i
      · rw [decide_eq_true z, Bool.or_true]
      · rw [decide_eq_false z, Bool.xor_false] at q
        rw [decide_eq_false z, Bool.or_false]
        cases y : bt (Y (F i)) e with
        | true => exact t3 _ e hu y
        | false => rw [y, Bool.false_xor] at q; exact t3 _ e hv q
    show (T e || decide (e = i)) = true
    by_cases g : C p = C (S i)
    · rw [hY'v p hp g] at hb
      cases y : bt (Y p) e with
      | true => rw [t3 _ e hp y]; rfl
      | false => rw [y, Bool.false_xor] at hb; exact hst' hb
    · rw [hY'n p hp g] at hb
      rw [t3 _ e hp hb]; rfl
  · -- the ways
    have mix : ∀ p q, p < n → q < n → C p = C (F i) → C q = C (S i) → dgp k F S (fun e => bt (Y p) e ^^ (bt (Y q) e ^^ bt st e)) w = (decide (p = w) ^^ decide (q = w)) := fun p q hp hq g1 g2 => by
      rw [dgp_congr (Z := fun e => ((bt (Y p) e ^^ bt (Y (F i)) e) ^^ (bt (Y (S i)) e ^^ bt (Y q) e)) ^^ decide (e = i)) (fun e _ => by
        rw [hstb]
        generalize bt (Y p) e = a1; generalize bt (Y q) e = a2; generalize bt (Y (F i)) e = a3; generalize bt (Y (S i)) e = a4; generalize decide (e = i) = a5
        cases a1 <;> cases a2 <;> cases a3 <;> cases a4 <;> cases a5 <;> rfl)]
      rw [dgp_add, dgp_add, h6 p (F i) hp hu g1 w hw, h6 (S i) q hv hq g2.symm w hw, dgp_one w hi, inc_xor w (hne i hi)]
      generalize decide (p = w) = a1; generalize decide (q = w) = a2; generalize decide (F i = w) = a3; generalize decide (S i = w) = a4
      cases a1 <;> cases a2 <;> cases a3 <;> cases a4 <;> rfl
    by_cases g : C p = C (F i) ∨ C p = C (S i)
    · have gq : C q = C (F i) ∨ C q = C (S i) := by
        refine Classical.byContradiction fun z => ?_
        rw [hC'D p hp g, hC'N q hq z] at hpq
        have := (hD p hp).mpr g
        rw [hpq] at this
        have e1 := (hmem p q hp hq).mp this
        rw [← e1] at z
        exact z g
      rcases g with g | g <;> rcases gq with gq | gq
      · rw [hY'n p hp (by rw [g]; exact hCC), hY'n q hq (by rw [gq]; exact hCC)]
        exact h6 p q hp hq (g.trans gq.symm) w hw
      · rw [hY'n p hp (by rw [g]; exact hCC), dgp_congr (fun e _ => by rw [hY'v q hq gq])]
        exact mix p q hp hq g gq
      · rw [hY'n q hq (by rw [gq]; exact hCC), dgp_congr (Z := fun e => bt (Y q) e ^^ (bt (Y p) e ^^ bt st e)) (fun e _ => by rw [hY'v p hp g, Bool.xor_comm]), mix q p hq hp gq g, Bool.xor_comm]
      · rw [dgp_congr (Z := fun e => bt (Y p) e ^^ bt (Y q) e) (fun e _ => by
          rw [hY'v p hp g, hY'v q hq gq]
          generalize bt (Y p) e = a1; generalize bt (Y q) e = a2; generalize bt st e = a3
          cases a1 <;> cases a2 <;> cases a3 <;> rfl)]
        exact h6 p q hp hq (g.trans gq.symm) w hw
    · have gq : ¬ (C q = C (F i) ∨ C q = C (S i)) := fun z => by
        rw [hC'D q hq z, hC'N p hp g] at hpq
        have := (hD q hq).mpr z
        rw [← hpq] at this
        have e1 := (hmem q p hq hp).mp this
        rw [e1] at z
        exact g z
      rw [hC'N p hp g, hC'N q hq gq] at hpq
      rw [hY'n p hp (fun z => g (Or.inr z)), hY'n q hq (fun z => gq (Or.inr z))]
      exact h6 p q hp hq hpq w hw
  · have : e ≠ i := fun q => by rw [q, hx] at hb; cases hb
    exact h8 e (by omega) hb
  · by_cases q : e = i
    · subst q
      refine ⟨(hBi e).mpr rfl, fun f hf => ?_⟩
      have := (hBi f).mp hf
      subst this
      exact ⟨⟨by omega, hx⟩, rfl⟩
    · obtain ⟨a, b⟩ := h9 e (by omega) hb
      exact ⟨a, fun f hf => ⟨⟨by have := (b f hf).1.1; omega, (b f hf).1.2⟩, (b f hf).2⟩⟩
  · intro Z hZ hX
    obtain ⟨hz, hX'⟩ := hsub Z hZ hX
    by_cases q : e = i
    · subst q
      refine even_zero (fun f => ?_)
      cases y : bt (B e) f with
      | false => rw [Bool.and_false]
      | true => rw [(hBi f).mp y, hz]; rfl
    · exact h10 e (by omega) hb Z hZ hX'
  · have hKold : Sep n k F S (Xi x i) K := Sep_sub hK (fun e he => by have := Xi_t.mp he; exact Xi_t.mpr ⟨by omega, this.2⟩)
    by_cases q : e = i
    · subst q; rw [(hBi f).mp hf]
    · exact h11 K hKold e f (by omega) hb hf
/-- what the sorting gives -/
theorem pc_sort {n k : Nat} {F S : Nat → Nat} {x : Int32} (hn : n ≤ 10) (hk : k ≤ 18) (hFS : ∀ e, e < k → F e < n ∧ S e < n) (hne : ∀ e, e < k → F e ≠ S e) (C B Y : Nat → Int32) : pcI n k F S x k (pp_sort n k F S x C B Y).1 (pp_sort n k F S x C B Y).2.1 (pp_sort n k F S x C B Y).2.2 := by
  have : ∀ i, i ≤ k → pcI n k F S x i (fo (pp_s3 n k F S x) i ((fo pp_s1 n (C, Y)).1, fo (pp_s2 x) k B, (fo pp_s1 n (C, Y)).2)).1 (fo (pp_s3 n k F S x) i ((fo pp_s1 n (C, Y)).1, fo (pp_s2 x) k B, (fo pp_s1 n (C, Y)).2)).2.1 (fo (pp_s3 n k F S x) i ((fo pp_s1 n (C, Y)).1, fo (pp_s2 x) k B, (fo pp_s1 n (C, Y)).2)).2.2 := by
    intro i
    induction i with
    | zero => intro _; exact pc_start hn hk C B Y
    | succ i ih =>
      intro hi
      have h := ih (by omega)
      rw [fo_s]
      generalize fo (pp_s3 n k F S x) i ((fo pp_s1 n (C, Y)).1, fo (pp_s2 x) k B, (fo pp_s1 n (C, Y)).2) = s at h ⊢
      unfold pp_s3
      rw [ps_has_bt _ (by omega : i < 32)]
      cases hx : bt x i with
      | false => rw [if_neg (by decide)]; exact pc_skip (by omega) hx h
      | true =>
        rw [if_pos rfl]
        unfold pp_place
        have hS9 := (hFS i (by omega)).2
        rw [ps_has_bt _ (by omega : S i < 32)]
        cases hm : bt (s.1 (F i)) (S i) with
        | true => rw [if_pos rfl]; exact pc_circle hk hFS hne (by omega) hx hm h
        | false => rw [if_neg (by decide)]; exact pc_join hn hk hFS hne (by omega) hx hm h
  exact this k (Nat.le_refl k)
