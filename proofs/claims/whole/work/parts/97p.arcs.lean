/-! conflicts on a circle of an arc and a path, as conflicts on the whole circle -/
theorem lift3 {L A d p q r : Nat} (hA : A < L) (hd : d < L) (hp : p ≤ d) (hq : q ≤ d) (hr : r ≤ d) (h : cyc3 p q r) : cyc3 (wrp L (A + p)) (wrp L (A + q)) (wrp L (A + r)) := by
  unfold cyc3 at h ⊢
  unfold wrp
  (repeat' split) <;> omega
theorem arc_or {L A B q : Nat} (hA : A < L) (hB : B < L) (h : A ≠ B) (hq : q < L) : cyc3 B q A ∨ ∃ p, p ≤ dst L A B ∧ wrp L (A + p) = q := by
  by_cases c : cyc3 B q A
  · exact Or.inl c
  · refine Or.inr ?_
    by_cases z : q = A
    · exact ⟨0, Nat.zero_le _, by rw [wrp_0 hA]; exact z.symm⟩
    · refine ⟨dst L A q, ?_, (dst_b hA hq (fun e => z e.symm)).2.2⟩
      unfold cyc3 at c
      unfold dst
      (repeat' split) <;> omega
/-- all on one arc, and not beside a fragment there -/
def Gd (L : Nat) (w : Nat → Nat) (A B : Nat) (Y Y0 : Nat → Prop) : Prop :=
  (∀ v, Y v → ∃ p, p ≤ dst L A B ∧ w (wrp L (A + p)) = v) ∧ (Y (w A) → Y (w B) → (∃ p, 0 < p ∧ p < dst L A B ∧ Y0 (w (wrp L (A + p)))) → ∃ p, 0 < p ∧ p < dst L A B ∧ Y (w (wrp L (A + p))))
section AR
variable {L A B l : Nat} {w u : Nat → Nat} {Y Y0 Y1 : Nat → Prop}
theorem open_cyc {p : Nat} (hA : A < L) (hB : B < L) (hAB : A ≠ B) (p0 : 0 < p) (pd : p < dst L A B) : cyc3 A (wrp L (A + p)) B := by
  have := lift3 (p := 0) (q := p) (r := dst L A B) hA (dst_b hA hB hAB).2.1 (Nat.zero_le _) (by omega) (Nat.le_refl _) (Or.inl ⟨p0, pd⟩)
  rw [wrp_0 hA, (dst_b hA hB hAB).2.2] at this
  exact this
theorem Gd_or (hA : A < L) (hB : B < L) (hAB : A ≠ B) (hY : ∀ v, Y v → ∃ q, q < L ∧ w q = v) (yA : Y0 (w A)) (yB : Y0 (w B)) (hno : ¬ Cfl L w Y Y0) : Gd L w A B Y Y0 ∨ Gd L w B A Y Y0 := by
  have hBA := Ne.symm hAB
  have cl : ∀ A B, A < L → B < L → A ≠ B → (¬ ∃ q, q < L ∧ cyc3 B q A ∧ Y (w q)) → ∀ v, Y v → ∃ p, p ≤ dst L A B ∧ w (wrp L (A + p)) = v := fun A B hA hB hAB hn v hv => by
    obtain ⟨q, q1, q2⟩ := hY v hv
    rcases arc_or hA hB hAB q1 with z | ⟨p, p1, p2⟩
    · exact absurd ⟨q, q1, z, by rw [q2]; exact hv⟩ hn
    · exact ⟨p, p1, by rw [p2]; exact q2⟩
  by_cases c1 : ∃ q, q < L ∧ cyc3 A q B ∧ Y (w q)
  · obtain ⟨q, q1, q2, q3⟩ := c1
    refine Or.inl ⟨cl A B hA hB hAB ?_, fun _ _ _ => ?_⟩
    · rintro ⟨q', r1, r2, r3⟩
      exact hno (Or.inl ⟨q, B, q', A, q1, hB, r1, hA, by unfold cyc3 at q2 r2 ⊢; omega, by unfold cyc3 at q2 r2 ⊢; omega, q3, r3, yB, yA⟩)
    · obtain ⟨p, p1, p2, p3⟩ := cyc3_at hA hB q1 q2
      exact ⟨p, p1, p2, by rw [p3]; exact q3⟩
  · by_cases c2 : ∃ q, q < L ∧ cyc3 B q A ∧ Y (w q)
    · refine Or.inr ⟨cl B A hB hA hBA c1, fun _ _ _ => ?_⟩
      obtain ⟨q, q1, q2, q3⟩ := c2
      obtain ⟨p, p1, p2, p3⟩ := cyc3_at hB hA q1 q2
      exact ⟨p, p1, p2, by rw [p3]; exact q3⟩
    · by_cases c3 : ∃ p, 0 < p ∧ p < dst L A B ∧ Y0 (w (wrp L (A + p)))
      · refine Or.inr ⟨cl B A hB hA hBA c1, fun y1 y2 => ?_⟩
        rintro ⟨p', p1', p2', p3'⟩
        obtain ⟨p, p1, p2, p3⟩ := c3
        have l1 := (dst_b hA hB hAB).2.1
        have l2 := (dst_b hB hA hBA).2.1
        exact absurd (Or.inl ⟨A, _, B, _, hA, wrp_lt hA (by omega), hB, wrp_lt hB (by omega), open_cyc hA hB hAB p1 p2, open_cyc hB hA hBA p1' p2', y2, y1, p3, p3'⟩) hno
      · exact Or.inl ⟨cl A B hA hB hAB c2, fun _ _ z => absurd z c3⟩
theorem arc_le (uoff : ∀ t, 0 < t → t < l → ∀ q, q < L → w q ≠ u t) {p : Nat} (hp : p < dst L A B + l) (h : ∃ q, q < L ∧ w q = arcW L A (dst L A B) l w u p) : p ≤ dst L A B ∧ arcW L A (dst L A B) l w u p = w (wrp L (A + p)) := by
  by_cases c : p ≤ dst L A B
  · refine ⟨c, ?_⟩
    unfold arcW; rw [if_pos c]
  · obtain ⟨q, q1, q2⟩ := h
    unfold arcW at q2
    rw [if_neg c] at q2
    exact absurd q2 (uoff _ (by omega) (by omega) q q1)
theorem mix_cfl (hA : A < L) (hB : B < L) (hAB : A ≠ B) (uoff : ∀ t, 0 < t → t < l → ∀ q, q < L → w q ≠ u t) (hG : Gd L w A B Y Y0) (hY0 : ∀ v, Y0 v → ∃ q, q < L ∧ w q = v) (yA : Y0 (w A)) (yB : Y0 (w B)) (hY1 : ∀ v, Y1 v → Y0 v ∨ ∃ t, 0 < t ∧ t < l ∧ v = u t) (hC : Cfl (dst L A B + l) (arcW L A (dst L A B) l w u) Y Y1) : Cfl L w Y Y0 := by
  obtain ⟨d1, d2, d3⟩ := dst_b hA hB hAB
  obtain ⟨g1, g2⟩ := hG
  have onY : ∀ p, p < dst L A B + l → Y (arcW L A (dst L A B) l w u p) → p ≤ dst L A B ∧ Y (w (wrp L (A + p))) := fun p hp hy => by
    obtain ⟨p', z1, z2⟩ := g1 _ hy
    obtain ⟨q1, q2⟩ := arc_le uoff hp ⟨_, wrp_lt hA (show p' < L by omega), z2⟩
    rw [q2] at hy
    exact ⟨q1, hy⟩
  have on1 : ∀ p, p ≤ dst L A B → Y1 (arcW L A (dst L A B) l w u p) → Y0 (w (wrp L (A + p))) := fun p hp hy => by
    have e : arcW L A (dst L A B) l w u p = w (wrp L (A + p)) := by unfold arcW; rw [if_pos hp]
    rw [e] at hy
    rcases hY1 _ hy with z | ⟨t, t1, t2, t3⟩
    · exact z
    · exact absurd t3 (uoff t t1 t2 _ (wrp_lt hA (by omega)))
  have lt : ∀ p, p ≤ dst L A B → wrp L (A + p) < L := fun p hp => wrp_lt hA (by omega)
  have y0 : Y0 (w (wrp L (A + 0))) := by rw [wrp_0 hA]; exact yA
  have yd : Y0 (w (wrp L (A + dst L A B))) := by rw [d3]; exact yB
  have mk : ∀ p1 q1 p2 q2, p1 ≤ dst L A B → q1 ≤ dst L A B → p2 ≤ dst L A B → q2 ≤ dst L A B → cyc3 p1 q1 p2 → cyc3 p2 q2 p1 → Y (w (wrp L (A + p1))) → Y (w (wrp L (A + p2))) → Y0 (w (wrp L (A + q1))) → Y0 (w (wrp L (A + q2))) → Cfl L w Y Y0 := fun p1 q1 p2 q2 a1 a2 a3 a4 c1 c2 b1 b2 b3 b4 => Or.inl ⟨_, _, _, _, lt _ a1, lt _ a2, lt _ a3, lt _ a4, lift3 hA d2 a1 a2 a3 c1, lift3 hA d2 a3 a4 a1 c2, b1, b2, b3, b4⟩
  have key : ∀ m Q M, m < Q → Q < M → M ≤ dst L A B → Y (w (wrp L (A + m))) → Y (w (wrp L (A + M))) → Y0 (w (wrp L (A + Q))) → Cfl L w Y Y0 := fun m Q M a1 a2 a3 b1 b2 b3 => by
    by_cases c0 : m = 0
    · by_cases c1 : M = dst L A B
      · subst c0 c1
        obtain ⟨c, e1, e2, e3⟩ := g2 (by rw [wrp_0 hA] at b1; exact b1) (by rw [d3] at b2; exact b2) ⟨Q, a1, a2, b3⟩
        rcases Nat.lt_trichotomy c Q with z | z | z
        · exact mk c Q (dst L A B) 0 (by omega) (by omega) (by omega) (by omega) (by unfold cyc3; omega) (by unfold cyc3; omega) e3 b2 b3 y0
        · subst z
          exact Or.inr ⟨_, _, _, lt 0 (by omega), lt c (by omega), lt (dst L A B) (by omega), lift3 hA d2 (by omega) (by omega) (by omega) (by unfold cyc3; omega), ⟨b1, e3, b2⟩, y0, b3, yd⟩
        · exact mk 0 Q c (dst L A B) (by omega) (by omega) (by omega) (by omega) (by unfold cyc3; omega) (by unfold cyc3; omega) b1 e3 b3 yd
      · exact mk m Q M (dst L A B) (by omega) (by omega) (by omega) (by omega) (by unfold cyc3; omega) (by unfold cyc3; omega) b1 b2 b3 yd
    · exact mk m Q M 0 (by omega) (by omega) (by omega) (by omega) (by unfold cyc3; omega) (by unfold cyc3; omega) b1 b2 b3 y0
  rcases hC with ⟨A1, A2, B1, B2, a1, a2, a3, a4, c1, c2, y1, y2, y3, y4⟩ | ⟨p, q, r, a1, a2, a3, c, ⟨y1, y2, y3⟩, y4, y5, y6⟩
  · obtain ⟨l1, m1⟩ := onY _ a1 y1
    obtain ⟨l2, m2⟩ := onY _ a3 y2
    unfold cyc3 at c1 c2
    rcases Nat.lt_or_ge A1 B1 with z | z
    · exact key A1 A2 B1 (by omega) (by omega) l2 m1 m2 (on1 _ (by omega) y3)
    · exact key B1 B2 A1 (by omega) (by omega) l1 m2 m1 (on1 _ (by omega) y4)
  · obtain ⟨l1, m1⟩ := onY _ a1 y1
    obtain ⟨l2, m2⟩ := onY _ a2 y2
    obtain ⟨l3, m3⟩ := onY _ a3 y3
    exact Or.inr ⟨_, _, _, lt _ l1, lt _ l2, lt _ l3, lift3 hA d2 l1 l2 l3 c, ⟨m1, m2, m3⟩, on1 _ l1 y4, on1 _ l2 y5, on1 _ l3 y6⟩
theorem lift_cfl (hA : A < L) (hB : B < L) (hAB : A ≠ B) (uoff : ∀ t, 0 < t → t < l → ∀ q, q < L → w q ≠ u t) (hY : ∀ v, Y v → ∃ q, q < L ∧ w q = v) (hY1 : ∀ v, Y1 v → ∃ q, q < L ∧ w q = v) (hC : Cfl (dst L A B + l) (arcW L A (dst L A B) l w u) Y Y1) : Cfl L w Y Y1 := by
  obtain ⟨d1, d2, d3⟩ := dst_b hA hB hAB
  have lt : ∀ p, p ≤ dst L A B → wrp L (A + p) < L := fun p hp => wrp_lt hA (by omega)
  have on : ∀ (Y : Nat → Prop), (∀ v, Y v → ∃ q, q < L ∧ w q = v) → ∀ p, p < dst L A B + l → Y (arcW L A (dst L A B) l w u p) → p ≤ dst L A B ∧ Y (w (wrp L (A + p))) := fun Y hY p hp hy => by
    obtain ⟨q1, q2⟩ := arc_le uoff hp (hY _ hy)
    rw [q2] at hy
    exact ⟨q1, hy⟩
  rcases hC with ⟨A1, A2, B1, B2, a1, a2, a3, a4, c1, c2, y1, y2, y3, y4⟩ | ⟨p, q, r, a1, a2, a3, c, ⟨y1, y2, y3⟩, y4, y5, y6⟩
  · obtain ⟨l1, m1⟩ := on Y hY _ a1 y1
    obtain ⟨l2, m2⟩ := on Y hY _ a3 y2
    obtain ⟨l3, m3⟩ := on Y1 hY1 _ a2 y3
    obtain ⟨l4, m4⟩ := on Y1 hY1 _ a4 y4
    exact Or.inl ⟨_, _, _, _, lt _ l1, lt _ l3, lt _ l2, lt _ l4, lift3 hA d2 l1 l3 l2 c1, lift3 hA d2 l2 l4 l1 c2, m1, m2, m3, m4⟩
  · obtain ⟨l1, m1⟩ := on Y hY _ a1 y1
    obtain ⟨l2, m2⟩ := on Y hY _ a2 y2
    obtain ⟨l3, m3⟩ := on Y hY _ a3 y3
    exact Or.inr ⟨_, _, _, lt _ l1, lt _ l2, lt _ l3, lift3 hA d2 l1 l2 l3 c, ⟨m1, m2, m3⟩, (on Y1 hY1 _ a1 y4).2, (on Y1 hY1 _ a2 y5).2, (on Y1 hY1 _ a3 y6).2⟩
end AR
