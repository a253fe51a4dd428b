/-! what is still owed to the law: the mathematics -/
def lwI (_ : Nat) (_ : LX) (_ : LM) : Prop := True
theorem lw_math : lwI 0 lq0 lz0 ∧ LawOK 2048 lwI := sorry
