/-! WHAT A REQUEST DOES: the reference's names of operations -/
theorem W_nm : b_tx 73 = b_tx 0 ∧ b_tx 74 = b_tx 1 ∧ b_tx 75 = b_tx 2 ∧ b_tx 76 = b_tx 3 ∧ b_tx 77 = b_tx 4 ∧ b_tx 82 = b_tx 5 ∧ b_tx 79 = b_tx 6 ∧ b_tx 81 = b_tx 7 ∧ b_tx 78 = b_tx 8 ∧ b_tx 80 = b_tx 9 := by decide
theorem W_op_j : Q_op (b_tx 73) = 1 ∧ Q_op (b_tx 74) = 2 ∧ Q_op (b_tx 75) = 3 ∧ Q_op (b_tx 76) = 4 ∧ Q_op (b_tx 77) = 5 ∧ Q_op (b_tx 82) = 6 ∧ Q_op (b_tx 79) = 7 ∧ Q_op (b_tx 81) = 8 ∧ Q_op (b_tx 78) = 9 ∧ Q_op (b_tx 80) = 10 := by decide
/-- which operation a name that is one tells of, by the reference's texts -/
theorem W_op_n {nm : List Int} (h : Q_op nm ≠ 0) : nm = b_tx 73 ∨ nm = b_tx 74 ∨ nm = b_tx 75 ∨ nm = b_tx 76 ∨ nm = b_tx 77 ∨ nm = b_tx 82 ∨ nm = b_tx 79 ∨ nm = b_tx 81 ∨ nm = b_tx 78 ∨ nm = b_tx 80 := by
  obtain ⟨e0, e1, e2, e3, e4, e5, e6, e7, e8, e9⟩ := W_nm
  rw [e0, e1, e2, e3, e4, e5, e6, e7, e8, e9]
  unfold Q_op at h
  repeat' (split at h)
  all_goals first
    | exact absurd rfl h
    | (rename_i g; subst g; simp)
theorem W_E.mono {m : Nat} {ρ : Nat → Nat} {M0 : g_M} {R : W_R} {Q Q2 : Int → g_M → Prop} (h : W_E m ρ M0 R Q) (h0 : ∀ M, Q 0 M → Q2 0 M) (h1 : ∀ M, Q 1 M → Q2 1 M) : W_E m ρ M0 R Q2 := fun q1 M1 a1 a2 a3 a4 a5 => ⟨fun b1 b2 b3 => h1 _ ((h q1 M1 a1 a2 a3 a4 a5).1 b1 b2 b3), fun c p b1 b2 b3 b4 => h0 _ ((h q1 M1 a1 a2 a3 a4 a5).2 c p b1 b2 b3 b4)⟩
/-- once a request is told of again, nothing but its frame has changed -/
theorem W_E.fr {m : Nat} {ρ : Nat → Nat} {M0 M : g_M} {R : W_R} {Q : Int → g_M → Prop} (h : W_E m ρ M0 R Q) (k : E_k2 m M0 M) : W_E m ρ M R Q := fun q1 M1 a1 a2 a3 a4 a5 => h q1 M1 (k.tr a1) a2 a3 a4 a5
