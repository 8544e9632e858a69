/-! CHANGES: the reference's operators -/
section ROP
variable {d m b : Nat} {M : g_M} {Q : Int → g_M → Prop}
theorem e_isOp {p k : Int} {D : Nat} {nm vb : List Int} (hR : e_R M m b) (hs : b_st (g_i M b) 2706210 p D k nm vb) (h : Q (if X_op nm = 0 then 0 else 1) M) : g_Call (d + 5) 302 [.ref m, g_n p] M (g_qI Q) := by
  have hpR := hs.R (by decide)
  have h1 : ∀ j : Nat, nm = b_tx j → (j = 32 ∨ j = 33 ∨ j = 34 ∨ j = 35 ∨ j = 36 ∨ j = 37) → Q 1 M := by
    intro j hj hc
    have hne : ¬ X_op nm = 0 := by
      unfold X_op
      by_cases e1 : nm = b_tx 32
      · rw [if_pos e1]; decide
      rw [if_neg e1]
      by_cases e2 : nm = b_tx 33
      · rw [if_pos e2]; decide
      rw [if_neg e2]
      by_cases e3 : nm = b_tx 34
      · rw [if_pos e3]; decide
      rw [if_neg e3]
      by_cases e4 : nm = b_tx 35
      · rw [if_pos e4]; decide
      rw [if_neg e4]
      by_cases e5 : nm = b_tx 36
      · rw [if_pos e5]; decide
      rw [if_neg e5]
      by_cases e6 : nm = b_tx 37
      · rw [if_pos e6]; decide
      rcases hc with rfl | rfl | rfl | rfl | rfl | rfl
      · exact absurd hj e1
      · exact absurd hj e2
      · exact absurd hj e3
      · exact absurd hj e4
      · exact absurd hj e5
      · exact absurd hj e6
    rwa [if_neg hne] at h
  have yes : ∀ {P : Prop} {R : Prop}, R → (((1 : Int) = 0 → P) ∧ (¬ (1 : Int) = 0 → R)) := fun h => ⟨fun g => absurd g (by decide), fun _ => h⟩
  have no : ∀ {P : Prop} {R : Prop}, P → (((0 : Int) = 0 → P) ∧ (¬ (0 : Int) = 0 → R)) := fun h => ⟨fun _ => h, fun g => absurd rfl g⟩
  refine m_X12_isOperator hpR fun _ => ⟨hR.1, e_nm3 (d := d) (j2 := 32) (by decide) (by decide) hR hs (fun e => fun _ _ _ => yes (h1 32 e (by decide))) fun e1 => fun _ _ _ => no ?_⟩
  refine e_nm3 (d := d) (j2 := 33) (by decide) (by decide) hR hs (fun e => fun _ _ _ => yes (h1 33 e (by decide))) fun e2 => fun _ _ _ => no ?_
  refine e_nm3 (d := d) (j2 := 34) (by decide) (by decide) hR hs (fun e => fun _ _ _ => yes (h1 34 e (by decide))) fun e3 => fun _ _ _ => no ?_
  refine e_nm3 (d := d) (j2 := 35) (by decide) (by decide) hR hs (fun e => fun _ _ _ => yes (h1 35 e (by decide))) fun e4 => fun _ _ _ => no ?_
  refine e_nm3 (d := d) (j2 := 36) (by decide) (by decide) hR hs (fun e => fun _ _ _ => yes (h1 36 e (by decide))) fun e5 => fun _ _ _ => no ?_
  refine e_nm3 (d := d) (j2 := 37) (by decide) (by decide) hR hs (fun e => fun _ _ _ => yes (h1 37 e (by decide))) fun e6 => fun _ _ _ => no ?_
  have h0 : X_op nm = 0 := by
    unfold X_op
    rw [if_neg e1, if_neg e2, if_neg e3, if_neg e4, if_neg e5, if_neg e6]
  rwa [if_pos h0] at h
end ROP
