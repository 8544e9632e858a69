/-! REQUESTS: their form, the reference -/
theorem Q_op_iff {nm : List Int} (j : Nat) (hj : j < 10) : nm = b_tx j ↔ Q_op nm = (j : Int) + 1 := by
  have hv : ∀ i : Fin 10, Q_op (b_tx i.val) = (i.val : Int) + 1 := by decide +kernel
  constructor
  · rintro rfl
    exact hv ⟨j, hj⟩
  · intro h
    have hc : nm = b_tx 0 ∧ Q_op nm = 1 ∨ nm = b_tx 1 ∧ Q_op nm = 2 ∨ nm = b_tx 2 ∧ Q_op nm = 3 ∨ nm = b_tx 3 ∧ Q_op nm = 4 ∨ nm = b_tx 4 ∧ Q_op nm = 5 ∨ nm = b_tx 5 ∧ Q_op nm = 6 ∨ nm = b_tx 6 ∧ Q_op nm = 7 ∨ nm = b_tx 7 ∧ Q_op nm = 8 ∨ nm = b_tx 8 ∧ Q_op nm = 9 ∨ nm = b_tx 9 ∧ Q_op nm = 10 ∨ Q_op nm = 0 := by
      by_cases g0 : nm = b_tx 0
      · exact Or.inl ⟨g0, by rw [g0]; exact hv 0⟩
      by_cases g1 : nm = b_tx 1
      · exact Or.inr (Or.inl ⟨g1, by rw [g1]; exact hv 1⟩)
      by_cases g2 : nm = b_tx 2
      · exact Or.inr (Or.inr (Or.inl ⟨g2, by rw [g2]; exact hv 2⟩))
      by_cases g3 : nm = b_tx 3
      · exact Or.inr (Or.inr (Or.inr (Or.inl ⟨g3, by rw [g3]; exact hv 3⟩)))
      by_cases g4 : nm = b_tx 4
      · exact Or.inr (Or.inr (Or.inr (Or.inr (Or.inl ⟨g4, by rw [g4]; exact hv 4⟩))))
      by_cases g5 : nm = b_tx 5
      · exact Or.inr (Or.inr (Or.inr (Or.inr (Or.inr (Or.inl ⟨g5, by rw [g5]; exact hv 5⟩)))))
      by_cases g6 : nm = b_tx 6
      · exact Or.inr (Or.inr (Or.inr (Or.inr (Or.inr (Or.inr (Or.inl ⟨g6, by rw [g6]; exact hv 6⟩))))))
      by_cases g7 : nm = b_tx 7
      · exact Or.inr (Or.inr (Or.inr (Or.inr (Or.inr (Or.inr (Or.inr (Or.inl ⟨g7, by rw [g7]; exact hv 7⟩)))))))
      by_cases g8 : nm = b_tx 8
      · exact Or.inr (Or.inr (Or.inr (Or.inr (Or.inr (Or.inr (Or.inr (Or.inr (Or.inl ⟨g8, by rw [g8]; exact hv 8⟩))))))))
      by_cases g9 : nm = b_tx 9
      · exact Or.inr (Or.inr (Or.inr (Or.inr (Or.inr (Or.inr (Or.inr (Or.inr (Or.inr (Or.inl ⟨g9, by rw [g9]; exact hv 9⟩)))))))))
      · refine Or.inr (Or.inr (Or.inr (Or.inr (Or.inr (Or.inr (Or.inr (Or.inr (Or.inr (Or.inr ?_)))))))))
        unfold Q_op
        rw [if_neg g0, if_neg g1, if_neg g2, if_neg g3, if_neg g4, if_neg g5, if_neg g6, if_neg g7, if_neg g8, if_neg g9]
    have hj2 : j = 0 ∨ j = 1 ∨ j = 2 ∨ j = 3 ∨ j = 4 ∨ j = 5 ∨ j = 6 ∨ j = 7 ∨ j = 8 ∨ j = 9 := by omega
    rcases hc with ⟨g, z⟩ | ⟨g, z⟩ | ⟨g, z⟩ | ⟨g, z⟩ | ⟨g, z⟩ | ⟨g, z⟩ | ⟨g, z⟩ | ⟨g, z⟩ | ⟨g, z⟩ | ⟨g, z⟩ | z
    · rw [show j = 0 by omega]; exact g
    · rw [show j = 1 by omega]; exact g
    · rw [show j = 2 by omega]; exact g
    · rw [show j = 3 by omega]; exact g
    · rw [show j = 4 by omega]; exact g
    · rw [show j = 5 by omega]; exact g
    · rw [show j = 6 by omega]; exact g
    · rw [show j = 7 by omega]; exact g
    · rw [show j = 8 by omega]; exact g
    · rw [show j = 9 by omega]; exact g
    · omega
section QREF
variable {m b : Nat} {M : g_M} {Q : Int → g_M → Prop}
/-- no request, on account of what stands at p -/
def Q_no (m : Nat) (M : g_M) (Q : Int → g_M → Prop) (p : Int) : Prop := Q 0 (g_wi (g_wi M m 7 9) m 8 p)
theorem e_isNoneP {d : Nat} {v : Int} (hR : e_R M m b) (hv : g_InR v) (hne : v ≠ -1) (h : Q_no m M Q v) : g_Call (d + 2) 406 [.ref m, g_n v] M (g_qI Q) := by
  refine m_X12_isNone hv fun _ => ⟨fun z => absurd z hne, fun _ => ⟨hR.1, m_X12_refuses ⟨by decide, by decide⟩ hv fun _ => ⟨hR.1, fun M2 e2 _ M6 e6 _ => ?_⟩⟩⟩
  subst e2
  subst e6
  intro _ _ _
  exact ⟨Or.inl rfl, h⟩
theorem e_isNoneE {d : Nat} {es : List b_E} (hR : e_R M m b) (hat : b_at (g_i M b) 0 (b_doc es)) (h1 : (b_doc es).length ≤ 2100) (h : Q_no m M Q (4 + (b_ser es).length)) : g_Call (d + 4) 406 [.ref m, g_n (-1)] M (g_qI Q) := by
  have hdl := b_doc_len es
  refine m_X12_isNone ⟨by decide, by decide⟩ fun _ => ⟨fun _ => ⟨hR.1, e_last (d := d) hR hat (by decide) (by omega) ?_⟩, fun z => absurd rfl z⟩
  rw [show (0 : Int) + 4 + (b_ser es).length = 4 + (b_ser es).length by omega]
  intro _ _ hr
  refine m_X12_refuses ⟨by decide, by decide⟩ hr fun _ => ⟨hR.1, fun M2 e2 _ M6 e6 _ => ?_⟩
  subst e2
  subst e6
  intro _ _ _
  exact ⟨Or.inl rfl, h⟩
theorem e_takesDocument {d D : Nat} {q : Int} {e : b_E} (hR : e_R M m b) (he : b_st (g_i M b) 2706210 q D e.1 e.2.1 e.2.2) (h1 : (Q_op e.2.1 = 1 ∨ Q_op e.2.1 = 2 ∨ Q_op e.2.1 = 3 ∨ Q_op e.2.1 = 4 ∨ Q_op e.2.1 = 5 ∨ Q_op e.2.1 = 9) → Q 1 M) (h0 : ¬ (Q_op e.2.1 = 1 ∨ Q_op e.2.1 = 2 ∨ Q_op e.2.1 = 3 ∨ Q_op e.2.1 = 4 ∨ Q_op e.2.1 = 5 ∨ Q_op e.2.1 = 9) → Q 0 M) : g_Call (d + 5) 408 [.ref m, g_n q] M (g_qI Q) := by
  have hqR := he.R (by decide)
  have hnm : ∀ {j j2 : Nat} {Q1 : Int → g_M → Prop}, j < q_nS → b_tx j = b_tx j2 → j2 < 10 → (Q_op e.2.1 = (j2 : Int) + 1 → Q1 1 M) → (Q_op e.2.1 ≠ (j2 : Int) + 1 → Q1 0 M) → g_Call (d + 4) 236 [.ref m, g_n q, .ref (4 * j + 1)] M (g_qI Q1) := fun hj hjj hj2 g1 g0 => e_nm3 (d := d) hj hjj hR he (fun z => g1 ((Q_op_iff _ hj2).mp z)) fun z => g0 fun z2 => z ((Q_op_iff _ hj2).mpr z2)
  have h60 : ∀ w : Int, g_InR w → (w ≠ 0 → (Q_op e.2.1 = 1 ∨ Q_op e.2.1 = 2 ∨ Q_op e.2.1 = 3 ∨ Q_op e.2.1 = 4 ∨ Q_op e.2.1 = 5 ∨ Q_op e.2.1 = 9)) → (w = 0 → ¬ (Q_op e.2.1 = 1 ∨ Q_op e.2.1 = 2 ∨ Q_op e.2.1 = 3 ∨ Q_op e.2.1 = 4 ∨ Q_op e.2.1 = 5)) → g_Run (d + 4) 408 60 [(0, .ref m), (1, g_n q)] [g_n w] M (g_qI Q) := by
    intro w hw a1 a0
    refine s_X12_takesDocument_60 hqR hw fun _ => ⟨fun z => ⟨hR.1, hnm (j := 78) (j2 := 8) (by decide) rfl (by decide) (fun g => ?_) fun g => ?_⟩, fun z => h1 (a1 z)⟩
    · intro _ _ _
      exact ⟨fun y => absurd y (by decide), fun _ => h1 (by omega)⟩
    · intro _ _ _
      have := a0 z
      exact ⟨fun _ => h0 (by omega), fun y => absurd rfl y⟩
  refine m_X12_takesDocument hqR fun _ => ⟨hR.1, hnm (j := 73) (j2 := 0) (by decide) rfl (by decide) (fun g => ?_) fun g0 => ?_⟩
  · exact fun _ _ _ => ⟨fun z => absurd z (by decide), fun _ => h60 1 ⟨by decide, by decide⟩ (fun _ => by omega) fun z => absurd z (by decide)⟩
  refine fun _ _ _ => ⟨fun _ => hnm (j := 74) (j2 := 1) (by decide) rfl (by decide) (fun g => ?_) fun g1 => ?_, fun z => absurd rfl z⟩
  · exact fun _ _ _ => ⟨fun z => absurd z (by decide), fun _ => h60 1 ⟨by decide, by decide⟩ (fun _ => by omega) fun z => absurd z (by decide)⟩
  refine fun _ _ _ => ⟨fun _ => hnm (j := 75) (j2 := 2) (by decide) rfl (by decide) (fun g => ?_) fun g2 => ?_, fun z => absurd rfl z⟩
  · exact fun _ _ _ => ⟨fun z => absurd z (by decide), fun _ => h60 1 ⟨by decide, by decide⟩ (fun _ => by omega) fun z => absurd z (by decide)⟩
  refine fun _ _ _ => ⟨fun _ => hnm (j := 76) (j2 := 3) (by decide) rfl (by decide) (fun g => ?_) fun g3 => ?_, fun z => absurd rfl z⟩
  · exact fun _ _ _ => ⟨fun z => absurd z (by decide), fun _ => h60 1 ⟨by decide, by decide⟩ (fun _ => by omega) fun z => absurd z (by decide)⟩
  refine fun _ _ _ => ⟨fun _ => hnm (j := 77) (j2 := 4) (by decide) rfl (by decide) (fun g => ?_) fun g4 => ?_, fun z => absurd rfl z⟩
  · exact fun _ _ _ => ⟨fun z => absurd z (by decide), fun _ => h60 1 ⟨by decide, by decide⟩ (fun _ => by omega) fun z => absurd z (by decide)⟩
  · exact fun _ _ _ => ⟨fun _ => h60 0 ⟨by decide, by decide⟩ (fun z => absurd rfl z) fun _ => by omega, fun z => absurd rfl z⟩
theorem e_isShelf {d D : Nat} {q : Int} {s : b_E} (hR : e_R M m b) (he : b_st (g_i M b) 2706210 q D s.1 s.2.1 s.2.2) (h1 : Q_sh s → Q 1 M) (h0 : ¬ Q_sh s → Q 0 M) : g_Call (d + 5) 407 [.ref m, g_n q] M (g_qI Q) := by
  have h4 := he.2.2.2.1
  refine m_X12_isShelf (he.R (by decide)) fun _ => ⟨fun z => absurd z (by omega), fun _ => ⟨hR.1, e_nm3 (d := d) (j := 83) (j2 := 10) (by decide) rfl hR he (fun g => ?_) fun g => ?_⟩⟩
  · intro _ _ _
    refine ⟨fun z => absurd z (by decide), fun _ => e_isNumR (d := d + 3) hR he ?_⟩
    by_cases hk : s.1 = 16 ∨ s.1 = 18
    · rw [if_pos hk]
      intro _ _ _
      refine ⟨fun z => absurd z (by decide), fun _ => e_num (d := d) hR he hk ?_⟩
      intro _ _
      refine ⟨fun z => h1 ⟨hk, g, Or.inl ((g_lc0 _ _).mp z)⟩, fun z => e_num (d := d) hR he hk ?_⟩
      intro _ _
      refine ⟨fun z2 => h1 ⟨hk, g, Or.inr ((g_lc0 _ _).mp z2)⟩, fun z2 => h0 fun y => ?_⟩
      rcases y.2.2 with y | y
      · exact z ((g_lc0 _ _).mpr y)
      · exact z2 ((g_lc0 _ _).mpr y)
    · rw [if_neg hk]
      intro _ _ _
      exact ⟨fun _ => h0 fun y => hk y.1, fun z => absurd rfl z⟩
  · intro _ _ _
    exact ⟨fun _ => h0 fun y => g y.2.1, fun z => absurd rfl z⟩
end QREF
