/-! STAGES: which stage it is, the reference -/
section ESTAGE
variable {m b : Nat} {M : g_M} {Q : Int → g_M → Prop}
theorem e_stSort {d De : Nat} {pe : Int} {e : b_E} (hR : e_R M m b) (hs : b_st (g_i M b) 2706210 pe De e.1 e.2.1 e.2.2) (hn : e.2.1 = b_tx 44) (h : g_Call (d + 4) 356 [.ref m, g_n (pe + 2 + e.2.1.length)] M (g_qI fun r M1 => g_ext M M1 → g_ok M1 → g_InR r → Q r M1)) : g_Call (d + 5) 339 [.ref m, g_n pe] M (g_qI Q) := by
  refine m_X12_stage (hs.R (by decide)) fun _ => ⟨hR.1, e_nm3 (d := d) (j := 121) (j2 := 44) (by decide) rfl hR hs (fun _ => ?_) fun z => absurd hn z⟩
  intro _ _ _
  refine ⟨fun z => absurd z (by decide), fun _ => e_vl2 (d := d + 2) hR hs ?_⟩
  intro _ _ _
  exact h
theorem e_stCut {d De : Nat} {pe : Int} {e : b_E} (hR : e_R M m b) (hs : b_st (g_i M b) 2706210 pe De e.1 e.2.1 e.2.2) (hn : e.2.1 = b_tx 45 ∨ e.2.1 = b_tx 46) (h : g_Run (d + 4) 339 43 [(0, .ref m), (1, g_n pe)] [] M (g_qI Q)) : g_Call (d + 5) 339 [.ref m, g_n pe] M (g_qI Q) := by
  refine m_X12_stage (hs.R (by decide)) fun _ => ⟨hR.1, e_nm3 (d := d) (j := 121) (j2 := 44) (by decide) rfl hR hs (fun z => ?_) fun _ => ?_⟩
  · rcases hn with hn | hn <;> exact absurd (hn.symm.trans z) (by decide +kernel)
  intro _ _ _
  refine ⟨fun _ => e_nm3 (d := d) (j := 122) (j2 := 45) (by decide) rfl hR hs (fun _ => ?_) fun z2 => ?_, fun z => absurd rfl z⟩
  · intro _ _ _
    exact ⟨fun z => absurd z (by decide), fun _ => h⟩
  intro _ _ _
  refine ⟨fun _ => e_nm3 (d := d) (j := 123) (j2 := 46) (by decide) rfl hR hs (fun _ => ?_) fun z3 => ?_, fun z => absurd rfl z⟩
  · intro _ _ _
    exact ⟨fun z => absurd z (by decide), fun _ => h⟩
  · exact absurd hn fun z => z.elim z2 z3
theorem e_stMake {d De : Nat} {pe : Int} {e : b_E} (hR : e_R M m b) (hs : b_st (g_i M b) 2706210 pe De e.1 e.2.1 e.2.2) (hn : e.2.1 = b_tx 41 ∨ e.2.1 = b_tx 42 ∨ e.2.1 = b_tx 47) (h : ∀ Q2 : g_M → Prop, (∀ M1, e_R M1 m b → b_st (g_i M1 b) 2706210 pe De e.1 e.2.1 e.2.2 → g_Run (d + 4) 339 169 [(0, .ref m), (1, g_n pe), (2, g_n 0)] [] M1 (g_qI Q) → Q2 M1) → g_Call (d + 4) 337 [.ref m] M (g_qV Q2)) : g_Call (d + 5) 339 [.ref m, g_n pe] M (g_qI Q) := by
  have hno : ∀ j : Nat, (j = 43 ∨ j = 44 ∨ j = 45 ∨ j = 46) → e.2.1 ≠ b_tx j := fun j hj z => by
    rcases hj with rfl | rfl | rfl | rfl <;> rcases hn with hn | hn | hn <;> exact absurd (hn.symm.trans z) (by decide +kernel)
  refine m_X12_stage (hs.R (by decide)) fun _ => ⟨hR.1, e_nm3 (d := d) (j := 121) (j2 := 44) (by decide) rfl hR hs (fun z => absurd z (hno 44 (by decide))) fun _ => ?_⟩
  intro _ _ _
  refine ⟨fun _ => e_nm3 (d := d) (j := 122) (j2 := 45) (by decide) rfl hR hs (fun z => absurd z (hno 45 (by decide))) fun _ => ?_, fun z => absurd rfl z⟩
  intro _ _ _
  refine ⟨fun _ => e_nm3 (d := d) (j := 123) (j2 := 46) (by decide) rfl hR hs (fun z => absurd z (hno 46 (by decide))) fun _ => ?_, fun z => absurd rfl z⟩
  intro _ _ _
  refine ⟨fun _ => h _ fun M1 hR1 hs1 hrun => ?_, fun z => absurd rfl z⟩
  intro _ _
  refine e_nm3 (d := d) (j := 111) (j2 := 43) (by decide) rfl hR1 hs1 (fun z => absurd z (hno 43 (by decide))) fun _ => ?_
  intro _ _ _
  exact ⟨fun _ => hrun, fun z => absurd rfl z⟩
end ESTAGE
