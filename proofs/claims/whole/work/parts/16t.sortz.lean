/-! STAGES: $sort keeps that frame -/
section SORTZ
variable {so r b po pf pt ou sc kk wa va be fr : Nat} {M0 M1 : g_M} {c e : Int} {L : List Int} {A : Nat → Prop}
theorem O_sS.no (hT : S_T so b po pf pt ou sc be fr M0) (hK : O_so7 so r b kk wa va be fr c e L M0) {x : Nat} (h1 : (∃ ci, g_O M0 x ci ∧ ci ≠ 5) ∨ ∃ n, g_A M0 x 0 n) : ¬ O_sS po pf pt kk wa va be fr M0 x := by
  obtain ⟨-, -, ⟨P1, -, -, P4, P5, -⟩, -, ⟨hbe, hfr, -⟩, -⟩ := hT
  obtain ⟨-, -, ⟨-, hva, -, -⟩, -, ⟨-, hwa⟩, hrows, -⟩ := hK
  have hA1 : ∀ {y : Nat} {n : Int}, g_A M0 y 1 n → x ≠ y := fun hy => by
    rcases h1 with ⟨ci, h1, -⟩ | ⟨n2, h1⟩
    · exact g_neOA h1 hy
    · exact g_neAA h1 hy (by omega)
  rintro (((z | z | z) | ⟨s, hs, z⟩) | z | z | z | z)
  · rcases h1 with ⟨ci, h1, h2⟩ | ⟨n2, h1⟩
    · exact g_neOO h1 P1 h2 z
    · exact g_neOA P1 h1 z.symm
  · exact hA1 P4 z
  · exact hA1 P5 z
  · obtain ⟨row, hr1, hr2, -⟩ := hrows s hs
    rw [hr1] at z
    cases z
    exact hA1 hr2 rfl
  · exact hA1 hwa z
  · exact hA1 hva z
  · exact hA1 hfr z
  · exact hA1 hbe z
theorem O_sS.z (hT : S_T so b po pf pt ou sc be fr M0) (hK : O_so7 so r b kk wa va be fr c e L M0) (k : k_F (O_sS po pf pt kk wa va be fr M0) r M0 M1) (hp : p_P M1 po pf pt) (hA : ∀ y, O_sS po pf pt kk wa va be fr M0 y → A y) : S_Z A so r b po pf pt sc M0 M1 ∧ g_r M1 ou 0 = some b := by
  have nso := O_sS.no hT hK (x := so) (Or.inl ⟨9, hT.1.1, by decide⟩)
  have nb := O_sS.no hT hK (x := b) (Or.inr ⟨_, hT.1.2.2⟩)
  have hou := hT.2.2.2.2.2.1
  have hsc := hT.2.2.2.2.2.2.1
  have nou := O_sS.no hT hK (x := ou) (Or.inl ⟨4, hou.1, by decide⟩)
  have nsc := O_sS.no hT hK (x := sc) (Or.inl ⟨4, hsc.1, by decide⟩)
  have hP := hK.2.1
  obtain ⟨i1, i2⟩ := k.O hP hT.1.1 (by decide) nso
  have ib := (k.A hP hT.1.2.2 (fun z => absurd z (by decide)) nb).1
  have io := (k.O hP hou.1 (by decide) nou).2
  have ic := (k.O hP hsc.1 (by decide) nsc).2
  exact ⟨⟨k.up hA, fun j _ => by rw [i1], fun j => by rw [i2], fun j _ => by rw [ib], hp, by rw [ic]; exact hsc.2⟩, by rw [io]; exact hou.2⟩
end SORTZ
