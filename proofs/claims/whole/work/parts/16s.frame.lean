/-! STAGES: one frame for all stages of the class: the pile may grow too -/
def S_9 (so b po pf pt ou sc be fr : Nat) (y : Nat) : Prop := y = so ∨ y = b ∨ p_S po pf pt y ∨ y = ou ∨ y = sc ∨ y = be ∨ y = fr
section SZ
variable {so r b po pf pt ou sc be fr : Nat} {M M1 M2 : g_M} {c e : Int} {L : List Int} {A : Nat → Prop}
theorem S_Y.g9 (h : S_Y so b po pf pt ou sc be fr M M1) : g_fr (S_9 so b po pf pt ou sc be fr) M M1 := by
  obtain ⟨a1, a2, a3, -⟩ := h
  refine ⟨a1, fun x hx => ⟨funext fun k => a3 x (fun z => hx (Or.inl z)) (fun z => hx (Or.inr (Or.inl z))) (fun z => hx (Or.inr (Or.inr (Or.inl (Or.inl z))))) (fun z => hx (Or.inr (Or.inr (Or.inl (Or.inr (Or.inl z)))))) (fun z => hx (Or.inr (Or.inr (Or.inl (Or.inr (Or.inr z)))))) (fun z => hx (Or.inr (Or.inr (Or.inr (Or.inl z))))) (fun z => hx (Or.inr (Or.inr (Or.inr (Or.inr (Or.inl z)))))) (fun z => hx (Or.inr (Or.inr (Or.inr (Or.inr (Or.inr (Or.inr z))))))) (fun z => hx (Or.inr (Or.inr (Or.inr (Or.inr (Or.inr (Or.inl z))))))) k, funext fun k => a2 x (fun z => hx (Or.inr (Or.inr (Or.inl (Or.inl z))))) (fun z => hx (Or.inr (Or.inr (Or.inl (Or.inr (Or.inl z)))))) (fun z => hx (Or.inr (Or.inr (Or.inl (Or.inr (Or.inr z)))))) (fun z => hx (Or.inr (Or.inr (Or.inr (Or.inr (Or.inl z)))))) (fun z => hx (Or.inr (Or.inl z))) k⟩⟩
theorem S_9.nr (hT : S_T so b po pf pt ou sc be fr M) (hP : k_P M r b c e L) : ¬ S_9 so b po pf pt ou sc be fr r ∧ ∀ (a : Nat) (n : Int), g_A M a 1 n → k_n n → ¬ S_9 so b po pf pt ou sc be fr a := by
  obtain ⟨⟨s1, s2, s3⟩, -, ⟨P1, -, -, P4, P5, -⟩, -, ⟨hbe, hfr, -⟩, ⟨hou, -⟩, ⟨hsc, -⟩, -⟩ := hT
  constructor
  · rintro (z | z | (z | z | z) | z | z | z | z)
    · exact g_neOO hP.1 s1 (by decide) z
    · exact g_neOA hP.1 s3 z
    · exact g_neOO hP.1 P1 (by decide) z
    · exact g_neOA hP.1 P4 z
    · exact g_neOA hP.1 P5 z
    · exact g_neOO hP.1 hou (by decide) z
    · exact g_neOO hP.1 hsc (by decide) z
    · exact g_neOA hP.1 hbe z
    · exact g_neOA hP.1 hfr z
  · intro a n ha hn
    unfold k_n at hn
    rintro (z | z | (z | z | z) | z | z | z | z) <;> subst z
    · exact g_neOA s1 ha rfl
    · exact g_neAA ha s3 (by omega) rfl
    · exact g_neOA P1 ha rfl
    · exact g_neAA ha P4 (by omega) rfl
    · exact g_neAA ha P5 (by omega) rfl
    · exact g_neOA hou ha rfl
    · exact g_neOA hsc ha rfl
    · exact g_neAA ha hbe (by omega) rfl
    · exact g_neAA ha hfr (by omega) rfl
/-- what a stage of the class leaves as it was: A may change, the room's pile may grow -/
def S_Z (A : Nat → Prop) (so r b po pf pt sc : Nat) (M M1 : g_M) : Prop := k_F A r M M1 ∧ (∀ k, k < 14 ∨ 19 < k → g_i M1 so k = g_i M so k) ∧ (∀ k, g_r M1 so k = g_r M so k) ∧ (∀ k, k < 82808 → g_i M1 b k = g_i M b k) ∧ p_P M1 po pf pt ∧ g_r M1 sc 0 = some b
theorem S_Z.tr (h : S_Z A so r b po pf pt sc M M1) (h2 : S_Z A so r b po pf pt sc M1 M2) : S_Z A so r b po pf pt sc M M2 := by
  obtain ⟨a1, a2, a3, a4, a5, a6⟩ := h
  obtain ⟨b1, b2, b3, b4, b5, b6⟩ := h2
  exact ⟨a1.tr b1, fun k hk => (b2 k hk).trans (a2 k hk), fun k => (b3 k).trans (a3 k), fun k hk => (b4 k hk).trans (a4 k hk), b5, b6⟩
theorem S_Y.z (h : S_Y so b po pf pt ou sc be fr M M1) (hT : S_T so b po pf pt ou sc be fr M) (hP : k_P M r b c e L) (hA : ∀ y, S_9 so b po pf pt ou sc be fr y → A y) : S_Z A so r b po pf pt sc M M1 ∧ k_P M1 r b c e L := by
  have hg := h.g9
  obtain ⟨n1, n2⟩ := S_9.nr hT hP
  obtain ⟨q1, q2, q3, q4, q5, q6, q7, -⟩ := hT.n1
  obtain ⟨a1, a2, a3, a4, a5, a6, a7⟩ := h
  exact ⟨⟨(k_F.of hg n1).up hA, a4, a2 so q2 q3 q4 q6 q1, a5, a6, a7⟩, hP.of hg n1 n2⟩
/-- the class's objects after a stage -/
theorem S_Z.T (h : S_Z A so r b po pf pt sc M M1) (hT : S_T so b po pf pt ou sc be fr M) (hP : k_P M r b c e L) (ho : g_r M1 ou 0 = some b) : S_T so b po pf pt ou sc be fr M1 := by
  obtain ⟨⟨s1, s2, s3⟩, t2, -, ⟨t4, t5, t6, t7⟩, ⟨t8, t9, t10⟩, ⟨t11, -⟩, ⟨t12, -⟩, t13⟩ := hT
  obtain ⟨a1, a2, a3, a4, a5, a6⟩ := h
  exact ⟨⟨s1.up a1.1, by rw [a3]; exact s2, s3.up a1.1⟩, by rw [a3]; exact t2, a5, ⟨by rw [a3]; exact t4, by rw [a3]; exact t5, by rw [a3]; exact t6, by rw [a3]; exact t7⟩, ⟨t8.up a1.1, t9.up a1.1, t10⟩, ⟨t11.up a1.1, ho⟩, ⟨t12.up a1.1, a6⟩, t13⟩
end SZ
