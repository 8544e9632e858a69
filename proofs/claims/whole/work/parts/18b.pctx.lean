/-! STAGES: all that the class's pipeline works with -/
def P_C (so r b po pf pt tp tf tt ou sc be fr sv oa ke gr va kk wa o qo qf qt : Nat) (c e0 : Int) (M : g_M) : Prop := J_T so r b po pf pt tp tf tt ou sc be fr sv oa M ∧ G_T so b po pf pt ou sc be fr ke gr va M ∧ O_so7 so r b kk wa va be fr c e0 [] M ∧ (g_O M o 2 ∧ g_r M o 0 = some r ∧ g_r M o 1 = some b ∧ g_r M o 2 = some qo) ∧ p_P M qo qf qt ∧ (po ≠ qo ∧ tp ≠ qo) ∧ (oa ≠ ke ∧ oa ≠ gr ∧ oa ≠ va ∧ ∀ s : Nat, s < 4 → g_r M kk s ≠ some oa)
def P_A (so b po pf pt tp tf tt ou sc be fr ke gr va kk wa : Nat) (M0 : g_M) (y : Nat) : Prop := G_9 so b po pf pt tp tf tt ou sc be fr ke gr va y ∨ O_sS po pf pt kk wa va be fr M0 y
def P_B (so b po pf pt tp tf tt ou sc be fr ke gr va kk wa o qo qf qt : Nat) (M0 : g_M) (y : Nat) : Prop := P_A so b po pf pt tp tf tt ou sc be fr ke gr va kk wa M0 y ∨ F_CS o qo qf qt y
section PCTX
variable {so r b po pf pt tp tf tt ou sc be fr sv oa ke gr va kk wa o qo qf qt : Nat} {M0 M M1 : g_M} {g c e0 : Int} {A : Nat → Prop} {os ds : List (List b_E)}
theorem P_A.nO (hC : P_C so r b po pf pt tp tf tt ou sc be fr sv oa ke gr va kk wa o qo qf qt c e0 M) {x ci : Nat} (hx : g_O M x ci) (h9 : ci ≠ 9) (h4 : ci = 4 → ou ≠ x ∧ sc ≠ x) (h5 : ci = 5 → po ≠ x ∧ tp ≠ x) : ¬ P_A so b po pf pt tp tf tt ou sc be fr ke gr va kk wa M x := by
  obtain ⟨⟨⟨⟨s1, -, s3⟩, -, ⟨P1, -, -, P4, P5, -⟩, -, ⟨hbe, hfr, -⟩, ⟨hou, -⟩, ⟨hsc, -⟩, -⟩, -, ⟨-, ⟨T1, -, -, T4, T5, -⟩, -⟩, -⟩, ⟨-, -, ⟨hke, hgr, hva⟩, -⟩, ⟨-, -, -, -, ⟨-, hwa⟩, hrows, -⟩, -⟩ := hC
  have h55 : ∀ {y : Nat}, g_O M y 5 → (ci = 5 → y ≠ x) → x ≠ y := fun hy h => by
    by_cases g : ci = 5
    · exact (h g).symm
    · exact g_neOO hx hy g
  have h44 : ∀ {y : Nat}, g_O M y 4 → (ci = 4 → y ≠ x) → x ≠ y := fun hy h => by
    by_cases g : ci = 4
    · exact (h g).symm
    · exact g_neOO hx hy g
  rintro ((z | (z | z | z) | z | z | z) | (((z | z | z) | ⟨s, hs, z⟩) | z | z | z | z))
  · rcases z with z | z | (z | z | z) | z | z | z | z
    · exact g_neOO hx s1 h9 z
    · exact g_neOA hx s3 z
    · exact h55 P1 (fun g => (h5 g).1) z
    · exact g_neOA hx P4 z
    · exact g_neOA hx P5 z
    · exact h44 hou (fun g => (h4 g).1) z
    · exact h44 hsc (fun g => (h4 g).2) z
    · exact g_neOA hx hbe z
    · exact g_neOA hx hfr z
  · exact h55 T1 (fun g => (h5 g).2) z
  · exact g_neOA hx T4 z
  · exact g_neOA hx T5 z
  · exact g_neOA hx hke z
  · exact g_neOA hx hgr z
  · exact g_neOA hx hva z
  · exact h55 P1 (fun g => (h5 g).1) z
  · exact g_neOA hx P4 z
  · exact g_neOA hx P5 z
  · obtain ⟨row, hr1, hr2, -⟩ := hrows s hs
    rw [hr1] at z
    cases z
    exact g_neOA hx hr2 rfl
  · exact g_neOA hx hwa z
  · exact g_neOA hx hva z
  · exact g_neOA hx hfr z
  · exact g_neOA hx hbe z
theorem P_A.nA (hC : P_C so r b po pf pt tp tf tt ou sc be fr sv oa ke gr va kk wa o qo qf qt c e0 M) : ¬ P_A so b po pf pt tp tf tt ou sc be fr ke gr va kk wa M oa ∧ ¬ P_A so b po pf pt tp tf tt ou sc be fr ke gr va kk wa M kk := by
  obtain ⟨⟨⟨⟨s1, -, s3⟩, -, ⟨P1, -, -, P4, P5, -⟩, -, ⟨hbe, hfr, -⟩, ⟨hou, -⟩, ⟨hsc, -⟩, -⟩, -, ⟨-, ⟨T1, -, -, T4, T5, -⟩, -⟩, ⟨-, -, -, hoa, n1, n2⟩⟩, ⟨-, -, ⟨hke, hgr, hva⟩, -⟩, ⟨-, -, -, ⟨-, hkk⟩, ⟨-, hwa⟩, hrows, -⟩, -, -, -, n3, n4, n5, n6⟩ := hC
  constructor
  · rintro ((z | (z | z | z) | z | z | z) | (((z | z | z) | ⟨s, hs, z⟩) | z | z | z | z))
    · rcases z with z | z | (z | z | z) | z | z | z | z
      · exact g_neOA s1 hoa z.symm
      · exact g_neAA hoa s3 (by omega) z
      · exact g_neOA P1 hoa z.symm
      · exact g_neAA hoa P4 (by omega) z
      · exact g_neAA hoa P5 (by omega) z
      · exact g_neOA hou hoa z.symm
      · exact g_neOA hsc hoa z.symm
      · exact n1 z
      · exact n2 z
    · exact g_neOA T1 hoa z.symm
    · exact g_neAA hoa T4 (by omega) z
    · exact g_neAA hoa T5 (by omega) z
    · exact n3 z
    · exact n4 z
    · exact n5 z
    · exact g_neOA P1 hoa z.symm
    · exact g_neAA hoa P4 (by omega) z
    · exact g_neAA hoa P5 (by omega) z
    · exact n6 s hs z
    · exact g_neAA hoa hwa (by omega) z
    · exact n5 z
    · exact n2 z
    · exact n1 z
  · have h1 : ∀ {y t : Nat} {n : Int}, g_A M y t n → t ≠ 5 → kk ≠ y := fun hy ht => g_neAA hkk hy fun z => ht z.1.symm
    rintro ((z | (z | z | z) | z | z | z) | (((z | z | z) | ⟨s, hs, z⟩) | z | z | z | z))
    · rcases z with z | z | (z | z | z) | z | z | z | z
      · exact g_neOA s1 hkk z.symm
      · exact h1 s3 (by decide) z
      · exact g_neOA P1 hkk z.symm
      · exact h1 P4 (by decide) z
      · exact h1 P5 (by decide) z
      · exact g_neOA hou hkk z.symm
      · exact g_neOA hsc hkk z.symm
      · exact h1 hbe (by decide) z
      · exact h1 hfr (by decide) z
    · exact g_neOA T1 hkk z.symm
    · exact h1 T4 (by decide) z
    · exact h1 T5 (by decide) z
    · exact h1 hke (by decide) z
    · exact h1 hgr (by decide) z
    · exact h1 hva (by decide) z
    · exact g_neOA P1 hkk z.symm
    · exact h1 P4 (by decide) z
    · exact h1 P5 (by decide) z
    · obtain ⟨row, hr1, hr2, -⟩ := hrows s hs
      rw [hr1] at z
      cases z
      exact h1 hr2 (by decide) rfl
    · exact h1 hwa (by decide) z
    · exact h1 hva (by decide) z
    · exact h1 hfr (by decide) z
    · exact h1 hbe (by decide) z
theorem P_B.no (hC : P_C so r b po pf pt tp tf tt ou sc be fr sv oa ke gr va kk wa o qo qf qt c e0 M) : ¬ P_B so b po pf pt tp tf tt ou sc be fr ke gr va kk wa o qo qf qt M sv ∧ ¬ P_B so b po pf pt tp tf tt ou sc be fr ke gr va kk wa o qo qf qt M oa ∧ ¬ P_B so b po pf pt tp tf tt ou sc be fr ke gr va kk wa o qo qf qt M kk := by
  obtain ⟨a1, a2⟩ := P_A.nA hC
  have a3 := P_A.nO hC hC.1.2.2.2.2.1 (by decide) (fun z => absurd z (by decide)) (fun z => absurd z (by decide))
  obtain ⟨⟨-, -, -, ⟨-, hsv, -, hoa, -⟩⟩, -, ⟨-, -, -, ⟨-, hkk⟩, -⟩, ⟨ho, -⟩, ⟨Q1, -, -, Q4, Q5, -⟩, -⟩ := hC
  refine ⟨?_, ?_, ?_⟩
  · rintro (z | z | z | z | z)
    · exact a3 z
    · exact g_neOO hsv ho (by decide) z
    · exact g_neOO hsv Q1 (by decide) z
    · exact g_neOA hsv Q4 z
    · exact g_neOA hsv Q5 z
  · rintro (z | z | z | z | z)
    · exact a1 z
    · exact g_neOA ho hoa z.symm
    · exact g_neOA Q1 hoa z.symm
    · exact g_neAA hoa Q4 (by omega) z
    · exact g_neAA hoa Q5 (by omega) z
  · rintro (z | z | z | z | z)
    · exact a2 z
    · exact g_neOA ho hkk z.symm
    · exact g_neOA Q1 hkk z.symm
    · exact g_neAA hkk Q4 (by omega) z
    · exact g_neAA hkk Q5 (by omega) z
theorem P_C.up (hC : P_C so r b po pf pt tp tf tt ou sc be fr sv oa ke gr va kk wa o qo qf qt c e0 M) (h : S_U A so r b po pf pt tp tf tt ou sc c e0 [] M M1) (hsv : ¬ A sv) (hoa : ¬ A oa) (hkk : ¬ A kk) (ho : g_r M1 o 0 = some r ∧ g_r M1 o 1 = some b ∧ g_r M1 o 2 = some qo) (hq : p_P M1 qo qf qt) : P_C so r b po pf pt tp tf tt ou sc be fr sv oa ke gr va kk wa o qo qf qt c e0 M1 ∧ g_i M1 sv = g_i M sv ∧ g_i M1 oa = g_i M oa ∧ g_r M1 kk = g_r M kk := by
  obtain ⟨⟨hT, j1, ⟨j2, j3, j4⟩, ⟨j5, j6, j7, j8, j9, j10⟩⟩, ⟨-, ⟨g1, g2, g3⟩, ⟨g4, g5, g6⟩, g7⟩, ⟨o1, hP, ⟨o2, o3, o4, o5⟩, ⟨o6, o7⟩, ⟨o8, o9⟩, o10, o11⟩, ⟨f1, -⟩, -, q2, ⟨n1, n2, n3, n4⟩⟩ := hC
  obtain ⟨z1, z2, z3, z4⟩ := h
  have hT1 := z1.T hT hP z3
  obtain ⟨k, -, a3, -⟩ := z1
  have esv := k.O hP j6 (by decide) hsv
  have eoa := k.A hP j8 (fun _ z => by unfold k_n at z; omega) hoa
  have ekk := k.A hP o7 (fun z => absurd z (by decide)) hkk
  refine ⟨⟨⟨hT1, by rw [a3]; exact j1, ⟨by rw [a3]; exact j2, z4, j4⟩, ⟨by rw [a3]; exact j5, j6.up k.1, by rw [esv.2]; exact j7, j8.up k.1, j9, j10⟩⟩, ⟨hT1, ⟨by rw [a3]; exact g1, by rw [a3]; exact g2, by rw [a3]; exact g3⟩, ⟨g4.up k.1, g5.up k.1, g6.up k.1⟩, g7⟩, ⟨by rw [a3]; exact o1, z2, ⟨by rw [a3]; exact o2, o3.up k.1, o4, o5⟩, ⟨by rw [a3]; exact o6, o7.up k.1⟩, ⟨by rw [a3]; exact o8, o9.up k.1⟩, fun s hs => ?_, fun s s2 row hs hs2 => by rw [ekk.2]; exact o11 s s2 row hs hs2⟩, ⟨f1.up k.1, ho⟩, hq, q2, ⟨n1, n2, n3, fun s hs => by rw [ekk.2]; exact n4 s hs⟩⟩, esv.1, eoa.1, ekk.2⟩
  obtain ⟨row, hr1, hr2, hr3⟩ := o10 s hs
  exact ⟨row, by rw [ekk.2]; exact hr1, hr2.up k.1, hr3⟩
/-- after a stage that is no filter -/
theorem P_C.st (hC : P_C so r b po pf pt tp tf tt ou sc be fr sv oa ke gr va kk wa o qo qf qt c e0 M) (h : S_U (P_A so b po pf pt tp tf tt ou sc be fr ke gr va kk wa M) so r b po pf pt tp tf tt ou sc c e0 [] M M1) : P_C so r b po pf pt tp tf tt ou sc be fr sv oa ke gr va kk wa o qo qf qt c e0 M1 ∧ g_i M1 sv = g_i M sv ∧ g_i M1 oa = g_i M oa ∧ g_r M1 kk = g_r M kk := by
  obtain ⟨a1, a2⟩ := P_A.nA hC
  have a3 := P_A.nO hC hC.1.2.2.2.2.1 (by decide) (fun z => absurd z (by decide)) (fun z => absurd z (by decide))
  have a4 := P_A.nO hC hC.2.2.2.1.1 (by decide) (fun z => absurd z (by decide)) (fun z => absurd z (by decide))
  have a5 := P_A.nO hC hC.2.2.2.2.1.1 (by decide) (fun z => absurd z (by decide)) (fun _ => hC.2.2.2.2.2.1)
  have hP := hC.2.2.1.2.1
  refine hC.up h a3 a1 a2 ?_ (hC.2.2.2.2.1.keep h.1.1.1 (h.1.1.O hP hC.2.2.2.2.1.1 (by decide) a5).2)
  rw [(h.1.1.O hP hC.2.2.2.1.1 (by decide) a4).2]
  exact hC.2.2.2.1.2
theorem J_os.up (ho : J_os b sv oa os M) (h : S_Z A so r b po pf pt sc M M1) (h1 : g_i M1 sv = g_i M sv) (h2 : g_i M1 oa = g_i M oa) : J_os b sv oa os M1 := by
  obtain ⟨o1, o2, o3⟩ := ho
  refine ⟨by rw [h1]; exact o1, o2, fun i es hi => ?_⟩
  obtain ⟨p, p1, p2⟩ := o3 i es hi
  exact ⟨p, by rw [h2]; exact p1, b_at_keep p2.1 fun k k1 k2 => h.2.2.2.1 k (by have := p2.2.2.2.2; omega), p2.2⟩
theorem S_Z.req (h : S_Z A so r b po pf pt sc M M1) {q : Int} {D : Nat} {k : Int} {nm vb : List Int} (hs : b_st (g_i M b) 2100 q D k nm vb) : b_st (g_i M1 b) 2100 q D k nm vb := ⟨b_at_keep hs.1 fun j j1 j2 => h.2.2.2.1 j (by have := hs.2.2.2.2; omega), hs.2⟩
end PCTX
