/-! STAGES: filters among the stages of a pipeline, the class -/
noncomputable def T_fe (it : b_E) : Option b_E := match b_ch it.2.2 with
  | [e] => @ite _ (e.1 = 3 ∧ e.2.1 = b_tx 40) (Classical.propDecidable _) (some e) none
  | _ => none
theorem T_fe_no {it : b_E} (h : ∀ e, b_ch it.2.2 ≠ [e]) : T_fe it = none := by
  unfold T_fe
  split
  · rename_i e z
    exact absurd z (h e)
  · rfl
theorem T_fe_1 {it e : b_E} (h : b_ch it.2.2 = [e]) (h1 : e.1 = 3 ∧ e.2.1 = b_tx 40) : T_fe it = some e := by
  unfold T_fe
  rw [h]
  exact if_pos h1
theorem T_fe_0 {it e : b_E} (h : b_ch it.2.2 = [e]) (h1 : ¬ (e.1 = 3 ∧ e.2.1 = b_tx 40)) : T_fe it = none := by
  unfold T_fe
  rw [h]
  exact if_neg h1
theorem T_fe_inv {it e : b_E} (h : T_fe it = some e) : b_ch it.2.2 = [e] ∧ e.1 = 3 ∧ e.2.1 = b_tx 40 := by
  by_cases g : ∃ x, b_ch it.2.2 = [x]
  · obtain ⟨x, g⟩ := g
    by_cases g1 : x.1 = 3 ∧ x.2.1 = b_tx 40
    · rw [T_fe_1 g g1] at h
      cases h
      exact ⟨g, g1⟩
    · rw [T_fe_0 g g1] at h
      cases h
  · rw [T_fe_no fun x z => g ⟨x, z⟩] at h
    cases h
section ISMATCH
variable {so b : Nat} {M : g_M} {Q : Int → g_M → Prop}
theorem c_isMatch {d De : Nat} {pi : Int} {it : b_E} (hS : S_B so b M) (hs : b_st (g_i M b) 246408 pi De it.1 it.2.1 it.2.2) (hk : it.1 = 3) (hq : Q (if (T_fe it).isSome = true then 1 else 0) M) : g_Call (d + 4) 136 [.ref so, g_n pi] M (g_qI Q) := by
  obtain ⟨s1, s2, s3⟩ := id hS
  obtain ⟨D1, eD, hkids, -⟩ := hs.kids (Or.inl hk)
  refine m_X9_isMatch (hs.R (by decide)) fun _ => ⟨s1, b, s2, c_fi2 (d := d + 2) s3 (by decide) hs ?_⟩
  intro _ _ _
  cases hch : b_ch it.2.2 with
  | nil =>
    rw [hch] at hkids
    rw [T_fe_no fun e z => by rw [hch] at z; exact absurd z (by simp)] at hq
    refine ⟨b, s2, c_kdE (d := d + 2) s3 (by decide) hkids ?_⟩
    intro _ _ _
    exact ⟨fun z => absurd z (by decide), fun _ => hq⟩
  | cons e rest =>
    rw [hch] at hkids
    obtain ⟨he, hr⟩ := hkids.cons
    have he4 := he.2.2.2.1
    have he5 := he.2.2.2.2
    have hel := b_el_len e.1 e.2.1 e.2.2
    refine ⟨b, s2, c_kd2 (d := d + 2) s3 (by decide) he ?_⟩
    intro _ _ _
    have h0 : ¬ (e.1 = 3 ∧ e.2.1 = b_tx 40) → Q 0 M := fun g => by
      have : T_fe it = none := by
        cases rest with
        | nil => exact T_fe_0 hch g
        | cons x y => exact T_fe_no fun e z => by rw [hch] at z; exact absurd z (by simp)
      rw [this] at hq
      exact hq
    refine ⟨fun k3 => ?_, fun z => h0 fun g => z g.1⟩
    refine ⟨b, s2, c_named (d := d) (j := 40) (by decide) s3 (by decide) he.1 he.2.1 he4 (by omega) ?_⟩
    by_cases g : e.2.1 = b_tx 40
    · rw [if_pos g]
      intro _ _ _
      refine ⟨fun z => absurd z (by decide), fun _ => ⟨b, s2, b, s2, c_nx2 (d := d + 2) s3 (by decide) he ?_⟩⟩
      intro _ _ _
      cases rest with
      | nil =>
        rw [T_fe_1 hch ⟨k3, g⟩] at hq
        refine c_kdE (d := d + 2) s3 (by decide) hr ?_
        intro _ _ _
        exact ⟨fun _ => hq, fun z => absurd rfl z⟩
      | cons x y =>
        rw [T_fe_no fun e z => by rw [hch] at z; exact absurd z (by simp)] at hq
        obtain ⟨hx, -⟩ := hr.cons
        have hkp := (b_vs_pos (b_gv_vs hx.2.2.1)).1
        refine c_kd2 (d := d + 2) s3 (by decide) hx ?_
        intro _ _ _
        exact ⟨fun z => absurd z (by omega), fun _ => hq⟩
    · rw [if_neg g]
      intro _ _ _
      exact ⟨fun _ => h0 fun z => g z.2, fun z => absurd rfl z⟩
end ISMATCH
section FCTX
variable {so r b po pf pt tp tf tt ou sc be fr sv oa ke gr va kk wa o qo qf qt : Nat} {M0 M M1 : g_M} {g c e0 : Int} {A : Nat → Prop} {os ds : List (List b_E)}
theorem F_CS.nO (hC : P_C so r b po pf pt tp tf tt ou sc be fr sv oa ke gr va kk wa o qo qf qt c e0 M) {x ci : Nat} (hx : g_O M x ci) (h2 : ci ≠ 2) (h5 : ci = 5 → x ≠ qo) : ¬ F_CS o qo qf qt x := by
  obtain ⟨-, -, -, ⟨ho, -⟩, ⟨Q1, -, -, Q4, Q5, -⟩, -⟩ := hC
  rintro (z | z | z | z)
  · exact g_neOO hx ho h2 z
  · by_cases g : ci = 5
    · exact h5 g z
    · exact g_neOO hx Q1 g z
  · exact g_neOA hx Q4 z
  · exact g_neOA hx Q5 z
theorem F_CS.nA (hC : P_C so r b po pf pt tp tf tt ou sc be fr sv oa ke gr va kk wa o qo qf qt c e0 M) {x t : Nat} {n : Int} (hx : g_A M x t n) (h : ¬ (t = 1 ∧ n = 8)) : ¬ F_CS o qo qf qt x := by
  obtain ⟨-, -, -, ⟨ho, -⟩, ⟨Q1, -, -, Q4, Q5, -⟩, -⟩ := hC
  rintro (z | z | z | z)
  · exact g_neOA ho hx z.symm
  · exact g_neOA Q1 hx z.symm
  · exact g_neAA hx Q4 (by omega) z
  · exact g_neAA hx Q5 (by omega) z
/-- after a filter was looked at -/
theorem P_C.ft (hC : P_C so r b po pf pt tp tf tt ou sc be fr sv oa ke gr va kk wa o qo qf qt c e0 M) {n : Int} (f : g_fr (F_CS o qo qf qt) M M1) (h : F_C (some r) o b qo qf qt 246408 (g_i M b) M1 n) : (S_U (P_B so b po pf pt tp tf tt ou sc be fr ke gr va kk wa o qo qf qt M) so r b po pf pt tp tf tt ou sc c e0 [] M M1 ∧ P_C so r b po pf pt tp tf tt ou sc be fr sv oa ke gr va kk wa o qo qf qt c e0 M1 ∧ g_i M1 sv = g_i M sv ∧ g_i M1 oa = g_i M oa ∧ g_r M1 kk = g_r M kk) ∧ g_i M1 so = g_i M so ∧ g_i M1 be = g_i M be ∧ g_i M1 b = g_i M b := by
  obtain ⟨⟨s1, s2, s3⟩, -, ⟨P1, P2, P3, P4, P5, P6⟩, -, ⟨hbe, hfr, -⟩, ⟨hou, hou2⟩, ⟨hsc, hsc2⟩, -⟩ := hC.1.1
  have hP := hC.2.2.1.2.1
  have htp := hC.1.2.2.1.2.1
  obtain ⟨n1, n2⟩ := hC.2.2.2.2.2.1
  have eso := f.2 so (F_CS.nO hC s1 (by decide) fun z => absurd z (by decide))
  have epo := f.2 po (F_CS.nO hC P1 (by decide) fun _ => n1)
  have etp := f.2 tp (F_CS.nO hC htp.1 (by decide) fun _ => n2)
  have eou := f.2 ou (F_CS.nO hC hou (by decide) fun z => absurd z (by decide))
  have esc := f.2 sc (F_CS.nO hC hsc (by decide) fun z => absurd z (by decide))
  have ebb := f.2 b (F_CS.nA hC s3 (by decide))
  have ebe := f.2 be (F_CS.nA hC hbe (by decide))
  have nr := F_CS.nO hC hP.1 (by decide) fun z => absurd z (by decide)
  have hx : g_ext M M1 := (k_F.of f nr).1
  have hU : S_U (P_B so b po pf pt tp tf tt ou sc be fr ke gr va kk wa o qo qf qt M) so r b po pf pt tp tf tt ou sc c e0 [] M M1 := ⟨⟨(k_F.of f nr).up fun y z => Or.inr z, fun k _ => by rw [eso.1], fun k => by rw [eso.2], fun k _ => by rw [ebb.1], (show p_P M po pf pt from ⟨P1, P2, P3, P4, P5, P6⟩).keep hx epo.2, by rw [esc.2]; exact hsc2⟩, hP.of f nr fun a n ha hn => F_CS.nA hC ha fun z => by unfold k_n at hn; omega, by rw [eou.2]; exact hou2, htp.keep hx etp.2⟩
  obtain ⟨b1, b2, b3⟩ := P_B.no hC
  obtain ⟨⟨h1, h2, h3, h4⟩, h5, -⟩ := h
  exact ⟨⟨hU, hC.up hU b1 b2 b3 ⟨h4, h2, h3⟩ h5⟩, eso.1, ebe.1, ebb.1⟩
/-- after the belt was thinned -/
theorem P_C.mt (hC : P_C so r b po pf pt tp tf tt ou sc be fr sv oa ke gr va kk wa o qo qf qt c e0 M) (f : k_F (fun y => p_S qo qf qt y ∨ y = be ∨ y = so) r M M1) (h : F_S r b o qo qf qt c e0 246408 (g_i M b) M1 []) (h1 : ∀ k, k ≠ 14 → g_i M1 so k = g_i M so k) (h2 : ∀ k, g_r M1 so k = g_r M so k) : S_U (P_B so b po pf pt tp tf tt ou sc be fr ke gr va kk wa o qo qf qt M) so r b po pf pt tp tf tt ou sc c e0 [] M M1 ∧ P_C so r b po pf pt tp tf tt ou sc be fr sv oa ke gr va kk wa o qo qf qt c e0 M1 ∧ g_i M1 sv = g_i M sv ∧ g_i M1 oa = g_i M oa ∧ g_r M1 kk = g_r M kk := by
  obtain ⟨⟨s1, s2, s3⟩, -, hp, -, ⟨hbe, hfr, -⟩, ⟨hou, hou2⟩, ⟨hsc, hsc2⟩, -⟩ := hC.1.1
  have hP := hC.2.2.1.2.1
  have htp := hC.1.2.2.1.2.1
  obtain ⟨n1, n2⟩ := hC.2.2.2.2.2.1
  have nO : ∀ {x ci : Nat}, g_O M x ci → ci ≠ 9 → ci ≠ 2 → (ci = 5 → x ≠ qo) → ¬ (p_S qo qf qt x ∨ x = be ∨ x = so) := fun hx c9 c2 c5 z => by
    rcases z with z | z | z
    · exact F_CS.nO hC hx c2 c5 (Or.inr z)
    · exact g_neOA hx hbe z
    · exact g_neOO hx s1 c9 z
  have epo := f.O hP hp.1 (by decide) (nO hp.1 (by decide) (by decide) fun _ => n1)
  have etp := f.O hP htp.1 (by decide) (nO htp.1 (by decide) (by decide) fun _ => n2)
  have eou := f.O hP hou (by decide) (nO hou (by decide) (by decide) fun z => absurd z (by decide))
  have esc := f.O hP hsc (by decide) (nO hsc (by decide) (by decide) fun z => absurd z (by decide))
  obtain ⟨hP1, ⟨o1, o2, o3, o4⟩, q1, -, hb⟩ := h
  have hU : S_U (P_B so b po pf pt tp tf tt ou sc be fr ke gr va kk wa o qo qf qt M) so r b po pf pt tp tf tt ou sc c e0 [] M M1 := ⟨⟨f.up fun y z => by
    rcases z with z | z | z
    · exact Or.inr (Or.inr z)
    · exact Or.inl (Or.inl (Or.inl (Or.inr (Or.inr (Or.inr (Or.inr (Or.inr (Or.inl z))))))))
    · exact Or.inl (Or.inl (Or.inl (Or.inl z))), fun k hk => h1 k (by omega), h2, fun k _ => by rw [hb], hp.keep f.1 epo.2, by rw [esc.2]; exact hsc2⟩, hP1, by rw [eou.2]; exact hou2, htp.keep f.1 etp.2⟩
  obtain ⟨b1, b2, b3⟩ := P_B.no hC
  exact ⟨hU, hC.up hU b1 b2 b3 ⟨o2, o3, o4⟩ q1⟩
end FCTX
